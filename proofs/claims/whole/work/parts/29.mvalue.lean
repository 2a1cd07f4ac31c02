/-! ===== the reference's summedUp runs a law's code ===== -/
def mop1 (r : Int → Int) (op x : Int) : Int := if op = 5 then -x else if op = 4 then (if 0 ≤ x ∧ x < 8 then r (4 + x) else 0) else clipL (2 * x)
def mop2 (op x y : Int) : Int := if op = 6 then clipL (x + y) else if op = 7 then clipL (x - y) else if op = 8 then clipL (x * y) else (if y = 0 then 0 else Int.tdiv x y)
def mcmp (op x y : Int) : Int := if op = 10 then b01 (decide (x < y)) else if op = 11 then b01 (decide (x ≤ y)) else if op = 12 then b01 (decide (y < x)) else if op = 13 then b01 (decide (y ≤ x)) else if op = 14 then b01 (decide (x = y)) else b01 (decide (x ≠ y))
def mjoin (op x y : Int) : Int := if op = 21 then (if x = 0 then 0 else y) else (if x = 0 then y else 1)
/-- one step: at i with values s and truths u; mf i = (op, v) -/
def mstep (r : Int → Int) (c : Int) (mf mg : Int → Int) (to i : Int) (s u : List Int) (s' u' : List Int) : Prop :=
  0 ≤ i ∧ i < to ∧ (s.length : Int) ≤ i ∧ (u.length : Int) ≤ i ∧
    ((mf i = 0 ∧ LV (mg i) ∧ s' = mg i :: s ∧ u' = u) ∨
     (mf i = 1 ∧ 0 ≤ mg i ∧ mg i ≤ 6 ∧ s' = nmV r c (mg i + 1) :: s ∧ u' = u) ∨
     (mf i = 3 ∧ ∃ x y s0 b u0, s = x :: y :: s0 ∧ u = b :: u0 ∧ s' = (if b = 0 then x else y) :: s0 ∧ u' = u0) ∨
     ((mf i = 2 ∨ mf i = 4 ∨ mf i = 5) ∧ ∃ x s0, s = x :: s0 ∧ s' = mop1 r (mf i) x :: s0 ∧ u' = u) ∨
     (6 ≤ mf i ∧ mf i ≤ 9 ∧ ∃ x y s0, s = y :: x :: s0 ∧ s' = mop2 (mf i) x y :: s0 ∧ u' = u) ∨
     (10 ≤ mf i ∧ mf i ≤ 15 ∧ ∃ x y s0, s = y :: x :: s0 ∧ s' = s0 ∧ u' = mcmp (mf i) x y :: u) ∨
     (mf i = 20 ∧ ∃ b u0, u = b :: u0 ∧ s' = s ∧ u' = (1 - b) :: u0) ∨
     ((mf i = 21 ∨ mf i = 22) ∧ ∃ x y u0, u = y :: x :: u0 ∧ s' = s ∧ u' = mjoin (mf i) x y :: u0))
def mruns (r : Int → Int) (c : Int) (mf mg : Int → Int) (to : Int) : Nat → Int → List Int → List Int → Int → List Int → List Int → Prop
  | 0, i, s, u, j, s', u' => i = j ∧ s = s' ∧ u = u'
  | n + 1, i, s, u, j, s', u' => ∃ s1 u1, mstep r c mf mg to i s u s1 u1 ∧ mruns r c mf mg to n (i + 1) s1 u1 j s' u'
theorem mop1_LV {r : Int → Int} {op x : Int} (v : RV r) (h : LV x) : LV (mop1 r op x) := by
  have h1 := h.1
  have h2 := h.2
  unfold mop1
  split
  · exact ⟨by omega, by omega⟩
  · split
    · split
      · rename_i q
        have := v.2.2.2.2.1 x q.1 q.2
        exact ⟨by omega, by omega⟩
      · exact ⟨by decide, by decide⟩
    · exact clipL_LV _
theorem mop2_LV {op x y : Int} (hx : LV x) : LV (mop2 op x y) := by
  unfold mop2
  split
  · exact clipL_LV _
  · split
    · exact clipL_LV _
    · split
      · exact clipL_LV _
      · split
        · exact ⟨by decide, by decide⟩
        · exact tdiv_LV hx
theorem mcmp_01 {op x y : Int} : mcmp op x y = 0 ∨ mcmp op x y = 1 := by
  unfold mcmp
  split
  · exact b01_2
  · split
    · exact b01_2
    · split
      · exact b01_2
      · split
        · exact b01_2
        · split <;> exact b01_2
def stv (τ : jM) : List Int → Prop
  | [] => True
  | x :: s => τ 328 (s.length : Int) = x ∧ LV x ∧ stv τ s
def stb (τ : jM) : List Int → Prop
  | [] => True
  | x :: s => τ 329 (s.length : Int) = x ∧ (x = 0 ∨ x = 1) ∧ stb τ s
theorem stv_up {τ : jM} {k v : Int} : ∀ (s : List Int), stv τ s → (s.length : Int) ≤ k → stv (up τ 328 k v) s
  | [], _, _ => trivial
  | x :: s, h, hk => by
    have hl : ((x :: s).length : Int) = (s.length : Int) + 1 := by simp
    rw [hl] at hk
    exact ⟨by rw [up_ne (Or.inr (by omega))]; exact h.1, h.2.1, stv_up s h.2.2 (by omega)⟩
theorem stb_up {τ : jM} {k v : Int} : ∀ (s : List Int), stb τ s → (s.length : Int) ≤ k → stb (up τ 329 k v) s
  | [], _, _ => trivial
  | x :: s, h, hk => by
    have hl : ((x :: s).length : Int) = (s.length : Int) + 1 := by simp
    rw [hl] at hk
    exact ⟨by rw [up_ne (Or.inr (by omega))]; exact h.1, h.2.1, stb_up s h.2.2 (by omega)⟩
theorem stv_same {τ τ' : jM} (e : τ' 328 = τ 328) : ∀ (s : List Int), stv τ s → stv τ' s
  | [], _ => trivial
  | _ :: s, h => ⟨by rw [e]; exact h.1, h.2.1, stv_same e s h.2.2⟩
theorem stb_same {τ τ' : jM} (e : τ' 329 = τ 329) : ∀ (s : List Int), stb τ s → stb τ' s
  | [], _ => trivial
  | _ :: s, h => ⟨by rw [e]; exact h.1, h.2.1, stb_same e s h.2.2⟩
section MV
variable {d : Nat} {t : Int} {Q : Int → jM → Prop} {σ : jM}
theorem m_clip {x : Int} (hx : inL x) (k : Q (clipL x) σ) : Ct mX12_clip d 1 t [jv x] σ Q := by
  unfold clipL at k
  refine c_X12_clip ⟨hx, fun z => ⟨hx, fun y => ?_, fun y => ?_⟩, fun z => ?_⟩
  · rw [if_neg (by omega), if_neg (by omega)] at k; exact k
  · rw [if_neg (by omega), if_pos y] at k; exact k
  · rw [if_pos z] at k; exact k
theorem clipL_id {x : Int} (h : LV x) : clipL x = x := by
  have h1 := h.1
  have h2 := h.2
  unfold clipL
  rw [if_neg (by omega), if_neg (by omega)]
theorem m_two {op x y : Int} (ho : 6 ≤ op ∧ op ≤ 9) (hx : LV x) (hy : LV y) (k : Q (mop2 op x y) σ) : Ct mX12_two (d + 1) 1 t [iv op, jv x, jv y] σ Q := by
  have x1 := hx.1
  have x2 := hx.2
  have y1 := hy.1
  have y2 := hy.2
  have mb : inL (x * y) := by
    have a1 : (x * y).natAbs ≤ 1000000 * 1000000 := by
      rw [Int.natAbs_mul]
      exact Nat.mul_le_mul (by omega) (by omega)
    exact ⟨by omega, by omega⟩
  have dv : LV (Int.tdiv x y) := tdiv_LV hx
  unfold mop2 at k
  refine c_X12_two ⟨rng (by omega) (by omega), fun z => ⟨LV_L hy, fun w => ⟨LV_L hx, LV_L hy, w, m_clip (LV_L dv) ?_⟩, fun w => ?_⟩, fun z => m_clip (rngL (by omega) (by omega)) ?_, fun z => m_clip (rngL (by omega) (by omega)) ?_, fun z => m_clip mb ?_⟩
  · rw [if_neg (by omega), if_neg (by omega), if_neg (by omega), if_neg w] at k
    rw [clipL_id dv]; exact k
  · rw [if_neg (by omega), if_neg (by omega), if_neg (by omega), if_pos w] at k; exact k
  · rw [if_pos z] at k; exact k
  · rw [if_neg (by omega), if_pos z] at k; exact k
  · rw [if_neg (by omega), if_neg (by omega), if_pos z] at k; exact k
theorem m_ofOne {op x : Int} (ho : op = 2 ∨ op = 4 ∨ op = 5) (v : RV (mrow (σ 322))) (hx : LV x) (k : Q (mop1 (mrow (σ 322)) op x) σ) : Ct mX12_ofOne (d + 1) 1 t [rv 321, iv op, jv x] σ Q := by
  have x1 := hx.1
  have x2 := hx.2
  unfold mop1 at k
  refine c_X12_ofOne ⟨rng (by omega) (by omega), fun z => ⟨rng (by omega) (by omega), fun w => ?_, fun w => ⟨LV_L hx, fun y => ?_, fun y => ⟨LV_L hx, fun u => ?_, fun u => ?_⟩⟩⟩, fun z => ?_⟩
  · rw [if_neg z, if_neg w] at k
    have cl : LV (clipL (2 * x)) := clipL_LV _
    refine m_held (rngL (by omega) (by omega)) ⟨by decide, by decide⟩ ⟨by decide, by decide⟩ ?_
    have e : (if 2 * x < -1000000 then -1000000 else if 1000000 < 2 * x then 1000000 else 2 * x) = clipL (2 * x) := by
      unfold clipL
      by_cases a : 1000000 < 2 * x
      · rw [if_pos a, if_neg (by omega), if_pos a]
      · rw [if_neg a, if_neg a]
    rw [e]
    exact ⟨LV_R cl, k⟩
  · rw [if_neg z, if_pos w, if_neg (by omega)] at k; exact k
  · rw [if_neg z, if_pos w, if_neg (by omega)] at k; exact k
  · have g := v.2.2.2.2.1 x y u
    rw [if_neg z, if_pos w, if_pos ⟨y, u⟩, mrow_lo (by omega), show 6 + (4 + x) = 10 + x by omega] at k
    rw [mrow_lo (by omega), show 6 + (4 + x) = 10 + x by omega] at g
    exact ⟨by omega, rng (by omega) (by omega), k⟩
  · rw [if_pos z] at k; exact k
theorem m_isAsked {op x y : Int} (ho : 10 ≤ op ∧ op ≤ 15) (hx : LV x) (hy : LV y) (k : Q (mcmp op x y) σ) : Ct mX12_isAsked d 0 t [iv op, jv x, jv y] σ Q := by
  have oR : inR op := rng (by omega) (by omega)
  unfold mcmp at k
  refine c_X12_isAsked ⟨oR, fun z1 => ⟨oR, fun z2 => ⟨oR, fun z3 => ⟨oR, fun z4 => ⟨oR, fun z5 => ⟨LV_L hx, LV_L hy, fun w => ?_, fun w => ?_⟩, fun z5 => ⟨LV_L hx, LV_L hy, fun w => ?_, fun w => ?_⟩⟩, fun z4 => ⟨LV_L hx, LV_L hy, fun w => ?_, fun w => ?_⟩⟩, fun z3 => ⟨LV_L hx, LV_L hy, fun w => ?_, fun w => ?_⟩⟩, fun z2 => ⟨LV_L hx, LV_L hy, fun w => ?_, fun w => ?_⟩⟩, fun z1 => ⟨LV_L hx, LV_L hy, fun w => ?_, fun w => ?_⟩⟩
  · rw [if_neg z1, if_neg z2, if_neg z3, if_neg z4, if_neg z5, decide_eq_false (by simpa using w)] at k; exact k
  · rw [if_neg z1, if_neg z2, if_neg z3, if_neg z4, if_neg z5, decide_eq_true (by simpa using w)] at k; exact k
  · rw [if_neg z1, if_neg z2, if_neg z3, if_neg z4, if_pos z5, decide_eq_false w] at k; exact k
  · rw [if_neg z1, if_neg z2, if_neg z3, if_neg z4, if_pos z5, decide_eq_true w] at k; exact k
  · rw [if_neg z1, if_neg z2, if_neg z3, if_pos z4, decide_eq_false (by omega)] at k; exact k
  · rw [if_neg z1, if_neg z2, if_neg z3, if_pos z4, decide_eq_true (by omega)] at k; exact k
  · rw [if_neg z1, if_neg z2, if_pos z3, decide_eq_false (by omega)] at k; exact k
  · rw [if_neg z1, if_neg z2, if_pos z3, decide_eq_true (by omega)] at k; exact k
  · rw [if_neg z1, if_pos z2, decide_eq_false (by omega)] at k; exact k
  · rw [if_neg z1, if_pos z2, decide_eq_true (by omega)] at k; exact k
  · rw [if_pos z1, decide_eq_false (by omega)] at k; exact k
  · rw [if_pos z1, decide_eq_true (by omega)] at k; exact k
theorem m_joined {op x y : Int} (ho : op = 21 ∨ op = 22) (hx : x = 0 ∨ x = 1) (hy : y = 0 ∨ y = 1) (k : Q (mjoin op x y) σ) : Ct mX12_joined d 0 t [iv op, iv x, iv y] σ Q := by
  have oR : inR op := rng (by omega) (by omega)
  have xR : inR x := rng (by omega) (by omega)
  have yR : inR y := rng (by omega) (by omega)
  unfold mjoin at k
  refine c_X12_joined ⟨oR, fun z => ⟨xR, fun w => ?_, fun w => ⟨yR, fun u => ?_, fun u => ?_⟩⟩, fun z => ⟨xR, fun w => ?_, fun w => ⟨yR, fun u => ?_, fun u => ?_⟩⟩⟩
  · rw [if_neg z, if_neg w] at k; exact k
  · rw [if_neg z, if_pos w, u] at k; exact k
  · rw [if_neg z, if_pos w, show y = 1 by omega] at k; exact k
  · rw [if_pos z, if_pos w] at k; exact k
  · rw [if_pos z, if_neg w, u] at k; exact k
  · rw [if_pos z, if_neg w, show y = 1 by omega] at k; exact k
def okM (σ τ : jM) : Prop := ∀ x, x ≠ 328 → x ≠ 329 → τ x = σ x
abbrev Jm (d : Nat) (t : Int) (Q : Int → jM → Prop) (tx cl X CO : Int) (n m i : Int) (τ : jM) : Prop := Jt mX12_summedUp (d + 1 + 1) 1 t Q 38 [rv 321, iv tx, iv cl, iv X, iv CO, iv n, iv m, iv i, uv, uv] [] τ
theorem mv_step {tx cl X CO c : Int} (v : RV (mrow (σ 322))) (hc : 0 ≤ c ∧ c < 8) (hn : ∀ k, 0 ≤ k → k ≤ 6 → σ 327 k = nmV (mrow (σ 322)) c (k + 1)) (hX : 0 ≤ X + 2 ∧ X + 2 < 2724) (hCO : 0 ≤ CO ∧ CO ≤ 2116) (hto : 0 ≤ σ 324 (X + 2) ∧ σ 324 (X + 2) ≤ 304) {τ : jM} {i : Int} {s u s' u' : List Int} (ot : okM σ τ) (hs : stv τ s) (hu : stb τ u) (st : mstep (mrow (σ 322)) c (fun k => σ 324 (CO + 2 * k)) (fun k => σ 324 (CO + 2 * k + 1)) (σ 324 (X + 2)) i s u s' u') (k : ∀ τ', okM σ τ' → stv τ' s' → stb τ' u' → Jm d t Q tx cl X CO (s'.length : Int) (u'.length : Int) (i + 1) τ') : Jm d t Q tx cl X CO (s.length : Int) (u.length : Int) i τ := by
  obtain ⟨i0, ie, sl, ul, cs⟩ := st
  have t4 : τ 324 = σ 324 := ot 324 (by decide) (by decide)
  have t7 : τ 327 = σ 327 := ot 327 (by decide) (by decide)
  have t2 : τ 322 = σ 322 := ot 322 (by decide) (by decide)
  obtain ⟨F, hF⟩ : ∃ F, F = σ 324 (CO + 2 * i) := ⟨_, rfl⟩
  obtain ⟨B, hB⟩ : ∃ B, B = σ 324 (CO + 2 * i + 1) := ⟨_, rfl⟩
  simp only [← hF, ← hB] at cs
  have next : ∀ (τ2 : jM), Jm d t Q tx cl X CO (s'.length : Int) (u'.length : Int) (i + 1) τ2 → Jt mX12_summedUp (d + 1 + 1) 1 t Q 349 [rv 321, iv tx, iv cl, iv X, iv CO, iv (s'.length : Int), iv (u'.length : Int), iv i, iv F, iv B] [] τ2 := fun τ2 h2 => b_X12_summedUp_349 h2
  have FR : inR F := by
    rcases cs with p | p | p | p | p | p | p | p
    · rw [p.1]; exact ⟨by decide, by decide⟩
    · rw [p.1]; exact ⟨by decide, by decide⟩
    · rw [p.1]; exact ⟨by decide, by decide⟩
    · rcases p.1 with e | e | e <;> rw [e] <;> exact ⟨by decide, by decide⟩
    · exact rng (by omega) (by omega)
    · exact rng (by omega) (by omega)
    · rw [p.1]; exact ⟨by decide, by decide⟩
    · rcases p.1 with e | e <;> rw [e] <;> exact ⟨by decide, by decide⟩
  refine b_X12_summedUp_38 ?_
  rw [t4, ← hF, ← hB]
  refine ⟨hX, rng (by omega) (by omega), rng (by omega) (by omega), fun z => absurd z (by omega), fun _ => ⟨by omega, by omega, FR, ?_⟩⟩
  have up8 : ∀ (τ0 : jM) (k0 x0 : Int), okM σ τ0 → okM σ (up τ0 328 k0 x0) := fun τ0 k0 x0 o y y1 y2 => by rw [up_row y1]; exact o y y1 y2
  have up9 : ∀ (τ0 : jM) (k0 x0 : Int), okM σ τ0 → okM σ (up τ0 329 k0 x0) := fun τ0 k0 x0 o y y1 y2 => by rw [up_row y2]; exact o y y1 y2
  have push : ∀ (y : Int), LV y → s' = y :: s → u' = u → Jt mX12_summedUp (d + 1 + 1) 1 t Q 112 [rv 321, iv tx, iv cl, iv X, iv CO, iv (s.length : Int), iv (u.length : Int), iv i, iv F, iv B] [jv y, iv (s.length : Int), rv 328] τ := by
    intro y ly es eu
    refine b_X12_summedUp_112 ⟨by omega, fun σ2 e2 => ?_⟩
    have kk := k σ2 (by rw [e2]; exact up8 τ _ _ ot) (by rw [es]; exact ⟨by rw [e2, up_at], ly, by rw [e2]; exact stv_up s hs (by omega)⟩) (by rw [eu]; exact stb_same (by rw [e2, up_row (by decide)]) u hu)
    have nn := next σ2 kk
    rw [es, eu, show (((y :: s).length : Nat) : Int) = (s.length : Int) + 1 by simp] at nn
    exact nn
  rcases cs with p | p | p | p | p | p | p | p
  · obtain ⟨p1, p2, p3, p4⟩ := p
    refine ⟨fun z => absurd z (by omega), fun _ => ⟨FR, fun z => absurd p1 z, fun _ => ⟨LV_R p2, push B p2 p3 p4⟩⟩⟩
  · obtain ⟨p1, b0, b6, p3, p4⟩ := p
    have en : τ 327 B = nmV (mrow (σ 322)) c (B + 1) := by rw [t7]; exact hn B b0 b6
    rw [en]
    have ln := nmV_LV (k := B + 1) v hc
    refine ⟨fun z => absurd z (by omega), fun _ => ⟨FR, fun _ => ⟨by omega, LV_R ln, push _ ln p3 p4⟩, fun z => absurd z (by omega)⟩⟩
  · obtain ⟨p1, x, y, s0, b, u0, e1, e2, e3, e4⟩ := p
    subst e1; subst e2
    have sl1 : (((x :: y :: s0).length : Nat) : Int) = (s0.length : Int) + 1 + 1 := by simp
    have ul1 : (((b :: u0).length : Nat) : Int) = (u0.length : Int) + 1 := by simp
    rw [sl1] at sl ⊢
    rw [ul1] at ul ⊢
    have hx1 : τ 328 ((s0.length : Int) + 1) = x := by
      have := hs.1
      rw [show (((y :: s0).length : Nat) : Int) = (s0.length : Int) + 1 by simp] at this
      exact this
    refine ⟨fun _ => ⟨FR, fun z => absurd p1 z, fun _ => ?_⟩, fun z => absurd z (by omega)⟩
    rw [show (u0.length : Int) + 1 + -1 = (u0.length : Int) by omega, show (s0.length : Int) + 1 + 1 + -1 = (s0.length : Int) + 1 by omega, show (s0.length : Int) + 1 - 1 = (s0.length : Int) by omega, hu.1, hx1]
    refine ⟨by omega, rng (by have := hu.2.1; omega) (by have := hu.2.1; omega), fun z => ?_, fun z => ⟨by omega, by omega, fun σ26 e26 => ?_⟩⟩
    · have kk := k τ ot (by rw [e3, if_neg z]; exact hs.2.2) (by rw [e4]; exact hu.2.2)
      have nn := next τ kk
      rw [e3, e4, show ((((if b = 0 then x else y) :: s0).length : Nat) : Int) = (s0.length : Int) + 1 by simp] at nn
      exact nn
    · have kk := k σ26 (by rw [e26]; exact up8 τ _ _ ot) (by rw [e3, if_pos z]; exact ⟨by rw [e26, up_at], hs.2.1, by rw [e26]; exact stv_up s0 hs.2.2.2.2 (by omega)⟩) (by rw [e4]; exact stb_same (by rw [e26, up_row (by decide)]) u0 hu.2.2)
      have nn := next σ26 kk
      rw [e3, e4, show ((((if b = 0 then x else y) :: s0).length : Nat) : Int) = (s0.length : Int) + 1 by simp] at nn
      exact nn
  · obtain ⟨p1, x, s0, e1, e3, e4⟩ := p
    subst e1
    have sl1 : (((x :: s0).length : Nat) : Int) = (s0.length : Int) + 1 := by simp
    rw [sl1] at sl ⊢
    refine ⟨fun _ => ⟨FR, fun _ => ⟨FR, fun z => absurd z (by omega), fun _ => ?_⟩, fun z => absurd z (by omega)⟩, fun z => absurd z (by omega)⟩
    rw [show (s0.length : Int) + 1 - 1 = (s0.length : Int) by omega, hs.1]
    have vt : RV (mrow (τ 322)) := by rw [t2]; exact v
    refine ⟨by omega, m_ofOne p1 vt hs.2.1 ⟨by omega, fun σ23 e23 => ?_⟩⟩
    rw [t2] at e23
    have kk := k σ23 (by rw [e23]; exact up8 τ _ _ ot) (by rw [e3]; exact ⟨by rw [e23, up_at], mop1_LV v hs.2.1, by rw [e23]; exact stv_up s0 hs.2.2 (by omega)⟩) (by rw [e4]; exact stb_same (by rw [e23, up_row (by decide)]) u hu)
    have nn := next σ23 kk
    rw [e3, e4, show (((mop1 (mrow (σ 322)) F x :: s0).length : Nat) : Int) = (s0.length : Int) + 1 by simp] at nn
    exact nn
  · obtain ⟨p1, p9, x, y, s0, e1, e3, e4⟩ := p
    subst e1
    have sl1 : (((y :: x :: s0).length : Nat) : Int) = (s0.length : Int) + 1 + 1 := by simp
    rw [sl1] at sl ⊢
    have hx1 : τ 328 ((s0.length : Int) + 1) = y := by
      have := hs.1
      rw [show (((x :: s0).length : Nat) : Int) = (s0.length : Int) + 1 by simp] at this
      exact this
    refine ⟨fun _ => ⟨FR, fun _ => ⟨FR, fun _ => ⟨FR, fun z => absurd z (by omega), fun _ => ?_⟩, fun z => absurd z (by omega)⟩, fun z => absurd z (by omega)⟩, fun z => absurd z (by omega)⟩
    rw [show (s0.length : Int) + 1 + 1 + -1 = (s0.length : Int) + 1 by omega, show (s0.length : Int) + 1 - 1 = (s0.length : Int) by omega, hx1, hs.2.2.1]
    refine ⟨by omega, by omega, m_two ⟨p1, p9⟩ hs.2.2.2.1 hs.2.1 ⟨by omega, fun σ20 e20 => ?_⟩⟩
    have kk := k σ20 (by rw [e20]; exact up8 τ _ _ ot) (by rw [e3]; exact ⟨by rw [e20, up_at], mop2_LV hs.2.2.2.1, by rw [e20]; exact stv_up s0 hs.2.2.2.2 (by omega)⟩) (by rw [e4]; exact stb_same (by rw [e20, up_row (by decide)]) u hu)
    have nn := next σ20 kk
    rw [e3, e4, show (((mop2 F x y :: s0).length : Nat) : Int) = (s0.length : Int) + 1 by simp] at nn
    exact nn
  · obtain ⟨p1, p15, x, y, s0, e1, e3, e4⟩ := p
    subst e1
    have sl1 : (((y :: x :: s0).length : Nat) : Int) = (s0.length : Int) + 1 + 1 := by simp
    rw [sl1] at sl ⊢
    have hx1 : τ 328 ((s0.length : Int) + 1) = y := by
      have := hs.1
      rw [show (((x :: s0).length : Nat) : Int) = (s0.length : Int) + 1 by simp] at this
      exact this
    refine ⟨fun _ => ⟨FR, fun _ => ⟨FR, fun _ => ⟨FR, fun _ => ⟨FR, fun z => absurd z (by omega), fun _ => ?_⟩, fun z => absurd z (by omega)⟩, fun z => absurd z (by omega)⟩, fun z => absurd z (by omega)⟩, fun z => absurd z (by omega)⟩
    rw [show (s0.length : Int) + 1 + 1 + -2 = (s0.length : Int) by omega, hx1, hs.2.2.1]
    refine ⟨by omega, by omega, m_isAsked ⟨p1, p15⟩ hs.2.2.2.1 hs.2.1 ⟨by omega, mcmp_01, fun σ17 e17 => ?_⟩⟩
    have kk := k σ17 (by rw [e17]; exact up9 τ _ _ ot) (by rw [e3]; exact stv_same (by rw [e17, up_row (by decide)]) s0 hs.2.2.2.2) (by rw [e4]; exact ⟨by rw [e17, up_at], mcmp_01, by rw [e17]; exact stb_up u hu (by omega)⟩)
    have nn := next σ17 kk
    rw [e3, e4, show (((mcmp F x y :: u).length : Nat) : Int) = (u.length : Int) + 1 by simp] at nn
    exact nn
  · obtain ⟨p1, b, u0, e1, e3, e4⟩ := p
    subst e1
    have ul1 : (((b :: u0).length : Nat) : Int) = (u0.length : Int) + 1 := by simp
    rw [ul1] at ul ⊢
    have fin : ∀ y, y = 1 - b → Jt mX12_summedUp (d + 1 + 1) 1 t Q 312 [rv 321, iv tx, iv cl, iv X, iv CO, iv (s.length : Int), iv ((u0.length : Int) + 1), iv i, iv F, iv B] [iv y, iv (u0.length : Int), rv 329] τ := by
      intro y ey
      have b2 := hu.2.1
      refine b_X12_summedUp_312 ⟨by omega, by omega, fun σ2 e2 => ?_⟩
      have kk := k σ2 (by rw [e2]; exact up9 τ _ _ ot) (by rw [e3]; exact stv_same (by rw [e2, up_row (by decide)]) s hs) (by rw [e4]; exact ⟨by rw [e2, up_at, ey], by omega, by rw [e2]; exact stb_up u0 hu.2.2 (by omega)⟩)
      have nn := next σ2 kk
      rw [e3, e4, show ((((1 - b) :: u0).length : Nat) : Int) = (u0.length : Int) + 1 by simp] at nn
      exact nn
    refine ⟨fun _ => ⟨FR, fun _ => ⟨FR, fun _ => ⟨FR, fun _ => ⟨FR, fun _ => ⟨FR, fun z => absurd p1 z, fun _ => ?_⟩, fun z => absurd z (by omega)⟩, fun z => absurd z (by omega)⟩, fun z => absurd z (by omega)⟩, fun z => absurd z (by omega)⟩, fun z => absurd z (by omega)⟩
    rw [show (u0.length : Int) + 1 - 1 = (u0.length : Int) by omega, hu.1]
    have b2 := hu.2.1
    exact ⟨by omega, rng (by omega) (by omega), fun z => fin 0 (by omega), fun z => fin 1 (by omega)⟩
  · obtain ⟨p1, x, y, u0, e1, e3, e4⟩ := p
    subst e1
    have ul1 : (((y :: x :: u0).length : Nat) : Int) = (u0.length : Int) + 1 + 1 := by simp
    rw [ul1] at ul ⊢
    have hx1 : τ 329 ((u0.length : Int) + 1) = y := by
      have := hu.1
      rw [show (((x :: u0).length : Nat) : Int) = (u0.length : Int) + 1 by simp] at this
      exact this
    refine ⟨fun _ => ⟨FR, fun _ => ⟨FR, fun _ => ⟨FR, fun _ => ⟨FR, fun _ => ⟨FR, fun _ => ?_, fun z => absurd z (by omega)⟩, fun z => absurd z (by omega)⟩, fun z => absurd z (by omega)⟩, fun z => absurd z (by omega)⟩, fun z => absurd z (by omega)⟩, fun z => absurd z (by omega)⟩
    rw [show (u0.length : Int) + 1 + 1 + -1 = (u0.length : Int) + 1 by omega, show (u0.length : Int) + 1 - 1 = (u0.length : Int) by omega, hx1, hu.2.2.1]
    have j01 : mjoin F x y = 0 ∨ mjoin F x y = 1 := by
      have a1 := hu.2.1
      have a2 := hu.2.2.2.1
      unfold mjoin
      split
      · split
        · exact Or.inl rfl
        · exact a1
      · split
        · exact a1
        · exact Or.inr rfl
    refine ⟨by omega, by omega, m_joined p1 hu.2.2.2.1 hu.2.1 ⟨by omega, j01, fun σ12 e12 => ?_⟩⟩
    have kk := k σ12 (by rw [e12]; exact up9 τ _ _ ot) (by rw [e3]; exact stv_same (by rw [e12, up_row (by decide)]) s hs) (by rw [e4]; exact ⟨by rw [e12, up_at], j01, by rw [e12]; exact stb_up u0 hu.2.2.2.2 (by omega)⟩)
    have nn := next σ12 kk
    rw [e3, e4, show (((mjoin F x y :: u0).length : Nat) : Int) = (u0.length : Int) + 1 by simp] at nn
    exact nn
end MV
