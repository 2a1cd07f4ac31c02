/-! ===== tires and price by a text, on both sides ===== -/
abbrev DT : Type := (Int → Int) → Int → Int
/-- what the class keeps of a law (l: 0 tires, 1 price) in the text at cell a -/
def LawC (σ : jM) (a l : Int) : Option DT → Prop
  | none => σ (a + 5) l = -1
  | some f => (0 ≤ σ (a + 5) l ∧ σ (a + 5) l ≤ 300 ∧ 0 ≤ σ (a + 6) l ∧ σ (a + 6) l ≤ 300) ∧ ∀ r c, RV r → 0 ≤ c ∧ c < 8 → (LV (f r c) ∧ ∃ n, cruns r c (σ (a + 4)) (σ (a + 6) l) n (σ (a + 5) l) [] (σ (a + 6) l) [f r c])
/-- what the reference keeps of it in the text of number k -/
def LawM (X : Int → Int) (k l : Int) : Option DT → Prop
  | none => ∀ j, 0 ≤ j → j < X (681 * k) → X (681 * k + 1 + 3 * j) ≠ l
  | some f => ∃ j, 0 ≤ j ∧ j < X (681 * k) ∧ X (681 * k + 1 + 3 * j) = l ∧ (∀ i, 0 ≤ i → i < j → X (681 * k + 1 + 3 * i) ≠ l) ∧ (0 ≤ X (681 * k + 1 + 3 * j + 1) ∧ X (681 * k + 1 + 3 * j + 1) ≤ 304 ∧ 0 ≤ X (681 * k + 1 + 3 * j + 2) ∧ X (681 * k + 1 + 3 * j + 2) ≤ 304) ∧ ∀ r c, RV r → 0 ≤ c ∧ c < 8 → (LV (f r c) ∧ ∃ n, mruns r c (fun i => X (681 * k + 73 + 2 * i)) (fun i => X (681 * k + 73 + 2 * i + 1)) (X (681 * k + 1 + 3 * j + 2)) n (X (681 * k + 1 + 3 * j + 1)) [] [] (X (681 * k + 1 + 3 * j + 2)) [f r c] [])
def clampL (x top : Int) : Int := if x < 0 then 0 else if top < x then top else x
def lawV (D : Option DT) (r : Int → Int) (c dflt top : Int) : Int := match D with
  | none => dflt
  | some f => clampL (f r c) top
theorem clampL_in {x top : Int} (h : 0 ≤ top) : 0 ≤ clampL x top ∧ clampL x top ≤ top := by
  unfold clampL
  split
  · omega
  · split <;> omega
/-- tires and price by the text of number k (none: -1), L telling each text's two laws -/
abbrev LT : Type := Int → Option DT × Option DT
def tiresL (L : LT) (k : Int) (r : Int → Int) (c : Int) : Int := if k < 0 then 2 else lawV (L k).1 r c 2 10
def priceL (L : LT) (k : Int) (r : Int → Int) (c : Int) : Int := if k < 0 then r (4 + c) else lawV (L k).2 r c (r (4 + c)) 9999
theorem tiresL_in {L : LT} {k : Int} {r : Int → Int} {c : Int} : 0 ≤ tiresL L k r c ∧ tiresL L k r c ≤ 10 := by
  unfold tiresL
  split
  · omega
  · unfold lawV
    split
    · omega
    · exact clampL_in (by omega)
theorem priceL_in {L : LT} {k : Int} {r : Int → Int} {c : Int} (v : RV r) (hc : 0 ≤ c ∧ c < 8) : 0 ≤ priceL L k r c ∧ priceL L k r c ≤ 9999 := by
  have g := v.2.2.2.2.1 c hc.1 hc.2
  unfold priceL
  split
  · omega
  · unfold lawV
    split
    · omega
    · exact clampL_in (by omega)
/-- nothing but the class's scratch for laws has changed -/
def off2 (σ σ' : jM) : Prop := ∀ x, x ≠ 273 → x ≠ 274 → σ' x = σ x
/-- nothing but the reference's scratch for laws has changed -/
def off3 (σ σ' : jM) : Prop := ∀ x, x ≠ 327 → x ≠ 328 → x ≠ 329 → σ' x = σ x
/-- the texts of numbers 0 .. n - 1, on the class's side and on the reference's -/
def TxC (σ : jM) (n : Int) (L : LT) : Prop := ∀ k, 0 ≤ k → k < n → (LawC σ (293 + 7 * k) 0 (L k).1 ∧ LawC σ (293 + 7 * k) 1 (L k).2)
def TxM (σ : jM) (n : Int) (L : LT) : Prop := ∀ k, 0 ≤ k → k < n → ((0 ≤ σ 324 (681 * k) ∧ σ 324 (681 * k) ≤ 24) ∧ (∀ j, 0 ≤ j → j < σ 324 (681 * k) → (0 ≤ σ 324 (681 * k + 1 + 3 * j) ∧ σ 324 (681 * k + 1 + 3 * j) ≤ 6)) ∧ LawM (σ 324) k 0 (L k).1 ∧ LawM (σ 324) k 1 (L k).2)
def cellT (k : Int) : Int := if k < 0 then 0 else 293 + 7 * k
section LW
variable {d : Nat} {t : Int} {Q : Int → jM → Prop} {σ : jM} {h : Int} {r : Int → Int} {L : LT} {n k c : Int}
theorem h_tiresOf (h0 : ob (GG t) h 1) (hh : h ≤ 266) (q : HR σ h r) (v : RV r) (hc : 0 ≤ c ∧ c < 8) (hT : TxC σ n L) (hk : -1 ≤ k ∧ k < n) (hn : n ≤ 4) (kk : ∀ σ', off2 σ σ' → Q (tiresL L k r c) σ') : Ct mX2_tiresOf (d + 3) 0 t [rv 273, rv (cellT k), rv h, iv c] σ Q := by
  have k' := kk σ (fun _ _ _ => rfl)
  unfold tiresL at kk k'
  unfold cellT
  by_cases hk0 : k < 0
  · rw [if_pos hk0] at kk k' ⊢
    exact c_X2_tiresOf h0 ⟨fun _ => k', fun z => absurd rfl z⟩
  · rw [if_neg hk0] at kk k' ⊢
    have hob : ob (GG t) (293 + 7 * k) 8 := ok_5 (by omega) (by omega)
    have hl := (hT k (by omega) (by omega)).1
    refine c_X2_tiresOf h0 ⟨fun z => absurd z (by omega), fun _ => ⟨hob, by decide, ?_⟩⟩
    cases e : (L k).1 with
    | none =>
      rw [e] at hl kk k'
      have hl : σ (293 + 7 * k + 5) 0 = -1 := hl
      rw [hl]
      exact ⟨⟨by decide, by decide⟩, fun z => absurd rfl z, fun _ => k'⟩
    | some f =>
      rw [e] at hl kk k'
      obtain ⟨hb, hf⟩ := hl
      obtain ⟨lv, m, hr⟩ := hf r c v hc
      have l1 := lv.1
      have l2 := lv.2
      refine ⟨rng (by omega) (by omega), fun _ => ?_, fun z => absurd z (by omega)⟩
      refine h_valueOf h0 hob (by omega) hh q v hc (Or.inl rfl) hb hr (fun σ' o' => ⟨LV_R lv, rng (by omega) (by omega), ?_⟩)
      have e2 : max 0 (min 10 (f r c)) = clampL (f r c) 10 := by
        unfold clampL
        split
        · omega
        · split <;> omega
      rw [e2]
      exact kk σ' o'
theorem h_priceOf (h0 : ob (GG t) h 1) (hh : h ≤ 266) (q : HR σ h r) (v : RV r) (hc : 0 ≤ c ∧ c < 8) (hT : TxC σ n L) (hk : -1 ≤ k ∧ k < n) (hn : n ≤ 4) (kk : ∀ σ', off2 σ σ' → Q (priceL L k r c) σ') : Ct mX2_priceOf (d + 3) 0 t [rv 273, rv (cellT k), rv h, iv c] σ Q := by
  have k' := kk σ (fun _ _ _ => rfl)
  unfold priceL at kk k'
  unfold cellT
  have ep := (q.2.2.2.2.2.1 c hc.1 hc.2).1
  by_cases hk0 : k < 0
  · rw [if_pos hk0] at kk k' ⊢
    refine c_X2_priceOf h0 ⟨fun _ => ⟨hc, ?_⟩, fun z => absurd rfl z⟩
    rw [ep]
    exact k'
  · rw [if_neg hk0] at kk k' ⊢
    have hob : ob (GG t) (293 + 7 * k) 8 := ok_5 (by omega) (by omega)
    have hl := (hT k (by omega) (by omega)).2
    refine c_X2_priceOf h0 ⟨fun z => absurd z (by omega), fun _ => ⟨hob, by decide, ?_⟩⟩
    cases e : (L k).2 with
    | none =>
      rw [e] at hl kk k'
      have hl : σ (293 + 7 * k + 5) 1 = -1 := hl
      rw [hl, ep]
      exact ⟨⟨by decide, by decide⟩, fun z => absurd rfl z, fun _ => ⟨hc, k'⟩⟩
    | some f =>
      rw [e] at hl kk k'
      obtain ⟨hb, hf⟩ := hl
      obtain ⟨lv, m, hr⟩ := hf r c v hc
      have l1 := lv.1
      have l2 := lv.2
      refine ⟨rng (by omega) (by omega), fun _ => ?_, fun z => absurd z (by omega)⟩
      refine h_valueOf h0 hob (by omega) hh q v hc (Or.inr rfl) hb hr (fun σ' o' => ⟨LV_R lv, rng (by omega) (by omega), ?_⟩)
      have e2 : max 0 (min 9999 (f r c)) = clampL (f r c) 9999 := by
        unfold clampL
        split
        · omega
        · split <;> omega
      rw [e2]
      exact kk σ' o'
theorem m_fullNow (v : RV (mrow (σ 322))) (kk : Q (cntR (mrow (σ 322))) σ) : Ct mX12_fullNow (d + 3) 0 t [rv 321] σ Q := by
  refine c_X12_fullNow ?_
  have key : ∀ (j : Nat) (i acc : Int), 0 ≤ i → i + j = 8 → Q (acc + cntF (fullB (mrow (σ 322))) j i) σ → Jt mX12_fullNow (d + 3) 0 t Q 4 [rv 321, iv acc, iv i] [] σ := by
    intro j
    induction j with
    | zero =>
      intro i acc h1 h2 k
      rw [cntF, Int.add_zero] at k
      exact b_X12_fullNow_4 ⟨rng (by omega) (by omega), fun _ => k, fun z => absurd z (by omega)⟩
    | succ j ih =>
      intro i acc h1 h2 k
      rw [cntF] at k
      refine b_X12_fullNow_4 ⟨rng (by omega) (by omega), fun z => absurd z (by omega), fun z => ?_⟩
      refine m_isFull v (rng (by omega) (by omega)) ⟨b01_R, fun y => ?_, fun y => ?_⟩
      · rw [y] at k
        exact ih (i + 1) (acc + 0) (by omega) (by omega) (by rw [show acc + 0 + cntF (fullB (mrow (σ 322))) j (i + 1) = acc + (0 + cntF (fullB (mrow (σ 322))) j (i + 1)) by omega]; exact k)
      · have e1 : b01 (fullB (mrow (σ 322)) i) = 1 := by
          rcases b01_2 (b := fullB (mrow (σ 322)) i) with e | e
          · exact absurd e y
          · exact e
        rw [e1] at k
        exact ih (i + 1) (acc + 1) (by omega) (by omega) (by rw [show acc + 1 + cntF (fullB (mrow (σ 322))) j (i + 1) = acc + (1 + cntF (fullB (mrow (σ 322))) j (i + 1)) by omega]; exact k)
  refine key 8 0 0 (by omega) (by omega) ?_
  rw [Int.zero_add]
  exact kk
theorem m_name (v : RV (mrow (σ 322))) (hc : 0 ≤ c ∧ c < 8) (kk : ∀ σ', (∀ x, x ≠ 327 → σ' x = σ x) → (∀ k, 0 ≤ k → k ≤ 6 → σ' 327 k = nmV (mrow (σ 322)) c (k + 1)) → Q 0 σ') : Ct mX12_name (d + 4) 9 t [rv 321, iv c] σ Q := by
  have g := v.2.2.2.2.1 c hc.1 hc.2
  have e10 : mrow (σ 322) (4 + c) = σ 322 (10 + c) := by rw [mrow_lo (by omega), show 6 + (4 + c) = 10 + c by omega]
  have e18 : mrow (σ 322) (12 + c) = σ 322 (18 + c) := by rw [mrow_lo (by omega), show 6 + (12 + c) = 18 + c by omega]
  have e6 : mrow (σ 322) 0 = σ 322 6 := mrow_lo (by omega)
  have e8 : mrow (σ 322) 2 = σ 322 8 := mrow_lo (by omega)
  refine c_X12_name ⟨by decide, by decide, fun σ2 h2 => ⟨by decide, fun σ4 h4 => ⟨by omega, by decide, fun σ6 h6 => ⟨by omega, by decide, fun σ8 h8 => ?_⟩⟩⟩⟩
  have r8 : ∀ x, x ≠ 327 → σ8 x = σ x := fun x hx => by rw [h8, up_row hx, h6, up_row hx, h4, up_row hx, h2, up_row hx]
  have v8 : RV (mrow (σ8 322)) := by rw [r8 322 (by decide)]; exact v
  refine m_fullNow v8 ⟨by decide, fun σ11 h11 => ⟨by omega, ?_⟩⟩
  have r11 : ∀ x, x ≠ 327 → σ11 x = σ x := fun x hx => by rw [h11, up_row hx]; exact r8 x hx
  rw [r11 322 (by decide), ← e10]
  refine ⟨rng (by omega) (by omega), by decide, fun σ14 h14 => ⟨by decide, by decide, fun σ16 h16 => ?_⟩⟩
  have r14 : ∀ x, x ≠ 327 → σ14 x = σ x := fun x hx => by rw [h14, up_row hx]; exact r11 x hx
  rw [r14 322 (by decide)] at h16
  rw [r8 322 (by decide)] at h11
  have r4 : σ4 322 = σ 322 := by rw [h4, up_row (by decide), h2, up_row (by decide)]
  have r6 : σ6 322 = σ 322 := by rw [h6, up_row (by decide)]; exact r4
  rw [r4] at h6
  rw [r6] at h8
  rw [tm (by omega)] at h14
  refine kk σ16 (fun x hx => by rw [h16, up_row hx]; exact r14 x hx) (fun k k0 k6 => ?_)
  unfold nmV
  rcases (show k = 0 ∨ k = 1 ∨ k = 2 ∨ k = 3 ∨ k = 4 ∨ k = 5 ∨ k = 6 by omega) with rfl | rfl | rfl | rfl | rfl | rfl | rfl
  · rw [if_pos (by omega), h16, up_ne (by omega), h14, up_ne (by omega), h11, up_ne (by omega), h8, up_ne (by omega), h6, up_ne (by omega), h4, up_ne (by omega), h2, up_at, e6]
  · rw [if_neg (by omega), if_pos (by omega), h16, up_ne (by omega), h14, up_ne (by omega), h11, up_ne (by omega), h8, up_ne (by omega), h6, up_ne (by omega), h4, up_at]
  · rw [if_neg (by omega), if_neg (by omega), if_pos (by omega), h16, up_ne (by omega), h14, up_ne (by omega), h11, up_ne (by omega), h8, up_ne (by omega), h6, up_at, e10]
  · rw [if_neg (by omega), if_neg (by omega), if_neg (by omega), if_pos (by omega), h16, up_ne (by omega), h14, up_ne (by omega), h11, up_ne (by omega), h8, up_at, e18]
  · rw [if_neg (by omega), if_neg (by omega), if_neg (by omega), if_neg (by omega), if_pos (by omega), h16, up_ne (by omega), h14, up_ne (by omega), h11, up_at]
  · rw [if_neg (by omega), if_neg (by omega), if_neg (by omega), if_neg (by omega), if_neg (by omega), if_pos (by omega), h16, up_ne (by omega), h14, up_at]
  · rw [if_neg (by omega), if_neg (by omega), if_neg (by omega), if_neg (by omega), if_neg (by omega), if_neg (by omega), h16, up_at, e8]
theorem mv_runs {tx cl X CO : Int} (v : RV (mrow (σ 322))) (hc : 0 ≤ c ∧ c < 8) (hn : ∀ k, 0 ≤ k → k ≤ 6 → σ 327 k = nmV (mrow (σ 322)) c (k + 1)) (hX : 0 ≤ X + 2 ∧ X + 2 < 2724) (hCO : 0 ≤ CO ∧ CO ≤ 2116) (hto : 0 ≤ σ 324 (X + 2) ∧ σ 324 (X + 2) ≤ 304) : ∀ (m : Nat) {τ : jM} {i j : Int} {s u s' u' : List Int}, okM σ τ → stv τ s → stb τ u → mruns (mrow (σ 322)) c (fun k => σ 324 (CO + 2 * k)) (fun k => σ 324 (CO + 2 * k + 1)) (σ 324 (X + 2)) m i s u j s' u' → (∀ τ', okM σ τ' → stv τ' s' → stb τ' u' → Jm d t Q tx cl X CO (s'.length : Int) (u'.length : Int) j τ') → Jm d t Q tx cl X CO (s.length : Int) (u.length : Int) i τ
  | 0, τ, i, j, s, u, s', u', ot, hs, hu, hr, k => by
    obtain ⟨rfl, rfl, rfl⟩ := hr
    exact k τ ot hs hu
  | m + 1, τ, i, j, s, u, s', u', ot, hs, hu, hr, k => by
    obtain ⟨s1, u1, st, hr1⟩ := hr
    exact mv_step v hc hn hX hCO hto ot hs hu st (fun τ' o' a b => mv_runs v hc hn hX hCO hto m o' a b hr1 k)
theorem m_says {l dflt top : Int} {D : Option DT} (v : RV (mrow (σ 322))) (hc : 0 ≤ c ∧ c < 8) (hn : ∀ k, 0 ≤ k → k ≤ 6 → σ 327 k = nmV (mrow (σ 322)) c (k + 1)) (hk : 0 ≤ k ∧ k < 4) (hl : l = 0 ∨ l = 1) (hN : 0 ≤ σ 324 (681 * k) ∧ σ 324 (681 * k) ≤ 24) (hS : ∀ j, 0 ≤ j → j < σ 324 (681 * k) → (0 ≤ σ 324 (681 * k + 1 + 3 * j) ∧ σ 324 (681 * k + 1 + 3 * j) ≤ 6)) (hD : LawM (σ 324) k l D) (ht : 0 ≤ top ∧ top ≤ 9999) (kk : ∀ σ', okM σ σ' → Q (lawV D (mrow (σ 322)) c dflt top) σ') : Ct mX12_says (d + 3) 0 t [rv 321, iv k, iv l, iv dflt, iv top] σ Q := by
  refine c_X12_says ?_
  cases D with
  | none =>
    have k' := kk σ (fun _ _ _ => rfl)
    have loop : ∀ (j : Nat) (i : Int), 0 ≤ i → i + j = σ 324 (681 * k) → Jt mX12_says (d + 3) 0 t Q 3 [rv 321, iv k, iv l, iv dflt, iv top, iv i] [] σ := by
      intro j
      induction j with
      | zero =>
        intro i i0 hi
        exact b_X12_says_3 ⟨rng (by omega) (by omega), fun z => absurd z (by omega), fun _ => ⟨by omega, rng (by omega) (by omega), rng (by omega) (by omega), fun _ => k', fun z => absurd z (by omega)⟩⟩
      | succ j ih =>
        intro i i0 hi
        have g := hS i i0 (by omega)
        have ne := hD i i0 (by omega)
        exact b_X12_says_3 ⟨rng (by omega) (by omega), fun z => absurd z (by omega), fun _ => ⟨by omega, rng (by omega) (by omega), rng (by omega) (by omega), fun z => absurd z (by omega), fun _ => ⟨by omega, rng (by omega) (by omega), rng (by omega) (by omega), fun _ => ih (i + 1) (by omega) (by omega), fun z => absurd z ne⟩⟩⟩
    obtain ⟨j, hj⟩ : ∃ j : Nat, (0 : Int) + j = σ 324 (681 * k) := ⟨(σ 324 (681 * k)).toNat, by omega⟩
    exact loop j 0 (by omega) hj
  | some f =>
    obtain ⟨j, j0, j1, ej, nj, hb, hf⟩ := hD
    obtain ⟨lv, m, hr⟩ := hf (mrow (σ 322)) c v hc
    have l1 := lv.1
    have l2 := lv.2
    have loop : ∀ (w : Nat) (i : Int), 0 ≤ i → i + w = j → Jt mX12_says (d + 3) 0 t Q 3 [rv 321, iv k, iv l, iv dflt, iv top, iv i] [] σ := by
      intro w
      induction w with
      | zero =>
        intro i i0 hi
        have hij : i = j := by omega
        subst hij
        refine b_X12_says_3 ⟨rng (by omega) (by omega), fun z => absurd z (by omega), fun _ => ⟨by omega, rng (by omega) (by omega), rng (by omega) (by omega), fun z => absurd z (by omega), fun _ => ⟨by omega, rng (by omega) (by omega), rng (by omega) (by omega), fun z => absurd ej z, fun _ => ?_⟩⟩⟩
        refine c_X12_summedUp ⟨by omega, ?_⟩
        refine mv_runs (σ := σ) v hc hn (by omega) (by omega) (by omega) m (s := []) (u := []) (s' := [f (mrow (σ 322)) c]) (u' := []) (fun _ _ _ => rfl) trivial trivial hr (fun τ ot hs _ => ?_)
        have e0 : τ 328 0 = f (mrow (σ 322)) c := hs.1
        have t4 : τ 324 = σ 324 := ot 324 (by decide) (by decide)
        refine b_X12_summedUp_38 ?_
        rw [t4, e0]
        refine ⟨by omega, rng (by omega) (by omega), rng (by omega) (by omega), fun _ => ⟨by decide, ?_⟩, fun z => absurd z (by omega)⟩
        refine m_held (LV_L lv) in0 (rng (by omega) (by omega)) ?_
        exact kk τ ot
      | succ w ih =>
        intro i i0 hi
        have g := hS i i0 (by omega)
        have ne := nj i i0 (by omega)
        exact b_X12_says_3 ⟨rng (by omega) (by omega), fun z => absurd z (by omega), fun _ => ⟨by omega, rng (by omega) (by omega), rng (by omega) (by omega), fun z => absurd z (by omega), fun _ => ⟨by omega, rng (by omega) (by omega), rng (by omega) (by omega), fun _ => ih (i + 1) (by omega) (by omega), fun z => absurd z ne⟩⟩⟩
    obtain ⟨w, hw⟩ : ∃ w : Nat, (0 : Int) + w = j := ⟨j.toNat, by omega⟩
    exact loop w 0 (by omega) hw
theorem m_saysNone {l dflt top : Int} (hk : k = -1) (kk : Q dflt σ) : Ct mX12_says (d + 3) 0 t [rv 321, iv k, iv l, iv dflt, iv top] σ Q :=
  c_X12_says (b_X12_says_3 ⟨rng (by omega) (by omega), fun _ => kk, fun z => absurd z (by omega)⟩)
theorem m_tiresOf (v : RV (mrow (σ 322))) (hc : 0 ≤ c ∧ c < 8) (hT : TxM σ n L) (hk : -1 ≤ k ∧ k < n) (hn : n ≤ 4) (kk : ∀ σ', off3 σ σ' → Q (tiresL L k (mrow (σ 322)) c) σ') : Ct mX12_tiresOf (d + 5) 0 t [rv 321, iv k, iv c] σ Q := by
  refine c_X12_tiresOf (m_name (d := d) v hc (fun σ1 o1 hn1 => ?_))
  have e22 : σ1 322 = σ 322 := o1 322 (by decide)
  have e24 : σ1 324 = σ 324 := o1 324 (by decide)
  have v1 : RV (mrow (σ1 322)) := by rw [e22]; exact v
  unfold tiresL at kk
  by_cases hk0 : k < 0
  · rw [if_pos hk0] at kk
    exact m_saysNone (d := d + 1) (by omega) (kk σ1 (fun x x1 _ _ => o1 x x1))
  · rw [if_neg hk0] at kk
    obtain ⟨t1, t2, t3, t4⟩ := hT k (by omega) (by omega)
    refine m_says (d := d + 1) v1 hc (by rw [e22]; exact hn1) (by omega) (Or.inl rfl) (by rw [e24]; exact t1) (by rw [e24]; exact t2) (by rw [e24]; exact t3) (by omega) (fun σ' o' => ?_)
    rw [e22]
    exact kk σ' (fun x x1 x2 x3 => by rw [o' x x2 x3]; exact o1 x x1)
theorem m_priceOf (v : RV (mrow (σ 322))) (hc : 0 ≤ c ∧ c < 8) (hT : TxM σ n L) (hk : -1 ≤ σ 322 1 ∧ σ 322 1 < n) (hn : n ≤ 4) (kk : ∀ σ', off3 σ σ' → Q (priceL L (σ 322 1) (mrow (σ 322)) c) σ') : Ct mX12_priceOf (d + 5) 0 t [rv 321, iv c] σ Q := by
  refine c_X12_priceOf (m_name (d := d) v hc (fun σ1 o1 hn1 => ⟨by decide, by omega, ?_⟩))
  have e22 : σ1 322 = σ 322 := o1 322 (by decide)
  have e24 : σ1 324 = σ 324 := o1 324 (by decide)
  have v1 : RV (mrow (σ1 322)) := by rw [e22]; exact v
  have e10 : mrow (σ 322) (4 + c) = σ 322 (10 + c) := by rw [mrow_lo (by omega), show 6 + (4 + c) = 10 + c by omega]
  rw [e22, ← e10]
  unfold priceL at kk
  by_cases hk0 : σ 322 1 < 0
  · rw [if_pos hk0] at kk
    exact m_saysNone (d := d + 1) (by omega) (kk σ1 (fun x x1 _ _ => o1 x x1))
  · rw [if_neg hk0] at kk
    obtain ⟨t1, t2, t3, t4⟩ := hT (σ 322 1) (by omega) (by omega)
    refine m_says (d := d + 1) v1 hc (by rw [e22]; exact hn1) (by omega) (Or.inr rfl) (by rw [e24]; exact t1) (by rw [e24]; exact t2) (by rw [e24]; exact t4) (by omega) (fun σ' o' => ?_)
    rw [e22]
    exact kk σ' (fun x x1 x2 x3 => by rw [o' x x2 x3]; exact o1 x x1)
end LW
