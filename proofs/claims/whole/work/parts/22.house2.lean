/-! ===== the class's House, further ===== -/
theorem writeR_wr {r : Int → Int} {k x v p : Int} (hk : 0 ≤ k ∧ k < 20 ∧ k ≠ 3) (h : 0 ≤ r 3 ∧ r 3 ≤ 25) : writeR (wr r k x) v p = wr (writeR r v p) k x := by
  have e3 : wr r k x 3 = r 3 := wr_ne (by omega)
  have ep : preR (wr r k x) = wr (preR r) k x := by
    unfold preR
    rw [e3]
    by_cases e : r 3 = 25
    · rw [if_pos e, if_pos e]
      funext i
      unfold shR
      by_cases i3 : i = 3
      · rw [if_pos i3, wr_ne (by omega), if_pos i3]
      · rw [if_neg i3]
        by_cases i4 : 20 ≤ i ∧ i < 68
        · rw [if_pos i4, wr_ne (by omega), wr_ne (by omega), if_neg i3, if_pos i4]
        · rw [if_neg i4]
          by_cases i5 : i = k
          · rw [wr_eq i5, wr_eq i5]
          · rw [wr_ne i5, wr_ne i5, if_neg i3, if_neg i4]
    · rw [if_neg e, if_neg e]
  have e4 : wr (preR r) k x 3 = preR r 3 := wr_ne (by omega)
  have q := preR_3 h.2
  unfold writeR
  rw [ep, e4]
  funext i
  by_cases i5 : i = k
  · rw [wr_eq i5, wr_ne (by omega), wr_ne (by omega), wr_ne (by omega), wr_eq i5]
  · rw [wr_ne (k := k) i5]
    by_cases a1 : i = 3
    · rw [wr_eq a1, wr_eq a1]
    · rw [wr_ne a1, wr_ne a1]
      by_cases a2 : i = 21 + 2 * preR r 3
      · rw [wr_eq a2, wr_eq a2]
      · rw [wr_ne a2, wr_ne a2]
        by_cases a3 : i = 20 + 2 * preR r 3
        · rw [wr_eq a3, wr_eq a3]
        · rw [wr_ne a3, wr_ne a3, wr_ne i5]
/-- the two of the lowest crocks with so many pounds together: 8 times the first and the other -/
def pairI (r : Int → Int) (n a : Int) : Int → Bool := fun b => fullB r a && (fullB r b && decide (r (4 + a) + r (4 + b) = n))
def pairO (r : Int → Int) (n : Int) : Nat → Int → Int
  | 0, _ => -1
  | k + 1, a => if lowF (pairI r n a) (k + 1) a = -1 then pairO r n k (a + 1) else a * 8 + lowF (pairI r n a) (k + 1) a
def pairR (r : Int → Int) (n : Int) : Int := pairO r n 8 0
def uniteR (r : Int → Int) (a b : Int) : Int → Int := writeR (wr (wr r (4 + crockR r 0) (r (4 + a) + r (4 + b))) (12 + crockR r 0) 0) ((r 0 * 4 + 0) * 8 + crockR r 0) (r (4 + a) + r (4 + b))
def emptyR (r : Int → Int) (c kind : Int) : Int → Int := writeR (wr (wr r (4 + c) 0) (12 + c) 0) ((r 0 * 4 + kind) * 8 + c) (r (4 + c))
theorem canB_t {r : Int → Int} {a b : Int} (h : canB r a b = true) : fullB r a = true ∧ fullB r b = true ∧ r (4 + a) + r (4 + b) ≤ 9999 ∧ (0 ≤ crockR r 0 ∧ crockR r 0 < 8) := by
  unfold canB at h
  simp only [Bool.and_eq_true, decide_eq_true_eq, Bool.not_eq_true', decide_eq_false_iff_not] at h
  refine ⟨h.1, h.2.1, h.2.2.1, ?_⟩
  rcases crockR_in (r := r) (n := 0) with e | e
  · exact absurd e h.2.2.2
  · exact ⟨e.1, e.2.1⟩
theorem uniteR_RV {r : Int → Int} {a b : Int} (v : RV r) (h : canB r a b = true) : RV (uniteR r a b) := by
  obtain ⟨h1, h2, h3, h4⟩ := canB_t h
  obtain ⟨a1, a2, a3⟩ := fullB_t h1
  obtain ⟨b1, b2, b3⟩ := fullB_t h2
  have ga := v.2.2.2.2.1 a a1 a2
  have gb := v.2.2.2.2.1 b b1 b2
  have v1 := v.1
  exact writeR_RV (wr_RV (wr_RV v (by omega) (by omega) (by omega) (by omega) (by omega) (by omega)) (by omega) (by omega) (by omega) (by omega) (by omega) (by omega)) (by omega) (by omega)
theorem emptyR_RV {r : Int → Int} {c k : Int} (v : RV r) (hc : 0 ≤ c ∧ c < 8) (hk : 0 ≤ k ∧ k ≤ 3) : RV (emptyR r c k) := by
  have ga := v.2.2.2.2.1 c hc.1 hc.2
  have v1 := v.1
  exact writeR_RV (wr_RV (wr_RV v (by omega) (by omega) (by omega) (by omega) (by omega) (by omega)) (by omega) (by omega) (by omega) (by omega) (by omega) (by omega)) (by omega) (by omega)
section HS2
variable {d : Nat} {t : Int} {Q : Int → jM → Prop} {σ : jM} {h : Int} {r : Int → Int}
theorem h_pairWith {n : Int} (h0 : ob (GG t) h 1) (q : HR σ h r) (v : RV r) (hn : inR n) (k : Q (pairR r n) σ) : Ct mX1_pairWith (d + 1) 0 t [rv h, iv n] σ Q := by
  refine c_X1_pairWith h0 ?_
  have inner : ∀ (j : Nat) (a b : Int), 0 ≤ a → a < 8 → a ≤ b → b + j = 8 → (lowF (pairI r n a) j b = -1 → Jt mX1_pairWith (d + 1) 0 t Q 2 [rv h, iv n, iv (a + 1), uv] [] σ) → (lowF (pairI r n a) j b ≠ -1 → Q (a * 8 + lowF (pairI r n a) j b) σ) → Jt mX1_pairWith (d + 1) 0 t Q 10 [rv h, iv n, iv a, iv b] [] σ := by
    intro j
    induction j with
    | zero =>
      intro a b a0 a8 ab hb k1 k2
      exact b_X1_pairWith_10 h0 ⟨rng (by omega) (by omega), fun _ => k1 rfl, fun z => absurd z (by omega)⟩
    | succ j ih =>
      intro a b a0 a8 ab hb k1 k2
      have next : pairI r n a b = false → Jt mX1_pairWith (d + 1) 0 t Q 10 [rv h, iv n, iv a, iv (b + 1)] [] σ := by
        intro e
        rw [lowF, e] at k1 k2
        exact ih a (b + 1) a0 a8 (by omega) (by omega) k1 k2
      refine b_X1_pairWith_10 h0 ⟨rng (by omega) (by omega), fun z => absurd z (by omega), fun z => ?_⟩
      refine h_holds h0 q v (rng (by omega) (by omega)) ⟨b01_R, fun y => ?_, fun y => ?_⟩
      · exact next (by unfold pairI; rw [b01_0.mp y]; rfl)
      · have fa : fullB r a = true := by
          cases e : fullB r a with
          | true => rfl
          | false => exact absurd (b01_0.mpr e) y
        refine h_holds h0 q v (rng (by omega) (by omega)) ⟨b01_R, fun x => ?_, fun x => ?_⟩
        · exact next (by unfold pairI; rw [b01_0.mp x]; simp)
        · have fb : fullB r b = true := by
            cases e : fullB r b with
            | true => rfl
            | false => exact absurd (b01_0.mpr e) x
          have ga := v.2.2.2.2.1 a a0 a8
          have gb := v.2.2.2.2.1 b (by omega) z
          rw [(q.2.2.2.2.2.1 a a0 a8).1, (q.2.2.2.2.2.1 b (by omega) z).1]
          refine ⟨⟨a0, a8⟩, ⟨by omega, z⟩, rng (by omega) (by omega), hn, fun w => ?_, fun w => ?_⟩
          · exact next (by unfold pairI; rw [fa, fb]; simp [w])
          · have e : pairI r n a b = true := by unfold pairI; rw [fa, fb]; simp [w]
            rw [lowF, e] at k2
            exact k2 (by simp; omega)
  have outer : ∀ (j : Nat) (a : Int), 0 ≤ a → a + j = 8 → Q (pairO r n j a) σ → Jt mX1_pairWith (d + 1) 0 t Q 2 [rv h, iv n, iv a, uv] [] σ := by
    intro j
    induction j with
    | zero =>
      intro a a0 ha k
      exact b_X1_pairWith_2 h0 ⟨rng (by omega) (by omega), fun _ => k, fun z => absurd z (by omega)⟩
    | succ j ih =>
      intro a a0 ha k
      rw [pairO] at k
      refine b_X1_pairWith_2 h0 ⟨rng (by omega) (by omega), fun z => absurd z (by omega), fun z => ?_⟩
      refine inner (j + 1) a a a0 z (by omega) (by omega) (fun e => ?_) (fun e => ?_)
      · rw [if_pos e] at k
        exact ih (a + 1) (by omega) (by omega) k
      · rw [if_neg e] at k
        exact k
  exact outer 8 0 (by omega) (by omega) k
theorem h_unite {a b : Int} (h0 : ob (GG t) h 1) (q : HR σ h r) (v : RV r) (hc : canB r a b = true)
    (k : ∀ σ', HR σ' h (uniteR r a b) → off4 h σ σ' → Q (crockR r 0) σ') : Ct mX1_unite (d + 1) 0 t [rv h, iv a, iv b] σ Q := by
  obtain ⟨fa, fb, hs, hc0⟩ := canB_t hc
  obtain ⟨a1, a2, a3⟩ := fullB_t fa
  obtain ⟨b1, b2, b3⟩ := fullB_t fb
  have ga := v.2.2.2.2.1 a a1 a2
  have gb := v.2.2.2.2.1 b b1 b2
  refine c_X1_unite h0 (h_crockWith h0 q v in0 ⟨crockR_R, fun z => absurd z (by omega), fun _ => ?_⟩)
  refine h_holds h0 q v (rng (by omega) (by omega)) ⟨b01_R, fun z => absurd z (by rw [fa]; decide), fun _ => ?_⟩
  refine h_holds h0 q v (rng (by omega) (by omega)) ⟨b01_R, fun _ => ?_, fun z => absurd z (by rw [fb]; decide)⟩
  refine ⟨⟨a1, a2⟩, ⟨b1, b2⟩, hc0, fun σ8 e8 => ⟨hc0, fun σ10 e10 => ⟨hc0, ?_⟩⟩⟩
  rw [(q.2.2.2.2.2.1 a a1 a2).1, (q.2.2.2.2.2.1 b b1 b2).1] at e8
  have q8 : HR σ8 h (wr r (4 + crockR r 0) (r (4 + a) + r (4 + b))) := by rw [e8]; exact HR_pounds q hc0.1 hc0.2
  have q10 : HR σ10 h (wr (wr r (4 + crockR r 0) (r (4 + a) + r (4 + b))) (12 + crockR r 0) 0) := by rw [e10]; exact HR_age q8 hc0.1 hc0.2
  have v10 : RV (wr (wr r (4 + crockR r 0) (r (4 + a) + r (4 + b))) (12 + crockR r 0) 0) := wr_RV (wr_RV v (by omega) (by omega) (by omega) (by omega) (by omega) (by omega)) (by omega) (by omega) (by omega) (by omega) (by omega) (by omega)
  have ep : σ10 (h + 1) (crockR r 0) = r (4 + a) + r (4 + b) := by
    rw [(q10.2.2.2.2.2.1 _ hc0.1 hc0.2).1, wr_ne (by omega), wr_at]
  rw [ep]
  refine h_writeDown h0 q10 v10 (by omega) hc0 (by omega) (fun σ11 q11 o11 => ?_)
  have e0 : wr (wr r (4 + crockR r 0) (r (4 + a) + r (4 + b))) (12 + crockR r 0) 0 0 = r 0 := by rw [wr_ne (by omega), wr_ne (by omega)]
  rw [e0] at q11
  refine k σ11 q11 (off4_tr ?_ o11)
  rw [e10, e8]
  exact off4_up (off4_up off4_rf (by omega) (by omega)) (by omega) (by omega)
theorem h_clear {c kind : Int} (h0 : ob (GG t) h 1) (q : HR σ h r) (v : RV r) (hk : 0 ≤ kind ∧ kind ≤ 3) (hc : inR c)
    (k1 : fullB r c = true → ∀ σ', HR σ' h (emptyR r c kind) → off4 h σ σ' → Q 0 σ') (k2 : fullB r c = false → Q 0 σ) : Ct mX1_clear (d + 1) 9 t [rv h, iv c, iv kind] σ Q := by
  refine c_X1_clear h0 (h_holds h0 q v hc ⟨b01_R, fun z => ?_, fun z => k2 (b01_0.mp z)⟩)
  have fa : fullB r c = true := by
    cases e : fullB r c with
    | true => rfl
    | false => exact absurd (b01_0.mpr e) z
  obtain ⟨a1, a2, a3⟩ := fullB_t fa
  have ga := v.2.2.2.2.1 c a1 a2
  refine ⟨⟨a1, a2⟩, ?_⟩
  rw [(q.2.2.2.2.2.1 c a1 a2).1]
  refine h_writeDown h0 q v hk ⟨a1, a2⟩ (by omega) (fun σ3 q3 o3 => ⟨⟨a1, a2⟩, fun σ5 e5 => ⟨⟨a1, a2⟩, fun σ7 e7 => ?_⟩⟩)
  refine k1 fa σ7 ?_ ?_
  · have q5 := HR_pounds (v := 0) q3 a1 a2
    have q7 := HR_age (v := 0) q5 a1 a2
    rw [← e5, ← e7, ← writeR_wr (by omega) v.2.2.2.1, ← writeR_wr (by omega) (by rw [wr_ne (by omega)]; exact v.2.2.2.1)] at q7
    exact q7
  · rw [e7, e5]
    exact off4_up (off4_up o3 (by omega) (by omega)) (by omega) (by omega)
def drawR (r : Int → Int) : Int → Int := wr r 1 ((r 1 * 683 + 563) % 30997)
theorem drawR_RV {r : Int → Int} (v : RV r) : RV (drawR r) := wr_RV v (by omega) (by omega) (by intro _; omega) (by omega) (by omega) (by omega)
theorem h_draw (h0 : ob (GG t) h 1) (q : HR σ h r) (v : RV r) (k : ∀ σ', HR σ' h (drawR r) → off4 h σ σ' → Q (r 1) σ') : Ct mX1_draw d 0 t [rv h] σ Q := by
  have v1 := v.2.1
  refine c_X1_draw h0 ?_
  rw [q.2.1]
  refine ⟨rng (by omega) (by omega), fun σ2 e2 => ?_⟩
  rw [tm (by omega)] at e2
  refine k σ2 ?_ ?_
  · rw [e2]; exact HR_own q (Or.inr (Or.inr ⟨rfl, rfl⟩))
  · rw [e2]; exact off4_up off4_rf (by omega) (by omega)
def tireR (r : Int → Int) (c : Int) : Int → Int := writeR (if r (4 + c) / 2 = 0 then wr (wr r (4 + c) (r (4 + c) / 2)) (12 + c) 0 else wr r (4 + c) (r (4 + c) / 2)) ((r 0 * 4 + 3) * 8 + c) (r (4 + c) / 2)
theorem tireR_RV {r : Int → Int} {c : Int} (v : RV r) (hc : 0 ≤ c ∧ c < 8) : RV (tireR r c) := by
  have ga := v.2.2.2.2.1 c hc.1 hc.2
  have v1 := v.1
  have w1 : RV (wr r (4 + c) (r (4 + c) / 2)) := wr_RV v (by omega) (by omega) (by omega) (by omega) (by omega) (by omega)
  refine writeR_RV ?_ (by omega) (by omega)
  by_cases e : r (4 + c) / 2 = 0
  · rw [if_pos e]
    exact wr_RV w1 (by omega) (by omega) (by omega) (by omega) (by omega) (by omega)
  · rw [if_neg e]
    exact w1
theorem h_tire {c : Int} (h0 : ob (GG t) h 1) (q : HR σ h r) (v : RV r) (hc : 0 ≤ c ∧ c < 8) (k : ∀ σ', HR σ' h (tireR r c) → off4 h σ σ' → Q 0 σ') : Ct mX1_tire (d + 1) 9 t [rv h, iv c] σ Q := by
  have ga := v.2.2.2.2.1 c hc.1 hc.2
  refine c_X1_tire h0 ?_
  rw [(q.2.2.2.2.2.1 c hc.1 hc.2).1]
  refine ⟨hc, rng (by omega) (by omega), hc, fun σ3 e3 => ?_⟩
  rw [td (by omega)] at e3
  have q3 : HR σ3 h (wr r (4 + c) (r (4 + c) / 2)) := by rw [e3]; exact HR_pounds q hc.1 hc.2
  have w1 : RV (wr r (4 + c) (r (4 + c) / 2)) := wr_RV v (by omega) (by omega) (by omega) (by omega) (by omega) (by omega)
  have ep : σ3 (h + 1) c = r (4 + c) / 2 := by rw [(q3.2.2.2.2.2.1 c hc.1 hc.2).1, wr_at]
  have o3 : off4 h σ σ3 := by rw [e3]; exact off4_up off4_rf (by omega) (by omega)
  rw [ep]
  refine ⟨hc, rng (by omega) (by omega), fun z => ⟨hc, ?_⟩, fun z => ⟨hc, fun σ7 e7 => ⟨hc, ?_⟩⟩⟩
  · refine h_writeDown h0 q3 w1 (by omega) hc (by omega) (fun σ5 q5 o5 => k σ5 ?_ (off4_tr o3 o5))
    unfold tireR
    rw [if_neg z]
    rw [wr_ne (i := 0) (by omega)] at q5
    exact q5
  · have q7 : HR σ7 h (wr (wr r (4 + c) (r (4 + c) / 2)) (12 + c) 0) := by rw [e7]; exact HR_age q3 hc.1 hc.2
    have ep7 : σ7 (h + 1) c = r (4 + c) / 2 := by rw [e7, up_ne (by omega)]; exact ep
    rw [ep7]
    refine h_writeDown h0 q7 (wr_RV w1 (by omega) (by omega) (by omega) (by omega) (by omega) (by omega)) (by omega) hc (by omega) (fun σ5 q5 o5 => k σ5 ?_ (off4_tr (by rw [e7]; exact off4_up o3 (by omega) (by omega)) o5))
    unfold tireR
    rw [if_pos z]
    rw [wr_ne (i := 0) (by omega), wr_ne (i := 0) (by omega)] at q5
    exact q5
def lineR (r : Int → Int) (i what : Int) : Int := if what = 0 then r (20 + 2 * i) / 32 else if what = 1 then r (20 + 2 * i) / 8 % 4 else if what = 2 then r (20 + 2 * i) % 8 else r (21 + 2 * i)
theorem h_lineShows {i w : Int} (h0 : ob (GG t) h 1) (q : HR σ h r) (v : RV r) (hi : 0 ≤ i ∧ i < r 3) (hw : 0 ≤ w ∧ w ≤ 3) (k : Q (lineR r i w) σ) : Ct mX1_lineShows d 0 t [rv h, iv i, iv w] σ Q := by
  have a5 := q.2.2.2.2.1
  have v4 := v.2.2.2.1
  have g := v.2.2.2.2.2 i hi.1 hi.2
  have l := q.2.2.2.2.2.2 i hi.1 hi.2
  refine c_X1_lineShows h0 ?_
  rw [tm (by omega), l]
  unfold lineR at k
  have hx : (0 : Int) ≤ r (20 + 2 * i) * 10000 + r (21 + 2 * i) := by omega
  refine ⟨rng (by omega) (by omega), by omega, rng (by omega) (by omega), fun z => ⟨rngL (by omega) (by omega), ?_⟩, fun z => ⟨rngL (by omega) (by omega), ?_⟩, fun z => ⟨rngL (by omega) (by omega), ?_⟩, fun z => ⟨rngL (by omega) (by omega), ?_⟩⟩
  · rw [if_neg (by omega), if_neg (by omega), if_neg (by omega)] at k
    rw [tm hx, show (r (20 + 2 * i) * 10000 + r (21 + 2 * i)) % 10000 = r (21 + 2 * i) by omega]
    exact k
  · rw [if_pos z] at k
    rw [td hx, show (r (20 + 2 * i) * 10000 + r (21 + 2 * i)) / 320000 = r (20 + 2 * i) / 32 by omega]
    exact k
  · rw [if_neg (by omega), if_pos z] at k
    rw [td hx, tm (by omega), show (r (20 + 2 * i) * 10000 + r (21 + 2 * i)) / 80000 % 4 = r (20 + 2 * i) / 8 % 4 by omega]
    exact ⟨rngL (by omega) (by omega), k⟩
  · rw [if_neg (by omega), if_neg (by omega), if_pos z] at k
    rw [td hx, tm (by omega), show (r (20 + 2 * i) * 10000 + r (21 + 2 * i)) / 10000 % 8 = r (20 + 2 * i) % 8 by omega]
    exact ⟨rngL (by omega) (by omega), k⟩
end HS2
