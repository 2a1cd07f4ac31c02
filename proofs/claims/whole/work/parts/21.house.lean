/-! ===== the class's House ===== -/
theorem HR_pounds {σ : jM} {h i v : Int} {r : Int → Int} (q : HR σ h r) (h0 : 0 ≤ i) (h1 : i < 8) : HR (up σ (h + 1) i v) h (wr r (4 + i) v) := by
  obtain ⟨a1, a2, a3, a4, a5, a6, a7⟩ := q
  have e3 : wr r (4 + i) v 3 = r 3 := wr_ne (by omega)
  refine ⟨by rw [up_ne (by omega), wr_ne (by omega)]; exact a1, by rw [up_ne (by omega), wr_ne (by omega)]; exact a2, by rw [up_ne (by omega), wr_ne (by omega)]; exact a3, by rw [up_ne (by omega), e3]; exact a4, by rw [up_ne (by omega)]; exact a5, fun j j0 j1 => ?_, fun j j0 j1 => ?_⟩
  · rw [up_ne (a := h + 2) (by omega), wr_ne (i := 12 + j) (by omega)]
    refine ⟨?_, (a6 j j0 j1).2⟩
    by_cases e : j = i
    · rw [up_eq rfl e, wr_eq (by omega)]
    · rw [up_ne (Or.inr e), wr_ne (by omega)]
      exact (a6 j j0 j1).1
  · rw [e3] at j1
    rw [up_ne (a := h + 3) (by omega), up_ne (a := h) (by omega), wr_ne (by omega), wr_ne (by omega)]
    exact a7 j j0 j1
theorem HR_age {σ : jM} {h i v : Int} {r : Int → Int} (q : HR σ h r) (h0 : 0 ≤ i) (h1 : i < 8) : HR (up σ (h + 2) i v) h (wr r (12 + i) v) := by
  obtain ⟨a1, a2, a3, a4, a5, a6, a7⟩ := q
  have e3 : wr r (12 + i) v 3 = r 3 := wr_ne (by omega)
  refine ⟨by rw [up_ne (by omega), wr_ne (by omega)]; exact a1, by rw [up_ne (by omega), wr_ne (by omega)]; exact a2, by rw [up_ne (by omega), wr_ne (by omega)]; exact a3, by rw [up_ne (by omega), e3]; exact a4, by rw [up_ne (by omega)]; exact a5, fun j j0 j1 => ?_, fun j j0 j1 => ?_⟩
  · rw [up_ne (a := h + 1) (by omega), wr_ne (i := 4 + j) (by omega)]
    refine ⟨(a6 j j0 j1).1, ?_⟩
    by_cases e : j = i
    · rw [up_eq rfl e, wr_eq (by omega)]
    · rw [up_ne (Or.inr e), wr_ne (by omega)]
      exact (a6 j j0 j1).2
  · rw [e3] at j1
    rw [up_ne (a := h + 3) (by omega), up_ne (a := h) (by omega), wr_ne (by omega), wr_ne (by omega)]
    exact a7 j j0 j1
/-- a number of the house itself: (5, 2) the fund, (6, 0) the day, (7, 1) x -/
theorem HR_own {σ : jM} {h k j v : Int} {r : Int → Int} (q : HR σ h r) (hk : (k = 5 ∧ j = 2) ∨ (k = 6 ∧ j = 0) ∨ (k = 7 ∧ j = 1)) : HR (up σ h k v) h (wr r j v) := by
  obtain ⟨a1, a2, a3, a4, a5, a6, a7⟩ := q
  have e3 : wr r j v 3 = r 3 := wr_ne (by omega)
  refine ⟨?_, ?_, ?_, by rw [up_ne (by omega), e3]; exact a4, by rw [up_ne (by omega)]; exact a5, fun i j0 j1 => ?_, fun i j0 j1 => ?_⟩
  · rcases hk with ⟨rfl, rfl⟩ | ⟨rfl, rfl⟩ | ⟨rfl, rfl⟩
    · rw [up_ne (by omega), wr_ne (by omega)]; exact a1
    · rw [up_at, wr_at]
    · rw [up_ne (by omega), wr_ne (by omega)]; exact a1
  · rcases hk with ⟨rfl, rfl⟩ | ⟨rfl, rfl⟩ | ⟨rfl, rfl⟩
    · rw [up_ne (by omega), wr_ne (by omega)]; exact a2
    · rw [up_ne (by omega), wr_ne (by omega)]; exact a2
    · rw [up_at, wr_at]
  · rcases hk with ⟨rfl, rfl⟩ | ⟨rfl, rfl⟩ | ⟨rfl, rfl⟩
    · rw [up_at, wr_at]
    · rw [up_ne (by omega), wr_ne (by omega)]; exact a3
    · rw [up_ne (by omega), wr_ne (by omega)]; exact a3
  · rw [up_ne (by omega), up_ne (by omega), wr_ne (by omega), wr_ne (by omega)]
    exact a6 i j0 j1
  · rw [e3] at j1
    rw [up_ne (a := h + 3) (by omega), up_ne (a := h) (by omega), wr_ne (by omega), wr_ne (by omega)]
    exact a7 i j0 j1
def fullB (r : Int → Int) (c : Int) : Bool := decide (0 ≤ c) && decide (c < 8) && decide (0 < r (4 + c))
theorem fullB_t {r : Int → Int} {c : Int} (h : fullB r c = true) : 0 ≤ c ∧ c < 8 ∧ 0 < r (4 + c) := by
  unfold fullB at h
  simp only [Bool.and_eq_true, decide_eq_true_eq] at h
  exact ⟨h.1.1, h.1.2, h.2⟩
theorem fullB_of {r : Int → Int} {c : Int} (h0 : 0 ≤ c) (h1 : c < 8) (h2 : 0 < r (4 + c)) : fullB r c = true := by
  unfold fullB
  simp only [Bool.and_eq_true, decide_eq_true_eq]
  exact ⟨⟨h0, h1⟩, h2⟩
theorem fullB_no {r : Int → Int} {c : Int} (h : c < 0 ∨ 8 ≤ c ∨ r (4 + c) ≤ 0) : fullB r c = false := by
  cases e : fullB r c with
  | false => rfl
  | true => have := fullB_t e; omega
def b01 (b : Bool) : Int := if b then 1 else 0
theorem b01_0 {b : Bool} : b01 b = 0 ↔ b = false := by cases b <;> simp [b01]
theorem b01_R {b : Bool} : inR (b01 b) := by cases b <;> exact ⟨by decide, by decide⟩
theorem b01_2 {b : Bool} : b01 b = 0 ∨ b01 b = 1 := by cases b <;> simp [b01]
section HS
variable {d : Nat} {t : Int} {Q : Int → jM → Prop} {σ : jM} {h : Int} {r : Int → Int}
theorem h_holds {c : Int} (h0 : ob (GG t) h 1) (q : HR σ h r) (v : RV r) (hc : inR c) (k : Q (b01 (fullB r c)) σ) : Ct mX1_holds d 0 t [rv h, iv c] σ Q := by
  refine c_X1_holds h0 ⟨hc, fun z => ?_, fun z => ⟨hc, fun y => ?_, fun y => ⟨⟨z, y⟩, ?_⟩⟩⟩
  · rw [fullB_no (by omega)] at k; exact k
  · rw [fullB_no (by omega)] at k; exact k
  · have e := (q.2.2.2.2.2.1 c z y).1
    have rg := v.2.2.2.2.1 c z y
    rw [e]
    refine ⟨rng (by omega) (by omega), fun x => ?_, fun x => ?_⟩
    · rw [fullB_no (by omega)] at k; exact k
    · rw [fullB_of z y x] at k; exact k
def crockR (r : Int → Int) (n : Int) : Int := lowF (fun i => decide (r (4 + i) = n)) 8 0
theorem h_crockWith {n : Int} (h0 : ob (GG t) h 1) (q : HR σ h r) (v : RV r) (hn : inR n) (k : Q (crockR r n) σ) : Ct mX1_crockWith d 0 t [rv h, iv n] σ Q := by
  refine c_X1_crockWith h0 ?_
  have key : ∀ (j : Nat) (i : Int), 0 ≤ i → i + j = 8 → Q (lowF (fun i => decide (r (4 + i) = n)) j i) σ → Jt mX1_crockWith (d) 0 t Q 2 [rv h, iv n, iv i] [] σ := by
    intro j
    induction j with
    | zero =>
      intro i h1 h2 k
      exact b_X1_crockWith_2 h0 ⟨rng (by omega) (by omega), fun _ => k, fun z => absurd z (by omega)⟩
    | succ j ih =>
      intro i h1 h2 k
      rw [lowF] at k
      have e := (q.2.2.2.2.2.1 i h1 (by omega)).1
      have rg := v.2.2.2.2.1 i h1 (by omega)
      refine b_X1_crockWith_2 h0 ⟨rng (by omega) (by omega), fun z => absurd z (by omega), fun z => ⟨⟨h1, z⟩, ?_⟩⟩
      rw [e]
      refine ⟨rng (by omega) (by omega), hn, fun x => ?_, fun x => ?_⟩
      · rw [if_neg (by simpa using x)] at k
        exact ih (i + 1) (by omega) (by omega) k
      · rw [if_pos (by simpa using x)] at k
        exact k
  exact key 8 0 (by omega) (by omega) k
theorem crockR_in {r : Int → Int} {n : Int} : crockR r n = -1 ∨ (0 ≤ crockR r n ∧ crockR r n < 8 ∧ r (4 + crockR r n) = n) := by
  rcases lowF_in (p := fun i => decide (r (4 + i) = n)) 8 0 with e | ⟨a, b, c⟩
  · exact Or.inl e
  · exact Or.inr ⟨a, by have b : crockR r n < 0 + (8 : Nat) := b; omega, of_decide_eq_true c⟩
theorem crockR_R {r : Int → Int} {n : Int} : inR (crockR r n) := by
  rcases crockR_in (r := r) (n := n) with e | e
  · rw [e]; exact ⟨by decide, by decide⟩
  · exact ⟨by omega, by omega⟩
def canB (r : Int → Int) (a b : Int) : Bool := fullB r a && (fullB r b && (decide (r (4 + a) + r (4 + b) ≤ 9999) && !(decide (crockR r 0 = -1))))
theorem h_joinable {a b : Int} (h0 : ob (GG t) h 1) (q : HR σ h r) (v : RV r) (ha : inR a) (hb : inR b) (k : Q (b01 (canB r a b)) σ) : Ct mX1_joinable (d + 1) 0 t [rv h, iv a, iv b] σ Q := by
  refine c_X1_joinable h0 (h_holds h0 q v ha ⟨b01_R, fun z => ?_, fun z => ?_⟩)
  · have e : canB r a b = false := by unfold canB; rw [b01_0.mp z]; rfl
    rw [e] at k; exact k
  · have fa : fullB r a = true := by
      cases e : fullB r a with
      | true => rfl
      | false => exact absurd (b01_0.mpr e) z
    refine h_holds h0 q v hb ⟨b01_R, fun y => ?_, fun y => ?_⟩
    · have e : canB r a b = false := by unfold canB; rw [b01_0.mp y]; simp
      rw [e] at k; exact k
    · have fb : fullB r b = true := by
        cases e : fullB r b with
        | true => rfl
        | false => exact absurd (b01_0.mpr e) y
      obtain ⟨a1, a2, a3⟩ := fullB_t fa
      obtain ⟨b1, b2, b3⟩ := fullB_t fb
      have ga := v.2.2.2.2.1 a a1 a2
      have gb := v.2.2.2.2.1 b b1 b2
      rw [(q.2.2.2.2.2.1 a a1 a2).1, (q.2.2.2.2.2.1 b b1 b2).1]
      refine ⟨⟨a1, a2⟩, ⟨b1, b2⟩, rng (by omega) (by omega), fun x => ?_, fun x => ?_⟩
      · have e : canB r a b = false := by unfold canB; rw [fa, fb]; simp; omega
        rw [e] at k; exact k
      · refine h_crockWith h0 q v in0 ⟨crockR_R, fun w => ?_, fun w => ?_⟩
        · have e : canB r a b = false := by unfold canB; rw [w]; simp
          rw [e] at k; exact k
        · have e : canB r a b = true := by unfold canB; rw [fa, fb]; simp [w]; omega
          rw [e] at k; exact k
theorem HR_line {σ' : jM} {at' w p : Int} (q : HR σ h r) (v : RV r) (ha : at' = (σ h 3 + r 3) % 25) (he : σ' = if r 3 = 25 then up (up σ (h + 3) at' (w * 10000 + p)) h 3 ((σ h 3 + 1) % 25) else up (up σ (h + 3) at' (w * 10000 + p)) h 4 (r 3 + 1)) : HR σ' h (writeR r w p) := by
  obtain ⟨a1, a2, a3, a4, a5, a6, a7⟩ := q
  obtain ⟨v1, v2, v3, v4, v5, v6⟩ := v
  have p3 := preR_3 v4.2
  have lo : ∀ i, i ≠ 3 → i < 20 → writeR r w p i = r i := fun i x y => writeR_lo x y v4.1 v4.2
  by_cases e : r 3 = 25
  · rw [if_pos e] at he
    subst he
    refine ⟨by rw [up_ne (by omega), up_ne (by omega), lo _ (by omega) (by omega)]; exact a1, by rw [up_ne (by omega), up_ne (by omega), lo _ (by omega) (by omega)]; exact a2, by rw [up_ne (by omega), up_ne (by omega), lo _ (by omega) (by omega)]; exact a3, by rw [up_ne (by omega), up_ne (by omega), writeR_3, a4]; omega, by rw [up_at]; omega, fun i i0 i1 => ?_, fun i i0 i1 => ?_⟩
    · rw [up_ne (by omega), up_ne (by omega), up_ne (by omega), up_ne (by omega), lo _ (by omega) (by omega), lo _ (by omega) (by omega)]
      exact a6 i i0 i1
    · rw [writeR_3] at i1
      rw [up_at, up_ne (by omega), writeR_v v4.1 v4.2 i0 (by omega), writeR_p v4.1 v4.2 i0 (by omega)]
      by_cases e1 : i = preR r 3
      · rw [if_pos e1, if_pos e1, up_eq rfl (by omega)]
      · rw [if_neg e1, if_neg e1, preR_hi (by omega) (by omega), preR_hi (by omega) (by omega), if_pos e, if_pos e, up_ne (Or.inr (by omega))]
        have := a7 (i + 1) (by omega) (by omega)
        rw [show ((σ h 3 + 1) % 25 + i) % 25 = (σ h 3 + (i + 1)) % 25 by omega, this]
        rw [show 20 + 2 * i + 2 = 20 + 2 * (i + 1) by omega, show 21 + 2 * i + 2 = 21 + 2 * (i + 1) by omega]
  · rw [if_neg e] at he
    subst he
    refine ⟨by rw [up_ne (by omega), up_ne (by omega), lo _ (by omega) (by omega)]; exact a1, by rw [up_ne (by omega), up_ne (by omega), lo _ (by omega) (by omega)]; exact a2, by rw [up_ne (by omega), up_ne (by omega), lo _ (by omega) (by omega)]; exact a3, by rw [up_at, writeR_3]; omega, by rw [up_ne (by omega), up_ne (by omega)]; exact a5, fun i i0 i1 => ?_, fun i i0 i1 => ?_⟩
    · rw [up_ne (by omega), up_ne (by omega), up_ne (by omega), up_ne (by omega), lo _ (by omega) (by omega), lo _ (by omega) (by omega)]
      exact a6 i i0 i1
    · rw [writeR_3] at i1
      rw [up_ne (a := h + 3) (by omega), up_ne (a := h) (by omega), up_ne (a := h) (by omega), writeR_v v4.1 v4.2 i0 (by omega), writeR_p v4.1 v4.2 i0 (by omega)]
      by_cases e1 : i = preR r 3
      · rw [if_pos e1, if_pos e1, up_eq rfl (by omega)]
      · rw [if_neg e1, if_neg e1, preR_hi (by omega) (by omega), preR_hi (by omega) (by omega), if_neg e, if_neg e, up_ne (Or.inr (by omega))]
        exact a7 i i0 (by omega)
theorem h_writeDown {kind c p : Int} (h0 : ob (GG t) h 1) (q : HR σ h r) (v : RV r) (hk : 0 ≤ kind ∧ kind ≤ 3) (hc : 0 ≤ c ∧ c < 8) (hp : 0 ≤ p ∧ p < 10000)
    (k : ∀ σ', HR σ' h (writeR r ((r 0 * 4 + kind) * 8 + c) p) → off4 h σ σ' → Q 0 σ') : Ct mX1_writeDown d 9 t [rv h, iv kind, iv c, iv p] σ Q := by
  have a3 := q.2.2.2.1
  have a5 := q.2.2.2.2.1
  have v4 := v.2.2.2.1
  have v1 := v.1
  have a1 := q.1
  refine c_X1_writeDown h0 ?_
  rw [tm (show (0 : Int) ≤ σ h 3 + σ h 4 by omega)]
  refine ⟨rng (by omega) (by omega), rng (by omega) (by omega), rng (by omega) (by omega), rng (by omega) (by omega), rng (by omega) (by omega), by omega, fun σ7 e7 => ?_⟩
  have n4 : σ7 h 4 = r 3 := by rw [e7, up_ne (by omega)]; exact a3
  have n3 : σ7 h 3 = σ h 3 := by rw [e7, up_ne (by omega)]
  rw [n4, n3]
  refine ⟨rng (by omega) (by omega), fun z => ⟨rng (by omega) (by omega), fun σ10 e10 => ?_⟩, fun z => fun σ11 e11 => ?_⟩
  · refine k σ10 (HR_line q v rfl ?_) ?_
    · rw [if_pos (by omega), e10, e7, a3, a1, tm (by omega)]
    · rw [e10, e7]
      exact off4_up (off4_up off4_rf (by omega) (by omega)) (by omega) (by omega)
  · refine k σ11 (HR_line q v rfl ?_) ?_
    · rw [if_neg (by omega), e11, e7, a3, a1]
    · rw [e11, e7]
      exact off4_up (off4_up off4_rf (by omega) (by omega)) (by omega) (by omega)
end HS
