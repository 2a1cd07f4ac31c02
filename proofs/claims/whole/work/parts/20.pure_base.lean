/-! ===== plain words for the specs ===== -/
theorem rng {x : Int} (h : -2147483648 ≤ x) (h2 : x < 2147483648) : inR x := ⟨h, h2⟩
theorem rngL {x : Int} (h : -9223372036854775808 ≤ x) (h2 : x < 9223372036854775808) : inL x := ⟨h, h2⟩
theorem tm {x n : Int} (h : 0 ≤ x) : Int.tmod x n = x % n := Int.tmod_eq_emod_of_nonneg h
theorem td {x n : Int} (h : 0 ≤ x) : Int.tdiv x n = x / n := Int.tdiv_eq_ediv_of_nonneg h
theorem up_eq {σ : jM} {c i v a j : Int} (h : a = c) (h2 : j = i) : up σ c i v a j = v := by subst h; subst h2; exact up_at
/-- the least number from i on, of k, with p; none: -1 -/
def lowF (p : Int → Bool) : Nat → Int → Int
  | 0, _ => -1
  | k + 1, i => if p i then i else lowF p k (i + 1)
theorem lowF_congr {p q : Int → Bool} : ∀ (k : Nat) (i : Int), (∀ j, i ≤ j → j < i + k → p j = q j) → lowF p k i = lowF q k i
  | 0, _, _ => rfl
  | k + 1, i, h => by
    rw [lowF, lowF, h i (by omega) (by omega), lowF_congr k (i + 1) (fun j h1 h2 => h j (by omega) (by omega))]
theorem lowF_in {p : Int → Bool} : ∀ (k : Nat) (i : Int), lowF p k i = -1 ∨ (i ≤ lowF p k i ∧ lowF p k i < i + k ∧ p (lowF p k i) = true)
  | 0, _ => Or.inl rfl
  | k + 1, i => by
    rw [lowF]
    by_cases h : p i = true
    · rw [if_pos h]
      exact Or.inr ⟨by omega, by omega, h⟩
    · rw [if_neg h]
      rcases lowF_in (p := p) k (i + 1) with h1 | ⟨h1, h2, h3⟩
      · exact Or.inl h1
      · exact Or.inr ⟨by omega, by omega, h3⟩
/-- rows -/
def wr (r : Int → Int) (k v : Int) : Int → Int := fun i => if i = k then v else r i
theorem wr_at {r : Int → Int} {k v : Int} : wr r k v k = v := by unfold wr; rw [if_pos rfl]
theorem wr_eq {r : Int → Int} {k v i : Int} (h : i = k) : wr r k v i = v := by subst h; exact wr_at
theorem wr_ne {r : Int → Int} {k v i : Int} (h : i ≠ k) : wr r k v i = r i := by unfold wr; rw [if_neg h]
/-- the world with one row changed -/
def sr (σ : jM) (c : Int) (f : Int → Int) : jM := fun a => if a = c then f else σ a
theorem sr_at {σ : jM} {c : Int} {f : Int → Int} : sr σ c f c = f := by unfold sr; rw [if_pos rfl]
theorem sr_ne {σ : jM} {c a : Int} {f : Int → Int} (h : a ≠ c) : sr σ c f a = σ a := by unfold sr; rw [if_neg h]
theorem up_sr {σ : jM} {c i v : Int} : up σ c i v = sr σ c (wr (σ c) i v) := by
  funext a j
  unfold up sr wr
  by_cases h : a = c
  · subst h
    by_cases h2 : j = i
    · rw [if_pos ⟨rfl, h2⟩, if_pos rfl, if_pos h2]
    · rw [if_neg (fun q => h2 q.2), if_pos rfl, if_neg h2]
  · rw [if_neg (fun q => h q.1), if_neg h]
theorem sr_sr {σ : jM} {c : Int} {f g : Int → Int} : sr (sr σ c f) c g = sr σ c g := by
  funext a
  unfold sr
  by_cases h : a = c
  · rw [if_pos h, if_pos h]
  · rw [if_neg h, if_neg h, if_neg h]
theorem sr_id {σ : jM} {c : Int} : sr σ c (σ c) = σ := by
  funext a
  unfold sr
  by_cases h : a = c
  · rw [if_pos h, h]
  · rw [if_neg h]
/-! ===== a house as one row of 70: 0 day, 1 x, 2 fund, 3 lines, 4.. pounds, 12.. ages, 20.. the book ===== -/
def RV (r : Int → Int) : Prop := (0 ≤ r 0 ∧ r 0 ≤ 9999) ∧ (0 ≤ r 1 ∧ r 1 < 30997) ∧ (0 ≤ r 2 ∧ r 2 ≤ 999999) ∧ (0 ≤ r 3 ∧ r 3 ≤ 25) ∧ (∀ i, 0 ≤ i → i < 8 → (0 ≤ r (4 + i) ∧ r (4 + i) ≤ 9999 ∧ 0 ≤ r (12 + i) ∧ r (12 + i) ≤ 99)) ∧ (∀ i, 0 ≤ i → i < r 3 → (0 ≤ r (20 + 2 * i) ∧ r (20 + 2 * i) < 320000 ∧ 0 ≤ r (21 + 2 * i) ∧ r (21 + 2 * i) < 10000))
/-- the class's house at cell h holds the row r -/
def HR (σ : jM) (h : Int) (r : Int → Int) : Prop := σ h 6 = r 0 ∧ σ h 7 = r 1 ∧ σ h 5 = r 2 ∧ σ h 4 = r 3 ∧ (0 ≤ σ h 3 ∧ σ h 3 < 25) ∧ (∀ i, 0 ≤ i → i < 8 → (σ (h + 1) i = r (4 + i) ∧ σ (h + 2) i = r (12 + i))) ∧ (∀ i, 0 ≤ i → i < r 3 → σ (h + 3) ((σ h 3 + i) % 25) = r (20 + 2 * i) * 10000 + r (21 + 2 * i))
/-- nothing but the house's four cells has changed -/
def off4 (h : Int) (σ σ' : jM) : Prop := ∀ c, c < h ∨ h + 3 < c → σ' c = σ c
theorem off4_rf {h : Int} {σ : jM} : off4 h σ σ := fun _ _ => rfl
theorem off4_tr {h : Int} {σ σ1 σ2 : jM} (a : off4 h σ σ1) (b : off4 h σ1 σ2) : off4 h σ σ2 := fun c hc => (b c hc).trans (a c hc)
theorem off4_up {h : Int} {σ σ1 : jM} {c i v : Int} (a : off4 h σ σ1) (h1 : h ≤ c) (h2 : c ≤ h + 3) : off4 h σ (up σ1 c i v) := fun q hq => by
  rw [up_row (by omega)]
  exact a q hq
/-- a line is written: the eldest goes if there are 25 -/
def shR (r : Int → Int) : Int → Int := fun i => if i = 3 then 24 else if 20 ≤ i ∧ i < 68 then r (i + 2) else r i
def preR (r : Int → Int) : Int → Int := if r 3 = 25 then shR r else r
def writeR (r : Int → Int) (v p : Int) : Int → Int := wr (wr (wr (preR r) (20 + 2 * preR r 3) v) (21 + 2 * preR r 3) p) 3 (preR r 3 + 1)
theorem preR_3 {r : Int → Int} (h : r 3 ≤ 25) : preR r 3 ≤ 24 ∧ (r 3 < 25 → preR r 3 = r 3) ∧ (r 3 = 25 → preR r 3 = 24) := by
  unfold preR
  by_cases h2 : r 3 = 25
  · rw [if_pos h2]
    have : shR r 3 = 24 := by unfold shR; rw [if_pos rfl]
    omega
  · rw [if_neg h2]
    omega
theorem preR_lo {r : Int → Int} {i : Int} (h : i < 20) (h3 : i ≠ 3) : preR r i = r i := by
  unfold preR
  by_cases h2 : r 3 = 25
  · rw [if_pos h2]
    unfold shR
    rw [if_neg h3, if_neg (by omega)]
  · rw [if_neg h2]
theorem preR_hi {r : Int → Int} {i : Int} (h0 : 20 ≤ i) (h : i < 68) : preR r i = if r 3 = 25 then r (i + 2) else r i := by
  unfold preR
  by_cases h2 : r 3 = 25
  · rw [if_pos h2, if_pos h2]
    unfold shR
    rw [if_neg (by omega), if_pos ⟨h0, h⟩]
  · rw [if_neg h2, if_neg h2]
theorem writeR_lo {r : Int → Int} {v p i : Int} (h3 : i ≠ 3) (h : i < 20) (hn : 0 ≤ r 3) (h25 : r 3 ≤ 25) : writeR r v p i = r i := by
  have q := preR_3 h25
  unfold writeR
  rw [wr_ne h3, wr_ne (by omega), wr_ne (by omega), preR_lo h h3]
theorem writeR_3 {r : Int → Int} {v p : Int} : writeR r v p 3 = preR r 3 + 1 := by
  unfold writeR
  rw [wr_at]
theorem writeR_v {r : Int → Int} {v p i : Int} (hn : 0 ≤ r 3) (h25 : r 3 ≤ 25) (h0 : 0 ≤ i) (hi : i ≤ preR r 3) : writeR r v p (20 + 2 * i) = if i = preR r 3 then v else preR r (20 + 2 * i) := by
  have q := preR_3 h25
  unfold writeR
  rw [wr_ne (by omega), wr_ne (by omega)]
  by_cases e : i = preR r 3
  · rw [if_pos e, wr_eq (by omega)]
  · rw [if_neg e, wr_ne (by omega)]
theorem writeR_p {r : Int → Int} {v p i : Int} (hn : 0 ≤ r 3) (h25 : r 3 ≤ 25) (h0 : 0 ≤ i) (hi : i ≤ preR r 3) : writeR r v p (21 + 2 * i) = if i = preR r 3 then p else preR r (21 + 2 * i) := by
  have q := preR_3 h25
  unfold writeR
  rw [wr_ne (by omega)]
  by_cases e : i = preR r 3
  · rw [if_pos e, wr_eq (by omega)]
  · rw [if_neg e, wr_ne (by omega), wr_ne (by omega)]
theorem writeR_RV {r : Int → Int} {v p : Int} (h : RV r) (hv : 0 ≤ v ∧ v < 320000) (hp : 0 ≤ p ∧ p < 10000) : RV (writeR r v p) := by
  obtain ⟨a, b, c, e, f, g⟩ := h
  have q := preR_3 e.2
  refine ⟨by rw [writeR_lo (by omega) (by omega) e.1 e.2]; exact a, by rw [writeR_lo (by omega) (by omega) e.1 e.2]; exact b, by rw [writeR_lo (by omega) (by omega) e.1 e.2]; exact c, by rw [writeR_3]; omega, fun i h0 h1 => ?_, fun i h0 h1 => ?_⟩
  · rw [writeR_lo (by omega) (by omega) e.1 e.2, writeR_lo (by omega) (by omega) e.1 e.2]
    exact f i h0 h1
  · rw [writeR_3] at h1
    rw [writeR_v e.1 e.2 h0 (by omega), writeR_p e.1 e.2 h0 (by omega)]
    by_cases e1 : i = preR r 3
    · rw [if_pos e1, if_pos e1]
      omega
    · rw [if_neg e1, if_neg e1, preR_hi (by omega) (by omega), preR_hi (by omega) (by omega)]
      by_cases e2 : r 3 = 25
      · rw [if_pos e2, if_pos e2]
        have := g (i + 1) (by omega) (by omega)
        rw [show 20 + 2 * i + 2 = 20 + 2 * (i + 1) by omega, show 21 + 2 * i + 2 = 21 + 2 * (i + 1) by omega]
        exact this
      · rw [if_neg e2, if_neg e2]
        exact g i h0 (by omega)
/-- one number of the row changes, ahead of the book -/
theorem wr_RV {r : Int → Int} {k v : Int} (h : RV r) (hk : 0 ≤ k ∧ k < 20 ∧ k ≠ 3) (h0 : k = 0 → 0 ≤ v ∧ v ≤ 9999) (h1 : k = 1 → 0 ≤ v ∧ v < 30997) (h2 : k = 2 → 0 ≤ v ∧ v ≤ 999999) (h4 : 4 ≤ k → k < 12 → 0 ≤ v ∧ v ≤ 9999) (h12 : 12 ≤ k → 0 ≤ v ∧ v ≤ 99) : RV (wr r k v) := by
  obtain ⟨a, b, c, e, f, g⟩ := h
  have e3 : wr r k v 3 = r 3 := wr_ne (by omega)
  refine ⟨?_, ?_, ?_, by rw [e3]; exact e, fun i i0 i1 => ?_, fun i i0 i1 => ?_⟩
  · by_cases q : (0 : Int) = k
    · rw [wr_eq q]; exact h0 q.symm
    · rw [wr_ne q]; exact a
  · by_cases q : (1 : Int) = k
    · rw [wr_eq q]; exact h1 q.symm
    · rw [wr_ne q]; exact b
  · by_cases q : (2 : Int) = k
    · rw [wr_eq q]; exact h2 q.symm
    · rw [wr_ne q]; exact c
  · have fi := f i i0 i1
    by_cases q : 4 + i = k
    · rw [wr_eq q, wr_ne (by omega)]
      have := h4 (by omega) (by omega)
      omega
    · rw [wr_ne q]
      by_cases q2 : 12 + i = k
      · rw [wr_eq q2]
        have := h12 (by omega)
        omega
      · rw [wr_ne q2]; exact fi
  · rw [e3] at i1
    rw [wr_ne (by omega), wr_ne (by omega)]
    exact g i i0 i1
