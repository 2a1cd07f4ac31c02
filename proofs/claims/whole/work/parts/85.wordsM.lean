/-! ===== the reference's tokens by the class's kinds ===== -/
def TK (tm kd wv : Int) : Prop := (tm = 0 ∧ kd = 0) ∨ (tm = 1 ∧ kd = 1) ∨ (tm = 2 ∧ kd = wkA wv ∧ (kd = 2 ∨ (100 ≤ kd ∧ kd ≤ 121))) ∨ (tm = 4 ∧ kd = 3) ∨ (tm = 5 ∧ kd = 4) ∨ (tm = 3 ∧ kd = 2) ∨ (tm = 58 ∧ kd = 2) ∨ ((tm = 35 ∨ tm = 40 ∨ tm = 41 ∨ tm = 42 ∨ tm = 43 ∨ tm = 45 ∨ tm = 47 ∨ tm = 59 ∨ tm = 60 ∨ tm = 61 ∨ tm = 62) ∧ kd = tm)
theorem sgM_iff {b : Int} : sgM b = true ↔ (b = 35 ∨ b = 40 ∨ b = 41 ∨ b = 42 ∨ b = 43 ∨ b = 45 ∨ b = 47 ∨ b = 58 ∨ b = 59 ∨ b = 60 ∨ b = 61 ∨ b = 62) := by unfold sgM; exact decide_eq_true_iff
theorem sgC_iff {b : Int} : sgC b = true ↔ (b = 35 ∨ b = 40 ∨ b = 41 ∨ b = 42 ∨ b = 43 ∨ b = 45 ∨ b = 47 ∨ b = 59 ∨ b = 60 ∨ b = 61 ∨ b = 62) := by unfold sgC; exact decide_eq_true_iff
theorem TK_Q {T : Int → Int} {n q : Int} : TK (tmQ T n q) (kdQ T n q) (wpA T q (rnE isLt T n q - q).toNat) := by
  have w := wkA_in (v := wpA T q (rnE isLt T n q - q).toNat)
  unfold tmQ kdQ TK
  by_cases h0 : btA T n q < 0
  · rw [if_pos h0, if_pos h0]
    exact Or.inl ⟨rfl, rfl⟩
  · rw [if_neg h0, if_neg h0]
    by_cases h1 : isDg (btA T n q) = true
    · rw [if_pos h1, if_pos h1]
      exact Or.inr (Or.inl ⟨rfl, rfl⟩)
    · rw [if_neg h1, if_neg h1]
      by_cases h2 : isLt (btA T n q) = true
      · rw [if_pos h2, if_pos h2]
        exact Or.inr (Or.inr (Or.inl ⟨rfl, rfl, w⟩))
      · rw [if_neg h2, if_neg h2]
        by_cases h3 : (btA T n q = 60 ∨ btA T n q = 62) ∧ btA T n (q + 1) = 61
        · rw [if_pos h3, if_pos h3]
          by_cases h4 : btA T n q = 60
          · rw [if_pos h4, if_pos h4]
            exact Or.inr (Or.inr (Or.inr (Or.inl ⟨rfl, rfl⟩)))
          · rw [if_neg h4, if_neg h4]
            exact Or.inr (Or.inr (Or.inr (Or.inr (Or.inl ⟨rfl, rfl⟩))))
        · rw [if_neg h3, if_neg h3]
          by_cases h5 : sgM (btA T n q) = true
          · rw [if_pos h5]
            have m := sgM_iff.mp h5
            by_cases h6 : sgC (btA T n q) = true
            · rw [if_pos h6]
              have m2 := sgC_iff.mp h6
              exact Or.inr (Or.inr (Or.inr (Or.inr (Or.inr (Or.inr (Or.inr ⟨by omega, rfl⟩))))))
            · rw [if_neg h6]
              have m2 := mt sgC_iff.mpr h6
              exact Or.inr (Or.inr (Or.inr (Or.inr (Or.inr (Or.inr (Or.inl ⟨by omega, rfl⟩))))))
          · rw [if_neg h5]
            have m := mt sgM_iff.mpr h5
            have h6 : ¬ sgC (btA T n q) = true := fun y => by
              have m2 := sgC_iff.mp y
              omega
            rw [if_neg h6]
            exact Or.inr (Or.inr (Or.inr (Or.inr (Or.inr (Or.inl ⟨rfl, rfl⟩)))))
section MW
variable {d : Nat} {t : Int} {Q : Int → jM → Prop} {σ : jM} {T : Int → Int} {n p : Int}
theorem RT_tk (r : RT σ T n p) : TK (σ 321 9) (kT T n p) (wpA T (plT T n p) (rnE isLt T n (plT T n p) - plT T n p).toNat) ∧ (σ 321 9 = 2 → σ 321 11 = wpA T (plT T n p) (rnE isLt T n (plT T n p) - plT T n p).toNat) := by
  have e9 : σ 321 9 = tmQ T n (plT T n p) := r.2.2.2.1
  rw [e9]
  exact ⟨TK_Q, fun z => r.2.2.2.2.2 z⟩
/-- a word at hand -/
theorem RT_word {C k : Int} (r : RT σ T n p) (hk : 100 ≤ k ∧ k ≤ 121) (hc : ∀ v, wkA v = k ↔ v = C) : (kT T n p = k ↔ (σ 321 9 = 2 ∧ σ 321 11 = C)) := by
  obtain ⟨a, b⟩ := RT_tk r
  constructor
  · intro e
    rw [e] at a
    unfold TK at a
    have e2 : σ 321 9 = 2 ∧ k = wkA (wpA T (plT T n p) (rnE isLt T n (plT T n p) - plT T n p).toNat) := by
      rcases a with a | a | a | a | a | a | a | a
      · omega
      · omega
      · exact ⟨a.1, a.2.1⟩
      · omega
      · omega
      · omega
      · omega
      · omega
    exact ⟨e2.1, by rw [b e2.1]; exact (hc _).mp e2.2.symm⟩
  · intro ⟨e1, e2⟩
    rw [b e1] at e2
    have w := (hc _).mpr e2
    unfold TK at a
    rcases a with a | a | a | a | a | a | a | a
    · omega
    · omega
    · rw [a.2.1]; exact w
    · omega
    · omega
    · omega
    · omega
    · omega
theorem m_w2 {x y : Int} (hx : 0 ≤ x ∧ x < 256) (hy : 0 ≤ y ∧ y < 256) (h : Q (256 * x + y) σ) : Ct mX12_w2 d 1 t [iv x, iv y] σ Q := c_X12_w2 ⟨rng (by omega) (by omega), rng (by omega) (by omega), by rw [l_add8 (by omega) (by omega) (by omega) (by omega)]; exact h⟩
theorem m_w3 {x y z : Int} (hx : 0 ≤ x ∧ x < 256) (hy : 0 ≤ y ∧ y < 256) (hz : 0 ≤ z ∧ z < 256) (h : Q (256 * (256 * x + y) + z) σ) : Ct mX12_w3 (d + 1) 1 t [iv x, iv y, iv z] σ Q := c_X12_w3 (m_w2 hx hy ⟨rng (by omega) (by omega), by rw [l_add8 (by omega) (by omega) (by omega) (by omega)]; exact h⟩)
theorem m_w4 {x y z u : Int} (hx : 0 ≤ x ∧ x < 256) (hy : 0 ≤ y ∧ y < 256) (hz : 0 ≤ z ∧ z < 256) (hu : 0 ≤ u ∧ u < 256) (h : Q (256 * (256 * (256 * x + y) + z) + u) σ) : Ct mX12_w4 (d + 2) 1 t [iv x, iv y, iv z, iv u] σ Q := c_X12_w4 (m_w3 hx hy hz ⟨rng (by omega) (by omega), by rw [l_add8 (by omega) (by omega) (by omega) (by omega)]; exact h⟩)
theorem m_w5 {x y z u v : Int} (hx : 0 ≤ x ∧ x < 256) (hy : 0 ≤ y ∧ y < 256) (hz : 0 ≤ z ∧ z < 256) (hu : 0 ≤ u ∧ u < 256) (hv : 0 ≤ v ∧ v < 256) (h : Q (256 * (256 * (256 * (256 * x + y) + z) + u) + v) σ) : Ct mX12_w5 (d + 3) 1 t [iv x, iv y, iv z, iv u, iv v] σ Q := c_X12_w5 (m_w4 hx hy hz hu ⟨rng (by omega) (by omega), by rw [l_add8 (by omega) (by omega) (by omega) (by omega)]; exact h⟩)
theorem m_w6 {x y z u v w : Int} (hx : 0 ≤ x ∧ x < 256) (hy : 0 ≤ y ∧ y < 256) (hz : 0 ≤ z ∧ z < 256) (hu : 0 ≤ u ∧ u < 256) (hv : 0 ≤ v ∧ v < 256) (hw : 0 ≤ w ∧ w < 256) (h : Q (256 * (256 * (256 * (256 * (256 * x + y) + z) + u) + v) + w) σ) : Ct mX12_w6 (d + 4) 1 t [iv x, iv y, iv z, iv u, iv v, iv w] σ Q := c_X12_w6 (m_w5 hx hy hz hu hv ⟨rng (by omega) (by omega), by rw [l_add8 (by omega) (by omega) (by omega) (by omega)]; exact h⟩)
end MW
