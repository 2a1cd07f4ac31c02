/-! ===== the reference: steps, joins ===== -/
/-- the row behind keep() -/
def k1A (A : Int → Int) : Int → Int := if A 2 = 30 then wr (shA A 58 70 2030) 2 29 else A
def keepA (A : Int → Int) : Int → Int := wr (cpA (k1A A) (cpA (k1A A) (k1A A) 6 (58 + 70 * k1A A 2) 20) 2158 (58 + 70 * k1A A 2 + 20) 50) 2 (k1A A 2 + 1)
theorem k1A_2 {A : Int → Int} (h : 0 ≤ A 2 ∧ A 2 ≤ 30) : 0 ≤ k1A A 2 ∧ k1A A 2 ≤ 29 ∧ (A 2 = 30 → k1A A 2 = 29) ∧ (A 2 ≠ 30 → k1A A 2 = A 2) := by
  unfold k1A
  by_cases e : A 2 = 30
  · rw [if_pos e, wr_at]; omega
  · rw [if_neg e]; omega
theorem k1A_out {A : Int → Int} {i : Int} (h : i ≠ 2) (h2 : i < 58 ∨ 2088 ≤ i) : k1A A i = A i := by
  unfold k1A
  by_cases e : A 2 = 30
  · rw [if_pos e, wr_ne h]; unfold shA; rw [if_neg (by omega)]
  · rw [if_neg e]
theorem keepA_2 {A : Int → Int} (h : 0 ≤ A 2 ∧ A 2 ≤ 30) : keepA A 2 = if A 2 = 30 then 30 else A 2 + 1 := by
  have q := k1A_2 h
  unfold keepA
  rw [wr_at]
  by_cases e : A 2 = 30
  · rw [if_pos e]; omega
  · rw [if_neg e]; omega
theorem keepA_out {A : Int → Int} {i : Int} (h : 0 ≤ A 2 ∧ A 2 ≤ 30) (hi : i ≠ 2) (h2 : i < 58 ∨ 2158 ≤ i) : keepA A i = A i := by
  have q := k1A_2 h
  unfold keepA
  rw [wr_ne hi]
  unfold cpA
  rw [if_neg (by omega), if_neg (by omega), k1A_out hi (by omega)]
theorem keepA_row {A : Int → Int} (h : 0 ≤ A 2 ∧ A 2 ≤ 30) : eqr (mrow (keepA A)) (mrow A) := by
  intro i h0 h1
  by_cases e : i < 20
  · rw [mrow_lo e, mrow_lo e, keepA_out h (by omega) (by omega)]
  · rw [mrow_hi (by omega), mrow_hi (by omega), keepA_out h (by omega) (by omega)]
theorem keepA_step {A : Int → Int} (h : 0 ≤ A 2 ∧ A 2 ≤ 30) {k : Int} (k0 : 0 ≤ k) (hk : k < keepA A 2) : eqr (srow (keepA A) k) (pushF (A 2) (srow A) (mrow A) k) := by
  have q := k1A_2 h
  rw [keepA_2 h] at hk
  intro i h0 h1
  unfold srow pushF
  by_cases e : A 2 = 30
  · rw [if_pos e] at hk ⊢
    by_cases e2 : k = 29
    · rw [if_pos e2]
      unfold keepA
      rw [wr_ne (by omega)]
      unfold cpA
      by_cases hi : i < 20
      · rw [if_neg (by omega), if_pos (by omega), show 58 + 70 * k + i - (58 + 70 * k1A A 2) + 6 = 6 + i by omega, k1A_out (by omega) (by omega), mrow_lo hi]
      · rw [if_pos (by omega), show 58 + 70 * k + i - (58 + 70 * k1A A 2 + 20) + 2158 = 2138 + i by omega, k1A_out (by omega) (by omega), mrow_hi (by omega)]
    · rw [if_neg e2]
      unfold keepA
      rw [wr_ne (by omega)]
      unfold cpA
      rw [if_neg (by omega), if_neg (by omega)]
      unfold k1A
      rw [if_pos e, wr_ne (by omega)]
      unfold shA
      rw [if_pos (by omega), show 58 + 70 * k + i + 70 = 58 + 70 * (k + 1) + i by omega]
  · rw [if_neg e] at hk ⊢
    by_cases e2 : k = A 2
    · rw [if_pos e2]
      unfold keepA
      rw [wr_ne (by omega)]
      unfold cpA
      by_cases hi : i < 20
      · rw [if_neg (by omega), if_pos (by omega), show 58 + 70 * k + i - (58 + 70 * k1A A 2) + 6 = 6 + i by omega, k1A_out (by omega) (by omega), mrow_lo hi]
      · rw [if_pos (by omega), show 58 + 70 * k + i - (58 + 70 * k1A A 2 + 20) + 2158 = 2138 + i by omega, k1A_out (by omega) (by omega), mrow_hi (by omega)]
    · rw [if_neg e2]
      unfold keepA
      rw [wr_ne (by omega)]
      unfold cpA
      rw [if_neg (by omega), if_neg (by omega)]
      unfold k1A
      rw [if_neg e]
section MT
variable {d : Nat} {t : Int} {Q : Int → jM → Prop} {σ : jM}
theorem m_keep (h : 0 ≤ σ 322 2 ∧ σ 322 2 ≤ 30) (k : Q 0 (sr σ 322 (keepA (σ 322)))) : Ct mX12_keep d 9 t [rv 321] σ Q := by
  obtain ⟨A, hA⟩ : ∃ A, A = σ 322 := ⟨_, rfl⟩
  rw [← hA] at h k
  have q := k1A_2 h
  have loop3 : ∀ (j : Nat) (i : Int) (τ : jM), 0 ≤ i → i + j = 50 → τ = sr σ 322 (cpA (k1A A) (cpA (k1A A) (k1A A) 6 (58 + 70 * k1A A 2) 20) 2158 (58 + 70 * k1A A 2 + 20) i) → Jt mX12_keep (d) 9 t Q 101 [rv 321, iv (58 + 70 * k1A A 2), iv i] [] τ := by
    intro j
    induction j with
    | zero =>
      intro i τ i0 hi et
      have i50 : i = 50 := by omega
      refine b_X12_keep_101 ⟨rng (by omega) (by omega), fun _ => ⟨by decide, by decide, fun σ3 e3 => ?_⟩, fun y => absurd y (by omega)⟩
      have t2 : τ 322 2 = k1A A 2 := by
        rw [et, sr_at]
        unfold cpA
        rw [if_neg (by omega), if_neg (by omega)]
      have fin : σ3 = sr σ 322 (keepA A) := by
        rw [e3, t2, et, up_sr, sr_at, sr_sr, i50]
        rfl
      rw [fin]
      exact k
    | succ j ih =>
      intro i τ i0 hi et
      refine b_X12_keep_101 ⟨rng (by omega) (by omega), fun y => absurd y (by omega), fun y => ⟨by omega, by omega, fun σ5 e5 => ?_⟩⟩
      refine ih (i + 1) σ5 (by omega) (by omega) ?_
      have tv : τ 322 (2158 + i) = k1A A (2158 + i) := by
        rw [et, sr_at]
        unfold cpA
        rw [if_neg (by omega), if_neg (by omega)]
      rw [e5, tv, et, up_sr, sr_at, sr_sr, cpA_step i0]
  have loop2 : ∀ (j : Nat) (i : Int) (τ : jM), 0 ≤ i → i + j = 20 → τ = sr σ 322 (cpA (k1A A) (k1A A) 6 (58 + 70 * k1A A 2) i) → Jt mX12_keep (d) 9 t Q 70 [rv 321, iv (58 + 70 * k1A A 2), iv i] [] τ := by
    intro j
    induction j with
    | zero =>
      intro i τ i0 hi et
      have i20 : i = 20 := by omega
      refine b_X12_keep_70 ⟨rng (by omega) (by omega), fun _ => loop3 50 0 τ (by omega) (by omega) ?_, fun y => absurd y (by omega)⟩
      rw [cpA_0, et, i20]
    | succ j ih =>
      intro i τ i0 hi et
      refine b_X12_keep_70 ⟨rng (by omega) (by omega), fun y => absurd y (by omega), fun y => ⟨by omega, by omega, fun σ5 e5 => ?_⟩⟩
      refine ih (i + 1) σ5 (by omega) (by omega) ?_
      have tv : τ 322 (6 + i) = k1A A (6 + i) := by
        rw [et, sr_at]
        unfold cpA
        rw [if_neg (by omega)]
      rw [e5, tv, et, up_sr, sr_at, sr_sr, cpA_step i0]
  have loop1 : ∀ (j : Nat) (i : Int) (τ : jM), 0 ≤ i → i + j = 2030 → A 2 = 30 → τ = sr σ 322 (shA A 58 70 i) → Jt mX12_keep (d) 9 t Q 13 [rv 321, iv i, uv] [] τ := by
    intro j
    induction j with
    | zero =>
      intro i τ i0 hi e30 et
      have i2030 : i = 2030 := by omega
      refine b_X12_keep_13 ⟨rng (by omega) (by omega), fun _ => ⟨by decide, by decide, fun σ3 e3 => ⟨by decide, ?_⟩⟩, fun y => absurd y (by omega)⟩
      have t2 : τ 322 2 = 30 := by
        rw [et, sr_at]
        unfold shA
        rw [if_neg (by omega)]
        exact e30
      have f3 : σ3 = sr σ 322 (k1A A) := by
        rw [e3, t2, et, up_sr, sr_at, sr_sr, i2030]
        unfold k1A
        rw [if_pos e30]
        rfl
      have n3 : σ3 322 2 = k1A A 2 := by rw [f3, sr_at]
      rw [n3]
      exact loop2 20 0 σ3 (by omega) (by omega) (by rw [cpA_0]; exact f3)
    | succ j ih =>
      intro i τ i0 hi e30 et
      refine b_X12_keep_13 ⟨rng (by omega) (by omega), fun y => absurd y (by omega), fun y => ⟨by omega, by omega, fun σ5 e5 => ?_⟩⟩
      refine ih (i + 1) σ5 (by omega) (by omega) e30 ?_
      rw [e5, et, up_sr, sr_at, sr_sr, show 128 + i = 58 + i + 70 by omega, shA_step i0 (by omega)]
  refine c_X12_keep ?_
  rw [← hA]
  refine ⟨by decide, rng (by omega) (by omega), fun z => ⟨by decide, ?_⟩, fun z => loop1 2030 0 σ (by omega) (by omega) z (by rw [shA_0, hA, sr_id])⟩
  have ek : k1A A = A := by unfold k1A; rw [if_neg z]
  have := loop2 20 0 σ (by omega) (by omega) (by rw [cpA_0, ek, hA, sr_id])
  rw [ek] at this
  exact this
def undoA (A : Int → Int) : Int → Int := setM (wr A 2 (A 2 - 1)) (srow A (A 2 - 1))
theorem m_undo (h : 0 ≤ σ 322 2 ∧ σ 322 2 ≤ 30) (k0 : σ 322 2 = 0 → Q (-1) σ) (k1 : σ 322 2 ≠ 0 → Q (σ 322 2 - 1) (sr σ 322 (undoA (σ 322)))) : Ct mX12_undo d 0 t [rv 321] σ Q := by
  obtain ⟨A, hA⟩ : ∃ A, A = σ 322 := ⟨_, rfl⟩
  rw [← hA] at h k0 k1
  refine c_X12_undo ?_
  rw [← hA]
  refine ⟨by decide, rng (by omega) (by omega), fun z => ⟨by decide, by decide, fun σ3 e3 => ⟨by decide, ?_⟩⟩, fun z => k0 z⟩
  have f3 : σ3 = sr σ 322 (wr A 2 (A 2 - 1)) := by rw [e3, up_sr, ← hA]
  have n3 : σ3 322 2 = A 2 - 1 := by rw [f3, sr_at, wr_at]
  rw [n3]
  have loop3 : ∀ (j : Nat) (i : Int) (τ : jM), 0 ≤ i → i + j = 50 → τ = sr σ 322 (cpA A (cpA A (wr A 2 (A 2 - 1)) (58 + 70 * (A 2 - 1)) 6 20) (58 + 70 * (A 2 - 1) + 20) 2158 i) → Jt mX12_undo (d) 0 t Q 67 [rv 321, iv (58 + 70 * (A 2 - 1)), iv i] [] τ := by
    intro j
    induction j with
    | zero =>
      intro i τ i0 hi et
      have i50 : i = 50 := by omega
      have t2 : τ 322 2 = A 2 - 1 := by
        rw [et, sr_at]
        unfold cpA
        rw [if_neg (by omega), if_neg (by omega), wr_at]
      refine b_X12_undo_67 ⟨rng (by omega) (by omega), fun _ => ⟨by decide, ?_⟩, fun y => absurd y (by omega)⟩
      have fin : τ = sr σ 322 (undoA A) := by
        rw [et, i50]
        congr 1
        funext q
        unfold undoA setM cpA srow
        by_cases h1 : 6 ≤ q ∧ q < 26
        · rw [if_pos h1, if_neg (by omega), if_pos (by omega), show q - 6 + (58 + 70 * (A 2 - 1)) = 58 + 70 * (A 2 - 1) + (q - 6) by omega]
        · rw [if_neg h1]
          by_cases h2 : 2158 ≤ q ∧ q < 2208
          · rw [if_pos h2, if_pos (by omega), show q - 2158 + (58 + 70 * (A 2 - 1) + 20) = 58 + 70 * (A 2 - 1) + (q - 2138) by omega]
          · rw [if_neg h2, if_neg (by omega), if_neg (by omega)]
      rw [t2, fin]
      exact k1 z
    | succ j ih =>
      intro i τ i0 hi et
      refine b_X12_undo_67 ⟨rng (by omega) (by omega), fun y => absurd y (by omega), fun y => ⟨by omega, by omega, fun σ5 e5 => ?_⟩⟩
      refine ih (i + 1) σ5 (by omega) (by omega) ?_
      have tv : τ 322 (58 + 70 * (A 2 - 1) + 20 + i) = A (58 + 70 * (A 2 - 1) + 20 + i) := by
        rw [et, sr_at]
        unfold cpA
        rw [if_neg (by omega), if_neg (by omega), wr_ne (by omega)]
      rw [e5, tv, et, up_sr, sr_at, sr_sr, cpA_step i0]
  have loop2 : ∀ (j : Nat) (i : Int) (τ : jM), 0 ≤ i → i + j = 20 → τ = sr σ 322 (cpA A (wr A 2 (A 2 - 1)) (58 + 70 * (A 2 - 1)) 6 i) → Jt mX12_undo (d) 0 t Q 36 [rv 321, iv (58 + 70 * (A 2 - 1)), iv i] [] τ := by
    intro j
    induction j with
    | zero =>
      intro i τ i0 hi et
      have i20 : i = 20 := by omega
      refine b_X12_undo_36 ⟨rng (by omega) (by omega), fun _ => loop3 50 0 τ (by omega) (by omega) ?_, fun y => absurd y (by omega)⟩
      rw [cpA_0, et, i20]
    | succ j ih =>
      intro i τ i0 hi et
      refine b_X12_undo_36 ⟨rng (by omega) (by omega), fun y => absurd y (by omega), fun y => ⟨by omega, by omega, fun σ5 e5 => ?_⟩⟩
      refine ih (i + 1) σ5 (by omega) (by omega) ?_
      have tv : τ 322 (58 + 70 * (A 2 - 1) + i) = A (58 + 70 * (A 2 - 1) + i) := by
        rw [et, sr_at]
        unfold cpA
        rw [if_neg (by omega), wr_ne (by omega)]
      rw [e5, tv, et, up_sr, sr_at, sr_sr, cpA_step i0]
  exact loop2 20 0 σ3 (by omega) (by omega) (by rw [cpA_0]; exact f3)
theorem m_joinNow {a b : Int} (v : RV (mrow (σ 322))) (hw : σ 321 23 = 1) (hc : canB (mrow (σ 322)) a b = true) (k : Q (crockR (mrow (σ 322)) 0) (sr σ 322 (setM (σ 322) (uniteR (mrow (σ 322)) a b)))) : Ct mX12_joinNow (d + 4) 0 t [rv 321, iv a, iv b] σ Q := by
  obtain ⟨A, hA⟩ : ∃ A, A = σ 322 := ⟨_, rfl⟩
  obtain ⟨fa, fb, hs, hc0⟩ := canB_t hc
  obtain ⟨a1, a2, a3⟩ := fullB_t fa
  obtain ⟨b1, b2, b3⟩ := fullB_t fb
  have ga := v.2.2.2.2.1 a a1 a2
  have gb := v.2.2.2.2.1 b b1 b2
  refine c_X12_joinNow (m_freeCrock v ⟨by omega, by omega, by omega, fun σ3 e3 => ⟨by omega, fun σ5 e5 => ⟨by omega, ?_⟩⟩⟩)
  have ea : mrow (σ 322) (4 + a) = σ 322 (10 + a) := by rw [mrow_lo (by omega), show 6 + (4 + a) = 10 + a by omega]
  have eb : mrow (σ 322) (4 + b) = σ 322 (10 + b) := by rw [mrow_lo (by omega), show 6 + (4 + b) = 10 + b by omega]
  rw [← ea, ← eb] at e3
  rw [← hA] at v hc hs hc0 ga gb e3 e5 k ea eb a3 b3 ⊢
  obtain ⟨c, hcc⟩ : ∃ c, c = crockR (mrow A) 0 := ⟨_, rfl⟩
  rw [← hcc] at hc0 e3 e5 k ⊢
  have f5 : σ5 = sr σ 322 (setM A (wr (wr (mrow A) (4 + c) (mrow A (4 + a) + mrow A (4 + b))) (12 + c) 0)) := by
    rw [e5, e3, up_sr, up_sr, sr_at, sr_sr, ← hA]
    congr 1
    rw [show 18 + c = 6 + (12 + c) by omega, show 10 + c = 6 + (4 + c) by omega, setM_wr (A := A) (by omega), setM_wr (by omega), setM_setM]
    exact setM_congr (eqr_wr mrow_setM)
  have r5 : eqr (mrow (σ5 322)) (wr (wr (mrow A) (4 + c) (mrow A (4 + a) + mrow A (4 + b))) (12 + c) 0) := by rw [f5, sr_at]; exact mrow_setM
  have v5' : RV (wr (wr (mrow A) (4 + c) (mrow A (4 + a) + mrow A (4 + b))) (12 + c) 0) := wr_RV (wr_RV v (by omega) (by omega) (by omega) (by omega) (by omega) (by omega)) (by omega) (by omega) (by omega) (by omega) (by omega) (by omega)
  have v5 : RV (mrow (σ5 322)) := RV_congr (fun i i0 i1 => (r5 i i0 i1).symm) v5'
  have ep : σ5 322 (10 + c) = mrow A (4 + a) + mrow A (4 + b) := by
    have := r5 (4 + c) (by omega) (by omega)
    rw [mrow_lo (by omega), show 6 + (4 + c) = 10 + c by omega] at this
    rw [this, wr_ne (by omega), wr_at]
  rw [ep]
  refine m_write v5 (by rw [f5, sr_ne (by omega)]; exact hw) ?_
  have fin : sr σ5 322 (setM (σ5 322) (writeR (mrow (σ5 322)) ((mrow (σ5 322) 0 * 4 + 0) * 8 + c) (mrow A (4 + a) + mrow A (4 + b)))) = sr σ 322 (setM A (uniteR (mrow A) a b)) := by
    have e0 : mrow (σ5 322) 0 = mrow A 0 := by rw [r5 0 (by omega) (by omega), wr_ne (by omega), wr_ne (by omega)]
    rw [e0, setM_congr (eqr_writeR r5 v5.2.2.2.1), f5, sr_at, sr_sr, setM_setM]
    unfold uniteR
    rw [← hcc]
  rw [fin]
  exact k
theorem m_emptyNow {c w : Int} (v : RV (mrow (σ 322))) (hw : σ 321 23 = 1) (hc : 0 ≤ c ∧ c < 8) (k : Q 0 (sr σ 322 (setM (σ 322) (emptyR (mrow (σ 322)) c w)))) : Ct mX12_emptyNow (d + 1) 9 t [rv 321, iv c, iv w] σ Q := by
  obtain ⟨A, hA⟩ : ∃ A, A = σ 322 := ⟨_, rfl⟩
  have g := v.2.2.2.2.1 c hc.1 hc.2
  have ea : mrow (σ 322) (4 + c) = σ 322 (10 + c) := by rw [mrow_lo (by omega), show 6 + (4 + c) = 10 + c by omega]
  refine c_X12_emptyNow ⟨by omega, by omega, fun σ2 e2 => ⟨by omega, fun σ4 e4 => ?_⟩⟩
  rw [← ea]
  rw [← hA] at v g ea k ⊢
  have f4 : σ4 = sr σ 322 (setM A (wr (wr (mrow A) (4 + c) 0) (12 + c) 0)) := by
    rw [e4, e2, up_sr, up_sr, sr_at, sr_sr, ← hA]
    congr 1
    rw [show 18 + c = 6 + (12 + c) by omega, show 10 + c = 6 + (4 + c) by omega, setM_wr (A := A) (by omega), setM_wr (by omega), setM_setM]
    exact setM_congr (eqr_wr mrow_setM)
  have r4 : eqr (mrow (σ4 322)) (wr (wr (mrow A) (4 + c) 0) (12 + c) 0) := by rw [f4, sr_at]; exact mrow_setM
  have v4' : RV (wr (wr (mrow A) (4 + c) 0) (12 + c) 0) := wr_RV (wr_RV v (by omega) (by omega) (by omega) (by omega) (by omega) (by omega)) (by omega) (by omega) (by omega) (by omega) (by omega) (by omega)
  have v4 : RV (mrow (σ4 322)) := RV_congr (fun i i0 i1 => (r4 i i0 i1).symm) v4'
  refine m_write v4 (by rw [f4, sr_ne (by omega)]; exact hw) ?_
  have fin : sr σ4 322 (setM (σ4 322) (writeR (mrow (σ4 322)) ((mrow (σ4 322) 0 * 4 + w) * 8 + c) (mrow A (4 + c)))) = sr σ 322 (setM A (emptyR (mrow A) c w)) := by
    have e0 : mrow (σ4 322) 0 = mrow A 0 := by rw [r4 0 (by omega) (by omega), wr_ne (by omega), wr_ne (by omega)]
    rw [e0, setM_congr (eqr_writeR r4 v4.2.2.2.1), f4, sr_at, sr_sr, setM_setM]
    rfl
  rw [fin]
  exact k
theorem m_anew (v : RV (mrow (σ 322))) (k : Q 0 (sr σ 322 (setM (σ 322) (drawR (mrow (σ 322)))))) : Ct mX12_anew d 9 t [rv 321] σ Q := by
  have v1 := v.2.1
  have e1 : mrow (σ 322) 1 = σ 322 7 := mrow_lo (by omega)
  rw [e1] at v1
  refine c_X12_anew ⟨by decide, rng (by omega) (by omega), rngL (by omega) (by omega), by decide, fun σ4 e4 => ?_⟩
  rw [tm (by omega)] at e4
  have fin : σ4 = sr σ 322 (setM (σ 322) (drawR (mrow (σ 322)))) := by
    rw [e4, up_sr]
    unfold drawR
    rw [e1, ← setM_wr (by omega)]
    rfl
  rw [fin]
  exact k
theorem m_drawnBy10 (v : RV (mrow (σ 322))) (k : Q (mrow (σ 322) 1 % 10) (sr σ 322 (setM (σ 322) (drawR (mrow (σ 322)))))) : Ct mX12_drawnBy (d + 1) 0 t [rv 321, iv 10] σ Q := by
  have v1 := v.2.1
  have e1 : mrow (σ 322) 1 = σ 322 7 := mrow_lo (by omega)
  rw [e1] at v1 k
  refine c_X12_drawnBy ⟨by decide, rng (by omega) (by omega), ⟨by decide, by decide⟩, by decide, m_anew v ?_⟩
  rw [tm (by omega)]
  exact k
theorem m_twoFor {n : Int} (v : RV (mrow (σ 322))) (hn : inR n) (k : Q (pairR (mrow (σ 322)) n) σ) : Ct mX12_twoFor (d + 3) 0 t [rv 321, iv n] σ Q := by
  refine c_X12_twoFor ?_
  have inner : ∀ (j : Nat) (a b : Int), 0 ≤ a → a < 8 → a ≤ b → b + j = 8 → (lowF (pairI (mrow (σ 322)) n a) j b = -1 → Jt mX12_twoFor (d + 3) 0 t Q 2 [rv 321, iv n, iv (a + 1), uv] [] σ) → (lowF (pairI (mrow (σ 322)) n a) j b ≠ -1 → Q (a * 8 + lowF (pairI (mrow (σ 322)) n a) j b) σ) → Jt mX12_twoFor (d + 3) 0 t Q 10 [rv 321, iv n, iv a, iv b] [] σ := by
    intro j
    induction j with
    | zero =>
      intro a b a0 a8 ab hb k1 k2
      exact b_X12_twoFor_10 ⟨rng (by omega) (by omega), fun _ => k1 rfl, fun z => absurd z (by omega)⟩
    | succ j ih =>
      intro a b a0 a8 ab hb k1 k2
      have next : pairI (mrow (σ 322)) n a b = false → Jt mX12_twoFor (d + 3) 0 t Q 10 [rv 321, iv n, iv a, iv (b + 1)] [] σ := by
        intro e
        rw [lowF, e] at k1 k2
        exact ih a (b + 1) a0 a8 (by omega) (by omega) k1 k2
      refine b_X12_twoFor_10 ⟨rng (by omega) (by omega), fun z => absurd z (by omega), fun z => ?_⟩
      refine m_isFull v (rng (by omega) (by omega)) ⟨b01_R, fun y => ?_, fun y => ?_⟩
      · exact next (by unfold pairI; rw [b01_0.mp y]; rfl)
      · have fa : fullB (mrow (σ 322)) a = true := by
          cases e : fullB (mrow (σ 322)) a with
          | true => rfl
          | false => exact absurd (b01_0.mpr e) y
        refine m_isFull v (rng (by omega) (by omega)) ⟨b01_R, fun x => ?_, fun x => ?_⟩
        · exact next (by unfold pairI; rw [b01_0.mp x]; simp)
        · have fb : fullB (mrow (σ 322)) b = true := by
            cases e : fullB (mrow (σ 322)) b with
            | true => rfl
            | false => exact absurd (b01_0.mpr e) x
          have ga := v.2.2.2.2.1 a a0 a8
          have gb := v.2.2.2.2.1 b (by omega) z
          have ea : mrow (σ 322) (4 + a) = σ 322 (10 + a) := by rw [mrow_lo (by omega), show 6 + (4 + a) = 10 + a by omega]
          have eb : mrow (σ 322) (4 + b) = σ 322 (10 + b) := by rw [mrow_lo (by omega), show 6 + (4 + b) = 10 + b by omega]
          rw [← ea, ← eb]
          refine ⟨by omega, by omega, rng (by omega) (by omega), hn, fun w => ?_, fun w => ?_⟩
          · exact next (by unfold pairI; rw [fa, fb]; simp [w])
          · have e : pairI (mrow (σ 322)) n a b = true := by unfold pairI; rw [fa, fb]; simp [w]
            rw [lowF, e] at k2
            rw [show 8 * a + b = a * 8 + b by omega]
            exact k2 (by simp; omega)
  have outer : ∀ (j : Nat) (a : Int), 0 ≤ a → a + j = 8 → Q (pairO (mrow (σ 322)) n j a) σ → Jt mX12_twoFor (d + 3) 0 t Q 2 [rv 321, iv n, iv a, uv] [] σ := by
    intro j
    induction j with
    | zero =>
      intro a a0 ha k
      exact b_X12_twoFor_2 ⟨rng (by omega) (by omega), fun _ => k, fun z => absurd z (by omega)⟩
    | succ j ih =>
      intro a a0 ha k
      rw [pairO] at k
      refine b_X12_twoFor_2 ⟨rng (by omega) (by omega), fun z => absurd z (by omega), fun z => ?_⟩
      refine inner (j + 1) a a a0 z (by omega) (by omega) (fun e => ?_) (fun e => ?_)
      · rw [if_pos e] at k
        exact ih (a + 1) (by omega) (by omega) k
      · rw [if_neg e] at k
        exact k
  exact outer 8 0 (by omega) (by omega) k
theorem m_lineOf {i w : Int} (v : RV (mrow (σ 322))) (hi : 0 ≤ i ∧ i < mrow (σ 322) 3) (hw : 0 ≤ w ∧ w ≤ 3) (k : Q (lineR (mrow (σ 322)) i w) σ) : Ct mX12_lineOf d 0 t [rv 321, iv i, iv w] σ Q := by
  have v4 := v.2.2.2.1
  have g := v.2.2.2.2.2 i hi.1 hi.2
  have ea : mrow (σ 322) (20 + 2 * i) = σ 322 (2158 + 2 * i) := by rw [mrow_hi (by omega), show 2138 + (20 + 2 * i) = 2158 + 2 * i by omega]
  have eb : mrow (σ 322) (21 + 2 * i) = σ 322 (2158 + 2 * i + 1) := by rw [mrow_hi (by omega), show 2138 + (21 + 2 * i) = 2158 + 2 * i + 1 by omega]
  unfold lineR at k
  refine c_X12_lineOf ?_
  rw [← ea, ← eb]
  refine ⟨by omega, rng (by omega) (by omega), fun z => ⟨rng (by omega) (by omega), fun y => ⟨rng (by omega) (by omega), fun x => ⟨by omega, ?_⟩, fun x => ⟨rng (by omega) (by omega), ?_⟩⟩, fun y => ⟨rng (by omega) (by omega), ?_⟩⟩, fun z => ⟨rng (by omega) (by omega), ?_⟩⟩
  · rw [if_neg z, if_neg y, if_neg x] at k
    exact k
  · rw [if_neg z, if_neg y, if_pos x] at k
    rw [tm (by omega)]
    exact k
  · rw [if_neg z, if_pos y] at k
    rw [td (by omega), tm (by omega)]
    exact ⟨rng (by omega) (by omega), k⟩
  · rw [if_pos z] at k
    rw [td (by omega)]
    exact k
end MT
