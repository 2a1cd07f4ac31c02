/-! ===== the reference's isWord, nameOf, compareOf ===== -/
def nmK (k : Int) : Int := if 106 ≤ k ∧ k ≤ 112 then k - 106 else -1
def cpK (k : Int) : Int := if k = 60 then 10 else if k = 3 then 11 else if k = 62 then 12 else if k = 4 then 13 else if k = 61 then 14 else if k = 35 then 15 else -1
section MN
variable {d : Nat} {t : Int} {Q : Int → jM → Prop} {σ : jM} {T : Int → Int} {n p : Int}
theorem RT_L (tp : TP T n) (p0 : 0 ≤ p ∧ p ≤ n) (r : RT σ T n p) (e : σ 321 9 = 2) : 0 ≤ σ 321 11 ∧ σ 321 11 ≤ 1152921504606846976 := by
  rw [(RT_tk r).2 e]
  have pl := pl_in tp p0
  obtain ⟨u1, u2, u3⟩ := rnE_spec (T := T) (n := n) (p := plT T n p) isLt_1 tp.1.2 (by omega) pl.2
  refine (wpA_in (T := T) (p := plT T n p) (rnE isLt T n (plT T n p) - plT T n p).toNat (fun i hi => ?_)).1
  have := u2 (plT T n p + i) (by omega) (by omega)
  rw [btA_eq (by omega)] at this
  unfold isLt at this
  have := of_decide_eq_true this
  omega
theorem RT_9 (r : RT σ T n p) : 0 ≤ σ 321 9 ∧ σ 321 9 ≤ 255 := by
  have a := (RT_tk r).1
  unfold TK at a
  omega
theorem m_isWord {C k : Int} (tp : TP T n) (p0 : 0 ≤ p ∧ p ≤ n) (r : RT σ T n p) (hk : 100 ≤ k ∧ k ≤ 121) (hc : ∀ v, wkA v = k ↔ v = C) (hC : inL C) (h : Q (b01 (decide (kT T n p = k))) σ) : Ct mX12_isWord d 0 t [rv 321, jv C] σ Q := by
  have w := RT_word r hk hc
  have r9 := RT_9 r
  refine c_X12_isWord ⟨rng (by omega) (by omega), fun z => ?_, fun z => ?_⟩
  · rw [decide_eq_false (fun y => z (w.mp y).1)] at h; exact h
  · have l := RT_L tp p0 r z
    refine ⟨rngL (by omega) (by omega), hC, fun y => ?_, fun y => ?_⟩
    · rw [decide_eq_false (fun u => y (w.mp u).2)] at h; exact h
    · rw [decide_eq_true (w.mpr ⟨z, y⟩)] at h; exact h
theorem m_compareOf (r : RT σ T n p) (h : Q (cpK (kT T n p)) σ) : Ct mX12_compareOf d 0 t [rv 321] σ Q := by
  have a := (RT_tk r).1
  have r9 := RT_9 r
  have rr : inR (σ 321 9) := rng (by omega) (by omega)
  unfold TK at a
  have f : ∀ v : Int, cpK (kT T n p) = v → Q v σ := fun v e => by rw [e] at h; exact h
  refine c_X12_compareOf ⟨rr, fun z1 => ⟨rr, fun z2 => ⟨rr, fun z3 => ⟨rr, fun z4 => ⟨rr, fun z5 => ⟨rr, fun z6 => f _ ?_, fun z6 => f _ ?_⟩, fun z5 => f _ ?_⟩, fun z4 => f _ ?_⟩, fun z3 => f _ ?_⟩, fun z2 => f _ ?_⟩, fun z1 => f _ ?_⟩
  · unfold cpK
    rw [if_neg (by omega), if_neg (by omega), if_neg (by omega), if_neg (by omega), if_neg (by omega), if_neg (by omega)]
  · rw [show kT T n p = 35 by omega]; rfl
  · rw [show kT T n p = 61 by omega]; rfl
  · rw [show kT T n p = 4 by omega]; rfl
  · rw [show kT T n p = 62 by omega]; rfl
  · rw [show kT T n p = 3 by omega]; rfl
  · rw [show kT T n p = 60 by omega]; rfl
theorem m_nameOf (tp : TP T n) (p0 : 0 ≤ p ∧ p ≤ n) (r : RT σ T n p) (h : Q (nmK (kT T n p)) σ) : Ct mX12_nameOf (d + 5) 0 t [rv 321] σ Q := by
  have a := (RT_tk r).1
  have r9 := RT_9 r
  have w6 := RT_word (k := 106) r (by omega) (fun v => wk_6)
  have w7 := RT_word (k := 107) r (by omega) (fun v => wk_7)
  have w8 := RT_word (k := 108) r (by omega) (fun v => wk_8)
  have w9 := RT_word (k := 109) r (by omega) (fun v => wk_9)
  have w10 := RT_word (k := 110) r (by omega) (fun v => wk_10)
  have w11 := RT_word (k := 111) r (by omega) (fun v => wk_11)
  have w12 := RT_word (k := 112) r (by omega) (fun v => wk_12)
  have f : ∀ v : Int, nmK (kT T n p) = v → Q v σ := fun v e => by rw [e] at h; exact h
  have g : ∀ v : Int, 0 ≤ v → v ≤ 6 → kT T n p = 106 + v → Q v σ := fun v v0 v1 e => f v (by unfold nmK; rw [if_pos (by omega)]; omega)
  refine c_X12_nameOf ⟨rng (by omega) (by omega), fun z => ?_, fun z => f _ ?_⟩
  · have l := RT_L tp p0 r z
    have lr : inL (σ 321 11) := rngL (by omega) (by omega)
    refine m_w3 (by omega) (by omega) (by omega) ⟨lr, rngL (by omega) (by omega), fun z6 => ?_, fun z6 => g 0 (by omega) (by omega) (w6.mpr ⟨z, by omega⟩)⟩
    refine m_w6 (by omega) (by omega) (by omega) (by omega) (by omega) (by omega) ⟨lr, rngL (by omega) (by omega), fun z7 => ?_, fun z7 => g 1 (by omega) (by omega) (w7.mpr ⟨z, by omega⟩)⟩
    refine m_w6 (by omega) (by omega) (by omega) (by omega) (by omega) (by omega) ⟨lr, rngL (by omega) (by omega), fun z8 => ?_, fun z8 => g 2 (by omega) (by omega) (w8.mpr ⟨z, by omega⟩)⟩
    refine m_w3 (by omega) (by omega) (by omega) ⟨lr, rngL (by omega) (by omega), fun z9 => ?_, fun z9 => g 3 (by omega) (by omega) (w9.mpr ⟨z, by omega⟩)⟩
    refine m_w4 (by omega) (by omega) (by omega) (by omega) ⟨lr, rngL (by omega) (by omega), fun z10 => ?_, fun z10 => g 4 (by omega) (by omega) (w10.mpr ⟨z, by omega⟩)⟩
    refine m_w3 (by omega) (by omega) (by omega) ⟨lr, rngL (by omega) (by omega), fun z11 => ?_, fun z11 => g 5 (by omega) (by omega) (w11.mpr ⟨z, by omega⟩)⟩
    refine m_w4 (by omega) (by omega) (by omega) (by omega) ⟨lr, rngL (by omega) (by omega), fun z12 => ?_, fun z12 => g 6 (by omega) (by omega) (w12.mpr ⟨z, by omega⟩)⟩
    refine f _ ?_
    have b : ¬ (106 ≤ kT T n p ∧ kT T n p ≤ 112) := fun y => by
      have y2 : kT T n p = 106 ∨ kT T n p = 107 ∨ kT T n p = 108 ∨ kT T n p = 109 ∨ kT T n p = 110 ∨ kT T n p = 111 ∨ kT T n p = 112 := by omega
      rcases y2 with e | e | e | e | e | e | e
      · have := (w6.mp e).2
        omega
      · have := (w7.mp e).2
        omega
      · have := (w8.mp e).2
        omega
      · have := (w9.mp e).2
        omega
      · have := (w10.mp e).2
        omega
      · have := (w11.mp e).2
        omega
      · have := (w12.mp e).2
        omega
    unfold nmK
    rw [if_neg b]
  · unfold nmK
    rw [if_neg (fun y => by unfold TK at a; omega)]
end MN
