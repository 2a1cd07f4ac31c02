/-! ===== the reference's betweenOf and partOf ===== -/
def btwA (P : List Int) (k : Int) : Int := if k = 43 then 6 else if k = 45 then 7 else if k = 42 then 8 else if k = 47 then 9 else if opA P ≠ 41 then -1 else if cmA P = false then cpK k else if k = 119 then 21 else if k = 120 then 22 else -1
def prtA (P : List Int) (op k : Int) : Int := if op = 40 then (if k = 41 then 0 else -1) else if op = 41 then (if k = 116 ∧ cmA P = true then 42 else -1) else if op = 42 then (if k = 117 then 43 else -1) else if op = 43 then (if k = 118 then 0 else -1) else -1
theorem opA_in {σ : jM} : ∀ (P : List Int), pilA σ P → -1 ≤ opA P ∧ opA P ≤ 43
  | [], _ => by rw [opA]; omega
  | y :: P, h => by
    have hy := h.2.1
    rw [opA]
    split
    · omega
    · exact opA_in P h.2.2
section MB
variable {d : Nat} {t : Int} {Q : Int → jM → Prop} {σ : jM} {T : Int → Int} {n p : Int} {P : List Int}
theorem m_betweenOf (tp : TP T n) (p0 : 0 ≤ p ∧ p ≤ n) (r : RT σ T n p) (hp : pilA σ P) (hl : P.length ≤ 160) (e16 : σ 321 16 = (P.length : Int)) (h : Q (btwA P (kT T n p)) σ) : Ct mX12_betweenOf (d + 3) 0 t [rv 321] σ Q := by
  have a := (RT_tk r).1
  have r9 := RT_9 r
  have oi := opA_in P hp
  have rr : inR (σ 321 9) := rng (by omega) (by omega)
  unfold TK at a
  have f : ∀ v : Int, btwA P (kT T n p) = v → Q v σ := fun v e => by rw [e] at h; exact h
  refine c_X12_betweenOf ⟨rr, fun z1 => ⟨rr, fun z2 => ⟨rr, fun z3 => ⟨rr, fun z4 => ?_, fun z4 => f _ ?_⟩, fun z3 => f _ ?_⟩, fun z2 => f _ ?_⟩, fun z1 => f _ ?_⟩
  · have k1 : ¬ kT T n p = 43 := by omega
    have k2 : ¬ kT T n p = 45 := by omega
    have k3 : ¬ kT T n p = 42 := by omega
    have k4 : ¬ kT T n p = 47 := by omega
    unfold btwA at h
    rw [if_neg k1, if_neg k2, if_neg k3, if_neg k4] at h
    refine m_openNow hp hl e16 ⟨rng (by omega) (by omega), fun y => ?_, fun y => ?_⟩
    · rw [if_neg (by omega)] at h
      refine m_isCompared hp hl e16 ⟨b01_R, fun u => ?_, fun u => ?_⟩
      · rw [if_neg (by rw [b01_1 u]; decide)] at h
        refine m_w3 (by omega) (by omega) (by omega) (m_isWord (k := 119) tp p0 r (by omega) (fun v => wk_19.trans ⟨fun e => by omega, fun e => by omega⟩) (rngL (by omega) (by omega)) ⟨b01_R, fun s => ?_, fun s => ?_⟩)
        · rw [if_neg (of_decide_eq_false (b01_0.mp s))] at h
          refine m_w2 (by omega) (by omega) (m_isWord (k := 120) tp p0 r (by omega) (fun v => wk_20.trans ⟨fun e => by omega, fun e => by omega⟩) (rngL (by omega) (by omega)) ⟨b01_R, fun s2 => ?_, fun s2 => ?_⟩)
          · rw [if_neg (of_decide_eq_false (b01_0.mp s2))] at h; exact h
          · rw [if_pos (of_decide_eq_true (b01_1 s2))] at h; exact h
        · rw [if_pos (of_decide_eq_true (b01_1 s))] at h; exact h
      · rw [if_pos (b01_0.mp u)] at h
        exact m_compareOf r h
    · rw [if_pos y] at h; exact h
  · unfold btwA
    rw [if_neg (by omega), if_neg (by omega), if_neg (by omega), if_pos (by omega)]
  · unfold btwA
    rw [if_neg (by omega), if_neg (by omega), if_pos (by omega)]
  · unfold btwA
    rw [if_neg (by omega), if_pos (by omega)]
  · unfold btwA
    rw [if_pos (by omega)]
theorem m_partOf {op : Int} (tp : TP T n) (p0 : 0 ≤ p ∧ p ≤ n) (r : RT σ T n p) (hp : pilA σ P) (hl : P.length ≤ 160) (e16 : σ 321 16 = (P.length : Int)) (o0 : -1 ≤ op ∧ op ≤ 43) (h : Q (prtA P op (kT T n p)) σ) : Ct mX12_partOf (d + 4) 0 t [rv 321, iv op] σ Q := by
  have a := (RT_tk r).1
  have r9 := RT_9 r
  unfold TK at a
  refine c_X12_partOf ⟨rng (by omega) (by omega), fun z => ?_, fun z => ⟨rng (by omega) (by omega), fun y => ?_, fun y => ?_⟩, fun z => ?_, fun z => ?_, fun z => ?_⟩
  · unfold prtA at h
    rw [if_neg (by omega), if_neg (by omega), if_neg (by omega), if_neg (by omega)] at h; exact h
  · unfold prtA at h
    rw [if_pos z, if_neg (by omega)] at h; exact h
  · unfold prtA at h
    rw [if_pos z, if_pos (by omega)] at h; exact h
  · unfold prtA at h
    rw [if_neg (show ¬ op = 40 by omega), if_pos z] at h
    refine m_w4 (by omega) (by omega) (by omega) (by omega) (m_isWord (k := 116) tp p0 r (by omega) (fun v => wk_16.trans ⟨fun e => by omega, fun e => by omega⟩) (rngL (by omega) (by omega)) ⟨b01_R, fun s => ?_, fun s => ?_⟩)
    · rw [if_neg (fun y => of_decide_eq_false (b01_0.mp s) y.1)] at h; exact h
    · refine m_isCompared hp hl e16 ⟨b01_R, fun u => ?_, fun u => ?_⟩
      · rw [if_neg (fun y => by rw [b01_0.mp u] at y; exact absurd y.2 (by decide))] at h; exact h
      · rw [if_pos ⟨of_decide_eq_true (b01_1 s), b01_1 u⟩] at h; exact h
  · unfold prtA at h
    rw [if_neg (show ¬ op = 40 by omega), if_neg (show ¬ op = 41 by omega), if_pos z] at h
    refine m_w4 (by omega) (by omega) (by omega) (by omega) (m_isWord (k := 117) tp p0 r (by omega) (fun v => wk_17.trans ⟨fun e => by omega, fun e => by omega⟩) (rngL (by omega) (by omega)) ⟨b01_R, fun s => ?_, fun s => ?_⟩)
    · rw [if_neg (of_decide_eq_false (b01_0.mp s))] at h; exact h
    · rw [if_pos (of_decide_eq_true (b01_1 s))] at h; exact h
  · unfold prtA at h
    rw [if_neg (show ¬ op = 40 by omega), if_neg (show ¬ op = 41 by omega), if_neg (show ¬ op = 42 by omega), if_pos z] at h
    refine m_w3 (by omega) (by omega) (by omega) (m_isWord (k := 118) tp p0 r (by omega) (fun v => wk_18.trans ⟨fun e => by omega, fun e => by omega⟩) (rngL (by omega) (by omega)) ⟨b01_R, fun s => ?_, fun s => ?_⟩)
    · rw [if_neg (of_decide_eq_false (b01_0.mp s))] at h; exact h
    · rw [if_pos (of_decide_eq_true (b01_1 s))] at h; exact h
end MB
