/-! ===== the reference's state while it reads a sum ===== -/
def RS (T : Int → Int) (n b l : Int) (σ : jM) (p w : Int) (P : List Int) (o wh : Int) : Prop := RT σ T n p ∧ (0 ≤ p ∧ p ≤ n) ∧ (σ 321 12 = b ∧ 0 ≤ b ∧ b ≤ 2043) ∧ σ 321 13 = w ∧ σ 321 14 = l ∧ pilA σ P ∧ σ 321 16 = (P.length : Int) ∧ σ 321 17 = o ∧ σ 321 18 = wh ∧ (0 ≤ w ∧ w + (P.length : Int) ≤ p)
section MR
variable {d : Nat} {t : Int} {Q : Int → jM → Prop} {σ : jM} {T : Int → Int} {n b l p w o wh : Int} {P : List Int}
theorem offZ_T {b w : Int} {σ σ' : jM} (a : offT σ σ') : offZ b w σ σ' := ⟨fun x h1 _ _ => a.1 x h1, fun j hj => a.2 j (by omega), fun i _ => by rw [a.1 324 (by omega)]⟩
/-- to the next token -/
theorem m_next {τ : jM} (tp : TP T n) (r : RT σ T n p) (p0 : 0 ≤ p ∧ p ≤ n) (o1 : ∀ j, j < 12 → τ 321 j = σ 321 j) (o2 : τ 325 = σ 325) (k : ∀ σ', RT σ' T n (nxT T n p) → offT τ σ' → Q 0 σ') : Ct mX12_nextToken (d + 1) 9 t [rv 321] τ Q := by
  have a := (nx_in tp p0).1
  refine m_nextToken (p := nxT T n p) tp (by omega) ⟨by rw [o1 4 (by omega)]; exact r.1.1, fun i i0 i1 => by rw [o2]; exact r.1.2 i i0 i1⟩ (by rw [o1 7 (by omega)]; exact r.2.1) k
theorem m_opened {x : Int} (tp : TP T n) (s : RS T n b l σ p w P o wh) (x0 : 0 ≤ x ∧ x ≤ 43) (hl : P.length < 160) (ho : 0 ≤ o ∧ o ≤ 8) (hk : kT T n p ≠ 0) (deep : o = 8 → Q 3 σ) (k : o < 8 → ∀ σ', RS T n b l σ' (nxT T n p) w (x :: P) (o + 1) wh → offZ b w σ σ' → σ' 324 = σ 324 → Q 0 σ') : Ct mX12_opened (d + 2) 0 t [rv 321, iv x] σ Q := by
  obtain ⟨s1, s2, s3, s4, s5, s6, s7, s8, s9, s10⟩ := s
  have a := nx_in tp s2
  have a2 := a.2 hk
  refine c_X12_opened ?_
  rw [s8]
  refine ⟨rng (by omega) (by omega), fun z => ?_, fun z => deep z⟩
  intro σ2 e2
  have q16 : σ2 321 16 = (P.length : Int) := by rw [e2, up_ne (Or.inr (by omega))]; exact s7
  rw [q16]
  refine ⟨by omega, fun σ4 e4 σ5 e5 => ?_⟩
  have j5 : ∀ j, j ≠ 16 → j ≠ 17 → σ5 321 j = σ 321 j := fun j h1 h2 => by rw [e5, up_ne (Or.inr h1), e4, up_row (by omega), e2, up_ne (Or.inr h2)]
  have r5 : ∀ y, y ≠ 321 → y ≠ 326 → σ5 y = σ y := fun y h1 h2 => by rw [e5, up_row h1, e4, up_row h2, e2, up_row h1]
  have v16 : σ5 321 16 = (P.length : Int) + 1 := by rw [e5, up_at, e4, up_row (by omega), q16]
  have v17 : σ5 321 17 = o + 1 := by rw [e5, up_ne (Or.inr (by omega)), e4, up_row (by omega), e2, up_at]; try omega
  have v326 : σ5 326 (P.length : Int) = x := by rw [e5, up_row (by omega), e4, up_at]
  have w326 : ∀ i, i ≠ (P.length : Int) → σ5 326 i = σ 326 i := fun i hi => by rw [e5, up_row (by omega), e4, up_ne (Or.inr hi), e2, up_row (by omega)]
  refine m_next (σ := σ) tp s1 s2 (fun j hj => j5 j (by omega) (by omega)) (r5 325 (by omega) (by omega)) (fun σ' rt ot => ?_)
  refine k (by omega) σ' ⟨rt, by omega, ⟨?_, s3.2⟩, ?_, ?_, ⟨?_, x0, ?_⟩, ?_, ?_, ?_, ⟨s10.1, ?_⟩⟩ ⟨fun y h1 h2 h3 => ?_, fun j hj => ?_, fun i _ => ?_⟩ ?_
  · rw [ot.2 12 (by omega), j5 12 (by omega) (by omega)]; exact s3.1
  · rw [ot.2 13 (by omega), j5 13 (by omega) (by omega)]; exact s4
  · rw [ot.2 14 (by omega), j5 14 (by omega) (by omega)]; exact s5
  · rw [ot.1 326 (by omega)]; exact v326
  · exact pilA_same P s6 (fun i i0 i1 => by rw [ot.1 326 (by omega), w326 i (by omega)])
  · rw [ot.2 16 (by omega), v16]; simp
  · rw [ot.2 17 (by omega)]; exact v17
  · rw [ot.2 18 (by omega), j5 18 (by omega) (by omega)]; exact s9
  · simp; omega
  · rw [ot.1 y h1, r5 y h1 h3]
  · rw [ot.2 j (by omega), j5 j (by omega) (by omega)]
  · rw [ot.1 324 (by omega), r5 324 (by omega) (by omega)]
  · rw [ot.1 324 (by omega), r5 324 (by omega) (by omega)]
/-- what may be asked from here on -/
def akA : List Int → Bool
  | [] => false
  | x :: P => decide (opA (x :: P) = 41) && (decide (40 ≤ x) || decide (1 ≤ rkA x ∧ rkA x ≤ 3))
theorem m_isAskAhead (hp : pilA σ P) (hl : P.length ≤ 160) (e16 : σ 321 16 = (P.length : Int)) (h : Q (b01 (akA P)) σ) : Ct mX12_isAskAhead (d + 2) 0 t [rv 321] σ Q := by
  refine c_X12_isAskAhead (m_openNow hp hl e16 ?_)
  cases P with
  | nil => exact ⟨inl (by decide), fun _ => h, fun z => absurd z (by decide)⟩
  | cons x P =>
    have hx := hp.2.1
    have ri := rkA_in (o := x)
    have hl' : P.length + 1 ≤ 160 := hl
    have oi : -1 ≤ opA (x :: P) ∧ opA (x :: P) ≤ 43 := by
      have i1 := opI_at (x :: P) hp
      rcases Int.lt_or_le (opI (x :: P)) 0 with z | z
      · rw [i1.2 z]; omega
      · have key : ∀ (R : List Int), pilA σ R → -1 ≤ opA R ∧ opA R ≤ 43 := by
          intro R
          induction R with
          | nil => intro _; rw [opA]; omega
          | cons y R ih =>
            intro hr
            have hy := hr.2.1
            rw [opA]
            split
            · omega
            · exact ih hr.2.2
        exact key _ hp
    have e : σ 321 16 - 1 = (P.length : Int) := by rw [e16]; simp
    rw [e, hp.1]
    have h : Q (b01 (decide (opA (x :: P) = 41) && (decide (40 ≤ x) || decide (1 ≤ rkA x ∧ rkA x ≤ 3)))) σ := h
    refine ⟨rng (by omega) (by omega), fun z => ?_, fun z => ⟨by omega, rng (by omega) (by omega), fun y => ?_, fun y => ⟨by omega, m_rank hx ?_⟩⟩⟩
    · rw [decide_eq_false z] at h; exact h
    · rw [decide_eq_true z, decide_eq_true y] at h; exact h
    · rw [decide_eq_true z, decide_eq_false (show ¬ 40 ≤ x by omega)] at h
      refine c_X12_isIn ⟨rng (by omega) (by omega), inl (by decide), fun u => ⟨(inl (by decide)), fun _ => ?_, fun v => absurd rfl v⟩, fun u => ⟨rng (by omega) (by omega), inl (by decide), fun v => ⟨(inl (by decide)), fun _ => ?_, fun v => absurd rfl v⟩, fun v => ⟨inl (by decide), fun v => absurd v (by decide), fun _ => ?_⟩⟩⟩
      · rw [decide_eq_false (show ¬ (1 ≤ rkA x ∧ rkA x ≤ 3) by omega)] at h; exact h
      · rw [decide_eq_false (show ¬ (1 ≤ rkA x ∧ rkA x ≤ 3) by omega)] at h; exact h
      · rw [decide_eq_true (show 1 ≤ rkA x ∧ rkA x ≤ 3 by omega)] at h; exact h
theorem m_isOf {x : Int} (x0 : 0 ≤ x ∧ x ≤ 6) (e14 : σ 321 14 = l) (hl : l = 0 ∨ l = 1) (h : Q (b01 (decide (x ≠ (if l = 0 then 6 else 5)))) σ) : Ct mX12_isOf d 0 t [rv 321, iv x] σ Q := by
  have xr : inR x := rng (by omega) (by omega)
  refine c_X12_isOf ?_
  rw [e14]
  refine ⟨xr, fun z => ?_, fun z => ⟨xr, fun y => ⟨rng (by omega) (by omega), fun u => ?_, fun u => ?_⟩, fun y => ⟨rng (by omega) (by omega), fun u => ?_, fun u => ?_⟩⟩⟩
  · rw [decide_eq_true (by split <;> omega)] at h; exact h
  · rw [decide_eq_false (by rw [if_pos (by omega)]; omega)] at h; exact h
  · rw [decide_eq_true (by rw [if_neg (by omega)]; omega)] at h; exact h
  · rw [decide_eq_false (by rw [if_neg u]; omega)] at h; exact h
  · rw [decide_eq_true (by rw [if_pos u]; omega)] at h; exact h
end MR
