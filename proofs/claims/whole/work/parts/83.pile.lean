/-! ===== the reference's pile ===== -/
def rkA (o : Int) : Int := if 40 ≤ o then 0 else if o = 22 then 1 else if o = 21 then 2 else if o = 20 then 3 else if 10 ≤ o then 4 else if 8 ≤ o then 6 else if 6 ≤ o then 5 else 7
theorem rkA_in {o : Int} : 0 ≤ rkA o ∧ rkA o ≤ 7 := by
  unfold rkA
  repeat' split
  all_goals omega
/-- the pile, its top first -/
def pilA (σ : jM) : List Int → Prop
  | [] => True
  | x :: P => σ 326 (P.length : Int) = x ∧ (0 ≤ x ∧ x ≤ 43) ∧ pilA σ P
theorem pilA_same {σ σ' : jM} : ∀ (P : List Int), pilA σ P → (∀ i, 0 ≤ i → i < (P.length : Int) → σ' 326 i = σ 326 i) → pilA σ' P
  | [], _, _ => trivial
  | x :: P, h, e => by
    have hl : ((x :: P).length : Int) = (P.length : Int) + 1 := by simp
    rw [hl] at e
    exact ⟨by rw [e _ (by omega) (by omega)]; exact h.1, h.2.1, pilA_same P h.2.2 (fun i a b => e i a (by omega))⟩
def opA : List Int → Int
  | [] => -1
  | x :: P => if 40 ≤ x then x else opA P
def opI : List Int → Int
  | [] => -1
  | x :: P => if 40 ≤ x then (P.length : Int) else opI P
def cmA : List Int → Bool
  | [] => false
  | x :: P => if 4 < rkA x then cmA P else decide (rkA x = 4)
def mfA (σ : jM) (b : Int) (i : Int) : Int := σ 324 (b + 73 + 2 * i)
def mgA (σ : jM) (b : Int) (i : Int) : Int := σ 324 (b + 73 + 2 * i + 1)
def offZ (b w0 : Int) (σ σ' : jM) : Prop := (∀ x, x ≠ 321 → x ≠ 324 → x ≠ 326 → σ' x = σ x) ∧ (∀ j, (j < 7 ∨ j = 12 ∨ j = 14 ∨ 18 < j) → σ' 321 j = σ 321 j) ∧ (∀ i, (i < b + 73 + 2 * w0 ∨ b + 681 ≤ i) → σ' 324 i = σ 324 i)
theorem offZ_rf {b w : Int} {σ : jM} : offZ b w σ σ := ⟨fun _ _ _ _ => rfl, fun _ _ => rfl, fun _ _ => rfl⟩
theorem offZ_tr {b w w1 : Int} {σ σ1 σ2 : jM} (a : offZ b w σ σ1) (h : w ≤ w1) (c : offZ b w1 σ1 σ2) : offZ b w σ σ2 := ⟨fun x h1 h2 h3 => (c.1 x h1 h2 h3).trans (a.1 x h1 h2 h3), fun j hj => (c.2.1 j hj).trans (a.2.1 j hj), fun i hi => (c.2.2 i (by omega)).trans (a.2.2 i hi)⟩
/-- how many of what waits are open -/
def opC : List Int → Int
  | [] => 0
  | x :: E => (if rkA x = 7 ∨ x = 20 then 1 else 0) + opC E
section MP
variable {d : Nat} {t : Int} {Q : Int → jM → Prop} {σ : jM}
theorem m_rank {o : Int} (o0 : 0 ≤ o ∧ o ≤ 43) (h : Q (rkA o) σ) : Ct mX12_rank d 0 t [iv o] σ Q := by
  have r : inR o := rng (by omega) (by omega)
  unfold rkA at h
  refine c_X12_rank ⟨r, fun a => ?_, fun a => ?_⟩
  · rw [if_neg (show ¬ 40 ≤ o by omega)] at h
    refine ⟨r, fun b => ?_, fun b => ?_⟩
    · rw [if_neg b] at h
      refine ⟨r, fun c => ?_, fun c => ?_⟩
      · rw [if_neg c] at h
        refine ⟨r, fun e => ?_, fun e => ?_⟩
        · rw [if_neg e] at h
          refine ⟨r, fun f => ?_, fun f => ?_⟩
          · rw [if_neg (show ¬ 10 ≤ o by omega)] at h
            refine ⟨r, fun g => ?_, fun g => ?_⟩
            · rw [if_neg (show ¬ 8 ≤ o by omega)] at h
              refine ⟨r, fun i => ?_, fun i => ?_⟩
              · rw [if_neg (show ¬ 6 ≤ o by omega)] at h; exact h
              · rw [if_pos i] at h; exact h
            · rw [if_pos g] at h; exact h
          · rw [if_pos f] at h; exact h
        · rw [if_pos e] at h; exact h
      · rw [if_pos c] at h; exact h
    · rw [if_pos b] at h; exact h
  · rw [if_pos a] at h; exact h
theorem m_openAt {P : List Int} (hp : pilA σ P) (hl : P.length ≤ 160) (e16 : σ 321 16 = (P.length : Int)) (h : Q (opI P) σ) : Ct mX12_openAt d 0 t [rv 321] σ Q := by
  have key : ∀ (P : List Int), pilA σ P → P.length ≤ 160 → Q (opI P) σ → Jt mX12_openAt d 0 t Q 7 [rv 321, iv ((P.length : Int) - 1)] [] σ := by
    intro P
    induction P with
    | nil =>
      intro _ _ h
      exact b_X12_openAt_7 ⟨inl (by decide), fun _ => h, fun z => absurd z (by decide)⟩
    | cons x P ih =>
      intro hp hl h
      have hl' : P.length + 1 ≤ 160 := hl
      have e : (((x :: P).length : Nat) : Int) - 1 = (P.length : Int) := by simp
      rw [e]
      refine b_X12_openAt_7 ?_
      rw [hp.1]
      have hx := hp.2.1
      rw [opI] at h
      refine ⟨rng (by omega) (by omega), fun z => absurd z (by omega), fun _ => ⟨by omega, rng (by omega) (by omega), fun z => ?_, fun z => ?_⟩⟩
      · rw [if_pos z] at h; exact h
      · rw [if_neg (by omega)] at h
        exact ih hp.2.2 (by omega) h
  refine c_X12_openAt ?_
  rw [e16]
  exact key P hp hl h
theorem opI_in : ∀ (P : List Int), -1 ≤ opI P ∧ opI P < (P.length : Int) + 1 ∧ (0 ≤ opI P → opI P < (P.length : Int))
  | [] => by simp [opI]
  | x :: P => by
    have := opI_in P
    have hl : ((x :: P).length : Int) = (P.length : Int) + 1 := by simp
    rw [opI, hl]
    split <;> omega
theorem opI_at : ∀ (P : List Int), pilA σ P → (0 ≤ opI P → σ 326 (opI P) = opA P ∧ 40 ≤ opA P) ∧ (opI P < 0 → opA P = -1)
  | [], _ => by simp [opI, opA]
  | x :: P, h => by
    rw [opI, opA]
    split
    · rename_i z
      exact ⟨fun _ => ⟨h.1, z⟩, fun y => absurd y (by omega)⟩
    · exact opI_at P h.2.2
theorem m_openNow {P : List Int} (hp : pilA σ P) (hl : P.length ≤ 160) (e16 : σ 321 16 = (P.length : Int)) (h : Q (opA P) σ) : Ct mX12_openNow (d + 1) 0 t [rv 321] σ Q := by
  have i1 := opI_in P
  have i2 := opI_at P hp
  refine c_X12_openNow (m_openAt hp hl e16 ⟨rng (by omega) (by omega), fun z => m_openAt hp hl e16 ⟨by omega, ?_⟩, fun z => ?_⟩)
  · rw [(i2.1 z).1]; exact h
  · rw [i2.2 z] at h; exact h
theorem m_isCompared {P : List Int} (hp : pilA σ P) (hl : P.length ≤ 160) (e16 : σ 321 16 = (P.length : Int)) (h : Q (b01 (cmA P)) σ) : Ct mX12_isCompared (d + 1) 0 t [rv 321] σ Q := by
  have key : ∀ (P : List Int), pilA σ P → P.length ≤ 160 → Q (b01 (cmA P)) σ → Jt mX12_isCompared (d + 1) 0 t Q 7 [rv 321, iv ((P.length : Int) - 1)] [] σ := by
    intro P
    induction P with
    | nil =>
      intro _ _ h
      exact b_X12_isCompared_7 ⟨inl (by decide), fun _ => ⟨inl (by decide), fun _ => h, fun z => absurd z (by decide)⟩, fun z => absurd z (by decide)⟩
    | cons x P ih =>
      intro hp hl h
      have hl' : P.length + 1 ≤ 160 := hl
      have e : (((x :: P).length : Nat) : Int) - 1 = (P.length : Int) := by simp
      rw [e]
      refine b_X12_isCompared_7 ?_
      rw [hp.1]
      have hx := hp.2.1
      have ri := rkA_in (o := x)
      rw [cmA] at h
      refine ⟨rng (by omega) (by omega), fun z => absurd z (by omega), fun _ => ⟨by omega, m_rank hx ⟨rng (by omega) (by omega), fun z => ⟨rng (by omega) (by omega), fun y => absurd y (by omega), fun _ => ⟨by omega, ?_⟩⟩, fun z => ?_⟩⟩⟩
      · rw [if_neg (by omega)] at h
        rw [hp.1]
        refine m_rank hx ⟨rng (by omega) (by omega), fun y => ?_, fun y => ?_⟩
        · rw [decide_eq_false y] at h; exact h
        · rw [decide_eq_true y] at h; exact h
      · rw [if_pos z] at h
        exact ih hp.2.2 (by omega) h
  refine c_X12_isCompared ?_
  rw [e16]
  exact key P hp hl h
theorem m_emit {b w op v : Int} (e12 : σ 321 12 = b) (e13 : σ 321 13 = w) (b0 : 0 ≤ b ∧ b ≤ 2043) (w0 : 0 ≤ w ∧ w < 304) (k : ∀ σ', σ' 321 13 = w + 1 → (∀ j, j ≠ 13 → σ' 321 j = σ 321 j) → (∀ x, x ≠ 321 → x ≠ 324 → σ' x = σ x) → (∀ i, i ≠ b + 73 + 2 * w → i ≠ b + 73 + 2 * w + 1 → σ' 324 i = σ 324 i) → mfA σ' b w = op → mgA σ' b w = v → Q 0 σ') : Ct mX12_emit d 9 t [rv 321, iv op, iv v] σ Q := by
  refine c_X12_emit ?_
  rw [e12, e13]
  refine ⟨by omega, fun σ2 e2 => ?_⟩
  have a12 : σ2 321 12 = b := by rw [e2, up_row (by omega)]; exact e12
  have a13 : σ2 321 13 = w := by rw [e2, up_row (by omega)]; exact e13
  rw [a12, a13]
  refine ⟨by omega, fun σ4 e4 σ5 e5 => ?_⟩
  refine k σ5 ?_ (fun j hj => ?_) (fun x h1 h2 => ?_) (fun i h1 h2 => ?_) ?_ ?_
  · rw [e5, up_at, e4, up_row (by omega), a13]
  · rw [e5, up_ne (Or.inr hj), e4, up_row (by omega), e2, up_row (by omega)]
  · rw [e5, e4, e2, up_row h1, up_row h2, up_row h2]
  · rw [e5, e4, e2, up_row (by omega), up_ne (Or.inr h2), up_ne (Or.inr h1)]
  · unfold mfA; rw [e5, e4, e2, up_row (by omega), up_ne (Or.inr (by omega)), up_at]
  · unfold mgA; rw [e5, e4, up_row (by omega), up_at]
end MP
