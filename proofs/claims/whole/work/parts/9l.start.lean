/-! ===== the invariant at the start ===== -/
def a0 : Int → Int := fun i => if i = 10 then 1 else if i = 30 then 1 else if i = 4 then 1 else if i = 1 then -1 else if i = 7 then 433 else 0
theorem ta0_322 {i : Int} : ta0 322 i = a0 i := by
  unfold ta0 a0
  by_cases h1 : i = 10
  · rw [h1, up_at, if_pos rfl]
  rw [up_ne (Or.inr h1), if_neg h1]
  by_cases h2 : i = 30
  · rw [h2, up_at, if_pos rfl]
  rw [up_ne (Or.inr h2), if_neg h2]
  by_cases h3 : i = 4
  · rw [h3, up_at, if_pos rfl]
  rw [up_ne (Or.inr h3), if_neg h3]
  by_cases h4 : i = 1
  · rw [h4, up_at, if_pos rfl]
  rw [up_ne (Or.inr h4), if_neg h4]
  by_cases h5 : i = 7
  · rw [h5, up_at, if_pos rfl]
  rw [up_ne (Or.inr h5), if_neg h5, tm0_lo (by decide)]
  rfl
theorem t0_322 : t0 322 = a0 := by
  funext i
  show sr ta0 323 (ta0 322) 322 i = _
  rw [sr_ne (by decide), ta0_322]
theorem t0_323 : t0 323 = a0 := by
  funext i
  show sr ta0 323 (ta0 322) 323 i = _
  rw [sr_at, ta0_322]
theorem a0_z {i : Int} (h : i ≠ 10 ∧ i ≠ 30 ∧ i ≠ 4 ∧ i ≠ 1 ∧ i ≠ 7) : a0 i = 0 := by
  unfold a0
  rw [if_neg h.1, if_neg h.2.1, if_neg h.2.2.1, if_neg h.2.2.2.1, if_neg h.2.2.2.2]
theorem RV_0 : RV (mrow a0) := by
  refine ⟨by decide, by decide, by decide, by decide, fun i i0 i1 => ?_, fun i i0 i1 => ?_⟩
  · rcases (show i = 0 ∨ i = 1 ∨ i = 2 ∨ i = 3 ∨ i = 4 ∨ i = 5 ∨ i = 6 ∨ i = 7 by omega) with rfl | rfl | rfl | rfl | rfl | rfl | rfl | rfl <;> decide
  · have i1 : i < 0 := i1
    omega
theorem AV_0 : AV a0 := by
  refine ⟨RV_0, ⟨by decide, by decide, fun k k0 k1 => ?_⟩, ⟨by decide, by decide, by decide, fun i i0 i1 => ?_⟩, ⟨by decide, by decide, fun i i0 i1 => ?_⟩, ⟨by decide, by decide, fun i i0 i1 => ?_⟩, by decide, by decide⟩
  · have k1 : k < 0 := k1
    omega
  · have i1 : i < 1 := i1
    have e : i = 0 := by omega
    subst e
    decide
  · have i1 : i < 0 := i1
    omega
  · have i1 : i < 0 := i1
    omega
theorem WRs_2 : WR t0 2 a0 := by
  refine ⟨⟨rfl, rfl, rfl, rfl, by decide, fun i i0 i1 => ?_, fun i i0 i1 => ?_⟩, ⟨by decide, rfl, by decide, fun k k0 k1 => ?_⟩, ⟨rfl, fun i i0 i1 => ?_⟩, ⟨rfl, fun i i0 i1 => ?_⟩, ⟨rfl, fun i i0 i1 => ?_⟩, rfl, rfl⟩
  · rcases (show i = 0 ∨ i = 1 ∨ i = 2 ∨ i = 3 ∨ i = 4 ∨ i = 5 ∨ i = 6 ∨ i = 7 by omega) with rfl | rfl | rfl | rfl | rfl | rfl | rfl | rfl <;> exact ⟨rfl, rfl⟩
  · have i1 : i < 0 := i1
    omega
  · have k1 : k < 0 := k1
    omega
  · have i1 : i < 1 := i1
    have e : i = 0 := by omega
    subst e
    rfl
  · have i1 : i < 0 := i1
    omega
  · have i1 : i < 0 := i1
    omega
theorem WRs_134 : WR t0 134 a0 := by
  refine ⟨⟨rfl, rfl, rfl, rfl, by decide, fun i i0 i1 => ?_, fun i i0 i1 => ?_⟩, ⟨by decide, rfl, by decide, fun k k0 k1 => ?_⟩, ⟨rfl, fun i i0 i1 => ?_⟩, ⟨rfl, fun i i0 i1 => ?_⟩, ⟨rfl, fun i i0 i1 => ?_⟩, rfl, rfl⟩
  · rcases (show i = 0 ∨ i = 1 ∨ i = 2 ∨ i = 3 ∨ i = 4 ∨ i = 5 ∨ i = 6 ∨ i = 7 by omega) with rfl | rfl | rfl | rfl | rfl | rfl | rfl | rfl <;> exact ⟨rfl, rfl⟩
  · have i1 : i < 0 := i1
    omega
  · have k1 : k < 0 := k1
    omega
  · have i1 : i < 1 := i1
    have e : i = 0 := by omega
    subst e
    rfl
  · have i1 : i < 0 := i1
    omega
  · have i1 : i < 0 := i1
    omega
def L0 : LT := fun _ => (none, none)
theorem I0_0 : I0 L0 t0 := by
  have z : t0 322 0 = 0 := by rw [t0_322]; rfl
  refine ⟨⟨by rw [t0_322]; exact WRs_2, by rw [t0_323]; exact WRs_134, by rw [t0_322]; exact AV_0, by rw [t0_323]; exact AV_0, by rw [t0_322, t0_323]; exact Int.le_refl _⟩, ⟨fun k k0 k1 => ?_, fun k k0 k1 => ?_, fun k k0 k1 => ?_, fun k k0 k1 => ?_⟩, ⟨rfl, by decide, fun i i0 i1 => ?_, by decide, by decide⟩, rfl⟩
  · rw [z] at k1; omega
  · rw [z] at k1; omega
  · rw [z] at k1; omega
  · rw [z] at k1; omega
  · have i1 : i < 0 := i1
    omega
theorem KR_0 : KR t0 := fun n n0 n1 => by
  have e : t0 332 n = 0 := rfl
  rw [e]
  exact ⟨Int.le_refl _, fun j hj => absurd hj (by omega)⟩
theorem KS_0 : KS t0 := fun n c n0 n1 c0 c1 => Or.inl rfl
theorem KP_0 : KP t0 := fun n n0 n1 => ⟨Or.inl rfl, Or.inl rfl⟩
theorem K1_0 : K1 t0 := ⟨fun n n0 n1 => Or.inl rfl, fun n n0 n1 => Or.inl rfl, Or.inl rfl⟩
