/-! ===== the constructors that make cells in loops (printed by wip/whole/print_init2.py) ===== -/
/-- the row of Houses of a Steps at a, i of them made -/
def hol (a i : Int) (g : jM) : jM := fun c j => if c < a then g c j else if c = a + 1 ∧ i ≤ j then 0 else gr 0 c j
theorem hol_lo {a i c j : Int} {g : jM} (e : c < a) : hol a i g c j = g c j := by unfold hol; rw [if_pos e]
theorem hol_hi {a i c j : Int} {g : jM} (e : a ≤ c) (h : c ≠ a + 1 ∨ j < i) : hol a i g c j = gr 0 c j := by unfold hol; rw [if_neg (by omega), if_neg (by omega)]
theorem hol_at {a i j : Int} {g : jM} (h : i ≤ j) : hol a i g (a + 1) j = 0 := by unfold hol; rw [if_neg (by omega), if_pos ⟨rfl, h⟩]
set_option maxRecDepth 8000 in
theorem n_X7_7 {d : Nat} {g σ : jM} {R : jV → jG → jM → Prop} (zg : ∀ j, g 7 j = 0) (zs : ∀ j, σ 7 j = 0) (k : ∀ r : jV, r.1 = 9 → R r (mix 7 g (gr 0), 128) (mix 7 σ ti)) : Cn mX7_init (d + 2) 121 [rv 7] (g, 7) σ R := by
  refine Cn_of (by decide +kernel) (Nat.le_of_ble_eq_true rfl) ?_
  refine J_cong (G' := zr g 7) (σ' := zr σ 7) (zr_ag zg zs) ?_
  refine s_aload_n (i := 0) (x := 7) rfl (show decode cX7_init 0 = .ok (.aload_n 0, 1) by decide +kernel) ?_
  refine j_objI (a := 7) (by decide) (tt_in 212 (by decide +kernel) rfl) (by omega) (Nat.le_of_ble_eq_true rfl) (show decode cX7_init 1 = .ok (.invokespecial 1, 3) by decide +kernel) ?_
  refine s_aload_n (i := 0) (x := 7) rfl (show decode cX7_init 4 = .ok (.aload_n 0, 1) by decide +kernel) ?_
  refine j_bipush (n := 30) (by decide +kernel) (show decode cX7_init 5 = .ok (.bipush 30, 2) by decide +kernel) ?_
  refine s_newr (t := 4) (N := 30) (C := RX1) (c := 8) (n' := 8) (Or.inl ⟨rfl, rfl⟩) rfl (by decide) (tt_in 213 (by decide +kernel) rfl) rfl rfl (by decide +kernel) (Nat.le_of_ble_eq_true rfl) (show decode cX7_init 7 = .ok (.anewarray 9, 3) by decide +kernel) ?_
  refine pf_X7_11 rfl rfl (show decode cX7_init 10 = .ok (.putfield 11, 3) by decide +kernel) (okb (n := 8) rfl (by decide) (by decide)) (by decide) ?_
  refine j_iconst (show decode cX7_init 13 = .ok (.iconst 0, 1) by decide +kernel) ?_
  refine s_ist_n (i := 1) (L' := [rv 7, iv 0]) rfl (by decide) (show decode cX7_init 14 = .ok (.istore_n 1, 1) by decide +kernel) ?_
  have key : ∀ (q i : Nat), i + q = 30 → J mX7_init (d + 2) 7 (7 + 121) R 15 [rv 7, iv (i : Int)] [] (hol 7 i g, 8 + 4 * i) (mix 7 σ ti) := by
    intro q
    induction q with
    | zero =>
      intro i hi
      have e30 : i = 30 := by omega
      subst e30
      refine j_iload_n (i := 1) rfl (show decode cX7_init 15 = .ok (.iload_n 1, 1) by decide +kernel) ?_
      refine j_bipush (n := 30) (by decide +kernel) (show decode cX7_init 16 = .ok (.bipush 30, 2) by decide +kernel) ?_
      refine j_icmp_ge (tgt := 40) (rng (by omega) (by omega)) (inl (by decide)) (show decode cX7_init 18 = .ok (.if_icmp .ge 22, 3) by decide +kernel) (by decide) (fun _ => ?_) (fun z => absurd z (by decide))
      refine J_cong (G' := mix 7 g (gr 0)) (σ' := mix 7 σ ti) ?_ ?_
      · intro c c0 c1 j hj
        refine ⟨?_, rfl⟩
        show mix 7 g (gr 0) c j = hol 7 30 g c j
        by_cases e : c < 7
        · rw [mix_lo e, hol_lo e]
        · rw [mix_hi (by omega), hol_hi (by omega)]
          by_cases e2 : c = 7 + 1
          · rw [e2] at hj
            have hj : j < 30 := hj
            omega
          · exact Or.inl e2
      · exact j_retA (rokV (show decode cX7_init 40 = .ok (.return_, 1) by decide +kernel) rfl) rfl (k uv rfl)
    | succ q ih =>
      intro i hi
      have oh : ob (GG 0) (8 + 1 + 4 * (i : Int)) 1 := ok_4 (t := 0) okl_8 (by omega) (by omega)
      have o1 := ok_1_0 oh
      have o2 := ok_1_1 oh
      have o3 := ok_1_2 oh
      refine j_iload_n (i := 1) rfl (show decode cX7_init 15 = .ok (.iload_n 1, 1) by decide +kernel) ?_
      refine j_bipush (n := 30) (by decide +kernel) (show decode cX7_init 16 = .ok (.bipush 30, 2) by decide +kernel) ?_
      refine j_icmp_ge (tgt := 40) (rng (by omega) (by omega)) (inl (by decide)) (show decode cX7_init 18 = .ok (.if_icmp .ge 22, 3) by decide +kernel) (by decide) (fun z => absurd z (by omega)) (fun _ => ?_)
      refine s_aload_n (i := 0) (x := 7) rfl (show decode cX7_init 21 = .ok (.aload_n 0, 1) by decide +kernel) ?_
      refine gf_X7_11 (x := 8) rfl (show decode cX7_init 22 = .ok (.getfield 11, 3) by decide +kernel) (okb (n := 8 + 4 * i) rfl (by decide) (by omega)) rfl ?_
      refine j_iload_n (i := 1) rfl (show decode cX7_init 25 = .ok (.iload_n 1, 1) by decide +kernel) ?_
      refine nw_X1 (c := (8 + 1 + 4 * (i : Int))) (n' := 8 + 1 + 4 * i) (tt_in 213 (by decide +kernel) rfl) (by omega) (by omega) oh.1 (show 8 + 1 + 4 * i ≤ 7 + 121 by omega) (show decode cX7_init 26 = .ok (.new 9, 3) by decide +kernel) ?_
      refine j_dup (show (2 : Nat) ≠ 1 by decide) (show decode cX7_init 29 = .ok (.dup, 1) by decide +kernel) ?_
      refine j_callN (m' := mX1_init) (k := 3) (n := 0) (a := (8 + 1 + 4 * (i : Int))) (As := []) (host := RX11) ⟨⟨List.mem_of_getElem? (i := 8) rfl, tt_in 167 (by decide +kernel) rfl, tt_in 131 (by decide +kernel) rfl, tt_in 168 (by decide +kernel) rfl⟩, ⟨by decide +kernel, by decide +kernel, by decide +kernel⟩, by decide +kernel, rfl, rfl⟩ (show decode cX7_init 30 = .ok (.invokespecial 15, 3) by decide +kernel) rfl (Nat.le_of_ble_eq_true rfl) (Nat.le_refl _) (show 8 + 1 + 4 * i + 3 ≤ 7 + 121 by omega) (by omega) ?_
      refine n_X1 (n := 8 + 1 + 4 * i) (n' := 8 + 4 * (i + 1)) (a := (8 + 1 + 4 * (i : Int))) (by omega) (by omega) (by omega) (by omega) oh.1 o1.1 o2.1 o3.1 (fun j => zr_at) (fun j => zr_at) (fun r hr => ?_)
      rw [jp9 hr]
      refine j_aast4 (n := 30) (show decode cX7_init 33 = .ok (.aastore, 1) by decide +kernel) (okr (n := 8 + 4 * (i + 1)) rfl (by decide) (by omega)) (by decide) (by omega) (okb (n := 8 + 4 * (i + 1)) oh.1 (by omega) (by omega)) ?_
      refine s_iinc (i := 1) rfl (L' := [rv 7, iv ((i : Int) + 1)]) rfl (show decode cX7_init 34 = .ok (.iinc 1 1, 3) by decide +kernel) ?_
      refine j_goto (tgt := 15) (show decode cX7_init 37 = .ok (.goto (-22), 3) by decide +kernel) (by decide) ?_
      have e1 : ((i : Int) + 1) = ((i + 1 : Nat) : Int) := by omega
      rw [e1]
      refine J_cong (G' := hol 7 (i + 1 : Nat) g) (σ' := mix 7 σ ti) ?_ (ih (i + 1) (by omega))
      intro c c0 c1 j hj
      have c1 : c ≤ ((8 + 4 * (i + 1) : Nat) : Int) := c1
      refine ⟨?_, ?_⟩
      · (try dsimp only)
        by_cases e8 : c = 8
        · subst e8
          have hj : j < 30 := hj
          by_cases ej : (j : Int) = (i : Int)
          · rw [ej, up_at, hol_hi (by omega) (Or.inr (by omega))]
            exact gr_4 (t := 0) okl_8
          · rw [up_ne (Or.inr ej), mix_lo (by omega), zr_row (by omega)]
            by_cases el : (j : Int) < (i : Int)
            · rw [hol_hi (by omega) (Or.inr (by omega)), hol_hi (by omega) (Or.inr el)]
            · rw [show (8 : Int) = 7 + 1 from rfl, hol_at (by omega), hol_at (by omega)]
        · rw [up_row e8]
          rcases (show c < 7 ∨ (7 ≤ c ∧ c < (8 + 1 + 4 * (i : Int))) ∨ (8 + 1 + 4 * (i : Int)) ≤ c by omega) with e | e | e
          · rw [mix_lo (by omega), zr_row (by omega), hol_lo e, hol_lo e]
          · rw [mix_lo (by omega), zr_row (by omega), hol_hi (by omega) (Or.inl (by omega)), hol_hi (by omega) (Or.inl (by omega))]
          · rw [mix_hi (by omega), hol_hi (by omega) (Or.inl (by omega))]
      · (try dsimp only)
        rcases (show c < (8 + 1 + 4 * (i : Int)) ∨ (8 + 1 + 4 * (i : Int)) ≤ c by omega) with e | e
        · rw [mix_lo (a := (8 + 1 + 4 * (i : Int))) (by omega), zr_row (by omega)]
        · rw [mix_hi (a := 7) (by omega), mix_hi (by omega)]
  refine J_cong (G' := hol 7 (0 : Nat) g) (σ' := mix 7 σ ti) ?_ (key 30 0 rfl)
  intro c c0 c1 j hj
  have c1 : c ≤ (8 : Int) := c1
  rcases (show c < 7 ∨ c = 7 ∨ c = 8 by omega) with e | e | e
  · refine ⟨?_, (congrFun (mix_lo e) _).trans ?_⟩
    · (try dsimp only); rw [hol_lo e, up_row (by omega), zr_row (by omega), zr_row (by omega)]
    · (try dsimp only); rw [zr_row (by omega), zr_row (by omega)]
  · subst e; have hj : j < 3 := hj; rcases (show j = 0 ∨ j = 1 ∨ j = 2 by omega) with rfl | rfl | rfl <;> exact ⟨rfl, rfl⟩
  · subst e; exact ⟨hol_at (by omega), rfl⟩
set_option maxRecDepth 8000 in
theorem n_X7_139 {d : Nat} {g σ : jM} {R : jV → jG → jM → Prop} (zg : ∀ j, g 139 j = 0) (zs : ∀ j, σ 139 j = 0) (k : ∀ r : jV, r.1 = 9 → R r (mix 139 g (gr 0), 260) (mix 139 σ ti)) : Cn mX7_init (d + 2) 121 [rv 139] (g, 139) σ R := by
  refine Cn_of (by decide +kernel) (Nat.le_of_ble_eq_true rfl) ?_
  refine J_cong (G' := zr g 139) (σ' := zr σ 139) (zr_ag zg zs) ?_
  refine s_aload_n (i := 0) (x := 139) rfl (show decode cX7_init 0 = .ok (.aload_n 0, 1) by decide +kernel) ?_
  refine j_objI (a := 139) (by decide) (tt_in 212 (by decide +kernel) rfl) (by omega) (Nat.le_of_ble_eq_true rfl) (show decode cX7_init 1 = .ok (.invokespecial 1, 3) by decide +kernel) ?_
  refine s_aload_n (i := 0) (x := 139) rfl (show decode cX7_init 4 = .ok (.aload_n 0, 1) by decide +kernel) ?_
  refine j_bipush (n := 30) (by decide +kernel) (show decode cX7_init 5 = .ok (.bipush 30, 2) by decide +kernel) ?_
  refine s_newr (t := 4) (N := 30) (C := RX1) (c := 140) (n' := 140) (Or.inl ⟨rfl, rfl⟩) rfl (by decide) (tt_in 213 (by decide +kernel) rfl) rfl rfl (by decide +kernel) (Nat.le_of_ble_eq_true rfl) (show decode cX7_init 7 = .ok (.anewarray 9, 3) by decide +kernel) ?_
  refine pf_X7_11 rfl rfl (show decode cX7_init 10 = .ok (.putfield 11, 3) by decide +kernel) (okb (n := 140) rfl (by decide) (by decide)) (by decide) ?_
  refine j_iconst (show decode cX7_init 13 = .ok (.iconst 0, 1) by decide +kernel) ?_
  refine s_ist_n (i := 1) (L' := [rv 139, iv 0]) rfl (by decide) (show decode cX7_init 14 = .ok (.istore_n 1, 1) by decide +kernel) ?_
  have key : ∀ (q i : Nat), i + q = 30 → J mX7_init (d + 2) 139 (139 + 121) R 15 [rv 139, iv (i : Int)] [] (hol 139 i g, 140 + 4 * i) (mix 139 σ ti) := by
    intro q
    induction q with
    | zero =>
      intro i hi
      have e30 : i = 30 := by omega
      subst e30
      refine j_iload_n (i := 1) rfl (show decode cX7_init 15 = .ok (.iload_n 1, 1) by decide +kernel) ?_
      refine j_bipush (n := 30) (by decide +kernel) (show decode cX7_init 16 = .ok (.bipush 30, 2) by decide +kernel) ?_
      refine j_icmp_ge (tgt := 40) (rng (by omega) (by omega)) (inl (by decide)) (show decode cX7_init 18 = .ok (.if_icmp .ge 22, 3) by decide +kernel) (by decide) (fun _ => ?_) (fun z => absurd z (by decide))
      refine J_cong (G' := mix 139 g (gr 0)) (σ' := mix 139 σ ti) ?_ ?_
      · intro c c0 c1 j hj
        refine ⟨?_, rfl⟩
        show mix 139 g (gr 0) c j = hol 139 30 g c j
        by_cases e : c < 139
        · rw [mix_lo e, hol_lo e]
        · rw [mix_hi (by omega), hol_hi (by omega)]
          by_cases e2 : c = 139 + 1
          · rw [e2] at hj
            have hj : j < 30 := hj
            omega
          · exact Or.inl e2
      · exact j_retA (rokV (show decode cX7_init 40 = .ok (.return_, 1) by decide +kernel) rfl) rfl (k uv rfl)
    | succ q ih =>
      intro i hi
      have oh : ob (GG 0) (140 + 1 + 4 * (i : Int)) 1 := ok_4 (t := 0) okl_140 (by omega) (by omega)
      have o1 := ok_1_0 oh
      have o2 := ok_1_1 oh
      have o3 := ok_1_2 oh
      refine j_iload_n (i := 1) rfl (show decode cX7_init 15 = .ok (.iload_n 1, 1) by decide +kernel) ?_
      refine j_bipush (n := 30) (by decide +kernel) (show decode cX7_init 16 = .ok (.bipush 30, 2) by decide +kernel) ?_
      refine j_icmp_ge (tgt := 40) (rng (by omega) (by omega)) (inl (by decide)) (show decode cX7_init 18 = .ok (.if_icmp .ge 22, 3) by decide +kernel) (by decide) (fun z => absurd z (by omega)) (fun _ => ?_)
      refine s_aload_n (i := 0) (x := 139) rfl (show decode cX7_init 21 = .ok (.aload_n 0, 1) by decide +kernel) ?_
      refine gf_X7_11 (x := 140) rfl (show decode cX7_init 22 = .ok (.getfield 11, 3) by decide +kernel) (okb (n := 140 + 4 * i) rfl (by decide) (by omega)) rfl ?_
      refine j_iload_n (i := 1) rfl (show decode cX7_init 25 = .ok (.iload_n 1, 1) by decide +kernel) ?_
      refine nw_X1 (c := (140 + 1 + 4 * (i : Int))) (n' := 140 + 1 + 4 * i) (tt_in 213 (by decide +kernel) rfl) (by omega) (by omega) oh.1 (show 140 + 1 + 4 * i ≤ 139 + 121 by omega) (show decode cX7_init 26 = .ok (.new 9, 3) by decide +kernel) ?_
      refine j_dup (show (2 : Nat) ≠ 1 by decide) (show decode cX7_init 29 = .ok (.dup, 1) by decide +kernel) ?_
      refine j_callN (m' := mX1_init) (k := 3) (n := 0) (a := (140 + 1 + 4 * (i : Int))) (As := []) (host := RX11) ⟨⟨List.mem_of_getElem? (i := 8) rfl, tt_in 167 (by decide +kernel) rfl, tt_in 131 (by decide +kernel) rfl, tt_in 168 (by decide +kernel) rfl⟩, ⟨by decide +kernel, by decide +kernel, by decide +kernel⟩, by decide +kernel, rfl, rfl⟩ (show decode cX7_init 30 = .ok (.invokespecial 15, 3) by decide +kernel) rfl (Nat.le_of_ble_eq_true rfl) (Nat.le_refl _) (show 140 + 1 + 4 * i + 3 ≤ 139 + 121 by omega) (by omega) ?_
      refine n_X1 (n := 140 + 1 + 4 * i) (n' := 140 + 4 * (i + 1)) (a := (140 + 1 + 4 * (i : Int))) (by omega) (by omega) (by omega) (by omega) oh.1 o1.1 o2.1 o3.1 (fun j => zr_at) (fun j => zr_at) (fun r hr => ?_)
      rw [jp9 hr]
      refine j_aast4 (n := 30) (show decode cX7_init 33 = .ok (.aastore, 1) by decide +kernel) (okr (n := 140 + 4 * (i + 1)) rfl (by decide) (by omega)) (by decide) (by omega) (okb (n := 140 + 4 * (i + 1)) oh.1 (by omega) (by omega)) ?_
      refine s_iinc (i := 1) rfl (L' := [rv 139, iv ((i : Int) + 1)]) rfl (show decode cX7_init 34 = .ok (.iinc 1 1, 3) by decide +kernel) ?_
      refine j_goto (tgt := 15) (show decode cX7_init 37 = .ok (.goto (-22), 3) by decide +kernel) (by decide) ?_
      have e1 : ((i : Int) + 1) = ((i + 1 : Nat) : Int) := by omega
      rw [e1]
      refine J_cong (G' := hol 139 (i + 1 : Nat) g) (σ' := mix 139 σ ti) ?_ (ih (i + 1) (by omega))
      intro c c0 c1 j hj
      have c1 : c ≤ ((140 + 4 * (i + 1) : Nat) : Int) := c1
      refine ⟨?_, ?_⟩
      · (try dsimp only)
        by_cases e8 : c = 140
        · subst e8
          have hj : j < 30 := hj
          by_cases ej : (j : Int) = (i : Int)
          · rw [ej, up_at, hol_hi (by omega) (Or.inr (by omega))]
            exact gr_4 (t := 0) okl_140
          · rw [up_ne (Or.inr ej), mix_lo (by omega), zr_row (by omega)]
            by_cases el : (j : Int) < (i : Int)
            · rw [hol_hi (by omega) (Or.inr (by omega)), hol_hi (by omega) (Or.inr el)]
            · rw [show (140 : Int) = 139 + 1 from rfl, hol_at (by omega), hol_at (by omega)]
        · rw [up_row e8]
          rcases (show c < 139 ∨ (139 ≤ c ∧ c < (140 + 1 + 4 * (i : Int))) ∨ (140 + 1 + 4 * (i : Int)) ≤ c by omega) with e | e | e
          · rw [mix_lo (by omega), zr_row (by omega), hol_lo e, hol_lo e]
          · rw [mix_lo (by omega), zr_row (by omega), hol_hi (by omega) (Or.inl (by omega)), hol_hi (by omega) (Or.inl (by omega))]
          · rw [mix_hi (by omega), hol_hi (by omega) (Or.inl (by omega))]
      · (try dsimp only)
        rcases (show c < (140 + 1 + 4 * (i : Int)) ∨ (140 + 1 + 4 * (i : Int)) ≤ c by omega) with e | e
        · rw [mix_lo (a := (140 + 1 + 4 * (i : Int))) (by omega), zr_row (by omega)]
        · rw [mix_hi (a := 139) (by omega), mix_hi (by omega)]
  refine J_cong (G' := hol 139 (0 : Nat) g) (σ' := mix 139 σ ti) ?_ (key 30 0 rfl)
  intro c c0 c1 j hj
  have c1 : c ≤ (140 : Int) := c1
  rcases (show c < 139 ∨ c = 139 ∨ c = 140 by omega) with e | e | e
  · refine ⟨?_, (congrFun (mix_lo e) _).trans ?_⟩
    · (try dsimp only); rw [hol_lo e, up_row (by omega), zr_row (by omega), zr_row (by omega)]
    · (try dsimp only); rw [zr_row (by omega), zr_row (by omega)]
  · subst e; have hj : j < 3 := hj; rcases (show j = 0 ∨ j = 1 ∨ j = 2 by omega) with rfl | rfl | rfl <;> exact ⟨rfl, rfl⟩
  · subst e; exact ⟨hol_at (by omega), rfl⟩
set_option maxRecDepth 8000 in
theorem n_X4_287 {d : Nat} {g σ : jM} {R : jV → jG → jM → Prop} (zg : ∀ j, g 287 j = 0) (zs : ∀ j, σ 287 j = 0) (k : ∀ r : jV, r.1 = 9 → R r (mix 287 g (gr 0), 289) (mix 287 σ ti)) : Cn mX4_init (d + 1) 2 [rv 287] (g, 287) σ R := by
  refine Cn_of (by decide +kernel) (Nat.le_of_ble_eq_true rfl) ?_
  refine J_cong (G' := zr g 287) (σ' := zr σ 287) (zr_ag zg zs) ?_
  refine s_aload_n (i := 0) (x := 287) rfl (show decode cX4_init 0 = .ok (.aload_n 0, 1) by decide +kernel) ?_
  refine j_objI (a := 287) (by decide) (tt_in 415 (by decide +kernel) rfl) (by omega) (Nat.le_of_ble_eq_true rfl) (show decode cX4_init 1 = .ok (.invokespecial 3, 3) by decide +kernel) ?_
  refine s_aload_n (i := 0) (x := 287) rfl (show decode cX4_init 4 = .ok (.aload_n 0, 1) by decide +kernel) ?_
  refine j_sipush (n := 164) (by decide +kernel) (show decode cX4_init 5 = .ok (.sipush 164, 3) by decide +kernel) ?_
  refine s_newa (t := 1) (N := 164) (c := 288) (n' := 288) (Or.inl ⟨rfl, rfl⟩) rfl (by decide) rfl rfl (by decide +kernel) (Nat.le_of_ble_eq_true rfl) (show decode cX4_init 8 = .ok (.newarray .int, 2) by decide +kernel) ?_
  refine pf_X4_11 rfl rfl (show decode cX4_init 10 = .ok (.putfield 11, 3) by decide +kernel) (okb (n := 288) rfl (by decide) (by decide)) (by decide) ?_
  refine s_aload_n (i := 0) (x := 287) rfl (show decode cX4_init 13 = .ok (.aload_n 0, 1) by decide +kernel) ?_
  refine j_iconst (show decode cX4_init 14 = .ok (.iconst 3, 1) by decide +kernel) ?_
  refine s_newa (t := 1) (N := 3) (c := 289) (n' := 289) (Or.inl ⟨rfl, rfl⟩) rfl (by decide) rfl rfl (by decide +kernel) (Nat.le_of_ble_eq_true rfl) (show decode cX4_init 15 = .ok (.newarray .int, 2) by decide +kernel) ?_
  refine pf_X4_15 rfl rfl (show decode cX4_init 17 = .ok (.putfield 15, 3) by decide +kernel) (okb (n := 289) rfl (by decide) (by decide)) (by decide) ?_
  refine j_iconst (show decode cX4_init 20 = .ok (.iconst 0, 1) by decide +kernel) ?_
  refine s_ist_n (i := 1) (L' := [rv 287, iv 0]) rfl (by decide) (show decode cX4_init 21 = .ok (.istore_n 1, 1) by decide +kernel) ?_
  have key : ∀ (q i : Nat), i + q = 164 → J mX4_init (d + 1) 287 (287 + 2) R 22 [rv 287, iv (i : Int)] [] (mix 287 g (gr 0), 289) (mix 287 σ (fun c j => if c = 288 ∧ (i : Int) ≤ j then 0 else ti c j)) := by
    intro q
    induction q with
    | zero =>
      intro i hi
      have e164 : i = 164 := by omega
      subst e164
      refine j_iload_n (i := 1) rfl (show decode cX4_init 22 = .ok (.iload_n 1, 1) by decide +kernel) ?_
      refine s_aload_n (i := 0) (x := 287) rfl (show decode cX4_init 23 = .ok (.aload_n 0, 1) by decide +kernel) ?_
      refine gf_X4_11 (x := 288) rfl (show decode cX4_init 24 = .ok (.getfield 11, 3) by decide +kernel) (okb (n := 289) rfl (by decide) (by decide)) rfl ?_
      refine j_alen1 (n := 164) (show decode cX4_init 27 = .ok (.arraylength, 1) by decide +kernel) (okr (n := 289) rfl (by decide) (by decide)) ?_
      refine j_icmp_ge (tgt := 45) (rng (by omega) (by omega)) (rng (by omega) (by omega)) (show decode cX4_init 28 = .ok (.if_icmp .ge 17, 3) by decide +kernel) (by decide) (fun _ => ?_) (fun z => absurd z (by omega))
      refine J_cong (G' := mix 287 g (gr 0)) (σ' := mix 287 σ ti) ?_ (j_retA (rokV (show decode cX4_init 45 = .ok (.return_, 1) by decide +kernel) rfl) rfl (k uv rfl))
      intro c c0 c1 j hj
      refine ⟨rfl, ?_⟩
      by_cases e : c < 287
      · rw [mix_lo e, mix_lo e]
      · rw [mix_hi (by omega), mix_hi (by omega)]
        by_cases e2 : c = 288
        · subst e2
          have hj : j < 164 := hj
          show ti 288 j = if (288 : Int) = 288 ∧ ((164 : Nat) : Int) ≤ j then 0 else ti 288 j
          rw [if_neg (by omega)]
        · show ti c j = if c = 288 ∧ ((164 : Nat) : Int) ≤ j then 0 else ti c j
          rw [if_neg (fun h => e2 h.1)]
    | succ q ih =>
      intro i hi
      refine j_iload_n (i := 1) rfl (show decode cX4_init 22 = .ok (.iload_n 1, 1) by decide +kernel) ?_
      refine s_aload_n (i := 0) (x := 287) rfl (show decode cX4_init 23 = .ok (.aload_n 0, 1) by decide +kernel) ?_
      refine gf_X4_11 (x := 288) rfl (show decode cX4_init 24 = .ok (.getfield 11, 3) by decide +kernel) (okb (n := 289) rfl (by decide) (by decide)) rfl ?_
      refine j_alen1 (n := 164) (show decode cX4_init 27 = .ok (.arraylength, 1) by decide +kernel) (okr (n := 289) rfl (by decide) (by decide)) ?_
      refine j_icmp_ge (tgt := 45) (rng (by omega) (by omega)) (rng (by omega) (by omega)) (show decode cX4_init 28 = .ok (.if_icmp .ge 17, 3) by decide +kernel) (by decide) (fun z => absurd z (by omega)) (fun _ => ?_)
      refine s_aload_n (i := 0) (x := 287) rfl (show decode cX4_init 31 = .ok (.aload_n 0, 1) by decide +kernel) ?_
      refine gf_X4_11 (x := 288) rfl (show decode cX4_init 32 = .ok (.getfield 11, 3) by decide +kernel) (okb (n := 289) rfl (by decide) (by decide)) rfl ?_
      refine j_iload_n (i := 1) rfl (show decode cX4_init 35 = .ok (.iload_n 1, 1) by decide +kernel) ?_
      refine j_bipush (n := -2) (by decide +kernel) (show decode cX4_init 36 = .ok (.bipush (-2), 2) by decide +kernel) ?_
      refine j_iast (n := 164) (show decode cX4_init 38 = .ok (.iastore, 1) by decide +kernel) (okr (n := 289) rfl (by decide) (by decide)) (by decide) (by omega) ?_
      refine s_iinc (i := 1) rfl (L' := [rv 287, iv ((i : Int) + 1)]) rfl (show decode cX4_init 39 = .ok (.iinc 1 1, 3) by decide +kernel) ?_
      refine j_goto (tgt := 22) (show decode cX4_init 42 = .ok (.goto (-20), 3) by decide +kernel) (by decide) ?_
      have e1 : ((i : Int) + 1) = ((i + 1 : Nat) : Int) := by omega
      rw [e1]
      refine J_cong (G' := mix 287 g (gr 0)) (σ' := mix 287 σ (fun c j => if c = 288 ∧ ((i + 1 : Nat) : Int) ≤ j then 0 else ti c j)) ?_ (ih (i + 1) (by omega))
      intro c c0 c1 j hj
      refine ⟨rfl, ?_⟩
      by_cases e : c < 287
      · rw [mix_lo e, up_row (by omega), mix_lo e]
      · by_cases e2 : c = 288
        · subst e2
          rw [mix_hi (by omega)]
          by_cases ej : (j : Int) = (i : Int)
          · rw [ej, up_at]
            show (if (288 : Int) = 288 ∧ ((i + 1 : Nat) : Int) ≤ (i : Int) then 0 else ti 288 i) = -2
            rw [if_neg (by omega)]
            rfl
          · rw [up_ne (Or.inr ej), mix_hi (by omega)]
            show (if (288 : Int) = 288 ∧ ((i + 1 : Nat) : Int) ≤ (j : Int) then 0 else ti 288 j) = if (288 : Int) = 288 ∧ (i : Int) ≤ (j : Int) then 0 else ti 288 j
            by_cases el : (i : Int) ≤ (j : Int)
            · rw [if_pos ⟨rfl, by omega⟩, if_pos ⟨rfl, el⟩]
            · rw [if_neg (by omega), if_neg (by omega)]
        · rw [mix_hi (by omega), up_row e2, mix_hi (by omega)]
          show (if c = 288 ∧ ((i + 1 : Nat) : Int) ≤ (j : Int) then 0 else ti c j) = if c = 288 ∧ (i : Int) ≤ (j : Int) then 0 else ti c j
          rw [if_neg (fun h => e2 h.1), if_neg (fun h => e2 h.1)]
  refine J_cong (G' := mix 287 g (gr 0)) (σ' := mix 287 σ (fun c j => if c = 288 ∧ ((0 : Nat) : Int) ≤ j then 0 else ti c j)) ?_ (key 164 0 rfl)
  intro c c0 c1 j hj
  have c1 : c ≤ (289 : Int) := c1
  rcases (show c < 287 ∨ c = 287 ∨ c = 288 ∨ c = 289 by omega) with e | e | e | e
  · refine ⟨(congrFun (mix_lo e) _).trans ?_, (congrFun (mix_lo e) _).trans ?_⟩
    · (try dsimp only); rw [up_row (by omega), zr_row (by omega), up_row (by omega), zr_row (by omega), zr_row (by omega)]
    · (try dsimp only); rw [zr_row (by omega), zr_row (by omega), zr_row (by omega)]
  · subst e; have hj : j < 4 := hj; rcases (show j = 0 ∨ j = 1 ∨ j = 2 ∨ j = 3 by omega) with rfl | rfl | rfl | rfl <;> exact ⟨rfl, rfl⟩
  · subst e
    refine ⟨rfl, (congrFun (mix_hi (by omega)) _).trans ?_⟩
    show (if (288 : Int) = 288 ∧ ((0 : Nat) : Int) ≤ (j : Int) then 0 else ti 288 j) = _
    rw [if_pos ⟨rfl, by omega⟩]
    rfl
  · subst e; exact ⟨rfl, rfl⟩
set_option maxRecDepth 8000 in
theorem n_X10_2 {d : Nat} {g σ : jM} {R : jV → jG → jM → Prop} (zg : ∀ j, g 2 j = 0) (zs : ∀ j, σ 2 j = 0) (k : ∀ r : jV, r.1 = 9 → R r (mix 2 g (gr 0), 133) (mix 2 σ ti)) : Cn mX10_init (d + 3) 131 [rv 2] (g, 2) σ R := by
  refine Cn_of (by decide +kernel) (Nat.le_of_ble_eq_true rfl) ?_
  refine J_cong (G' := zr g 2) (σ' := zr σ 2) (zr_ag zg zs) ?_
  refine s_aload_n (i := 0) (x := 2) rfl (show decode cX10_init 0 = .ok (.aload_n 0, 1) by decide +kernel) ?_
  refine j_objI (a := 2) (by decide) (tt_in 163 (by decide +kernel) rfl) (by omega) (Nat.le_of_ble_eq_true rfl) (show decode cX10_init 1 = .ok (.invokespecial 3, 3) by decide +kernel) ?_
  refine s_aload_n (i := 0) (x := 2) rfl (show decode cX10_init 4 = .ok (.aload_n 0, 1) by decide +kernel) ?_
  refine nw_X1 (c := 3) (n' := 3) (tt_in 164 (by decide +kernel) rfl) rfl rfl (by decide +kernel) (Nat.le_of_ble_eq_true rfl) (show decode cX10_init 5 = .ok (.new 9, 3) by decide +kernel) ?_
  refine j_dup (show (2 : Nat) ≠ 1 by decide) (show decode cX10_init 8 = .ok (.dup, 1) by decide +kernel) ?_
  refine j_callN (m' := mX1_init) (k := 3) (n := 0) (a := 3) (As := []) (host := RX11) ⟨⟨List.mem_of_getElem? (i := 9) rfl, tt_in 167 (by decide +kernel) rfl, tt_in 131 (by decide +kernel) rfl, tt_in 168 (by decide +kernel) rfl⟩, ⟨by decide +kernel, by decide +kernel, by decide +kernel⟩, by decide +kernel, rfl, rfl⟩ (show decode cX10_init 9 = .ok (.invokespecial 11, 3) by decide +kernel) rfl (Nat.le_of_ble_eq_true rfl) (Nat.le_refl _) (Nat.le_of_ble_eq_true rfl) (by decide) ?_
  refine n_X1 (n := 3) (n' := 6) (a := 3) rfl rfl (by decide) (by decide) rfl rfl rfl rfl (fun j => zr_at) (fun j => zr_at) (fun r hr => ?_)
  rw [jp9 hr]
  refine pf_X10_12 rfl rfl (show decode cX10_init 12 = .ok (.putfield 12, 3) by decide +kernel) (okb (n := 6) rfl (by decide) (by decide)) (by decide) ?_
  refine s_aload_n (i := 0) (x := 2) rfl (show decode cX10_init 15 = .ok (.aload_n 0, 1) by decide +kernel) ?_
  refine nw_X7 (c := 7) (n' := 7) (tt_in 207 (by decide +kernel) rfl) rfl rfl (by decide +kernel) (Nat.le_of_ble_eq_true rfl) (show decode cX10_init 16 = .ok (.new 18, 3) by decide +kernel) ?_
  refine j_dup (show (2 : Nat) ≠ 1 by decide) (show decode cX10_init 19 = .ok (.dup, 1) by decide +kernel) ?_
  refine j_callI (m' := mX7_init) (k := 121) (n := 0) (a := 7) (As := []) (cw_X10_20 rfl) (show decode cX10_init 20 = .ok (.invokespecial 20, 3) by decide +kernel) rfl (Nat.le_of_ble_eq_true rfl) (Nat.le_refl _) (Nat.le_of_ble_eq_true rfl) (by decide) ?_
  refine n_X7_7 (fun j => zr_at) (fun j => zr_at) (fun r hr => ?_)
  rw [jp9 hr]
  refine pf_X10_21 rfl rfl (show decode cX10_init 23 = .ok (.putfield 21, 3) by decide +kernel) (okb (n := 128) rfl (by decide) (by decide)) (by decide) ?_
  refine s_aload_n (i := 0) (x := 2) rfl (show decode cX10_init 26 = .ok (.aload_n 0, 1) by decide +kernel) ?_
  refine nw_X9 (c := 129) (n' := 129) (tt_in 227 (by decide +kernel) rfl) rfl rfl (by decide +kernel) (Nat.le_of_ble_eq_true rfl) (show decode cX10_init 27 = .ok (.new 25, 3) by decide +kernel) ?_
  refine j_dup (show (2 : Nat) ≠ 1 by decide) (show decode cX10_init 30 = .ok (.dup, 1) by decide +kernel) ?_
  refine j_callI (m' := mX9_init) (k := 1) (n := 0) (a := 129) (As := []) (cw_X10_27 rfl) (show decode cX10_init 31 = .ok (.invokespecial 27, 3) by decide +kernel) rfl (Nat.le_of_ble_eq_true rfl) (Nat.le_refl _) (Nat.le_of_ble_eq_true rfl) (by decide) ?_
  refine n_X9_129 (fun j => zr_at) (fun j => zr_at) (fun r hr => ?_)
  rw [jp9 hr]
  refine pf_X10_28 rfl rfl (show decode cX10_init 34 = .ok (.putfield 28, 3) by decide +kernel) (okb (n := 130) rfl (by decide) (by decide)) (by decide) ?_
  refine s_aload_n (i := 0) (x := 2) rfl (show decode cX10_init 37 = .ok (.aload_n 0, 1) by decide +kernel) ?_
  refine j_iconst (show decode cX10_init 38 = .ok (.iconst 4, 1) by decide +kernel) ?_
  refine s_newa (t := 1) (N := 4) (c := 131) (n' := 131) (Or.inl ⟨rfl, rfl⟩) rfl (by decide) rfl rfl (by decide +kernel) (Nat.le_of_ble_eq_true rfl) (show decode cX10_init 39 = .ok (.newarray .int, 2) by decide +kernel) ?_
  refine pf_X10_32 rfl rfl (show decode cX10_init 41 = .ok (.putfield 32, 3) by decide +kernel) (okb (n := 131) rfl (by decide) (by decide)) (by decide) ?_
  refine s_aload_n (i := 0) (x := 2) rfl (show decode cX10_init 44 = .ok (.aload_n 0, 1) by decide +kernel) ?_
  refine j_bipush (n := 8) (by decide +kernel) (show decode cX10_init 45 = .ok (.bipush 8, 2) by decide +kernel) ?_
  refine s_newa (t := 1) (N := 8) (c := 132) (n' := 132) (Or.inl ⟨rfl, rfl⟩) rfl (by decide) rfl rfl (by decide +kernel) (Nat.le_of_ble_eq_true rfl) (show decode cX10_init 47 = .ok (.newarray .int, 2) by decide +kernel) ?_
  refine pf_X10_36 rfl rfl (show decode cX10_init 49 = .ok (.putfield 36, 3) by decide +kernel) (okb (n := 132) rfl (by decide) (by decide)) (by decide) ?_
  refine s_aload_n (i := 0) (x := 2) rfl (show decode cX10_init 52 = .ok (.aload_n 0, 1) by decide +kernel) ?_
  refine j_bipush (n := 8) (by decide +kernel) (show decode cX10_init 53 = .ok (.bipush 8, 2) by decide +kernel) ?_
  refine s_newa (t := 1) (N := 8) (c := 133) (n' := 133) (Or.inl ⟨rfl, rfl⟩) rfl (by decide) rfl rfl (by decide +kernel) (Nat.le_of_ble_eq_true rfl) (show decode cX10_init 55 = .ok (.newarray .int, 2) by decide +kernel) ?_
  refine pf_X10_39 rfl rfl (show decode cX10_init 57 = .ok (.putfield 39, 3) by decide +kernel) (okb (n := 133) rfl (by decide) (by decide)) (by decide) ?_
  refine s_aload_n (i := 0) (x := 2) rfl (show decode cX10_init 60 = .ok (.aload_n 0, 1) by decide +kernel) ?_
  refine j_iconst (show decode cX10_init 61 = .ok (.iconst (-1), 1) by decide +kernel) ?_
  refine pf_X10_42 rfl (show decode cX10_init 62 = .ok (.putfield 42, 3) by decide +kernel) (okb (n := 133) rfl (by decide) (by decide)) ?_
  refine J_cong (G' := mix 2 g (gr 0)) (σ' := mix 2 σ ti) ?_ ?_
  · intro c c0 c1 j hj
    have c1 : c ≤ (133 : Int) := c1
    rcases (show c < 2 ∨ c = 2 ∨ (3 ≤ c ∧ c ≤ 6) ∨ (7 ≤ c ∧ c ≤ 128) ∨ (129 ≤ c ∧ c ≤ 130) ∨ c = 131 ∨ c = 132 ∨ c = 133 by omega) with e | e | e | e | e | e | e | e
    · refine ⟨(congrFun (mix_lo e) _).trans ?_, (congrFun (mix_lo e) _).trans ?_⟩
      · (try dsimp only); rw [up_row (by omega), zr_row (by omega), up_row (by omega), zr_row (by omega), up_row (by omega), zr_row (by omega), up_row (by omega), mix_lo (by omega), zr_row (by omega), up_row (by omega), mix_lo (by omega), zr_row (by omega), up_row (by omega), mix_lo (by omega), zr_row (by omega), zr_row (by omega)]
      · (try dsimp only); rw [up_row (by omega), zr_row (by omega), zr_row (by omega), zr_row (by omega), mix_lo (by omega), zr_row (by omega), mix_lo (by omega), zr_row (by omega), mix_lo (by omega), zr_row (by omega), zr_row (by omega)]
    · subst e; have hj : j < 10 := hj; rcases (show j = 0 ∨ j = 1 ∨ j = 2 ∨ j = 3 ∨ j = 4 ∨ j = 5 ∨ j = 6 ∨ j = 7 ∨ j = 8 ∨ j = 9 by omega) with rfl | rfl | rfl | rfl | rfl | rfl | rfl | rfl | rfl | rfl <;> exact ⟨rfl, rfl⟩
    · refine ⟨(congrFun (mix_hi (by omega)) _).trans ?_, (congrFun (mix_hi (by omega)) _).trans ?_⟩
      · (try dsimp only); rw [up_row (by omega), zr_row (by omega), up_row (by omega), zr_row (by omega), up_row (by omega), zr_row (by omega), up_row (by omega), mix_lo (by omega), zr_row (by omega), up_row (by omega), mix_lo (by omega), zr_row (by omega), up_row (by omega), mix_hi (by omega)]
      · (try dsimp only); rw [up_row (by omega), zr_row (by omega), zr_row (by omega), zr_row (by omega), mix_lo (by omega), zr_row (by omega), mix_lo (by omega), zr_row (by omega), mix_hi (by omega)]
    · refine ⟨(congrFun (mix_hi (by omega)) _).trans ?_, (congrFun (mix_hi (by omega)) _).trans ?_⟩
      · (try dsimp only); rw [up_row (by omega), zr_row (by omega), up_row (by omega), zr_row (by omega), up_row (by omega), zr_row (by omega), up_row (by omega), mix_lo (by omega), zr_row (by omega), up_row (by omega), mix_hi (by omega)]
      · (try dsimp only); rw [up_row (by omega), zr_row (by omega), zr_row (by omega), zr_row (by omega), mix_lo (by omega), zr_row (by omega), mix_hi (by omega)]
    · refine ⟨(congrFun (mix_hi (by omega)) _).trans ?_, (congrFun (mix_hi (by omega)) _).trans ?_⟩
      · (try dsimp only); rw [up_row (by omega), zr_row (by omega), up_row (by omega), zr_row (by omega), up_row (by omega), zr_row (by omega), up_row (by omega), mix_hi (by omega)]
      · (try dsimp only); rw [up_row (by omega), zr_row (by omega), zr_row (by omega), zr_row (by omega), mix_hi (by omega)]
    · subst e; exact ⟨rfl, rfl⟩
    · subst e; exact ⟨rfl, rfl⟩
    · subst e; exact ⟨rfl, rfl⟩
  · exact j_retA (rokV (show decode cX10_init 65 = .ok (.return_, 1) by decide +kernel) rfl) rfl (k uv rfl)
set_option maxRecDepth 8000 in
theorem n_X10_134 {d : Nat} {g σ : jM} {R : jV → jG → jM → Prop} (zg : ∀ j, g 134 j = 0) (zs : ∀ j, σ 134 j = 0) (k : ∀ r : jV, r.1 = 9 → R r (mix 134 g (gr 0), 265) (mix 134 σ ti)) : Cn mX10_init (d + 3) 131 [rv 134] (g, 134) σ R := by
  refine Cn_of (by decide +kernel) (Nat.le_of_ble_eq_true rfl) ?_
  refine J_cong (G' := zr g 134) (σ' := zr σ 134) (zr_ag zg zs) ?_
  refine s_aload_n (i := 0) (x := 134) rfl (show decode cX10_init 0 = .ok (.aload_n 0, 1) by decide +kernel) ?_
  refine j_objI (a := 134) (by decide) (tt_in 163 (by decide +kernel) rfl) (by omega) (Nat.le_of_ble_eq_true rfl) (show decode cX10_init 1 = .ok (.invokespecial 3, 3) by decide +kernel) ?_
  refine s_aload_n (i := 0) (x := 134) rfl (show decode cX10_init 4 = .ok (.aload_n 0, 1) by decide +kernel) ?_
  refine nw_X1 (c := 135) (n' := 135) (tt_in 164 (by decide +kernel) rfl) rfl rfl (by decide +kernel) (Nat.le_of_ble_eq_true rfl) (show decode cX10_init 5 = .ok (.new 9, 3) by decide +kernel) ?_
  refine j_dup (show (2 : Nat) ≠ 1 by decide) (show decode cX10_init 8 = .ok (.dup, 1) by decide +kernel) ?_
  refine j_callN (m' := mX1_init) (k := 3) (n := 0) (a := 135) (As := []) (host := RX11) ⟨⟨List.mem_of_getElem? (i := 9) rfl, tt_in 167 (by decide +kernel) rfl, tt_in 131 (by decide +kernel) rfl, tt_in 168 (by decide +kernel) rfl⟩, ⟨by decide +kernel, by decide +kernel, by decide +kernel⟩, by decide +kernel, rfl, rfl⟩ (show decode cX10_init 9 = .ok (.invokespecial 11, 3) by decide +kernel) rfl (Nat.le_of_ble_eq_true rfl) (Nat.le_refl _) (Nat.le_of_ble_eq_true rfl) (by decide) ?_
  refine n_X1 (n := 135) (n' := 138) (a := 135) rfl rfl (by decide) (by decide) rfl rfl rfl rfl (fun j => zr_at) (fun j => zr_at) (fun r hr => ?_)
  rw [jp9 hr]
  refine pf_X10_12 rfl rfl (show decode cX10_init 12 = .ok (.putfield 12, 3) by decide +kernel) (okb (n := 138) rfl (by decide) (by decide)) (by decide) ?_
  refine s_aload_n (i := 0) (x := 134) rfl (show decode cX10_init 15 = .ok (.aload_n 0, 1) by decide +kernel) ?_
  refine nw_X7 (c := 139) (n' := 139) (tt_in 207 (by decide +kernel) rfl) rfl rfl (by decide +kernel) (Nat.le_of_ble_eq_true rfl) (show decode cX10_init 16 = .ok (.new 18, 3) by decide +kernel) ?_
  refine j_dup (show (2 : Nat) ≠ 1 by decide) (show decode cX10_init 19 = .ok (.dup, 1) by decide +kernel) ?_
  refine j_callI (m' := mX7_init) (k := 121) (n := 0) (a := 139) (As := []) (cw_X10_20 rfl) (show decode cX10_init 20 = .ok (.invokespecial 20, 3) by decide +kernel) rfl (Nat.le_of_ble_eq_true rfl) (Nat.le_refl _) (Nat.le_of_ble_eq_true rfl) (by decide) ?_
  refine n_X7_139 (fun j => zr_at) (fun j => zr_at) (fun r hr => ?_)
  rw [jp9 hr]
  refine pf_X10_21 rfl rfl (show decode cX10_init 23 = .ok (.putfield 21, 3) by decide +kernel) (okb (n := 260) rfl (by decide) (by decide)) (by decide) ?_
  refine s_aload_n (i := 0) (x := 134) rfl (show decode cX10_init 26 = .ok (.aload_n 0, 1) by decide +kernel) ?_
  refine nw_X9 (c := 261) (n' := 261) (tt_in 227 (by decide +kernel) rfl) rfl rfl (by decide +kernel) (Nat.le_of_ble_eq_true rfl) (show decode cX10_init 27 = .ok (.new 25, 3) by decide +kernel) ?_
  refine j_dup (show (2 : Nat) ≠ 1 by decide) (show decode cX10_init 30 = .ok (.dup, 1) by decide +kernel) ?_
  refine j_callI (m' := mX9_init) (k := 1) (n := 0) (a := 261) (As := []) (cw_X10_27 rfl) (show decode cX10_init 31 = .ok (.invokespecial 27, 3) by decide +kernel) rfl (Nat.le_of_ble_eq_true rfl) (Nat.le_refl _) (Nat.le_of_ble_eq_true rfl) (by decide) ?_
  refine n_X9_261 (fun j => zr_at) (fun j => zr_at) (fun r hr => ?_)
  rw [jp9 hr]
  refine pf_X10_28 rfl rfl (show decode cX10_init 34 = .ok (.putfield 28, 3) by decide +kernel) (okb (n := 262) rfl (by decide) (by decide)) (by decide) ?_
  refine s_aload_n (i := 0) (x := 134) rfl (show decode cX10_init 37 = .ok (.aload_n 0, 1) by decide +kernel) ?_
  refine j_iconst (show decode cX10_init 38 = .ok (.iconst 4, 1) by decide +kernel) ?_
  refine s_newa (t := 1) (N := 4) (c := 263) (n' := 263) (Or.inl ⟨rfl, rfl⟩) rfl (by decide) rfl rfl (by decide +kernel) (Nat.le_of_ble_eq_true rfl) (show decode cX10_init 39 = .ok (.newarray .int, 2) by decide +kernel) ?_
  refine pf_X10_32 rfl rfl (show decode cX10_init 41 = .ok (.putfield 32, 3) by decide +kernel) (okb (n := 263) rfl (by decide) (by decide)) (by decide) ?_
  refine s_aload_n (i := 0) (x := 134) rfl (show decode cX10_init 44 = .ok (.aload_n 0, 1) by decide +kernel) ?_
  refine j_bipush (n := 8) (by decide +kernel) (show decode cX10_init 45 = .ok (.bipush 8, 2) by decide +kernel) ?_
  refine s_newa (t := 1) (N := 8) (c := 264) (n' := 264) (Or.inl ⟨rfl, rfl⟩) rfl (by decide) rfl rfl (by decide +kernel) (Nat.le_of_ble_eq_true rfl) (show decode cX10_init 47 = .ok (.newarray .int, 2) by decide +kernel) ?_
  refine pf_X10_36 rfl rfl (show decode cX10_init 49 = .ok (.putfield 36, 3) by decide +kernel) (okb (n := 264) rfl (by decide) (by decide)) (by decide) ?_
  refine s_aload_n (i := 0) (x := 134) rfl (show decode cX10_init 52 = .ok (.aload_n 0, 1) by decide +kernel) ?_
  refine j_bipush (n := 8) (by decide +kernel) (show decode cX10_init 53 = .ok (.bipush 8, 2) by decide +kernel) ?_
  refine s_newa (t := 1) (N := 8) (c := 265) (n' := 265) (Or.inl ⟨rfl, rfl⟩) rfl (by decide) rfl rfl (by decide +kernel) (Nat.le_of_ble_eq_true rfl) (show decode cX10_init 55 = .ok (.newarray .int, 2) by decide +kernel) ?_
  refine pf_X10_39 rfl rfl (show decode cX10_init 57 = .ok (.putfield 39, 3) by decide +kernel) (okb (n := 265) rfl (by decide) (by decide)) (by decide) ?_
  refine s_aload_n (i := 0) (x := 134) rfl (show decode cX10_init 60 = .ok (.aload_n 0, 1) by decide +kernel) ?_
  refine j_iconst (show decode cX10_init 61 = .ok (.iconst (-1), 1) by decide +kernel) ?_
  refine pf_X10_42 rfl (show decode cX10_init 62 = .ok (.putfield 42, 3) by decide +kernel) (okb (n := 265) rfl (by decide) (by decide)) ?_
  refine J_cong (G' := mix 134 g (gr 0)) (σ' := mix 134 σ ti) ?_ ?_
  · intro c c0 c1 j hj
    have c1 : c ≤ (265 : Int) := c1
    rcases (show c < 134 ∨ c = 134 ∨ (135 ≤ c ∧ c ≤ 138) ∨ (139 ≤ c ∧ c ≤ 260) ∨ (261 ≤ c ∧ c ≤ 262) ∨ c = 263 ∨ c = 264 ∨ c = 265 by omega) with e | e | e | e | e | e | e | e
    · refine ⟨(congrFun (mix_lo e) _).trans ?_, (congrFun (mix_lo e) _).trans ?_⟩
      · (try dsimp only); rw [up_row (by omega), zr_row (by omega), up_row (by omega), zr_row (by omega), up_row (by omega), zr_row (by omega), up_row (by omega), mix_lo (by omega), zr_row (by omega), up_row (by omega), mix_lo (by omega), zr_row (by omega), up_row (by omega), mix_lo (by omega), zr_row (by omega), zr_row (by omega)]
      · (try dsimp only); rw [up_row (by omega), zr_row (by omega), zr_row (by omega), zr_row (by omega), mix_lo (by omega), zr_row (by omega), mix_lo (by omega), zr_row (by omega), mix_lo (by omega), zr_row (by omega), zr_row (by omega)]
    · subst e; have hj : j < 10 := hj; rcases (show j = 0 ∨ j = 1 ∨ j = 2 ∨ j = 3 ∨ j = 4 ∨ j = 5 ∨ j = 6 ∨ j = 7 ∨ j = 8 ∨ j = 9 by omega) with rfl | rfl | rfl | rfl | rfl | rfl | rfl | rfl | rfl | rfl <;> exact ⟨rfl, rfl⟩
    · refine ⟨(congrFun (mix_hi (by omega)) _).trans ?_, (congrFun (mix_hi (by omega)) _).trans ?_⟩
      · (try dsimp only); rw [up_row (by omega), zr_row (by omega), up_row (by omega), zr_row (by omega), up_row (by omega), zr_row (by omega), up_row (by omega), mix_lo (by omega), zr_row (by omega), up_row (by omega), mix_lo (by omega), zr_row (by omega), up_row (by omega), mix_hi (by omega)]
      · (try dsimp only); rw [up_row (by omega), zr_row (by omega), zr_row (by omega), zr_row (by omega), mix_lo (by omega), zr_row (by omega), mix_lo (by omega), zr_row (by omega), mix_hi (by omega)]
    · refine ⟨(congrFun (mix_hi (by omega)) _).trans ?_, (congrFun (mix_hi (by omega)) _).trans ?_⟩
      · (try dsimp only); rw [up_row (by omega), zr_row (by omega), up_row (by omega), zr_row (by omega), up_row (by omega), zr_row (by omega), up_row (by omega), mix_lo (by omega), zr_row (by omega), up_row (by omega), mix_hi (by omega)]
      · (try dsimp only); rw [up_row (by omega), zr_row (by omega), zr_row (by omega), zr_row (by omega), mix_lo (by omega), zr_row (by omega), mix_hi (by omega)]
    · refine ⟨(congrFun (mix_hi (by omega)) _).trans ?_, (congrFun (mix_hi (by omega)) _).trans ?_⟩
      · (try dsimp only); rw [up_row (by omega), zr_row (by omega), up_row (by omega), zr_row (by omega), up_row (by omega), zr_row (by omega), up_row (by omega), mix_hi (by omega)]
      · (try dsimp only); rw [up_row (by omega), zr_row (by omega), zr_row (by omega), zr_row (by omega), mix_hi (by omega)]
    · subst e; exact ⟨rfl, rfl⟩
    · subst e; exact ⟨rfl, rfl⟩
    · subst e; exact ⟨rfl, rfl⟩
  · exact j_retA (rokV (show decode cX10_init 65 = .ok (.return_, 1) by decide +kernel) rfl) rfl (k uv rfl)
