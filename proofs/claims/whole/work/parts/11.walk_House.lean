/-! ===== walks (printed by wip/whole/gen_blocks.py) ===== -/
set_option maxRecDepth 4000 in
theorem b_X1_copyFrom_0 {d : Nat} {t : Int} {Q : Int → jM → Prop} {σ : jM} {a0 p1 : Int} (h0 : ob (GG t) a0 1) (h1 : ob (GG t) p1 1) (h : ∀ σ1 : jM, σ1 = cpy σ (p1 + 1) 0 (a0 + 1) 0 8 → (∀ σ2 : jM, σ2 = cpy σ1 (p1 + 2) 0 (a0 + 2) 0 8 → (∀ σ3 : jM, σ3 = cpy σ2 (p1 + 3) 0 (a0 + 3) 0 25 → (∀ σ4 : jM, σ4 = up σ3 a0 3 (σ3 p1 3) → (∀ σ5 : jM, σ5 = up σ4 a0 4 (σ4 p1 4) → (∀ σ6 : jM, σ6 = up σ5 a0 5 (σ5 p1 5) → (∀ σ7 : jM, σ7 = up σ6 a0 6 (σ6 p1 6) → (∀ σ8 : jM, σ8 = up σ7 a0 7 (σ7 p1 7) → (Q 0 σ8))))))))) : Jt mX1_copyFrom (d + 2) 9 t Q 0 [rv a0, rv p1] [] σ := by
  refine s_aload_n (i := 1) rfl (show decode cX1_copyFrom 0 = .ok (.aload_n 1, 1) by decide +kernel) ?_
  refine gf_X1_9 (x := (p1 + 1)) rfl (show decode cX1_copyFrom 1 = .ok (.getfield 9, 3) by decide +kernel) h1 (gr_1_0 h1) ?_
  refine j_iconst (show decode cX1_copyFrom 4 = .ok (.iconst 0, 1) by decide +kernel) ?_
  refine s_aload_n (i := 0) rfl (show decode cX1_copyFrom 5 = .ok (.aload_n 0, 1) by decide +kernel) ?_
  refine gf_X1_9 (x := (a0 + 1)) rfl (show decode cX1_copyFrom 6 = .ok (.getfield 9, 3) by decide +kernel) h0 (gr_1_0 h0) ?_
  refine j_iconst (show decode cX1_copyFrom 9 = .ok (.iconst 0, 1) by decide +kernel) ?_
  refine j_bipush (n := 8) (by decide +kernel) (show decode cX1_copyFrom 10 = .ok (.bipush 8, 2) by decide +kernel) ?_
  refine j_copy1 (tt_in 494 (by decide +kernel) rfl) (by omega) (Nat.le_of_ble_eq_true rfl) (ok_1_0 h1) (ok_1_0 h0) (arN (t := t) (ok_1_0 h1) (by decide)) (arN (t := t) (ok_1_0 h0) (by decide)) (by decide) (show decode cX1_copyFrom 12 = .ok (.invokestatic 26, 3) by decide +kernel) ?_
  obtain ⟨σ1, eσ1⟩ : ∃ z : jM, z = cpy σ (p1 + 1) 0 (a0 + 1) 0 8 := ⟨_, rfl⟩
  refine j_sig eσ1 ?_
  have h := h σ1 eσ1
  refine s_aload_n (i := 1) rfl (show decode cX1_copyFrom 15 = .ok (.aload_n 1, 1) by decide +kernel) ?_
  refine gf_X1_15 (x := (p1 + 2)) rfl (show decode cX1_copyFrom 16 = .ok (.getfield 15, 3) by decide +kernel) h1 (gr_1_1 h1) ?_
  refine j_iconst (show decode cX1_copyFrom 19 = .ok (.iconst 0, 1) by decide +kernel) ?_
  refine s_aload_n (i := 0) rfl (show decode cX1_copyFrom 20 = .ok (.aload_n 0, 1) by decide +kernel) ?_
  refine gf_X1_15 (x := (a0 + 2)) rfl (show decode cX1_copyFrom 21 = .ok (.getfield 15, 3) by decide +kernel) h0 (gr_1_1 h0) ?_
  refine j_iconst (show decode cX1_copyFrom 24 = .ok (.iconst 0, 1) by decide +kernel) ?_
  refine j_bipush (n := 8) (by decide +kernel) (show decode cX1_copyFrom 25 = .ok (.bipush 8, 2) by decide +kernel) ?_
  refine j_copy1 (tt_in 494 (by decide +kernel) rfl) (by omega) (Nat.le_of_ble_eq_true rfl) (ok_1_1 h1) (ok_1_1 h0) (arN (t := t) (ok_1_1 h1) (by decide)) (arN (t := t) (ok_1_1 h0) (by decide)) (by decide) (show decode cX1_copyFrom 27 = .ok (.invokestatic 26, 3) by decide +kernel) ?_
  obtain ⟨σ2, eσ2⟩ : ∃ z : jM, z = cpy σ1 (p1 + 2) 0 (a0 + 2) 0 8 := ⟨_, rfl⟩
  refine j_sig eσ2 ?_
  have h := h σ2 eσ2
  refine s_aload_n (i := 1) rfl (show decode cX1_copyFrom 30 = .ok (.aload_n 1, 1) by decide +kernel) ?_
  refine gf_X1_18 (x := (p1 + 3)) rfl (show decode cX1_copyFrom 31 = .ok (.getfield 18, 3) by decide +kernel) h1 (gr_1_2 h1) ?_
  refine j_iconst (show decode cX1_copyFrom 34 = .ok (.iconst 0, 1) by decide +kernel) ?_
  refine s_aload_n (i := 0) rfl (show decode cX1_copyFrom 35 = .ok (.aload_n 0, 1) by decide +kernel) ?_
  refine gf_X1_18 (x := (a0 + 3)) rfl (show decode cX1_copyFrom 36 = .ok (.getfield 18, 3) by decide +kernel) h0 (gr_1_2 h0) ?_
  refine j_iconst (show decode cX1_copyFrom 39 = .ok (.iconst 0, 1) by decide +kernel) ?_
  refine j_bipush (n := 25) (by decide +kernel) (show decode cX1_copyFrom 40 = .ok (.bipush 25, 2) by decide +kernel) ?_
  refine j_copy2 (tt_in 494 (by decide +kernel) rfl) (by omega) (Nat.le_of_ble_eq_true rfl) (ok_1_2 h1) (ok_1_2 h0) (arN (t := t) (ok_1_2 h1) (by decide)) (arN (t := t) (ok_1_2 h0) (by decide)) (by decide) (show decode cX1_copyFrom 42 = .ok (.invokestatic 26, 3) by decide +kernel) ?_
  obtain ⟨σ3, eσ3⟩ : ∃ z : jM, z = cpy σ2 (p1 + 3) 0 (a0 + 3) 0 25 := ⟨_, rfl⟩
  refine j_sig eσ3 ?_
  have h := h σ3 eσ3
  refine s_aload_n (i := 0) rfl (show decode cX1_copyFrom 45 = .ok (.aload_n 0, 1) by decide +kernel) ?_
  refine s_aload_n (i := 1) rfl (show decode cX1_copyFrom 46 = .ok (.aload_n 1, 1) by decide +kernel) ?_
  refine gf_X1_32 rfl (show decode cX1_copyFrom 47 = .ok (.getfield 32, 3) by decide +kernel) h1 ?_
  refine pf_X1_32 rfl (show decode cX1_copyFrom 50 = .ok (.putfield 32, 3) by decide +kernel) h0 ?_
  obtain ⟨σ4, eσ4⟩ : ∃ z : jM, z = up σ3 a0 3 (σ3 p1 3) := ⟨_, rfl⟩
  refine j_sig eσ4 ?_
  have h := h σ4 eσ4
  refine s_aload_n (i := 0) rfl (show decode cX1_copyFrom 53 = .ok (.aload_n 0, 1) by decide +kernel) ?_
  refine s_aload_n (i := 1) rfl (show decode cX1_copyFrom 54 = .ok (.aload_n 1, 1) by decide +kernel) ?_
  refine gf_X1_35 rfl (show decode cX1_copyFrom 55 = .ok (.getfield 35, 3) by decide +kernel) h1 ?_
  refine pf_X1_35 rfl (show decode cX1_copyFrom 58 = .ok (.putfield 35, 3) by decide +kernel) h0 ?_
  obtain ⟨σ5, eσ5⟩ : ∃ z : jM, z = up σ4 a0 4 (σ4 p1 4) := ⟨_, rfl⟩
  refine j_sig eσ5 ?_
  have h := h σ5 eσ5
  refine s_aload_n (i := 0) rfl (show decode cX1_copyFrom 61 = .ok (.aload_n 0, 1) by decide +kernel) ?_
  refine s_aload_n (i := 1) rfl (show decode cX1_copyFrom 62 = .ok (.aload_n 1, 1) by decide +kernel) ?_
  refine gf_X1_38 rfl (show decode cX1_copyFrom 63 = .ok (.getfield 38, 3) by decide +kernel) h1 ?_
  refine pf_X1_38 rfl (show decode cX1_copyFrom 66 = .ok (.putfield 38, 3) by decide +kernel) h0 ?_
  obtain ⟨σ6, eσ6⟩ : ∃ z : jM, z = up σ5 a0 5 (σ5 p1 5) := ⟨_, rfl⟩
  refine j_sig eσ6 ?_
  have h := h σ6 eσ6
  refine s_aload_n (i := 0) rfl (show decode cX1_copyFrom 69 = .ok (.aload_n 0, 1) by decide +kernel) ?_
  refine s_aload_n (i := 1) rfl (show decode cX1_copyFrom 70 = .ok (.aload_n 1, 1) by decide +kernel) ?_
  refine gf_X1_41 rfl (show decode cX1_copyFrom 71 = .ok (.getfield 41, 3) by decide +kernel) h1 ?_
  refine pf_X1_41 rfl (show decode cX1_copyFrom 74 = .ok (.putfield 41, 3) by decide +kernel) h0 ?_
  obtain ⟨σ7, eσ7⟩ : ∃ z : jM, z = up σ6 a0 6 (σ6 p1 6) := ⟨_, rfl⟩
  refine j_sig eσ7 ?_
  have h := h σ7 eσ7
  refine s_aload_n (i := 0) rfl (show decode cX1_copyFrom 77 = .ok (.aload_n 0, 1) by decide +kernel) ?_
  refine s_aload_n (i := 1) rfl (show decode cX1_copyFrom 78 = .ok (.aload_n 1, 1) by decide +kernel) ?_
  refine gf_X1_22 rfl (show decode cX1_copyFrom 79 = .ok (.getfield 22, 3) by decide +kernel) h1 ?_
  refine pf_X1_22 rfl (show decode cX1_copyFrom 82 = .ok (.putfield 22, 3) by decide +kernel) h0 ?_
  obtain ⟨σ8, eσ8⟩ : ∃ z : jM, z = up σ7 a0 7 (σ7 p1 7) := ⟨_, rfl⟩
  refine j_sig eσ8 ?_
  have h := h σ8 eσ8
  exact j_ret (rokV (show decode cX1_copyFrom 85 = .ok (.return_, 1) by decide +kernel) rfl) ⟨rfl, rfl, h⟩
theorem c_X1_copyFrom {d : Nat} {t : Int} {Q : Int → jM → Prop} {σ : jM} {a0 p1 : Int} (h0 : ob (GG t) a0 1) (h1 : ob (GG t) p1 1) (h : ∀ σ1 : jM, σ1 = cpy σ (p1 + 1) 0 (a0 + 1) 0 8 → (∀ σ2 : jM, σ2 = cpy σ1 (p1 + 2) 0 (a0 + 2) 0 8 → (∀ σ3 : jM, σ3 = cpy σ2 (p1 + 3) 0 (a0 + 3) 0 25 → (∀ σ4 : jM, σ4 = up σ3 a0 3 (σ3 p1 3) → (∀ σ5 : jM, σ5 = up σ4 a0 4 (σ4 p1 4) → (∀ σ6 : jM, σ6 = up σ5 a0 5 (σ5 p1 5) → (∀ σ7 : jM, σ7 = up σ6 a0 6 (σ6 p1 6) → (∀ σ8 : jM, σ8 = up σ7 a0 7 (σ7 p1 7) → (Q 0 σ8))))))))) : Ct mX1_copyFrom (d + 2) 9 t [rv a0, rv p1] σ Q := Ct_of (by decide +kernel) (Nat.le_of_ble_eq_true rfl) (b_X1_copyFrom_0 h0 h1 h)
set_option maxRecDepth 4000 in
theorem b_X1_holds_0 {d : Nat} {t : Int} {Q : Int → jM → Prop} {σ : jM} {a0 p1 : Int} (h0 : ob (GG t) a0 1) (h : (inR p1) ∧ ((p1 < 0 → (Q 0 σ)) ∧ (0 ≤ p1 → ((inR p1) ∧ ((8 ≤ p1 → (Q 0 σ)) ∧ (p1 < 8 → (((0 : Int) ≤ p1 ∧ p1 < 8) ∧ ((inR (σ (a0 + 1) p1)) ∧ (((σ (a0 + 1) p1) ≤ 0 → (Q 0 σ)) ∧ (0 < (σ (a0 + 1) p1) → (Q 1 σ))))))))))) : Jt mX1_holds (d) 0 t Q 0 [rv a0, iv p1] [] σ := by
  refine j_iload_n (i := 1) rfl (show decode cX1_holds 0 = .ok (.iload_n 1, 1) by decide +kernel) ?_
  have hr0 := h.1
  have h := h.2
  refine j_if_lt (tgt := 23) hr0 (show decode cX1_holds 1 = .ok (.ifCond .lt 22, 3) by decide +kernel) (by decide) (fun c => ?_) (fun c => ?_)
  · have h := h.1 c
    refine j_iconst (show decode cX1_holds 23 = .ok (.iconst 0, 1) by decide +kernel) ?_
    exact j_ret (rokZ (show decode cX1_holds 24 = .ok (.ireturn, 1) by decide +kernel) rfl (Or.inl rfl)) ⟨rfl, rfl, h⟩
  · have h := h.2 c
    refine j_iload_n (i := 1) rfl (show decode cX1_holds 4 = .ok (.iload_n 1, 1) by decide +kernel) ?_
    refine j_bipush (n := 8) (by decide +kernel) (show decode cX1_holds 5 = .ok (.bipush 8, 2) by decide +kernel) ?_
    have hr1 := h.1
    have h := h.2
    refine j_icmp_ge (tgt := 23) hr1 (inl (by decide)) (show decode cX1_holds 7 = .ok (.if_icmp .ge 16, 3) by decide +kernel) (by decide) (fun c => ?_) (fun c => ?_)
    · have h := h.1 c
      refine j_iconst (show decode cX1_holds 23 = .ok (.iconst 0, 1) by decide +kernel) ?_
      exact j_ret (rokZ (show decode cX1_holds 24 = .ok (.ireturn, 1) by decide +kernel) rfl (Or.inl rfl)) ⟨rfl, rfl, h⟩
    · have h := h.2 c
      refine s_aload_n (i := 0) rfl (show decode cX1_holds 10 = .ok (.aload_n 0, 1) by decide +kernel) ?_
      refine gf_X1_9 (x := (a0 + 1)) rfl (show decode cX1_holds 11 = .ok (.getfield 9, 3) by decide +kernel) h0 (gr_1_0 h0) ?_
      refine j_iload_n (i := 1) rfl (show decode cX1_holds 14 = .ok (.iload_n 1, 1) by decide +kernel) ?_
      refine s_iald (show decode cX1_holds 15 = .ok (.iaload, 1) by decide +kernel) (ok_1_0 h0) h.1 ?_
      have h := h.2
      have hr2 := h.1
      have h := h.2
      refine j_if_le (tgt := 23) hr2 (show decode cX1_holds 16 = .ok (.ifCond .le 7, 3) by decide +kernel) (by decide) (fun c => ?_) (fun c => ?_)
      · have h := h.1 c
        refine j_iconst (show decode cX1_holds 23 = .ok (.iconst 0, 1) by decide +kernel) ?_
        exact j_ret (rokZ (show decode cX1_holds 24 = .ok (.ireturn, 1) by decide +kernel) rfl (Or.inl rfl)) ⟨rfl, rfl, h⟩
      · have h := h.2 c
        refine j_iconst (show decode cX1_holds 19 = .ok (.iconst 1, 1) by decide +kernel) ?_
        refine j_goto (tgt := 24) (show decode cX1_holds 20 = .ok (.goto 4, 3) by decide +kernel) (by decide) ?_
        exact j_ret (rokZ (show decode cX1_holds 24 = .ok (.ireturn, 1) by decide +kernel) rfl (Or.inr rfl)) ⟨rfl, rfl, h⟩
theorem c_X1_holds {d : Nat} {t : Int} {Q : Int → jM → Prop} {σ : jM} {a0 p1 : Int} (h0 : ob (GG t) a0 1) (h : (inR p1) ∧ ((p1 < 0 → (Q 0 σ)) ∧ (0 ≤ p1 → ((inR p1) ∧ ((8 ≤ p1 → (Q 0 σ)) ∧ (p1 < 8 → (((0 : Int) ≤ p1 ∧ p1 < 8) ∧ ((inR (σ (a0 + 1) p1)) ∧ (((σ (a0 + 1) p1) ≤ 0 → (Q 0 σ)) ∧ (0 < (σ (a0 + 1) p1) → (Q 1 σ))))))))))) : Ct mX1_holds (d) 0 t [rv a0, iv p1] σ Q := Ct_of (by decide +kernel) (Nat.le_of_ble_eq_true rfl) (b_X1_holds_0 h0 h)
set_option maxRecDepth 4000 in
theorem b_X1_joinable_0 {d : Nat} {t : Int} {Q : Int → jM → Prop} {σ : jM} {a0 p1 p2 : Int} (h0 : ob (GG t) a0 1) (h : Ct mX1_holds d 0 t [rv a0, iv p1] σ (fun r1 σ1 => ((inR r1) ∧ ((r1 = 0 → (Q 0 σ1)) ∧ (¬ r1 = 0 → (Ct mX1_holds d 0 t [rv a0, iv p2] σ1 (fun r3 σ3 => ((inR r3) ∧ ((r3 = 0 → (Q 0 σ3)) ∧ (¬ r3 = 0 → (((0 : Int) ≤ p1 ∧ p1 < 8) ∧ (((0 : Int) ≤ p2 ∧ p2 < 8) ∧ ((inR ((σ3 (a0 + 1) p1) + (σ3 (a0 + 1) p2))) ∧ ((9999 < ((σ3 (a0 + 1) p1) + (σ3 (a0 + 1) p2)) → (Q 0 σ3)) ∧ (((σ3 (a0 + 1) p1) + (σ3 (a0 + 1) p2)) ≤ 9999 → (Ct mX1_crockWith d 0 t [rv a0, iv 0] σ3 (fun r6 σ6 => ((inR r6) ∧ ((r6 = (-1) → (Q 0 σ6)) ∧ (¬ r6 = (-1) → (Q 1 σ6))))))))))))))))))))) : Jt mX1_joinable (d + 1) 0 t Q 0 [rv a0, iv p1, iv p2] [] σ := by
  refine s_aload_n (i := 0) rfl (show decode cX1_joinable 0 = .ok (.aload_n 0, 1) by decide +kernel) ?_
  refine j_iload_n (i := 1) rfl (show decode cX1_joinable 1 = .ok (.iload_n 1, 1) by decide +kernel) ?_
  refine j_ctV (m' := mX1_holds) (As := [iv p1]) (ci := 1) (tag := 0) (N := 0) (cw_X1_44 rfl) (show decode cX1_joinable 2 = .ok (.invokevirtual 44, 3) by decide +kernel) rfl (Nat.le_of_ble_eq_true rfl) (by decide) h0 rfl rfl (Nat.le_refl _) h (fun r1 σ1 h => ?_)
  have hr1 := h.1
  have h := h.2
  refine j_if_eq (tgt := 48) hr1 (show decode cX1_joinable 5 = .ok (.ifCond .eq 43, 3) by decide +kernel) (by decide) (fun c => ?_) (fun c => ?_)
  · have h := h.1 c
    refine j_iconst (show decode cX1_joinable 48 = .ok (.iconst 0, 1) by decide +kernel) ?_
    exact j_ret (rokZ (show decode cX1_joinable 49 = .ok (.ireturn, 1) by decide +kernel) rfl (Or.inl rfl)) ⟨rfl, rfl, h⟩
  · have h := h.2 c
    refine s_aload_n (i := 0) rfl (show decode cX1_joinable 8 = .ok (.aload_n 0, 1) by decide +kernel) ?_
    refine j_iload_n (i := 2) rfl (show decode cX1_joinable 9 = .ok (.iload_n 2, 1) by decide +kernel) ?_
    refine j_ctV (m' := mX1_holds) (As := [iv p2]) (ci := 1) (tag := 0) (N := 0) (cw_X1_44 rfl) (show decode cX1_joinable 10 = .ok (.invokevirtual 44, 3) by decide +kernel) rfl (Nat.le_of_ble_eq_true rfl) (by decide) h0 rfl rfl (Nat.le_refl _) h (fun r3 σ3 h => ?_)
    have hr3 := h.1
    have h := h.2
    refine j_if_eq (tgt := 48) hr3 (show decode cX1_joinable 13 = .ok (.ifCond .eq 35, 3) by decide +kernel) (by decide) (fun c => ?_) (fun c => ?_)
    · have h := h.1 c
      refine j_iconst (show decode cX1_joinable 48 = .ok (.iconst 0, 1) by decide +kernel) ?_
      exact j_ret (rokZ (show decode cX1_joinable 49 = .ok (.ireturn, 1) by decide +kernel) rfl (Or.inl rfl)) ⟨rfl, rfl, h⟩
    · have h := h.2 c
      refine s_aload_n (i := 0) rfl (show decode cX1_joinable 16 = .ok (.aload_n 0, 1) by decide +kernel) ?_
      refine gf_X1_9 (x := (a0 + 1)) rfl (show decode cX1_joinable 17 = .ok (.getfield 9, 3) by decide +kernel) h0 (gr_1_0 h0) ?_
      refine j_iload_n (i := 1) rfl (show decode cX1_joinable 20 = .ok (.iload_n 1, 1) by decide +kernel) ?_
      refine s_iald (show decode cX1_joinable 21 = .ok (.iaload, 1) by decide +kernel) (ok_1_0 h0) h.1 ?_
      have h := h.2
      refine s_aload_n (i := 0) rfl (show decode cX1_joinable 22 = .ok (.aload_n 0, 1) by decide +kernel) ?_
      refine gf_X1_9 (x := (a0 + 1)) rfl (show decode cX1_joinable 23 = .ok (.getfield 9, 3) by decide +kernel) h0 (gr_1_0 h0) ?_
      refine j_iload_n (i := 2) rfl (show decode cX1_joinable 26 = .ok (.iload_n 2, 1) by decide +kernel) ?_
      refine s_iald (show decode cX1_joinable 27 = .ok (.iaload, 1) by decide +kernel) (ok_1_0 h0) h.1 ?_
      have h := h.2
      refine j_iadd (show decode cX1_joinable 28 = .ok (.iadd, 1) by decide +kernel) ?_
      refine j_sipush (n := 9999) (by decide +kernel) (show decode cX1_joinable 29 = .ok (.sipush 9999, 3) by decide +kernel) ?_
      have hr4 := h.1
      have h := h.2
      refine j_icmp_gt (tgt := 48) hr4 (inl (by decide)) (show decode cX1_joinable 32 = .ok (.if_icmp .gt 16, 3) by decide +kernel) (by decide) (fun c => ?_) (fun c => ?_)
      · have h := h.1 c
        refine j_iconst (show decode cX1_joinable 48 = .ok (.iconst 0, 1) by decide +kernel) ?_
        exact j_ret (rokZ (show decode cX1_joinable 49 = .ok (.ireturn, 1) by decide +kernel) rfl (Or.inl rfl)) ⟨rfl, rfl, h⟩
      · have h := h.2 c
        refine s_aload_n (i := 0) rfl (show decode cX1_joinable 35 = .ok (.aload_n 0, 1) by decide +kernel) ?_
        refine j_iconst (show decode cX1_joinable 36 = .ok (.iconst 0, 1) by decide +kernel) ?_
        refine j_ctV (m' := mX1_crockWith) (As := [iv 0]) (ci := 1) (tag := 0) (N := 0) (cw_X1_48 rfl) (show decode cX1_joinable 37 = .ok (.invokevirtual 48, 3) by decide +kernel) rfl (Nat.le_of_ble_eq_true rfl) (by decide) h0 rfl rfl (Nat.le_refl _) h (fun r6 σ6 h => ?_)
        refine j_iconst (show decode cX1_joinable 40 = .ok (.iconst (-1), 1) by decide +kernel) ?_
        have hr6 := h.1
        have h := h.2
        refine j_icmp_eq (tgt := 48) hr6 (inl (by decide)) (show decode cX1_joinable 41 = .ok (.if_icmp .eq 7, 3) by decide +kernel) (by decide) (fun c => ?_) (fun c => ?_)
        · have h := h.1 c
          refine j_iconst (show decode cX1_joinable 48 = .ok (.iconst 0, 1) by decide +kernel) ?_
          exact j_ret (rokZ (show decode cX1_joinable 49 = .ok (.ireturn, 1) by decide +kernel) rfl (Or.inl rfl)) ⟨rfl, rfl, h⟩
        · have h := h.2 c
          refine j_iconst (show decode cX1_joinable 44 = .ok (.iconst 1, 1) by decide +kernel) ?_
          refine j_goto (tgt := 49) (show decode cX1_joinable 45 = .ok (.goto 4, 3) by decide +kernel) (by decide) ?_
          exact j_ret (rokZ (show decode cX1_joinable 49 = .ok (.ireturn, 1) by decide +kernel) rfl (Or.inr rfl)) ⟨rfl, rfl, h⟩
theorem c_X1_joinable {d : Nat} {t : Int} {Q : Int → jM → Prop} {σ : jM} {a0 p1 p2 : Int} (h0 : ob (GG t) a0 1) (h : Ct mX1_holds d 0 t [rv a0, iv p1] σ (fun r1 σ1 => ((inR r1) ∧ ((r1 = 0 → (Q 0 σ1)) ∧ (¬ r1 = 0 → (Ct mX1_holds d 0 t [rv a0, iv p2] σ1 (fun r3 σ3 => ((inR r3) ∧ ((r3 = 0 → (Q 0 σ3)) ∧ (¬ r3 = 0 → (((0 : Int) ≤ p1 ∧ p1 < 8) ∧ (((0 : Int) ≤ p2 ∧ p2 < 8) ∧ ((inR ((σ3 (a0 + 1) p1) + (σ3 (a0 + 1) p2))) ∧ ((9999 < ((σ3 (a0 + 1) p1) + (σ3 (a0 + 1) p2)) → (Q 0 σ3)) ∧ (((σ3 (a0 + 1) p1) + (σ3 (a0 + 1) p2)) ≤ 9999 → (Ct mX1_crockWith d 0 t [rv a0, iv 0] σ3 (fun r6 σ6 => ((inR r6) ∧ ((r6 = (-1) → (Q 0 σ6)) ∧ (¬ r6 = (-1) → (Q 1 σ6))))))))))))))))))))) : Ct mX1_joinable (d + 1) 0 t [rv a0, iv p1, iv p2] σ Q := Ct_of (by decide +kernel) (Nat.le_of_ble_eq_true rfl) (b_X1_joinable_0 h0 h)
set_option maxRecDepth 4000 in
theorem b_X1_crockWith_2 {d : Nat} {t : Int} {Q : Int → jM → Prop} {σ : jM} {a0 p1 v2 : Int} (h0 : ob (GG t) a0 1) (h : (inR v2) ∧ ((8 ≤ v2 → (Q (-1) σ)) ∧ (v2 < 8 → (((0 : Int) ≤ v2 ∧ v2 < 8) ∧ ((inR (σ (a0 + 1) v2)) ∧ ((inR p1) ∧ ((¬ (σ (a0 + 1) v2) = p1 → (Jt mX1_crockWith (d) 0 t Q 2 [rv a0, iv p1, iv (v2 + 1)] [] σ)) ∧ ((σ (a0 + 1) v2) = p1 → (Q v2 σ))))))))) : Jt mX1_crockWith (d) 0 t Q 2 [rv a0, iv p1, iv v2] [] σ := by
  refine j_iload_n (i := 2) rfl (show decode cX1_crockWith 2 = .ok (.iload_n 2, 1) by decide +kernel) ?_
  refine j_bipush (n := 8) (by decide +kernel) (show decode cX1_crockWith 3 = .ok (.bipush 8, 2) by decide +kernel) ?_
  have hr0 := h.1
  have h := h.2
  refine j_icmp_ge (tgt := 26) hr0 (inl (by decide)) (show decode cX1_crockWith 5 = .ok (.if_icmp .ge 21, 3) by decide +kernel) (by decide) (fun c => ?_) (fun c => ?_)
  · have h := h.1 c
    refine j_iconst (show decode cX1_crockWith 26 = .ok (.iconst (-1), 1) by decide +kernel) ?_
    exact j_ret (rokI (show decode cX1_crockWith 27 = .ok (.ireturn, 1) by decide +kernel) rfl) ⟨rfl, rfl, h⟩
  · have h := h.2 c
    refine s_aload_n (i := 0) rfl (show decode cX1_crockWith 8 = .ok (.aload_n 0, 1) by decide +kernel) ?_
    refine gf_X1_9 (x := (a0 + 1)) rfl (show decode cX1_crockWith 9 = .ok (.getfield 9, 3) by decide +kernel) h0 (gr_1_0 h0) ?_
    refine j_iload_n (i := 2) rfl (show decode cX1_crockWith 12 = .ok (.iload_n 2, 1) by decide +kernel) ?_
    refine s_iald (show decode cX1_crockWith 13 = .ok (.iaload, 1) by decide +kernel) (ok_1_0 h0) h.1 ?_
    have h := h.2
    refine j_iload_n (i := 1) rfl (show decode cX1_crockWith 14 = .ok (.iload_n 1, 1) by decide +kernel) ?_
    have hr1 := h.1
    have h := h.2
    have hr2 := h.1
    have h := h.2
    refine j_icmp_ne (tgt := 20) hr1 hr2 (show decode cX1_crockWith 15 = .ok (.if_icmp .ne 5, 3) by decide +kernel) (by decide) (fun c => ?_) (fun c => ?_)
    · have h := h.1 c
      refine s_iinc (i := 2) rfl (L' := [rv a0, iv p1, iv (v2 + 1)]) rfl (show decode cX1_crockWith 20 = .ok (.iinc 2 1, 3) by decide +kernel) ?_
      refine j_goto (tgt := 2) (show decode cX1_crockWith 23 = .ok (.goto (-21), 3) by decide +kernel) (by decide) ?_
      exact h
    · have h := h.2 c
      refine j_iload_n (i := 2) rfl (show decode cX1_crockWith 18 = .ok (.iload_n 2, 1) by decide +kernel) ?_
      exact j_ret (rokI (show decode cX1_crockWith 19 = .ok (.ireturn, 1) by decide +kernel) rfl) ⟨rfl, rfl, h⟩
set_option maxRecDepth 4000 in
theorem b_X1_crockWith_0 {d : Nat} {t : Int} {Q : Int → jM → Prop} {σ : jM} {a0 p1 : Int} (h0 : ob (GG t) a0 1) (h : Jt mX1_crockWith (d) 0 t Q 2 [rv a0, iv p1, iv 0] [] σ) : Jt mX1_crockWith (d) 0 t Q 0 [rv a0, iv p1, uv] [] σ := by
  refine j_iconst (show decode cX1_crockWith 0 = .ok (.iconst 0, 1) by decide +kernel) ?_
  refine s_ist_n (i := 2) (L' := [rv a0, iv p1, iv 0]) rfl (by decide) (show decode cX1_crockWith 1 = .ok (.istore_n 2, 1) by decide +kernel) ?_
  exact h
theorem c_X1_crockWith {d : Nat} {t : Int} {Q : Int → jM → Prop} {σ : jM} {a0 p1 : Int} (h0 : ob (GG t) a0 1) (h : Jt mX1_crockWith (d) 0 t Q 2 [rv a0, iv p1, iv 0] [] σ) : Ct mX1_crockWith (d) 0 t [rv a0, iv p1] σ Q := Ct_of (by decide +kernel) (Nat.le_of_ble_eq_true rfl) (b_X1_crockWith_0 h0 h)
set_option maxRecDepth 4000 in
theorem b_X1_pairWith_10 {d : Nat} {t : Int} {Q : Int → jM → Prop} {σ : jM} {a0 p1 v2 v3 : Int} (h0 : ob (GG t) a0 1) (h : (inR v3) ∧ ((8 ≤ v3 → (Jt mX1_pairWith (d + 1) 0 t Q 2 [rv a0, iv p1, iv (v2 + 1), uv] [] σ)) ∧ (v3 < 8 → (Ct mX1_holds d 0 t [rv a0, iv v2] σ (fun r2 σ2 => ((inR r2) ∧ ((r2 = 0 → (Jt mX1_pairWith (d + 1) 0 t Q 10 [rv a0, iv p1, iv v2, iv (v3 + 1)] [] σ2)) ∧ (¬ r2 = 0 → (Ct mX1_holds d 0 t [rv a0, iv v3] σ2 (fun r4 σ4 => ((inR r4) ∧ ((r4 = 0 → (Jt mX1_pairWith (d + 1) 0 t Q 10 [rv a0, iv p1, iv v2, iv (v3 + 1)] [] σ4)) ∧ (¬ r4 = 0 → (((0 : Int) ≤ v2 ∧ v2 < 8) ∧ (((0 : Int) ≤ v3 ∧ v3 < 8) ∧ ((inR ((σ4 (a0 + 1) v2) + (σ4 (a0 + 1) v3))) ∧ ((inR p1) ∧ ((¬ ((σ4 (a0 + 1) v2) + (σ4 (a0 + 1) v3)) = p1 → (Jt mX1_pairWith (d + 1) 0 t Q 10 [rv a0, iv p1, iv v2, iv (v3 + 1)] [] σ4)) ∧ (((σ4 (a0 + 1) v2) + (σ4 (a0 + 1) v3)) = p1 → (Q ((v2 * 8) + v3) σ4)))))))))))))))))))) : Jt mX1_pairWith (d + 1) 0 t Q 10 [rv a0, iv p1, iv v2, iv v3] [] σ := by
  refine j_iload_n (i := 3) rfl (show decode cX1_pairWith 10 = .ok (.iload_n 3, 1) by decide +kernel) ?_
  refine j_bipush (n := 8) (by decide +kernel) (show decode cX1_pairWith 11 = .ok (.bipush 8, 2) by decide +kernel) ?_
  have hr0 := h.1
  have h := h.2
  refine j_icmp_ge (tgt := 62) hr0 (inl (by decide)) (show decode cX1_pairWith 13 = .ok (.if_icmp .ge 49, 3) by decide +kernel) (by decide) (fun c => ?_) (fun c => ?_)
  · have h := h.1 c
    refine s_iinc (i := 2) rfl (L' := [rv a0, iv p1, iv (v2 + 1), iv v3]) rfl (show decode cX1_pairWith 62 = .ok (.iinc 2 1, 3) by decide +kernel) ?_
    refine j_goto (tgt := 2) (show decode cX1_pairWith 65 = .ok (.goto (-63), 3) by decide +kernel) (by decide) ?_
    refine j_drop 3 ?_
    exact h
  · have h := h.2 c
    refine s_aload_n (i := 0) rfl (show decode cX1_pairWith 16 = .ok (.aload_n 0, 1) by decide +kernel) ?_
    refine j_iload_n (i := 2) rfl (show decode cX1_pairWith 17 = .ok (.iload_n 2, 1) by decide +kernel) ?_
    refine j_ctV (m' := mX1_holds) (As := [iv v2]) (ci := 1) (tag := 0) (N := 0) (cw_X1_44 rfl) (show decode cX1_pairWith 18 = .ok (.invokevirtual 44, 3) by decide +kernel) rfl (Nat.le_of_ble_eq_true rfl) (by decide) h0 rfl rfl (Nat.le_refl _) h (fun r2 σ2 h => ?_)
    have hr2 := h.1
    have h := h.2
    refine j_if_eq (tgt := 56) hr2 (show decode cX1_pairWith 21 = .ok (.ifCond .eq 35, 3) by decide +kernel) (by decide) (fun c => ?_) (fun c => ?_)
    · have h := h.1 c
      refine s_iinc (i := 3) rfl (L' := [rv a0, iv p1, iv v2, iv (v3 + 1)]) rfl (show decode cX1_pairWith 56 = .ok (.iinc 3 1, 3) by decide +kernel) ?_
      refine j_goto (tgt := 10) (show decode cX1_pairWith 59 = .ok (.goto (-49), 3) by decide +kernel) (by decide) ?_
      exact h
    · have h := h.2 c
      refine s_aload_n (i := 0) rfl (show decode cX1_pairWith 24 = .ok (.aload_n 0, 1) by decide +kernel) ?_
      refine j_iload_n (i := 3) rfl (show decode cX1_pairWith 25 = .ok (.iload_n 3, 1) by decide +kernel) ?_
      refine j_ctV (m' := mX1_holds) (As := [iv v3]) (ci := 1) (tag := 0) (N := 0) (cw_X1_44 rfl) (show decode cX1_pairWith 26 = .ok (.invokevirtual 44, 3) by decide +kernel) rfl (Nat.le_of_ble_eq_true rfl) (by decide) h0 rfl rfl (Nat.le_refl _) h (fun r4 σ4 h => ?_)
      have hr4 := h.1
      have h := h.2
      refine j_if_eq (tgt := 56) hr4 (show decode cX1_pairWith 29 = .ok (.ifCond .eq 27, 3) by decide +kernel) (by decide) (fun c => ?_) (fun c => ?_)
      · have h := h.1 c
        refine s_iinc (i := 3) rfl (L' := [rv a0, iv p1, iv v2, iv (v3 + 1)]) rfl (show decode cX1_pairWith 56 = .ok (.iinc 3 1, 3) by decide +kernel) ?_
        refine j_goto (tgt := 10) (show decode cX1_pairWith 59 = .ok (.goto (-49), 3) by decide +kernel) (by decide) ?_
        exact h
      · have h := h.2 c
        refine s_aload_n (i := 0) rfl (show decode cX1_pairWith 32 = .ok (.aload_n 0, 1) by decide +kernel) ?_
        refine gf_X1_9 (x := (a0 + 1)) rfl (show decode cX1_pairWith 33 = .ok (.getfield 9, 3) by decide +kernel) h0 (gr_1_0 h0) ?_
        refine j_iload_n (i := 2) rfl (show decode cX1_pairWith 36 = .ok (.iload_n 2, 1) by decide +kernel) ?_
        refine s_iald (show decode cX1_pairWith 37 = .ok (.iaload, 1) by decide +kernel) (ok_1_0 h0) h.1 ?_
        have h := h.2
        refine s_aload_n (i := 0) rfl (show decode cX1_pairWith 38 = .ok (.aload_n 0, 1) by decide +kernel) ?_
        refine gf_X1_9 (x := (a0 + 1)) rfl (show decode cX1_pairWith 39 = .ok (.getfield 9, 3) by decide +kernel) h0 (gr_1_0 h0) ?_
        refine j_iload_n (i := 3) rfl (show decode cX1_pairWith 42 = .ok (.iload_n 3, 1) by decide +kernel) ?_
        refine s_iald (show decode cX1_pairWith 43 = .ok (.iaload, 1) by decide +kernel) (ok_1_0 h0) h.1 ?_
        have h := h.2
        refine j_iadd (show decode cX1_pairWith 44 = .ok (.iadd, 1) by decide +kernel) ?_
        refine j_iload_n (i := 1) rfl (show decode cX1_pairWith 45 = .ok (.iload_n 1, 1) by decide +kernel) ?_
        have hr5 := h.1
        have h := h.2
        have hr6 := h.1
        have h := h.2
        refine j_icmp_ne (tgt := 56) hr5 hr6 (show decode cX1_pairWith 46 = .ok (.if_icmp .ne 10, 3) by decide +kernel) (by decide) (fun c => ?_) (fun c => ?_)
        · have h := h.1 c
          refine s_iinc (i := 3) rfl (L' := [rv a0, iv p1, iv v2, iv (v3 + 1)]) rfl (show decode cX1_pairWith 56 = .ok (.iinc 3 1, 3) by decide +kernel) ?_
          refine j_goto (tgt := 10) (show decode cX1_pairWith 59 = .ok (.goto (-49), 3) by decide +kernel) (by decide) ?_
          exact h
        · have h := h.2 c
          refine j_iload_n (i := 2) rfl (show decode cX1_pairWith 49 = .ok (.iload_n 2, 1) by decide +kernel) ?_
          refine j_bipush (n := 8) (by decide +kernel) (show decode cX1_pairWith 50 = .ok (.bipush 8, 2) by decide +kernel) ?_
          refine j_imul (show decode cX1_pairWith 52 = .ok (.imul, 1) by decide +kernel) ?_
          refine j_iload_n (i := 3) rfl (show decode cX1_pairWith 53 = .ok (.iload_n 3, 1) by decide +kernel) ?_
          refine j_iadd (show decode cX1_pairWith 54 = .ok (.iadd, 1) by decide +kernel) ?_
          exact j_ret (rokI (show decode cX1_pairWith 55 = .ok (.ireturn, 1) by decide +kernel) rfl) ⟨rfl, rfl, h⟩
set_option maxRecDepth 4000 in
theorem b_X1_pairWith_2 {d : Nat} {t : Int} {Q : Int → jM → Prop} {σ : jM} {a0 p1 v2 : Int} (h0 : ob (GG t) a0 1) (h : (inR v2) ∧ ((8 ≤ v2 → (Q (-1) σ)) ∧ (v2 < 8 → (Jt mX1_pairWith (d + 1) 0 t Q 10 [rv a0, iv p1, iv v2, iv v2] [] σ)))) : Jt mX1_pairWith (d + 1) 0 t Q 2 [rv a0, iv p1, iv v2, uv] [] σ := by
  refine j_iload_n (i := 2) rfl (show decode cX1_pairWith 2 = .ok (.iload_n 2, 1) by decide +kernel) ?_
  refine j_bipush (n := 8) (by decide +kernel) (show decode cX1_pairWith 3 = .ok (.bipush 8, 2) by decide +kernel) ?_
  have hr0 := h.1
  have h := h.2
  refine j_icmp_ge (tgt := 68) hr0 (inl (by decide)) (show decode cX1_pairWith 5 = .ok (.if_icmp .ge 63, 3) by decide +kernel) (by decide) (fun c => ?_) (fun c => ?_)
  · have h := h.1 c
    refine j_iconst (show decode cX1_pairWith 68 = .ok (.iconst (-1), 1) by decide +kernel) ?_
    exact j_ret (rokI (show decode cX1_pairWith 69 = .ok (.ireturn, 1) by decide +kernel) rfl) ⟨rfl, rfl, h⟩
  · have h := h.2 c
    refine j_iload_n (i := 2) rfl (show decode cX1_pairWith 8 = .ok (.iload_n 2, 1) by decide +kernel) ?_
    refine s_ist_n (i := 3) (L' := [rv a0, iv p1, iv v2, iv v2]) rfl (by decide) (show decode cX1_pairWith 9 = .ok (.istore_n 3, 1) by decide +kernel) ?_
    exact h
set_option maxRecDepth 4000 in
theorem b_X1_pairWith_0 {d : Nat} {t : Int} {Q : Int → jM → Prop} {σ : jM} {a0 p1 : Int} (h0 : ob (GG t) a0 1) (h : Jt mX1_pairWith (d + 1) 0 t Q 2 [rv a0, iv p1, iv 0, uv] [] σ) : Jt mX1_pairWith (d + 1) 0 t Q 0 [rv a0, iv p1, uv, uv] [] σ := by
  refine j_iconst (show decode cX1_pairWith 0 = .ok (.iconst 0, 1) by decide +kernel) ?_
  refine s_ist_n (i := 2) (L' := [rv a0, iv p1, iv 0, uv]) rfl (by decide) (show decode cX1_pairWith 1 = .ok (.istore_n 2, 1) by decide +kernel) ?_
  exact h
theorem c_X1_pairWith {d : Nat} {t : Int} {Q : Int → jM → Prop} {σ : jM} {a0 p1 : Int} (h0 : ob (GG t) a0 1) (h : Jt mX1_pairWith (d + 1) 0 t Q 2 [rv a0, iv p1, iv 0, uv] [] σ) : Ct mX1_pairWith (d + 1) 0 t [rv a0, iv p1] σ Q := Ct_of (by decide +kernel) (Nat.le_of_ble_eq_true rfl) (b_X1_pairWith_0 h0 h)
set_option maxRecDepth 4000 in
theorem b_X1_unite_0 {d : Nat} {t : Int} {Q : Int → jM → Prop} {σ : jM} {a0 p1 p2 : Int} (h0 : ob (GG t) a0 1) (h : Ct mX1_crockWith d 0 t [rv a0, iv 0] σ (fun r1 σ1 => ((inR r1) ∧ ((r1 = (-1) → (Q (-1) σ1)) ∧ (¬ r1 = (-1) → (Ct mX1_holds d 0 t [rv a0, iv p1] σ1 (fun r3 σ3 => ((inR r3) ∧ ((r3 = 0 → (Q (-1) σ3)) ∧ (¬ r3 = 0 → (Ct mX1_holds d 0 t [rv a0, iv p2] σ3 (fun r5 σ5 => ((inR r5) ∧ ((¬ r5 = 0 → (((0 : Int) ≤ p1 ∧ p1 < 8) ∧ (((0 : Int) ≤ p2 ∧ p2 < 8) ∧ (((0 : Int) ≤ r1 ∧ r1 < 8) ∧ (∀ σ8 : jM, σ8 = up σ5 (a0 + 1) r1 ((σ5 (a0 + 1) p1) + (σ5 (a0 + 1) p2)) → (((0 : Int) ≤ r1 ∧ r1 < 8) ∧ (∀ σ10 : jM, σ10 = up σ8 (a0 + 2) r1 0 → (((0 : Int) ≤ r1 ∧ r1 < 8) ∧ (Ct mX1_writeDown d 9 t [rv a0, iv 0, iv r1, iv (σ10 (a0 + 1) r1)] σ10 (fun r11 σ11 => (Q r1 σ11))))))))))) ∧ (r5 = 0 → (Q (-1) σ5)))))))))))))))) : Jt mX1_unite (d + 1) 0 t Q 0 [rv a0, iv p1, iv p2, uv] [] σ := by
  refine s_aload_n (i := 0) rfl (show decode cX1_unite 0 = .ok (.aload_n 0, 1) by decide +kernel) ?_
  refine j_iconst (show decode cX1_unite 1 = .ok (.iconst 0, 1) by decide +kernel) ?_
  refine j_ctV (m' := mX1_crockWith) (As := [iv 0]) (ci := 1) (tag := 0) (N := 0) (cw_X1_48 rfl) (show decode cX1_unite 2 = .ok (.invokevirtual 48, 3) by decide +kernel) rfl (Nat.le_of_ble_eq_true rfl) (by decide) h0 rfl rfl (Nat.le_refl _) h (fun r1 σ1 h => ?_)
  refine s_ist_n (i := 3) (L' := [rv a0, iv p1, iv p2, iv r1]) rfl (by decide) (show decode cX1_unite 5 = .ok (.istore_n 3, 1) by decide +kernel) ?_
  refine j_iload_n (i := 3) rfl (show decode cX1_unite 6 = .ok (.iload_n 3, 1) by decide +kernel) ?_
  refine j_iconst (show decode cX1_unite 7 = .ok (.iconst (-1), 1) by decide +kernel) ?_
  have hr1 := h.1
  have h := h.2
  refine j_icmp_eq (tgt := 27) hr1 (inl (by decide)) (show decode cX1_unite 8 = .ok (.if_icmp .eq 19, 3) by decide +kernel) (by decide) (fun c => ?_) (fun c => ?_)
  · have h := h.1 c
    refine j_iconst (show decode cX1_unite 27 = .ok (.iconst (-1), 1) by decide +kernel) ?_
    exact j_ret (rokI (show decode cX1_unite 28 = .ok (.ireturn, 1) by decide +kernel) rfl) ⟨rfl, rfl, h⟩
  · have h := h.2 c
    refine s_aload_n (i := 0) rfl (show decode cX1_unite 11 = .ok (.aload_n 0, 1) by decide +kernel) ?_
    refine j_iload_n (i := 1) rfl (show decode cX1_unite 12 = .ok (.iload_n 1, 1) by decide +kernel) ?_
    refine j_ctV (m' := mX1_holds) (As := [iv p1]) (ci := 1) (tag := 0) (N := 0) (cw_X1_44 rfl) (show decode cX1_unite 13 = .ok (.invokevirtual 44, 3) by decide +kernel) rfl (Nat.le_of_ble_eq_true rfl) (by decide) h0 rfl rfl (Nat.le_refl _) h (fun r3 σ3 h => ?_)
    have hr3 := h.1
    have h := h.2
    refine j_if_eq (tgt := 27) hr3 (show decode cX1_unite 16 = .ok (.ifCond .eq 11, 3) by decide +kernel) (by decide) (fun c => ?_) (fun c => ?_)
    · have h := h.1 c
      refine j_iconst (show decode cX1_unite 27 = .ok (.iconst (-1), 1) by decide +kernel) ?_
      exact j_ret (rokI (show decode cX1_unite 28 = .ok (.ireturn, 1) by decide +kernel) rfl) ⟨rfl, rfl, h⟩
    · have h := h.2 c
      refine s_aload_n (i := 0) rfl (show decode cX1_unite 19 = .ok (.aload_n 0, 1) by decide +kernel) ?_
      refine j_iload_n (i := 2) rfl (show decode cX1_unite 20 = .ok (.iload_n 2, 1) by decide +kernel) ?_
      refine j_ctV (m' := mX1_holds) (As := [iv p2]) (ci := 1) (tag := 0) (N := 0) (cw_X1_44 rfl) (show decode cX1_unite 21 = .ok (.invokevirtual 44, 3) by decide +kernel) rfl (Nat.le_of_ble_eq_true rfl) (by decide) h0 rfl rfl (Nat.le_refl _) h (fun r5 σ5 h => ?_)
      have hr5 := h.1
      have h := h.2
      refine j_if_ne (tgt := 29) hr5 (show decode cX1_unite 24 = .ok (.ifCond .ne 5, 3) by decide +kernel) (by decide) (fun c => ?_) (fun c => ?_)
      · have h := h.1 c
        refine s_aload_n (i := 0) rfl (show decode cX1_unite 29 = .ok (.aload_n 0, 1) by decide +kernel) ?_
        refine gf_X1_9 (x := (a0 + 1)) rfl (show decode cX1_unite 30 = .ok (.getfield 9, 3) by decide +kernel) h0 (gr_1_0 h0) ?_
        refine j_iload_n (i := 3) rfl (show decode cX1_unite 33 = .ok (.iload_n 3, 1) by decide +kernel) ?_
        refine s_aload_n (i := 0) rfl (show decode cX1_unite 34 = .ok (.aload_n 0, 1) by decide +kernel) ?_
        refine gf_X1_9 (x := (a0 + 1)) rfl (show decode cX1_unite 35 = .ok (.getfield 9, 3) by decide +kernel) h0 (gr_1_0 h0) ?_
        refine j_iload_n (i := 1) rfl (show decode cX1_unite 38 = .ok (.iload_n 1, 1) by decide +kernel) ?_
        refine s_iald (show decode cX1_unite 39 = .ok (.iaload, 1) by decide +kernel) (ok_1_0 h0) h.1 ?_
        have h := h.2
        refine s_aload_n (i := 0) rfl (show decode cX1_unite 40 = .ok (.aload_n 0, 1) by decide +kernel) ?_
        refine gf_X1_9 (x := (a0 + 1)) rfl (show decode cX1_unite 41 = .ok (.getfield 9, 3) by decide +kernel) h0 (gr_1_0 h0) ?_
        refine j_iload_n (i := 2) rfl (show decode cX1_unite 44 = .ok (.iload_n 2, 1) by decide +kernel) ?_
        refine s_iald (show decode cX1_unite 45 = .ok (.iaload, 1) by decide +kernel) (ok_1_0 h0) h.1 ?_
        have h := h.2
        refine j_iadd (show decode cX1_unite 46 = .ok (.iadd, 1) by decide +kernel) ?_
        have hb6 := h.1
        have h := h.2
        refine s_iast (show decode cX1_unite 47 = .ok (.iastore, 1) by decide +kernel) (ok_1_0 h0) hb6 ?_
        obtain ⟨σ8, eσ8⟩ : ∃ z : jM, z = up σ5 (a0 + 1) r1 ((σ5 (a0 + 1) p1) + (σ5 (a0 + 1) p2)) := ⟨_, rfl⟩
        refine j_sig eσ8 ?_
        have h := h σ8 eσ8
        refine s_aload_n (i := 0) rfl (show decode cX1_unite 48 = .ok (.aload_n 0, 1) by decide +kernel) ?_
        refine gf_X1_15 (x := (a0 + 2)) rfl (show decode cX1_unite 49 = .ok (.getfield 15, 3) by decide +kernel) h0 (gr_1_1 h0) ?_
        refine j_iload_n (i := 3) rfl (show decode cX1_unite 52 = .ok (.iload_n 3, 1) by decide +kernel) ?_
        refine j_iconst (show decode cX1_unite 53 = .ok (.iconst 0, 1) by decide +kernel) ?_
        have hb8 := h.1
        have h := h.2
        refine s_iast (show decode cX1_unite 54 = .ok (.iastore, 1) by decide +kernel) (ok_1_1 h0) hb8 ?_
        obtain ⟨σ10, eσ10⟩ : ∃ z : jM, z = up σ8 (a0 + 2) r1 0 := ⟨_, rfl⟩
        refine j_sig eσ10 ?_
        have h := h σ10 eσ10
        refine s_aload_n (i := 0) rfl (show decode cX1_unite 55 = .ok (.aload_n 0, 1) by decide +kernel) ?_
        refine j_iconst (show decode cX1_unite 56 = .ok (.iconst 0, 1) by decide +kernel) ?_
        refine j_iload_n (i := 3) rfl (show decode cX1_unite 57 = .ok (.iload_n 3, 1) by decide +kernel) ?_
        refine s_aload_n (i := 0) rfl (show decode cX1_unite 58 = .ok (.aload_n 0, 1) by decide +kernel) ?_
        refine gf_X1_9 (x := (a0 + 1)) rfl (show decode cX1_unite 59 = .ok (.getfield 9, 3) by decide +kernel) h0 (gr_1_0 h0) ?_
        refine j_iload_n (i := 3) rfl (show decode cX1_unite 62 = .ok (.iload_n 3, 1) by decide +kernel) ?_
        refine s_iald (show decode cX1_unite 63 = .ok (.iaload, 1) by decide +kernel) (ok_1_0 h0) h.1 ?_
        have h := h.2
        refine j_ctVv (m' := mX1_writeDown) (As := [iv 0, iv r1, iv (σ10 (a0 + 1) r1)]) (ci := 1) (N := 0) (cw_X1_52 rfl) (show decode cX1_unite 64 = .ok (.invokevirtual 52, 3) by decide +kernel) rfl (Nat.le_of_ble_eq_true rfl) h0 rfl rfl (Nat.le_refl _) h (fun r11 σ11 h => ?_)
        refine j_iload_n (i := 3) rfl (show decode cX1_unite 67 = .ok (.iload_n 3, 1) by decide +kernel) ?_
        exact j_ret (rokI (show decode cX1_unite 68 = .ok (.ireturn, 1) by decide +kernel) rfl) ⟨rfl, rfl, h⟩
      · have h := h.2 c
        refine j_iconst (show decode cX1_unite 27 = .ok (.iconst (-1), 1) by decide +kernel) ?_
        exact j_ret (rokI (show decode cX1_unite 28 = .ok (.ireturn, 1) by decide +kernel) rfl) ⟨rfl, rfl, h⟩
theorem c_X1_unite {d : Nat} {t : Int} {Q : Int → jM → Prop} {σ : jM} {a0 p1 p2 : Int} (h0 : ob (GG t) a0 1) (h : Ct mX1_crockWith d 0 t [rv a0, iv 0] σ (fun r1 σ1 => ((inR r1) ∧ ((r1 = (-1) → (Q (-1) σ1)) ∧ (¬ r1 = (-1) → (Ct mX1_holds d 0 t [rv a0, iv p1] σ1 (fun r3 σ3 => ((inR r3) ∧ ((r3 = 0 → (Q (-1) σ3)) ∧ (¬ r3 = 0 → (Ct mX1_holds d 0 t [rv a0, iv p2] σ3 (fun r5 σ5 => ((inR r5) ∧ ((¬ r5 = 0 → (((0 : Int) ≤ p1 ∧ p1 < 8) ∧ (((0 : Int) ≤ p2 ∧ p2 < 8) ∧ (((0 : Int) ≤ r1 ∧ r1 < 8) ∧ (∀ σ8 : jM, σ8 = up σ5 (a0 + 1) r1 ((σ5 (a0 + 1) p1) + (σ5 (a0 + 1) p2)) → (((0 : Int) ≤ r1 ∧ r1 < 8) ∧ (∀ σ10 : jM, σ10 = up σ8 (a0 + 2) r1 0 → (((0 : Int) ≤ r1 ∧ r1 < 8) ∧ (Ct mX1_writeDown d 9 t [rv a0, iv 0, iv r1, iv (σ10 (a0 + 1) r1)] σ10 (fun r11 σ11 => (Q r1 σ11))))))))))) ∧ (r5 = 0 → (Q (-1) σ5)))))))))))))))) : Ct mX1_unite (d + 1) 0 t [rv a0, iv p1, iv p2] σ Q := Ct_of (by decide +kernel) (Nat.le_of_ble_eq_true rfl) (b_X1_unite_0 h0 h)
set_option maxRecDepth 4000 in
theorem b_X1_clear_0 {d : Nat} {t : Int} {Q : Int → jM → Prop} {σ : jM} {a0 p1 p2 : Int} (h0 : ob (GG t) a0 1) (h : Ct mX1_holds d 0 t [rv a0, iv p1] σ (fun r1 σ1 => ((inR r1) ∧ ((¬ r1 = 0 → (((0 : Int) ≤ p1 ∧ p1 < 8) ∧ (Ct mX1_writeDown d 9 t [rv a0, iv p2, iv p1, iv (σ1 (a0 + 1) p1)] σ1 (fun r3 σ3 => (((0 : Int) ≤ p1 ∧ p1 < 8) ∧ (∀ σ5 : jM, σ5 = up σ3 (a0 + 1) p1 0 → (((0 : Int) ≤ p1 ∧ p1 < 8) ∧ (∀ σ7 : jM, σ7 = up σ5 (a0 + 2) p1 0 → (Q 0 σ7))))))))) ∧ (r1 = 0 → (Q 0 σ1)))))) : Jt mX1_clear (d + 1) 9 t Q 0 [rv a0, iv p1, iv p2] [] σ := by
  refine s_aload_n (i := 0) rfl (show decode cX1_clear 0 = .ok (.aload_n 0, 1) by decide +kernel) ?_
  refine j_iload_n (i := 1) rfl (show decode cX1_clear 1 = .ok (.iload_n 1, 1) by decide +kernel) ?_
  refine j_ctV (m' := mX1_holds) (As := [iv p1]) (ci := 1) (tag := 0) (N := 0) (cw_X1_44 rfl) (show decode cX1_clear 2 = .ok (.invokevirtual 44, 3) by decide +kernel) rfl (Nat.le_of_ble_eq_true rfl) (by decide) h0 rfl rfl (Nat.le_refl _) h (fun r1 σ1 h => ?_)
  have hr1 := h.1
  have h := h.2
  refine j_if_ne (tgt := 9) hr1 (show decode cX1_clear 5 = .ok (.ifCond .ne 4, 3) by decide +kernel) (by decide) (fun c => ?_) (fun c => ?_)
  · have h := h.1 c
    refine s_aload_n (i := 0) rfl (show decode cX1_clear 9 = .ok (.aload_n 0, 1) by decide +kernel) ?_
    refine j_iload_n (i := 2) rfl (show decode cX1_clear 10 = .ok (.iload_n 2, 1) by decide +kernel) ?_
    refine j_iload_n (i := 1) rfl (show decode cX1_clear 11 = .ok (.iload_n 1, 1) by decide +kernel) ?_
    refine s_aload_n (i := 0) rfl (show decode cX1_clear 12 = .ok (.aload_n 0, 1) by decide +kernel) ?_
    refine gf_X1_9 (x := (a0 + 1)) rfl (show decode cX1_clear 13 = .ok (.getfield 9, 3) by decide +kernel) h0 (gr_1_0 h0) ?_
    refine j_iload_n (i := 1) rfl (show decode cX1_clear 16 = .ok (.iload_n 1, 1) by decide +kernel) ?_
    refine s_iald (show decode cX1_clear 17 = .ok (.iaload, 1) by decide +kernel) (ok_1_0 h0) h.1 ?_
    have h := h.2
    refine j_ctVv (m' := mX1_writeDown) (As := [iv p2, iv p1, iv (σ1 (a0 + 1) p1)]) (ci := 1) (N := 0) (cw_X1_52 rfl) (show decode cX1_clear 18 = .ok (.invokevirtual 52, 3) by decide +kernel) rfl (Nat.le_of_ble_eq_true rfl) h0 rfl rfl (Nat.le_refl _) h (fun r3 σ3 h => ?_)
    refine s_aload_n (i := 0) rfl (show decode cX1_clear 21 = .ok (.aload_n 0, 1) by decide +kernel) ?_
    refine gf_X1_9 (x := (a0 + 1)) rfl (show decode cX1_clear 22 = .ok (.getfield 9, 3) by decide +kernel) h0 (gr_1_0 h0) ?_
    refine j_iload_n (i := 1) rfl (show decode cX1_clear 25 = .ok (.iload_n 1, 1) by decide +kernel) ?_
    refine j_iconst (show decode cX1_clear 26 = .ok (.iconst 0, 1) by decide +kernel) ?_
    have hb3 := h.1
    have h := h.2
    refine s_iast (show decode cX1_clear 27 = .ok (.iastore, 1) by decide +kernel) (ok_1_0 h0) hb3 ?_
    obtain ⟨σ5, eσ5⟩ : ∃ z : jM, z = up σ3 (a0 + 1) p1 0 := ⟨_, rfl⟩
    refine j_sig eσ5 ?_
    have h := h σ5 eσ5
    refine s_aload_n (i := 0) rfl (show decode cX1_clear 28 = .ok (.aload_n 0, 1) by decide +kernel) ?_
    refine gf_X1_15 (x := (a0 + 2)) rfl (show decode cX1_clear 29 = .ok (.getfield 15, 3) by decide +kernel) h0 (gr_1_1 h0) ?_
    refine j_iload_n (i := 1) rfl (show decode cX1_clear 32 = .ok (.iload_n 1, 1) by decide +kernel) ?_
    refine j_iconst (show decode cX1_clear 33 = .ok (.iconst 0, 1) by decide +kernel) ?_
    have hb5 := h.1
    have h := h.2
    refine s_iast (show decode cX1_clear 34 = .ok (.iastore, 1) by decide +kernel) (ok_1_1 h0) hb5 ?_
    obtain ⟨σ7, eσ7⟩ : ∃ z : jM, z = up σ5 (a0 + 2) p1 0 := ⟨_, rfl⟩
    refine j_sig eσ7 ?_
    have h := h σ7 eσ7
    exact j_ret (rokV (show decode cX1_clear 35 = .ok (.return_, 1) by decide +kernel) rfl) ⟨rfl, rfl, h⟩
  · have h := h.2 c
    exact j_ret (rokV (show decode cX1_clear 8 = .ok (.return_, 1) by decide +kernel) rfl) ⟨rfl, rfl, h⟩
theorem c_X1_clear {d : Nat} {t : Int} {Q : Int → jM → Prop} {σ : jM} {a0 p1 p2 : Int} (h0 : ob (GG t) a0 1) (h : Ct mX1_holds d 0 t [rv a0, iv p1] σ (fun r1 σ1 => ((inR r1) ∧ ((¬ r1 = 0 → (((0 : Int) ≤ p1 ∧ p1 < 8) ∧ (Ct mX1_writeDown d 9 t [rv a0, iv p2, iv p1, iv (σ1 (a0 + 1) p1)] σ1 (fun r3 σ3 => (((0 : Int) ≤ p1 ∧ p1 < 8) ∧ (∀ σ5 : jM, σ5 = up σ3 (a0 + 1) p1 0 → (((0 : Int) ≤ p1 ∧ p1 < 8) ∧ (∀ σ7 : jM, σ7 = up σ5 (a0 + 2) p1 0 → (Q 0 σ7))))))))) ∧ (r1 = 0 → (Q 0 σ1)))))) : Ct mX1_clear (d + 1) 9 t [rv a0, iv p1, iv p2] σ Q := Ct_of (by decide +kernel) (Nat.le_of_ble_eq_true rfl) (b_X1_clear_0 h0 h)
set_option maxRecDepth 4000 in
theorem b_X1_sell_0 {d : Nat} {t : Int} {Q : Int → jM → Prop} {σ : jM} {a0 p1 p3 : Int} (h0 : ob (GG t) a0 1) (h : Ct mX1_holds d 0 t [rv a0, iv p1] σ (fun r1 σ1 => ((inR r1) ∧ ((¬ r1 = 0 → (Ct mX2_priceOf d 0 t [rv 273, rv p3, rv a0, iv p1] σ1 (fun r3 σ3 => ((inR ((σ3 a0 5) + r3)) ∧ (∀ σ5 : jM, σ5 = up σ3 a0 5 (min 999999 ((σ3 a0 5) + r3)) → (Ct mX1_clear d 9 t [rv a0, iv p1, iv 2] σ5 (fun r6 σ6 => (Q r3 σ6)))))))) ∧ (r1 = 0 → (Q (-1) σ1)))))) : Jt mX1_sell (d + 1) 0 t Q 0 [rv a0, iv p1, rv 273, rv p3, uv] [] σ := by
  refine s_aload_n (i := 0) rfl (show decode cX1_sell 0 = .ok (.aload_n 0, 1) by decide +kernel) ?_
  refine j_iload_n (i := 1) rfl (show decode cX1_sell 1 = .ok (.iload_n 1, 1) by decide +kernel) ?_
  refine j_ctV (m' := mX1_holds) (As := [iv p1]) (ci := 1) (tag := 0) (N := 0) (cw_X1_44 rfl) (show decode cX1_sell 2 = .ok (.invokevirtual 44, 3) by decide +kernel) rfl (Nat.le_of_ble_eq_true rfl) (by decide) h0 rfl rfl (Nat.le_refl _) h (fun r1 σ1 h => ?_)
  have hr1 := h.1
  have h := h.2
  refine j_if_ne (tgt := 10) hr1 (show decode cX1_sell 5 = .ok (.ifCond .ne 5, 3) by decide +kernel) (by decide) (fun c => ?_) (fun c => ?_)
  · have h := h.1 c
    refine s_aload_n (i := 2) rfl (show decode cX1_sell 10 = .ok (.aload_n 2, 1) by decide +kernel) ?_
    refine s_aload_n (i := 3) rfl (show decode cX1_sell 11 = .ok (.aload_n 3, 1) by decide +kernel) ?_
    refine s_aload_n (i := 0) rfl (show decode cX1_sell 12 = .ok (.aload_n 0, 1) by decide +kernel) ?_
    refine j_iload_n (i := 1) rfl (show decode cX1_sell 13 = .ok (.iload_n 1, 1) by decide +kernel) ?_
    refine j_ctV (m' := mX2_priceOf) (As := [rv p3, rv a0, iv p1]) (ci := 2) (tag := 0) (N := 0) (cw_X1_56 rfl) (show decode cX1_sell 14 = .ok (.invokevirtual 56, 3) by decide +kernel) rfl (Nat.le_of_ble_eq_true rfl) (by decide) okl_273 rfl rfl (Nat.le_refl _) h (fun r3 σ3 h => ?_)
    refine s_ist (i := 4) (L' := [rv a0, iv p1, rv 273, rv p3, iv r3]) rfl (by decide) (show decode cX1_sell 17 = .ok (.istore 4, 2) by decide +kernel) ?_
    refine s_aload_n (i := 0) rfl (show decode cX1_sell 19 = .ok (.aload_n 0, 1) by decide +kernel) ?_
    refine j_ldc (x := 999999) (tt_in 821 (by decide +kernel) rfl) (show decode cX1_sell 20 = .ok (.ldc 62, 2) by decide +kernel) ?_
    refine s_aload_n (i := 0) rfl (show decode cX1_sell 22 = .ok (.aload_n 0, 1) by decide +kernel) ?_
    refine gf_X1_38 rfl (show decode cX1_sell 23 = .ok (.getfield 38, 3) by decide +kernel) h0 ?_
    refine j_iload (i := 4) rfl (show decode cX1_sell 26 = .ok (.iload 4, 2) by decide +kernel) ?_
    refine j_iadd (show decode cX1_sell 28 = .ok (.iadd, 1) by decide +kernel) ?_
    have hr3 := h.1
    have h := h.2
    refine j_min (tt_in 822 (by decide +kernel) rfl) (by omega) (Nat.le_of_ble_eq_true rfl) (inl (by decide)) hr3 (show decode cX1_sell 29 = .ok (.invokestatic 63, 3) by decide +kernel) ?_
    refine pf_X1_38 rfl (show decode cX1_sell 32 = .ok (.putfield 38, 3) by decide +kernel) h0 ?_
    obtain ⟨σ5, eσ5⟩ : ∃ z : jM, z = up σ3 a0 5 (min 999999 ((σ3 a0 5) + r3)) := ⟨_, rfl⟩
    refine j_sig eσ5 ?_
    have h := h σ5 eσ5
    refine s_aload_n (i := 0) rfl (show decode cX1_sell 35 = .ok (.aload_n 0, 1) by decide +kernel) ?_
    refine j_iload_n (i := 1) rfl (show decode cX1_sell 36 = .ok (.iload_n 1, 1) by decide +kernel) ?_
    refine j_iconst (show decode cX1_sell 37 = .ok (.iconst 2, 1) by decide +kernel) ?_
    refine j_ctVv (m' := mX1_clear) (As := [iv p1, iv 2]) (ci := 1) (N := 0) (cw_X1_69 rfl) (show decode cX1_sell 38 = .ok (.invokevirtual 69, 3) by decide +kernel) rfl (Nat.le_of_ble_eq_true rfl) h0 rfl rfl (Nat.le_refl _) h (fun r6 σ6 h => ?_)
    refine j_iload (i := 4) rfl (show decode cX1_sell 41 = .ok (.iload 4, 2) by decide +kernel) ?_
    exact j_ret (rokI (show decode cX1_sell 43 = .ok (.ireturn, 1) by decide +kernel) rfl) ⟨rfl, rfl, h⟩
  · have h := h.2 c
    refine j_iconst (show decode cX1_sell 8 = .ok (.iconst (-1), 1) by decide +kernel) ?_
    exact j_ret (rokI (show decode cX1_sell 9 = .ok (.ireturn, 1) by decide +kernel) rfl) ⟨rfl, rfl, h⟩
theorem c_X1_sell {d : Nat} {t : Int} {Q : Int → jM → Prop} {σ : jM} {a0 p1 p3 : Int} (h0 : ob (GG t) a0 1) (h : Ct mX1_holds d 0 t [rv a0, iv p1] σ (fun r1 σ1 => ((inR r1) ∧ ((¬ r1 = 0 → (Ct mX2_priceOf d 0 t [rv 273, rv p3, rv a0, iv p1] σ1 (fun r3 σ3 => ((inR ((σ3 a0 5) + r3)) ∧ (∀ σ5 : jM, σ5 = up σ3 a0 5 (min 999999 ((σ3 a0 5) + r3)) → (Ct mX1_clear d 9 t [rv a0, iv p1, iv 2] σ5 (fun r6 σ6 => (Q r3 σ6)))))))) ∧ (r1 = 0 → (Q (-1) σ1)))))) : Ct mX1_sell (d + 1) 0 t [rv a0, iv p1, rv 273, rv p3] σ Q := Ct_of (by decide +kernel) (Nat.le_of_ble_eq_true rfl) (b_X1_sell_0 h0 h)
set_option maxRecDepth 4000 in
theorem b_X1_passDay_5 {d : Nat} {t : Int} {Q : Int → jM → Prop} {σ : jM} {a0 p2 v3 v4 : Int} (h0 : ob (GG t) a0 1) (h : (inR v4) ∧ ((8 ≤ v4 → (∀ σ2 : jM, σ2 = up σ a0 6 ((σ a0 6) + 1) → (Q v3 σ2))) ∧ (v4 < 8 → (((0 : Int) ≤ v4 ∧ v4 < 8) ∧ ((inR (σ (a0 + 1) v4)) ∧ ((¬ (σ (a0 + 1) v4) = 0 → (((0 : Int) ≤ v4 ∧ v4 < 8) ∧ ((inR ((σ (a0 + 2) v4) + 1)) ∧ (((0 : Int) ≤ v4 ∧ v4 < 8) ∧ (∀ σ6 : jM, σ6 = up σ (a0 + 2) v4 (min 99 ((σ (a0 + 2) v4) + 1)) → (Ct mX1_draw d 0 t [rv a0] σ6 (fun r7 σ7 => ((inR r7) ∧ (Ct mX2_tiresOf d 0 t [rv 273, rv p2, rv a0, iv v4] σ7 (fun r9 σ9 => ((inR (Int.tmod r7 10)) ∧ ((inR r9) ∧ ((r9 ≤ (Int.tmod r7 10) → (Jt mX1_passDay (d + 1) 0 t Q 5 [rv a0, rv 273, rv p2, iv v3, iv (v4 + 1)] [] σ9)) ∧ ((Int.tmod r7 10) < r9 → (Ct mX1_tire d 9 t [rv a0, iv v4] σ9 (fun r12 σ12 => (Jt mX1_passDay (d + 1) 0 t Q 5 [rv a0, rv 273, rv p2, iv (v3 + 1), iv (v4 + 1)] [] σ12))))))))))))))))) ∧ ((σ (a0 + 1) v4) = 0 → (Jt mX1_passDay (d + 1) 0 t Q 5 [rv a0, rv 273, rv p2, iv v3, iv (v4 + 1)] [] σ)))))))) : Jt mX1_passDay (d + 1) 0 t Q 5 [rv a0, rv 273, rv p2, iv v3, iv v4] [] σ := by
  refine j_iload (i := 4) rfl (show decode cX1_passDay 5 = .ok (.iload 4, 2) by decide +kernel) ?_
  refine j_bipush (n := 8) (by decide +kernel) (show decode cX1_passDay 7 = .ok (.bipush 8, 2) by decide +kernel) ?_
  have hr0 := h.1
  have h := h.2
  refine j_icmp_ge (tgt := 79) hr0 (inl (by decide)) (show decode cX1_passDay 9 = .ok (.if_icmp .ge 70, 3) by decide +kernel) (by decide) (fun c => ?_) (fun c => ?_)
  · have h := h.1 c
    refine s_aload_n (i := 0) rfl (show decode cX1_passDay 79 = .ok (.aload_n 0, 1) by decide +kernel) ?_
    refine j_dup (show (2 : Nat) ≠ 1 by decide) (show decode cX1_passDay 80 = .ok (.dup, 1) by decide +kernel) ?_
    refine gf_X1_41 rfl (show decode cX1_passDay 81 = .ok (.getfield 41, 3) by decide +kernel) h0 ?_
    refine j_iconst (show decode cX1_passDay 84 = .ok (.iconst 1, 1) by decide +kernel) ?_
    refine j_iadd (show decode cX1_passDay 85 = .ok (.iadd, 1) by decide +kernel) ?_
    refine pf_X1_41 rfl (show decode cX1_passDay 86 = .ok (.putfield 41, 3) by decide +kernel) h0 ?_
    obtain ⟨σ2, eσ2⟩ : ∃ z : jM, z = up σ a0 6 ((σ a0 6) + 1) := ⟨_, rfl⟩
    refine j_sig eσ2 ?_
    have h := h σ2 eσ2
    refine j_iload_n (i := 3) rfl (show decode cX1_passDay 89 = .ok (.iload_n 3, 1) by decide +kernel) ?_
    exact j_ret (rokI (show decode cX1_passDay 90 = .ok (.ireturn, 1) by decide +kernel) rfl) ⟨rfl, rfl, h⟩
  · have h := h.2 c
    refine s_aload_n (i := 0) rfl (show decode cX1_passDay 12 = .ok (.aload_n 0, 1) by decide +kernel) ?_
    refine gf_X1_9 (x := (a0 + 1)) rfl (show decode cX1_passDay 13 = .ok (.getfield 9, 3) by decide +kernel) h0 (gr_1_0 h0) ?_
    refine j_iload (i := 4) rfl (show decode cX1_passDay 16 = .ok (.iload 4, 2) by decide +kernel) ?_
    refine s_iald (show decode cX1_passDay 18 = .ok (.iaload, 1) by decide +kernel) (ok_1_0 h0) h.1 ?_
    have h := h.2
    have hr2 := h.1
    have h := h.2
    refine j_if_ne (tgt := 25) hr2 (show decode cX1_passDay 19 = .ok (.ifCond .ne 6, 3) by decide +kernel) (by decide) (fun c => ?_) (fun c => ?_)
    · have h := h.1 c
      refine s_aload_n (i := 0) rfl (show decode cX1_passDay 25 = .ok (.aload_n 0, 1) by decide +kernel) ?_
      refine gf_X1_15 (x := (a0 + 2)) rfl (show decode cX1_passDay 26 = .ok (.getfield 15, 3) by decide +kernel) h0 (gr_1_1 h0) ?_
      refine j_iload (i := 4) rfl (show decode cX1_passDay 29 = .ok (.iload 4, 2) by decide +kernel) ?_
      refine j_bipush (n := 99) (by decide +kernel) (show decode cX1_passDay 31 = .ok (.bipush 99, 2) by decide +kernel) ?_
      refine s_aload_n (i := 0) rfl (show decode cX1_passDay 33 = .ok (.aload_n 0, 1) by decide +kernel) ?_
      refine gf_X1_15 (x := (a0 + 2)) rfl (show decode cX1_passDay 34 = .ok (.getfield 15, 3) by decide +kernel) h0 (gr_1_1 h0) ?_
      refine j_iload (i := 4) rfl (show decode cX1_passDay 37 = .ok (.iload 4, 2) by decide +kernel) ?_
      refine s_iald (show decode cX1_passDay 39 = .ok (.iaload, 1) by decide +kernel) (ok_1_1 h0) h.1 ?_
      have h := h.2
      refine j_iconst (show decode cX1_passDay 40 = .ok (.iconst 1, 1) by decide +kernel) ?_
      refine j_iadd (show decode cX1_passDay 41 = .ok (.iadd, 1) by decide +kernel) ?_
      have hr3 := h.1
      have h := h.2
      refine j_min (tt_in 822 (by decide +kernel) rfl) (by omega) (Nat.le_of_ble_eq_true rfl) (inl (by decide)) hr3 (show decode cX1_passDay 42 = .ok (.invokestatic 63, 3) by decide +kernel) ?_
      have hb4 := h.1
      have h := h.2
      refine s_iast (show decode cX1_passDay 45 = .ok (.iastore, 1) by decide +kernel) (ok_1_1 h0) hb4 ?_
      obtain ⟨σ6, eσ6⟩ : ∃ z : jM, z = up σ (a0 + 2) v4 (min 99 ((σ (a0 + 2) v4) + 1)) := ⟨_, rfl⟩
      refine j_sig eσ6 ?_
      have h := h σ6 eσ6
      refine s_aload_n (i := 0) rfl (show decode cX1_passDay 46 = .ok (.aload_n 0, 1) by decide +kernel) ?_
      refine j_ctV (m' := mX1_draw) (As := []) (ci := 1) (tag := 0) (N := 0) (cw_X1_73 rfl) (show decode cX1_passDay 47 = .ok (.invokevirtual 73, 3) by decide +kernel) rfl (Nat.le_of_ble_eq_true rfl) (by decide) h0 rfl rfl (Nat.le_refl _) h (fun r7 σ7 h => ?_)
      refine j_bipush (n := 10) (by decide +kernel) (show decode cX1_passDay 50 = .ok (.bipush 10, 2) by decide +kernel) ?_
      have hr7 := h.1
      have h := h.2
      refine j_irem hr7 (inl (by decide)) (by decide) (show decode cX1_passDay 52 = .ok (.irem, 1) by decide +kernel) ?_
      refine s_aload_n (i := 1) rfl (show decode cX1_passDay 53 = .ok (.aload_n 1, 1) by decide +kernel) ?_
      refine s_aload_n (i := 2) rfl (show decode cX1_passDay 54 = .ok (.aload_n 2, 1) by decide +kernel) ?_
      refine s_aload_n (i := 0) rfl (show decode cX1_passDay 55 = .ok (.aload_n 0, 1) by decide +kernel) ?_
      refine j_iload (i := 4) rfl (show decode cX1_passDay 56 = .ok (.iload 4, 2) by decide +kernel) ?_
      refine j_ctV (m' := mX2_tiresOf) (As := [rv p2, rv a0, iv v4]) (ci := 2) (tag := 0) (N := 0) (cw_X1_77 rfl) (show decode cX1_passDay 58 = .ok (.invokevirtual 77, 3) by decide +kernel) rfl (Nat.le_of_ble_eq_true rfl) (by decide) okl_273 rfl rfl (Nat.le_refl _) h (fun r9 σ9 h => ?_)
      have hr9 := h.1
      have h := h.2
      have hr10 := h.1
      have h := h.2
      refine j_icmp_ge (tgt := 73) hr9 hr10 (show decode cX1_passDay 61 = .ok (.if_icmp .ge 12, 3) by decide +kernel) (by decide) (fun c => ?_) (fun c => ?_)
      · have h := h.1 c
        refine s_iinc (i := 4) rfl (L' := [rv a0, rv 273, rv p2, iv v3, iv (v4 + 1)]) rfl (show decode cX1_passDay 73 = .ok (.iinc 4 1, 3) by decide +kernel) ?_
        refine j_goto (tgt := 5) (show decode cX1_passDay 76 = .ok (.goto (-71), 3) by decide +kernel) (by decide) ?_
        exact h
      · have h := h.2 c
        refine s_aload_n (i := 0) rfl (show decode cX1_passDay 64 = .ok (.aload_n 0, 1) by decide +kernel) ?_
        refine j_iload (i := 4) rfl (show decode cX1_passDay 65 = .ok (.iload 4, 2) by decide +kernel) ?_
        refine j_ctVv (m' := mX1_tire) (As := [iv v4]) (ci := 1) (N := 0) (cw_X1_80 rfl) (show decode cX1_passDay 67 = .ok (.invokevirtual 80, 3) by decide +kernel) rfl (Nat.le_of_ble_eq_true rfl) h0 rfl rfl (Nat.le_refl _) h (fun r12 σ12 h => ?_)
        refine s_iinc (i := 3) rfl (L' := [rv a0, rv 273, rv p2, iv (v3 + 1), iv v4]) rfl (show decode cX1_passDay 70 = .ok (.iinc 3 1, 3) by decide +kernel) ?_
        refine s_iinc (i := 4) rfl (L' := [rv a0, rv 273, rv p2, iv (v3 + 1), iv (v4 + 1)]) rfl (show decode cX1_passDay 73 = .ok (.iinc 4 1, 3) by decide +kernel) ?_
        refine j_goto (tgt := 5) (show decode cX1_passDay 76 = .ok (.goto (-71), 3) by decide +kernel) (by decide) ?_
        exact h
    · have h := h.2 c
      refine j_goto (tgt := 73) (show decode cX1_passDay 22 = .ok (.goto 51, 3) by decide +kernel) (by decide) ?_
      refine s_iinc (i := 4) rfl (L' := [rv a0, rv 273, rv p2, iv v3, iv (v4 + 1)]) rfl (show decode cX1_passDay 73 = .ok (.iinc 4 1, 3) by decide +kernel) ?_
      refine j_goto (tgt := 5) (show decode cX1_passDay 76 = .ok (.goto (-71), 3) by decide +kernel) (by decide) ?_
      exact h
set_option maxRecDepth 4000 in
theorem b_X1_passDay_0 {d : Nat} {t : Int} {Q : Int → jM → Prop} {σ : jM} {a0 p2 : Int} (h0 : ob (GG t) a0 1) (h : Jt mX1_passDay (d + 1) 0 t Q 5 [rv a0, rv 273, rv p2, iv 0, iv 0] [] σ) : Jt mX1_passDay (d + 1) 0 t Q 0 [rv a0, rv 273, rv p2, uv, uv] [] σ := by
  refine j_iconst (show decode cX1_passDay 0 = .ok (.iconst 0, 1) by decide +kernel) ?_
  refine s_ist_n (i := 3) (L' := [rv a0, rv 273, rv p2, iv 0, uv]) rfl (by decide) (show decode cX1_passDay 1 = .ok (.istore_n 3, 1) by decide +kernel) ?_
  refine j_iconst (show decode cX1_passDay 2 = .ok (.iconst 0, 1) by decide +kernel) ?_
  refine s_ist (i := 4) (L' := [rv a0, rv 273, rv p2, iv 0, iv 0]) rfl (by decide) (show decode cX1_passDay 3 = .ok (.istore 4, 2) by decide +kernel) ?_
  exact h
theorem c_X1_passDay {d : Nat} {t : Int} {Q : Int → jM → Prop} {σ : jM} {a0 p2 : Int} (h0 : ob (GG t) a0 1) (h : Jt mX1_passDay (d + 1) 0 t Q 5 [rv a0, rv 273, rv p2, iv 0, iv 0] [] σ) : Ct mX1_passDay (d + 1) 0 t [rv a0, rv 273, rv p2] σ Q := Ct_of (by decide +kernel) (Nat.le_of_ble_eq_true rfl) (b_X1_passDay_0 h0 h)
set_option maxRecDepth 4000 in
theorem b_X1_tire_0 {d : Nat} {t : Int} {Q : Int → jM → Prop} {σ : jM} {a0 p1 : Int} (h0 : ob (GG t) a0 1) (h : ((0 : Int) ≤ p1 ∧ p1 < 8) ∧ ((inR (σ (a0 + 1) p1)) ∧ (((0 : Int) ≤ p1 ∧ p1 < 8) ∧ (∀ σ3 : jM, σ3 = up σ (a0 + 1) p1 (Int.tdiv (σ (a0 + 1) p1) 2) → (((0 : Int) ≤ p1 ∧ p1 < 8) ∧ ((inR (σ3 (a0 + 1) p1)) ∧ ((¬ (σ3 (a0 + 1) p1) = 0 → (((0 : Int) ≤ p1 ∧ p1 < 8) ∧ (Ct mX1_writeDown d 9 t [rv a0, iv 3, iv p1, iv (σ3 (a0 + 1) p1)] σ3 (fun r5 σ5 => (Q 0 σ5))))) ∧ ((σ3 (a0 + 1) p1) = 0 → (((0 : Int) ≤ p1 ∧ p1 < 8) ∧ (∀ σ7 : jM, σ7 = up σ3 (a0 + 2) p1 0 → (((0 : Int) ≤ p1 ∧ p1 < 8) ∧ (Ct mX1_writeDown d 9 t [rv a0, iv 3, iv p1, iv (σ7 (a0 + 1) p1)] σ7 (fun r8 σ8 => (Q 0 σ8)))))))))))))) : Jt mX1_tire (d + 1) 9 t Q 0 [rv a0, iv p1] [] σ := by
  refine s_aload_n (i := 0) rfl (show decode cX1_tire 0 = .ok (.aload_n 0, 1) by decide +kernel) ?_
  refine gf_X1_9 (x := (a0 + 1)) rfl (show decode cX1_tire 1 = .ok (.getfield 9, 3) by decide +kernel) h0 (gr_1_0 h0) ?_
  refine j_iload_n (i := 1) rfl (show decode cX1_tire 4 = .ok (.iload_n 1, 1) by decide +kernel) ?_
  refine j_dup2 (show (0 : Nat) ≠ 1 by decide) (show (2 : Nat) ≠ 1 by decide) (show decode cX1_tire 5 = .ok (.dup2, 1) by decide +kernel) ?_
  refine s_iald (show decode cX1_tire 6 = .ok (.iaload, 1) by decide +kernel) (ok_1_0 h0) h.1 ?_
  have h := h.2
  refine j_iconst (show decode cX1_tire 7 = .ok (.iconst 2, 1) by decide +kernel) ?_
  have hr0 := h.1
  have h := h.2
  refine j_idiv hr0 (inl (by decide)) (by decide) (show decode cX1_tire 8 = .ok (.idiv, 1) by decide +kernel) ?_
  have hb1 := h.1
  have h := h.2
  refine s_iast (show decode cX1_tire 9 = .ok (.iastore, 1) by decide +kernel) (ok_1_0 h0) hb1 ?_
  obtain ⟨σ3, eσ3⟩ : ∃ z : jM, z = up σ (a0 + 1) p1 (Int.tdiv (σ (a0 + 1) p1) 2) := ⟨_, rfl⟩
  refine j_sig eσ3 ?_
  have h := h σ3 eσ3
  refine s_aload_n (i := 0) rfl (show decode cX1_tire 10 = .ok (.aload_n 0, 1) by decide +kernel) ?_
  refine gf_X1_9 (x := (a0 + 1)) rfl (show decode cX1_tire 11 = .ok (.getfield 9, 3) by decide +kernel) h0 (gr_1_0 h0) ?_
  refine j_iload_n (i := 1) rfl (show decode cX1_tire 14 = .ok (.iload_n 1, 1) by decide +kernel) ?_
  refine s_iald (show decode cX1_tire 15 = .ok (.iaload, 1) by decide +kernel) (ok_1_0 h0) h.1 ?_
  have h := h.2
  have hr3 := h.1
  have h := h.2
  refine j_if_ne (tgt := 26) hr3 (show decode cX1_tire 16 = .ok (.ifCond .ne 10, 3) by decide +kernel) (by decide) (fun c => ?_) (fun c => ?_)
  · have h := h.1 c
    refine s_aload_n (i := 0) rfl (show decode cX1_tire 26 = .ok (.aload_n 0, 1) by decide +kernel) ?_
    refine j_iconst (show decode cX1_tire 27 = .ok (.iconst 3, 1) by decide +kernel) ?_
    refine j_iload_n (i := 1) rfl (show decode cX1_tire 28 = .ok (.iload_n 1, 1) by decide +kernel) ?_
    refine s_aload_n (i := 0) rfl (show decode cX1_tire 29 = .ok (.aload_n 0, 1) by decide +kernel) ?_
    refine gf_X1_9 (x := (a0 + 1)) rfl (show decode cX1_tire 30 = .ok (.getfield 9, 3) by decide +kernel) h0 (gr_1_0 h0) ?_
    refine j_iload_n (i := 1) rfl (show decode cX1_tire 33 = .ok (.iload_n 1, 1) by decide +kernel) ?_
    refine s_iald (show decode cX1_tire 34 = .ok (.iaload, 1) by decide +kernel) (ok_1_0 h0) h.1 ?_
    have h := h.2
    refine j_ctVv (m' := mX1_writeDown) (As := [iv 3, iv p1, iv (σ3 (a0 + 1) p1)]) (ci := 1) (N := 0) (cw_X1_52 rfl) (show decode cX1_tire 35 = .ok (.invokevirtual 52, 3) by decide +kernel) rfl (Nat.le_of_ble_eq_true rfl) h0 rfl rfl (Nat.le_refl _) h (fun r5 σ5 h => ?_)
    exact j_ret (rokV (show decode cX1_tire 38 = .ok (.return_, 1) by decide +kernel) rfl) ⟨rfl, rfl, h⟩
  · have h := h.2 c
    refine s_aload_n (i := 0) rfl (show decode cX1_tire 19 = .ok (.aload_n 0, 1) by decide +kernel) ?_
    refine gf_X1_15 (x := (a0 + 2)) rfl (show decode cX1_tire 20 = .ok (.getfield 15, 3) by decide +kernel) h0 (gr_1_1 h0) ?_
    refine j_iload_n (i := 1) rfl (show decode cX1_tire 23 = .ok (.iload_n 1, 1) by decide +kernel) ?_
    refine j_iconst (show decode cX1_tire 24 = .ok (.iconst 0, 1) by decide +kernel) ?_
    have hb5 := h.1
    have h := h.2
    refine s_iast (show decode cX1_tire 25 = .ok (.iastore, 1) by decide +kernel) (ok_1_1 h0) hb5 ?_
    obtain ⟨σ7, eσ7⟩ : ∃ z : jM, z = up σ3 (a0 + 2) p1 0 := ⟨_, rfl⟩
    refine j_sig eσ7 ?_
    have h := h σ7 eσ7
    refine s_aload_n (i := 0) rfl (show decode cX1_tire 26 = .ok (.aload_n 0, 1) by decide +kernel) ?_
    refine j_iconst (show decode cX1_tire 27 = .ok (.iconst 3, 1) by decide +kernel) ?_
    refine j_iload_n (i := 1) rfl (show decode cX1_tire 28 = .ok (.iload_n 1, 1) by decide +kernel) ?_
    refine s_aload_n (i := 0) rfl (show decode cX1_tire 29 = .ok (.aload_n 0, 1) by decide +kernel) ?_
    refine gf_X1_9 (x := (a0 + 1)) rfl (show decode cX1_tire 30 = .ok (.getfield 9, 3) by decide +kernel) h0 (gr_1_0 h0) ?_
    refine j_iload_n (i := 1) rfl (show decode cX1_tire 33 = .ok (.iload_n 1, 1) by decide +kernel) ?_
    refine s_iald (show decode cX1_tire 34 = .ok (.iaload, 1) by decide +kernel) (ok_1_0 h0) h.1 ?_
    have h := h.2
    refine j_ctVv (m' := mX1_writeDown) (As := [iv 3, iv p1, iv (σ7 (a0 + 1) p1)]) (ci := 1) (N := 0) (cw_X1_52 rfl) (show decode cX1_tire 35 = .ok (.invokevirtual 52, 3) by decide +kernel) rfl (Nat.le_of_ble_eq_true rfl) h0 rfl rfl (Nat.le_refl _) h (fun r8 σ8 h => ?_)
    exact j_ret (rokV (show decode cX1_tire 38 = .ok (.return_, 1) by decide +kernel) rfl) ⟨rfl, rfl, h⟩
theorem c_X1_tire {d : Nat} {t : Int} {Q : Int → jM → Prop} {σ : jM} {a0 p1 : Int} (h0 : ob (GG t) a0 1) (h : ((0 : Int) ≤ p1 ∧ p1 < 8) ∧ ((inR (σ (a0 + 1) p1)) ∧ (((0 : Int) ≤ p1 ∧ p1 < 8) ∧ (∀ σ3 : jM, σ3 = up σ (a0 + 1) p1 (Int.tdiv (σ (a0 + 1) p1) 2) → (((0 : Int) ≤ p1 ∧ p1 < 8) ∧ ((inR (σ3 (a0 + 1) p1)) ∧ ((¬ (σ3 (a0 + 1) p1) = 0 → (((0 : Int) ≤ p1 ∧ p1 < 8) ∧ (Ct mX1_writeDown d 9 t [rv a0, iv 3, iv p1, iv (σ3 (a0 + 1) p1)] σ3 (fun r5 σ5 => (Q 0 σ5))))) ∧ ((σ3 (a0 + 1) p1) = 0 → (((0 : Int) ≤ p1 ∧ p1 < 8) ∧ (∀ σ7 : jM, σ7 = up σ3 (a0 + 2) p1 0 → (((0 : Int) ≤ p1 ∧ p1 < 8) ∧ (Ct mX1_writeDown d 9 t [rv a0, iv 3, iv p1, iv (σ7 (a0 + 1) p1)] σ7 (fun r8 σ8 => (Q 0 σ8)))))))))))))) : Ct mX1_tire (d + 1) 9 t [rv a0, iv p1] σ Q := Ct_of (by decide +kernel) (Nat.le_of_ble_eq_true rfl) (b_X1_tire_0 h0 h)
set_option maxRecDepth 4000 in
theorem b_X1_draw_0 {d : Nat} {t : Int} {Q : Int → jM → Prop} {σ : jM} {a0 : Int} (h0 : ob (GG t) a0 1) (h : (inR (((σ a0 7) * 683) + 563)) ∧ (∀ σ2 : jM, σ2 = up σ a0 7 (Int.tmod (((σ a0 7) * 683) + 563) 30997) → (Q (σ a0 7) σ2))) : Jt mX1_draw (d) 0 t Q 0 [rv a0, uv] [] σ := by
  refine s_aload_n (i := 0) rfl (show decode cX1_draw 0 = .ok (.aload_n 0, 1) by decide +kernel) ?_
  refine gf_X1_22 rfl (show decode cX1_draw 1 = .ok (.getfield 22, 3) by decide +kernel) h0 ?_
  refine s_ist_n (i := 1) (L' := [rv a0, iv (σ a0 7)]) rfl (by decide) (show decode cX1_draw 4 = .ok (.istore_n 1, 1) by decide +kernel) ?_
  refine s_aload_n (i := 0) rfl (show decode cX1_draw 5 = .ok (.aload_n 0, 1) by decide +kernel) ?_
  refine s_aload_n (i := 0) rfl (show decode cX1_draw 6 = .ok (.aload_n 0, 1) by decide +kernel) ?_
  refine gf_X1_22 rfl (show decode cX1_draw 7 = .ok (.getfield 22, 3) by decide +kernel) h0 ?_
  refine j_sipush (n := 683) (by decide +kernel) (show decode cX1_draw 10 = .ok (.sipush 683, 3) by decide +kernel) ?_
  refine j_imul (show decode cX1_draw 13 = .ok (.imul, 1) by decide +kernel) ?_
  refine j_sipush (n := 563) (by decide +kernel) (show decode cX1_draw 14 = .ok (.sipush 563, 3) by decide +kernel) ?_
  refine j_iadd (show decode cX1_draw 17 = .ok (.iadd, 1) by decide +kernel) ?_
  refine j_sipush (n := 30997) (by decide +kernel) (show decode cX1_draw 18 = .ok (.sipush 30997, 3) by decide +kernel) ?_
  have hr0 := h.1
  have h := h.2
  refine j_irem hr0 (inl (by decide)) (by decide) (show decode cX1_draw 21 = .ok (.irem, 1) by decide +kernel) ?_
  refine pf_X1_22 rfl (show decode cX1_draw 22 = .ok (.putfield 22, 3) by decide +kernel) h0 ?_
  obtain ⟨σ2, eσ2⟩ : ∃ z : jM, z = up σ a0 7 (Int.tmod (((σ a0 7) * 683) + 563) 30997) := ⟨_, rfl⟩
  refine j_sig eσ2 ?_
  have h := h σ2 eσ2
  refine j_iload_n (i := 1) rfl (show decode cX1_draw 25 = .ok (.iload_n 1, 1) by decide +kernel) ?_
  exact j_ret (rokI (show decode cX1_draw 26 = .ok (.ireturn, 1) by decide +kernel) rfl) ⟨rfl, rfl, h⟩
theorem c_X1_draw {d : Nat} {t : Int} {Q : Int → jM → Prop} {σ : jM} {a0 : Int} (h0 : ob (GG t) a0 1) (h : (inR (((σ a0 7) * 683) + 563)) ∧ (∀ σ2 : jM, σ2 = up σ a0 7 (Int.tmod (((σ a0 7) * 683) + 563) 30997) → (Q (σ a0 7) σ2))) : Ct mX1_draw (d) 0 t [rv a0] σ Q := Ct_of (by decide +kernel) (Nat.le_of_ble_eq_true rfl) (b_X1_draw_0 h0 h)
set_option maxRecDepth 4000 in
theorem b_X1_live_14 {d : Nat} {t : Int} {Q : Int → jM → Prop} {σ : jM} {a0 p1 p2 p4 v5 : Int} (h0 : ob (GG t) a0 1) (h : (inR v5) ∧ ((inR p2) ∧ ((p2 ≤ v5 → (Q 0 σ)) ∧ (v5 < p2 → (Ct mX1_draw d 0 t [rv a0] σ (fun r3 σ3 => (Ct mX1_liveOnce d 9 t [rv a0, iv r3, rv 273, rv p4] σ3 (fun r4 σ4 => (Jt mX1_live (d + 1) 9 t Q 14 [rv a0, iv p1, iv p2, rv 273, rv p4, iv (v5 + 1)] [] σ4))))))))) : Jt mX1_live (d + 1) 9 t Q 14 [rv a0, iv p1, iv p2, rv 273, rv p4, iv v5] [] σ := by
  refine j_iload (i := 5) rfl (show decode cX1_live 14 = .ok (.iload 5, 2) by decide +kernel) ?_
  refine j_iload_n (i := 2) rfl (show decode cX1_live 16 = .ok (.iload_n 2, 1) by decide +kernel) ?_
  have hr0 := h.1
  have h := h.2
  have hr1 := h.1
  have h := h.2
  refine j_icmp_ge (tgt := 37) hr0 hr1 (show decode cX1_live 17 = .ok (.if_icmp .ge 20, 3) by decide +kernel) (by decide) (fun c => ?_) (fun c => ?_)
  · have h := h.1 c
    exact j_ret (rokV (show decode cX1_live 37 = .ok (.return_, 1) by decide +kernel) rfl) ⟨rfl, rfl, h⟩
  · have h := h.2 c
    refine s_aload_n (i := 0) rfl (show decode cX1_live 20 = .ok (.aload_n 0, 1) by decide +kernel) ?_
    refine s_aload_n (i := 0) rfl (show decode cX1_live 21 = .ok (.aload_n 0, 1) by decide +kernel) ?_
    refine j_ctV (m' := mX1_draw) (As := []) (ci := 1) (tag := 0) (N := 0) (cw_X1_73 rfl) (show decode cX1_live 22 = .ok (.invokevirtual 73, 3) by decide +kernel) rfl (Nat.le_of_ble_eq_true rfl) (by decide) h0 rfl rfl (Nat.le_refl _) h (fun r3 σ3 h => ?_)
    refine s_aload_n (i := 3) rfl (show decode cX1_live 25 = .ok (.aload_n 3, 1) by decide +kernel) ?_
    refine s_aload (i := 4) rfl (show decode cX1_live 26 = .ok (.aload 4, 2) by decide +kernel) ?_
    refine j_ctVv (m' := mX1_liveOnce) (As := [iv r3, rv 273, rv p4]) (ci := 1) (N := 0) (cw_X1_84 rfl) (show decode cX1_live 28 = .ok (.invokevirtual 84, 3) by decide +kernel) rfl (Nat.le_of_ble_eq_true rfl) h0 rfl rfl (Nat.le_refl _) h (fun r4 σ4 h => ?_)
    refine s_iinc (i := 5) rfl (L' := [rv a0, iv p1, iv p2, rv 273, rv p4, iv (v5 + 1)]) rfl (show decode cX1_live 31 = .ok (.iinc 5 1, 3) by decide +kernel) ?_
    refine j_goto (tgt := 14) (show decode cX1_live 34 = .ok (.goto (-20), 3) by decide +kernel) (by decide) ?_
    exact h
set_option maxRecDepth 4000 in
theorem b_X1_live_0 {d : Nat} {t : Int} {Q : Int → jM → Prop} {σ : jM} {a0 p1 p2 p4 : Int} (h0 : ob (GG t) a0 1) (h : ∀ σ1 : jM, σ1 = up σ a0 7 ((p1 * 2) + 433) → (Jt mX1_live (d + 1) 9 t Q 14 [rv a0, iv p1, iv p2, rv 273, rv p4, iv 0] [] σ1)) : Jt mX1_live (d + 1) 9 t Q 0 [rv a0, iv p1, iv p2, rv 273, rv p4, uv] [] σ := by
  refine s_aload_n (i := 0) rfl (show decode cX1_live 0 = .ok (.aload_n 0, 1) by decide +kernel) ?_
  refine j_iload_n (i := 1) rfl (show decode cX1_live 1 = .ok (.iload_n 1, 1) by decide +kernel) ?_
  refine j_iconst (show decode cX1_live 2 = .ok (.iconst 2, 1) by decide +kernel) ?_
  refine j_imul (show decode cX1_live 3 = .ok (.imul, 1) by decide +kernel) ?_
  refine j_sipush (n := 433) (by decide +kernel) (show decode cX1_live 4 = .ok (.sipush 433, 3) by decide +kernel) ?_
  refine j_iadd (show decode cX1_live 7 = .ok (.iadd, 1) by decide +kernel) ?_
  refine pf_X1_22 rfl (show decode cX1_live 8 = .ok (.putfield 22, 3) by decide +kernel) h0 ?_
  obtain ⟨σ1, eσ1⟩ : ∃ z : jM, z = up σ a0 7 ((p1 * 2) + 433) := ⟨_, rfl⟩
  refine j_sig eσ1 ?_
  have h := h σ1 eσ1
  refine j_iconst (show decode cX1_live 11 = .ok (.iconst 0, 1) by decide +kernel) ?_
  refine s_ist (i := 5) (L' := [rv a0, iv p1, iv p2, rv 273, rv p4, iv 0]) rfl (by decide) (show decode cX1_live 12 = .ok (.istore 5, 2) by decide +kernel) ?_
  exact h
theorem c_X1_live {d : Nat} {t : Int} {Q : Int → jM → Prop} {σ : jM} {a0 p1 p2 p4 : Int} (h0 : ob (GG t) a0 1) (h : ∀ σ1 : jM, σ1 = up σ a0 7 ((p1 * 2) + 433) → (Jt mX1_live (d + 1) 9 t Q 14 [rv a0, iv p1, iv p2, rv 273, rv p4, iv 0] [] σ1)) : Ct mX1_live (d + 1) 9 t [rv a0, iv p1, iv p2, rv 273, rv p4] σ Q := Ct_of (by decide +kernel) (Nat.le_of_ble_eq_true rfl) (b_X1_live_0 h0 h)
set_option maxRecDepth 4000 in
theorem b_X1_liveOnce_0 {d : Nat} {t : Int} {Q : Int → jM → Prop} {σ : jM} {a0 p1 p3 : Int} (h0 : ob (GG t) a0 1) (h : (inR p1) ∧ ((inR (Int.tdiv p1 6)) ∧ ((inR p1) ∧ ((inR (Int.tmod p1 6)) ∧ (((Int.tmod p1 6) < 0 ∨ 3 < (Int.tmod p1 6) → ((inR (σ a0 6)) ∧ ((9999 ≤ (σ a0 6) → (Q 0 σ)) ∧ ((σ a0 6) < 9999 → (Ct mX1_passDay d 0 t [rv a0, rv 273, rv p3] σ (fun r6 σ6 => (Q 0 σ6))))))) ∧ ((Int.tmod p1 6) = 0 → ((inR p1) ∧ (Ct mX1_joinable d 0 t [rv a0, iv (Int.tmod (Int.tdiv p1 6) 8), iv (Int.tmod p1 8)] σ (fun r8 σ8 => ((inR r8) ∧ ((r8 = 0 → (Q 0 σ8)) ∧ (¬ r8 = 0 → ((inR p1) ∧ (Ct mX1_unite d 0 t [rv a0, iv (Int.tmod (Int.tdiv p1 6) 8), iv (Int.tmod p1 8)] σ8 (fun r11 σ11 => (Q 0 σ11))))))))))) ∧ ((Int.tmod p1 6) = 1 → ((inR p1) ∧ (Ct mX1_joinable d 0 t [rv a0, iv (Int.tmod (Int.tdiv p1 6) 8), iv (Int.tmod p1 8)] σ (fun r13 σ13 => ((inR r13) ∧ ((r13 = 0 → (Q 0 σ13)) ∧ (¬ r13 = 0 → ((inR p1) ∧ (Ct mX1_unite d 0 t [rv a0, iv (Int.tmod (Int.tdiv p1 6) 8), iv (Int.tmod p1 8)] σ13 (fun r16 σ16 => (Q 0 σ16))))))))))) ∧ ((Int.tmod p1 6) = 2 → ((inR p1) ∧ ((inR (Int.tmod p1 4)) ∧ ((¬ (Int.tmod p1 4) = 0 → (Q 0 σ)) ∧ ((Int.tmod p1 4) = 0 → (Ct mX1_clear d 9 t [rv a0, iv (Int.tmod (Int.tdiv p1 6) 8), iv 1] σ (fun r19 σ19 => (Q 0 σ19)))))))) ∧ ((Int.tmod p1 6) = 3 → ((inR p1) ∧ ((inR (Int.tmod p1 4)) ∧ ((¬ (Int.tmod p1 4) = 1 → (Q 0 σ)) ∧ ((Int.tmod p1 4) = 1 → (Ct mX1_sell d 0 t [rv a0, iv (Int.tmod (Int.tdiv p1 6) 8), rv 273, rv p3] σ (fun r22 σ22 => (Q 0 σ22))))))))))))) : Jt mX1_liveOnce (d + 1) 9 t Q 0 [rv a0, iv p1, rv 273, rv p3, uv] [] σ := by
  refine j_iload_n (i := 1) rfl (show decode cX1_liveOnce 0 = .ok (.iload_n 1, 1) by decide +kernel) ?_
  refine j_bipush (n := 6) (by decide +kernel) (show decode cX1_liveOnce 1 = .ok (.bipush 6, 2) by decide +kernel) ?_
  have hr0 := h.1
  have h := h.2
  refine j_idiv hr0 (inl (by decide)) (by decide) (show decode cX1_liveOnce 3 = .ok (.idiv, 1) by decide +kernel) ?_
  refine j_bipush (n := 8) (by decide +kernel) (show decode cX1_liveOnce 4 = .ok (.bipush 8, 2) by decide +kernel) ?_
  have hr1 := h.1
  have h := h.2
  refine j_irem hr1 (inl (by decide)) (by decide) (show decode cX1_liveOnce 6 = .ok (.irem, 1) by decide +kernel) ?_
  refine s_ist (i := 4) (L' := [rv a0, iv p1, rv 273, rv p3, iv (Int.tmod (Int.tdiv p1 6) 8)]) rfl (by decide) (show decode cX1_liveOnce 7 = .ok (.istore 4, 2) by decide +kernel) ?_
  refine j_iload_n (i := 1) rfl (show decode cX1_liveOnce 9 = .ok (.iload_n 1, 1) by decide +kernel) ?_
  refine j_bipush (n := 6) (by decide +kernel) (show decode cX1_liveOnce 10 = .ok (.bipush 6, 2) by decide +kernel) ?_
  have hr2 := h.1
  have h := h.2
  refine j_irem hr2 (inl (by decide)) (by decide) (show decode cX1_liveOnce 12 = .ok (.irem, 1) by decide +kernel) ?_
  have hr3 := h.1
  have h := h.2
  rcases (show ((Int.tmod p1 6) < 0 ∨ 3 < (Int.tmod p1 6)) ∨ (Int.tmod p1 6) = 0 ∨ (Int.tmod p1 6) = 1 ∨ (Int.tmod p1 6) = 2 ∨ (Int.tmod p1 6) = 3 by omega) with c | c | c | c | c
  · refine j_tableOut (tgt := 106) hr3 (show decode cX1_liveOnce 13 = .ok (.tableswitch 93 0 3 #[31, 31, 58, 74], 31) by decide +kernel) c (by decide) ?_
    have h := h.1 c
    refine s_aload_n (i := 0) rfl (show decode cX1_liveOnce 106 = .ok (.aload_n 0, 1) by decide +kernel) ?_
    refine gf_X1_41 rfl (show decode cX1_liveOnce 107 = .ok (.getfield 41, 3) by decide +kernel) h0 ?_
    refine j_sipush (n := 9999) (by decide +kernel) (show decode cX1_liveOnce 110 = .ok (.sipush 9999, 3) by decide +kernel) ?_
    have hr4 := h.1
    have h := h.2
    refine j_icmp_ge (tgt := 123) hr4 (inl (by decide)) (show decode cX1_liveOnce 113 = .ok (.if_icmp .ge 10, 3) by decide +kernel) (by decide) (fun c => ?_) (fun c => ?_)
    · have h := h.1 c
      exact j_ret (rokV (show decode cX1_liveOnce 123 = .ok (.return_, 1) by decide +kernel) rfl) ⟨rfl, rfl, h⟩
    · have h := h.2 c
      refine s_aload_n (i := 0) rfl (show decode cX1_liveOnce 116 = .ok (.aload_n 0, 1) by decide +kernel) ?_
      refine s_aload_n (i := 2) rfl (show decode cX1_liveOnce 117 = .ok (.aload_n 2, 1) by decide +kernel) ?_
      refine s_aload_n (i := 3) rfl (show decode cX1_liveOnce 118 = .ok (.aload_n 3, 1) by decide +kernel) ?_
      refine j_ctV (m' := mX1_passDay) (As := [rv 273, rv p3]) (ci := 1) (tag := 0) (N := 0) (cw_X1_99 rfl) (show decode cX1_liveOnce 119 = .ok (.invokevirtual 99, 3) by decide +kernel) rfl (Nat.le_of_ble_eq_true rfl) (by decide) h0 rfl rfl (Nat.le_refl _) h (fun r6 σ6 h => ?_)
      refine j_pop (show (0 : Nat) ≠ 1 by decide) (show decode cX1_liveOnce 122 = .ok (.pop, 1) by decide +kernel) ?_
      exact j_ret (rokV (show decode cX1_liveOnce 123 = .ok (.return_, 1) by decide +kernel) rfl) ⟨rfl, rfl, h⟩
  · refine j_tableIn (tgt := 44) hr3 (show decode cX1_liveOnce 13 = .ok (.tableswitch 93 0 3 #[31, 31, 58, 74], 31) by decide +kernel) (by omega) (by omega) (by rw [c]; rfl) (by decide) ?_
    have h := h.2.1 c
    refine s_aload_n (i := 0) rfl (show decode cX1_liveOnce 44 = .ok (.aload_n 0, 1) by decide +kernel) ?_
    refine j_iload (i := 4) rfl (show decode cX1_liveOnce 45 = .ok (.iload 4, 2) by decide +kernel) ?_
    refine j_iload_n (i := 1) rfl (show decode cX1_liveOnce 47 = .ok (.iload_n 1, 1) by decide +kernel) ?_
    refine j_bipush (n := 8) (by decide +kernel) (show decode cX1_liveOnce 48 = .ok (.bipush 8, 2) by decide +kernel) ?_
    have hr6 := h.1
    have h := h.2
    refine j_irem hr6 (inl (by decide)) (by decide) (show decode cX1_liveOnce 50 = .ok (.irem, 1) by decide +kernel) ?_
    refine j_ctV (m' := mX1_joinable) (As := [iv (Int.tmod (Int.tdiv p1 6) 8), iv (Int.tmod p1 8)]) (ci := 1) (tag := 0) (N := 0) (cw_X1_88 rfl) (show decode cX1_liveOnce 51 = .ok (.invokevirtual 88, 3) by decide +kernel) rfl (Nat.le_of_ble_eq_true rfl) (by decide) h0 rfl rfl (Nat.le_refl _) h (fun r8 σ8 h => ?_)
    have hr8 := h.1
    have h := h.2
    refine j_if_eq (tgt := 123) hr8 (show decode cX1_liveOnce 54 = .ok (.ifCond .eq 69, 3) by decide +kernel) (by decide) (fun c => ?_) (fun c => ?_)
    · have h := h.1 c
      exact j_ret (rokV (show decode cX1_liveOnce 123 = .ok (.return_, 1) by decide +kernel) rfl) ⟨rfl, rfl, h⟩
    · have h := h.2 c
      refine s_aload_n (i := 0) rfl (show decode cX1_liveOnce 57 = .ok (.aload_n 0, 1) by decide +kernel) ?_
      refine j_iload (i := 4) rfl (show decode cX1_liveOnce 58 = .ok (.iload 4, 2) by decide +kernel) ?_
      refine j_iload_n (i := 1) rfl (show decode cX1_liveOnce 60 = .ok (.iload_n 1, 1) by decide +kernel) ?_
      refine j_bipush (n := 8) (by decide +kernel) (show decode cX1_liveOnce 61 = .ok (.bipush 8, 2) by decide +kernel) ?_
      have hr9 := h.1
      have h := h.2
      refine j_irem hr9 (inl (by decide)) (by decide) (show decode cX1_liveOnce 63 = .ok (.irem, 1) by decide +kernel) ?_
      refine j_ctV (m' := mX1_unite) (As := [iv (Int.tmod (Int.tdiv p1 6) 8), iv (Int.tmod p1 8)]) (ci := 1) (tag := 0) (N := 0) (cw_X1_92 rfl) (show decode cX1_liveOnce 64 = .ok (.invokevirtual 92, 3) by decide +kernel) rfl (Nat.le_of_ble_eq_true rfl) (by decide) h0 rfl rfl (Nat.le_refl _) h (fun r11 σ11 h => ?_)
      refine j_pop (show (0 : Nat) ≠ 1 by decide) (show decode cX1_liveOnce 67 = .ok (.pop, 1) by decide +kernel) ?_
      refine j_goto (tgt := 123) (show decode cX1_liveOnce 68 = .ok (.goto 55, 3) by decide +kernel) (by decide) ?_
      exact j_ret (rokV (show decode cX1_liveOnce 123 = .ok (.return_, 1) by decide +kernel) rfl) ⟨rfl, rfl, h⟩
  · refine j_tableIn (tgt := 44) hr3 (show decode cX1_liveOnce 13 = .ok (.tableswitch 93 0 3 #[31, 31, 58, 74], 31) by decide +kernel) (by omega) (by omega) (by rw [c]; rfl) (by decide) ?_
    have h := h.2.2.1 c
    refine s_aload_n (i := 0) rfl (show decode cX1_liveOnce 44 = .ok (.aload_n 0, 1) by decide +kernel) ?_
    refine j_iload (i := 4) rfl (show decode cX1_liveOnce 45 = .ok (.iload 4, 2) by decide +kernel) ?_
    refine j_iload_n (i := 1) rfl (show decode cX1_liveOnce 47 = .ok (.iload_n 1, 1) by decide +kernel) ?_
    refine j_bipush (n := 8) (by decide +kernel) (show decode cX1_liveOnce 48 = .ok (.bipush 8, 2) by decide +kernel) ?_
    have hr11 := h.1
    have h := h.2
    refine j_irem hr11 (inl (by decide)) (by decide) (show decode cX1_liveOnce 50 = .ok (.irem, 1) by decide +kernel) ?_
    refine j_ctV (m' := mX1_joinable) (As := [iv (Int.tmod (Int.tdiv p1 6) 8), iv (Int.tmod p1 8)]) (ci := 1) (tag := 0) (N := 0) (cw_X1_88 rfl) (show decode cX1_liveOnce 51 = .ok (.invokevirtual 88, 3) by decide +kernel) rfl (Nat.le_of_ble_eq_true rfl) (by decide) h0 rfl rfl (Nat.le_refl _) h (fun r13 σ13 h => ?_)
    have hr13 := h.1
    have h := h.2
    refine j_if_eq (tgt := 123) hr13 (show decode cX1_liveOnce 54 = .ok (.ifCond .eq 69, 3) by decide +kernel) (by decide) (fun c => ?_) (fun c => ?_)
    · have h := h.1 c
      exact j_ret (rokV (show decode cX1_liveOnce 123 = .ok (.return_, 1) by decide +kernel) rfl) ⟨rfl, rfl, h⟩
    · have h := h.2 c
      refine s_aload_n (i := 0) rfl (show decode cX1_liveOnce 57 = .ok (.aload_n 0, 1) by decide +kernel) ?_
      refine j_iload (i := 4) rfl (show decode cX1_liveOnce 58 = .ok (.iload 4, 2) by decide +kernel) ?_
      refine j_iload_n (i := 1) rfl (show decode cX1_liveOnce 60 = .ok (.iload_n 1, 1) by decide +kernel) ?_
      refine j_bipush (n := 8) (by decide +kernel) (show decode cX1_liveOnce 61 = .ok (.bipush 8, 2) by decide +kernel) ?_
      have hr14 := h.1
      have h := h.2
      refine j_irem hr14 (inl (by decide)) (by decide) (show decode cX1_liveOnce 63 = .ok (.irem, 1) by decide +kernel) ?_
      refine j_ctV (m' := mX1_unite) (As := [iv (Int.tmod (Int.tdiv p1 6) 8), iv (Int.tmod p1 8)]) (ci := 1) (tag := 0) (N := 0) (cw_X1_92 rfl) (show decode cX1_liveOnce 64 = .ok (.invokevirtual 92, 3) by decide +kernel) rfl (Nat.le_of_ble_eq_true rfl) (by decide) h0 rfl rfl (Nat.le_refl _) h (fun r16 σ16 h => ?_)
      refine j_pop (show (0 : Nat) ≠ 1 by decide) (show decode cX1_liveOnce 67 = .ok (.pop, 1) by decide +kernel) ?_
      refine j_goto (tgt := 123) (show decode cX1_liveOnce 68 = .ok (.goto 55, 3) by decide +kernel) (by decide) ?_
      exact j_ret (rokV (show decode cX1_liveOnce 123 = .ok (.return_, 1) by decide +kernel) rfl) ⟨rfl, rfl, h⟩
  · refine j_tableIn (tgt := 71) hr3 (show decode cX1_liveOnce 13 = .ok (.tableswitch 93 0 3 #[31, 31, 58, 74], 31) by decide +kernel) (by omega) (by omega) (by rw [c]; rfl) (by decide) ?_
    have h := h.2.2.2.1 c
    refine j_iload_n (i := 1) rfl (show decode cX1_liveOnce 71 = .ok (.iload_n 1, 1) by decide +kernel) ?_
    refine j_iconst (show decode cX1_liveOnce 72 = .ok (.iconst 4, 1) by decide +kernel) ?_
    have hr16 := h.1
    have h := h.2
    refine j_irem hr16 (inl (by decide)) (by decide) (show decode cX1_liveOnce 73 = .ok (.irem, 1) by decide +kernel) ?_
    have hr17 := h.1
    have h := h.2
    refine j_if_ne (tgt := 123) hr17 (show decode cX1_liveOnce 74 = .ok (.ifCond .ne 49, 3) by decide +kernel) (by decide) (fun c => ?_) (fun c => ?_)
    · have h := h.1 c
      exact j_ret (rokV (show decode cX1_liveOnce 123 = .ok (.return_, 1) by decide +kernel) rfl) ⟨rfl, rfl, h⟩
    · have h := h.2 c
      refine s_aload_n (i := 0) rfl (show decode cX1_liveOnce 77 = .ok (.aload_n 0, 1) by decide +kernel) ?_
      refine j_iload (i := 4) rfl (show decode cX1_liveOnce 78 = .ok (.iload 4, 2) by decide +kernel) ?_
      refine j_iconst (show decode cX1_liveOnce 80 = .ok (.iconst 1, 1) by decide +kernel) ?_
      refine j_ctVv (m' := mX1_clear) (As := [iv (Int.tmod (Int.tdiv p1 6) 8), iv 1]) (ci := 1) (N := 0) (cw_X1_69 rfl) (show decode cX1_liveOnce 81 = .ok (.invokevirtual 69, 3) by decide +kernel) rfl (Nat.le_of_ble_eq_true rfl) h0 rfl rfl (Nat.le_refl _) h (fun r19 σ19 h => ?_)
      refine j_goto (tgt := 123) (show decode cX1_liveOnce 84 = .ok (.goto 39, 3) by decide +kernel) (by decide) ?_
      exact j_ret (rokV (show decode cX1_liveOnce 123 = .ok (.return_, 1) by decide +kernel) rfl) ⟨rfl, rfl, h⟩
  · refine j_tableIn (tgt := 87) hr3 (show decode cX1_liveOnce 13 = .ok (.tableswitch 93 0 3 #[31, 31, 58, 74], 31) by decide +kernel) (by omega) (by omega) (by rw [c]; rfl) (by decide) ?_
    have h := h.2.2.2.2 c
    refine j_iload_n (i := 1) rfl (show decode cX1_liveOnce 87 = .ok (.iload_n 1, 1) by decide +kernel) ?_
    refine j_iconst (show decode cX1_liveOnce 88 = .ok (.iconst 4, 1) by decide +kernel) ?_
    have hr19 := h.1
    have h := h.2
    refine j_irem hr19 (inl (by decide)) (by decide) (show decode cX1_liveOnce 89 = .ok (.irem, 1) by decide +kernel) ?_
    refine j_iconst (show decode cX1_liveOnce 90 = .ok (.iconst 1, 1) by decide +kernel) ?_
    have hr20 := h.1
    have h := h.2
    refine j_icmp_ne (tgt := 123) hr20 (inl (by decide)) (show decode cX1_liveOnce 91 = .ok (.if_icmp .ne 32, 3) by decide +kernel) (by decide) (fun c => ?_) (fun c => ?_)
    · have h := h.1 c
      exact j_ret (rokV (show decode cX1_liveOnce 123 = .ok (.return_, 1) by decide +kernel) rfl) ⟨rfl, rfl, h⟩
    · have h := h.2 c
      refine s_aload_n (i := 0) rfl (show decode cX1_liveOnce 94 = .ok (.aload_n 0, 1) by decide +kernel) ?_
      refine j_iload (i := 4) rfl (show decode cX1_liveOnce 95 = .ok (.iload 4, 2) by decide +kernel) ?_
      refine s_aload_n (i := 2) rfl (show decode cX1_liveOnce 97 = .ok (.aload_n 2, 1) by decide +kernel) ?_
      refine s_aload_n (i := 3) rfl (show decode cX1_liveOnce 98 = .ok (.aload_n 3, 1) by decide +kernel) ?_
      refine j_ctV (m' := mX1_sell) (As := [iv (Int.tmod (Int.tdiv p1 6) 8), rv 273, rv p3]) (ci := 1) (tag := 0) (N := 0) (cw_X1_95 rfl) (show decode cX1_liveOnce 99 = .ok (.invokevirtual 95, 3) by decide +kernel) rfl (Nat.le_of_ble_eq_true rfl) (by decide) h0 rfl rfl (Nat.le_refl _) h (fun r22 σ22 h => ?_)
      refine j_pop (show (0 : Nat) ≠ 1 by decide) (show decode cX1_liveOnce 102 = .ok (.pop, 1) by decide +kernel) ?_
      refine j_goto (tgt := 123) (show decode cX1_liveOnce 103 = .ok (.goto 20, 3) by decide +kernel) (by decide) ?_
      exact j_ret (rokV (show decode cX1_liveOnce 123 = .ok (.return_, 1) by decide +kernel) rfl) ⟨rfl, rfl, h⟩
theorem c_X1_liveOnce {d : Nat} {t : Int} {Q : Int → jM → Prop} {σ : jM} {a0 p1 p3 : Int} (h0 : ob (GG t) a0 1) (h : (inR p1) ∧ ((inR (Int.tdiv p1 6)) ∧ ((inR p1) ∧ ((inR (Int.tmod p1 6)) ∧ (((Int.tmod p1 6) < 0 ∨ 3 < (Int.tmod p1 6) → ((inR (σ a0 6)) ∧ ((9999 ≤ (σ a0 6) → (Q 0 σ)) ∧ ((σ a0 6) < 9999 → (Ct mX1_passDay d 0 t [rv a0, rv 273, rv p3] σ (fun r6 σ6 => (Q 0 σ6))))))) ∧ ((Int.tmod p1 6) = 0 → ((inR p1) ∧ (Ct mX1_joinable d 0 t [rv a0, iv (Int.tmod (Int.tdiv p1 6) 8), iv (Int.tmod p1 8)] σ (fun r8 σ8 => ((inR r8) ∧ ((r8 = 0 → (Q 0 σ8)) ∧ (¬ r8 = 0 → ((inR p1) ∧ (Ct mX1_unite d 0 t [rv a0, iv (Int.tmod (Int.tdiv p1 6) 8), iv (Int.tmod p1 8)] σ8 (fun r11 σ11 => (Q 0 σ11))))))))))) ∧ ((Int.tmod p1 6) = 1 → ((inR p1) ∧ (Ct mX1_joinable d 0 t [rv a0, iv (Int.tmod (Int.tdiv p1 6) 8), iv (Int.tmod p1 8)] σ (fun r13 σ13 => ((inR r13) ∧ ((r13 = 0 → (Q 0 σ13)) ∧ (¬ r13 = 0 → ((inR p1) ∧ (Ct mX1_unite d 0 t [rv a0, iv (Int.tmod (Int.tdiv p1 6) 8), iv (Int.tmod p1 8)] σ13 (fun r16 σ16 => (Q 0 σ16))))))))))) ∧ ((Int.tmod p1 6) = 2 → ((inR p1) ∧ ((inR (Int.tmod p1 4)) ∧ ((¬ (Int.tmod p1 4) = 0 → (Q 0 σ)) ∧ ((Int.tmod p1 4) = 0 → (Ct mX1_clear d 9 t [rv a0, iv (Int.tmod (Int.tdiv p1 6) 8), iv 1] σ (fun r19 σ19 => (Q 0 σ19)))))))) ∧ ((Int.tmod p1 6) = 3 → ((inR p1) ∧ ((inR (Int.tmod p1 4)) ∧ ((¬ (Int.tmod p1 4) = 1 → (Q 0 σ)) ∧ ((Int.tmod p1 4) = 1 → (Ct mX1_sell d 0 t [rv a0, iv (Int.tmod (Int.tdiv p1 6) 8), rv 273, rv p3] σ (fun r22 σ22 => (Q 0 σ22))))))))))))) : Ct mX1_liveOnce (d + 1) 9 t [rv a0, iv p1, rv 273, rv p3] σ Q := Ct_of (by decide +kernel) (Nat.le_of_ble_eq_true rfl) (b_X1_liveOnce_0 h0 h)
set_option maxRecDepth 4000 in
theorem b_X1_writeDown_0 {d : Nat} {t : Int} {Q : Int → jM → Prop} {σ : jM} {a0 p1 p2 p3 : Int} (h0 : ob (GG t) a0 1) (h : (inR ((σ a0 3) + (σ a0 4))) ∧ ((inR (σ a0 6)) ∧ ((inR p1) ∧ ((inR p2) ∧ ((inR p3) ∧ (((0 : Int) ≤ (Int.tmod ((σ a0 3) + (σ a0 4)) 25) ∧ (Int.tmod ((σ a0 3) + (σ a0 4)) 25) < 25) ∧ (∀ σ7 : jM, σ7 = up σ (a0 + 3) (Int.tmod ((σ a0 3) + (σ a0 4)) 25) (((((((σ a0 6) * 4) + p1) * 8) + p2) * 10000) + p3) → ((inR (σ7 a0 4)) ∧ ((25 ≤ (σ7 a0 4) → ((inR ((σ7 a0 3) + 1)) ∧ (∀ σ10 : jM, σ10 = up σ7 a0 3 (Int.tmod ((σ7 a0 3) + 1) 25) → (Q 0 σ10)))) ∧ ((σ7 a0 4) < 25 → (∀ σ11 : jM, σ11 = up σ7 a0 4 ((σ7 a0 4) + 1) → (Q 0 σ11)))))))))))) : Jt mX1_writeDown (d) 9 t Q 0 [rv a0, iv p1, iv p2, iv p3, uv] [] σ := by
  refine s_aload_n (i := 0) rfl (show decode cX1_writeDown 0 = .ok (.aload_n 0, 1) by decide +kernel) ?_
  refine gf_X1_32 rfl (show decode cX1_writeDown 1 = .ok (.getfield 32, 3) by decide +kernel) h0 ?_
  refine s_aload_n (i := 0) rfl (show decode cX1_writeDown 4 = .ok (.aload_n 0, 1) by decide +kernel) ?_
  refine gf_X1_35 rfl (show decode cX1_writeDown 5 = .ok (.getfield 35, 3) by decide +kernel) h0 ?_
  refine j_iadd (show decode cX1_writeDown 8 = .ok (.iadd, 1) by decide +kernel) ?_
  refine j_bipush (n := 25) (by decide +kernel) (show decode cX1_writeDown 9 = .ok (.bipush 25, 2) by decide +kernel) ?_
  have hr0 := h.1
  have h := h.2
  refine j_irem hr0 (inl (by decide)) (by decide) (show decode cX1_writeDown 11 = .ok (.irem, 1) by decide +kernel) ?_
  refine s_ist (i := 4) (L' := [rv a0, iv p1, iv p2, iv p3, iv (Int.tmod ((σ a0 3) + (σ a0 4)) 25)]) rfl (by decide) (show decode cX1_writeDown 12 = .ok (.istore 4, 2) by decide +kernel) ?_
  refine s_aload_n (i := 0) rfl (show decode cX1_writeDown 14 = .ok (.aload_n 0, 1) by decide +kernel) ?_
  refine gf_X1_18 (x := (a0 + 3)) rfl (show decode cX1_writeDown 15 = .ok (.getfield 18, 3) by decide +kernel) h0 (gr_1_2 h0) ?_
  refine j_iload (i := 4) rfl (show decode cX1_writeDown 18 = .ok (.iload 4, 2) by decide +kernel) ?_
  refine s_aload_n (i := 0) rfl (show decode cX1_writeDown 20 = .ok (.aload_n 0, 1) by decide +kernel) ?_
  refine gf_X1_41 rfl (show decode cX1_writeDown 21 = .ok (.getfield 41, 3) by decide +kernel) h0 ?_
  have hr1 := h.1
  have h := h.2
  refine j_i2l hr1 (show decode cX1_writeDown 24 = .ok (.i2l, 1) by decide +kernel) ?_
  refine j_ldc2 (x := 4) (tt_in 754 (by decide +kernel) rfl) (show decode cX1_writeDown 25 = .ok (.ldc2_w 103, 3) by decide +kernel) ?_
  refine j_lmul (show decode cX1_writeDown 28 = .ok (.lmul, 1) by decide +kernel) ?_
  refine j_iload_n (i := 1) rfl (show decode cX1_writeDown 29 = .ok (.iload_n 1, 1) by decide +kernel) ?_
  have hr2 := h.1
  have h := h.2
  refine j_i2l hr2 (show decode cX1_writeDown 30 = .ok (.i2l, 1) by decide +kernel) ?_
  refine j_ladd (show decode cX1_writeDown 31 = .ok (.ladd, 1) by decide +kernel) ?_
  refine j_ldc2 (x := 8) (tt_in 755 (by decide +kernel) rfl) (show decode cX1_writeDown 32 = .ok (.ldc2_w 105, 3) by decide +kernel) ?_
  refine j_lmul (show decode cX1_writeDown 35 = .ok (.lmul, 1) by decide +kernel) ?_
  refine j_iload_n (i := 2) rfl (show decode cX1_writeDown 36 = .ok (.iload_n 2, 1) by decide +kernel) ?_
  have hr3 := h.1
  have h := h.2
  refine j_i2l hr3 (show decode cX1_writeDown 37 = .ok (.i2l, 1) by decide +kernel) ?_
  refine j_ladd (show decode cX1_writeDown 38 = .ok (.ladd, 1) by decide +kernel) ?_
  refine j_ldc2 (x := 10000) (tt_in 756 (by decide +kernel) rfl) (show decode cX1_writeDown 39 = .ok (.ldc2_w 107, 3) by decide +kernel) ?_
  refine j_lmul (show decode cX1_writeDown 42 = .ok (.lmul, 1) by decide +kernel) ?_
  refine j_iload_n (i := 3) rfl (show decode cX1_writeDown 43 = .ok (.iload_n 3, 1) by decide +kernel) ?_
  have hr4 := h.1
  have h := h.2
  refine j_i2l hr4 (show decode cX1_writeDown 44 = .ok (.i2l, 1) by decide +kernel) ?_
  refine j_ladd (show decode cX1_writeDown 45 = .ok (.ladd, 1) by decide +kernel) ?_
  have hb5 := h.1
  have h := h.2
  refine s_last (show decode cX1_writeDown 46 = .ok (.lastore, 1) by decide +kernel) (ok_1_2 h0) hb5 ?_
  obtain ⟨σ7, eσ7⟩ : ∃ z : jM, z = up σ (a0 + 3) (Int.tmod ((σ a0 3) + (σ a0 4)) 25) (((((((σ a0 6) * 4) + p1) * 8) + p2) * 10000) + p3) := ⟨_, rfl⟩
  refine j_sig eσ7 ?_
  have h := h σ7 eσ7
  refine s_aload_n (i := 0) rfl (show decode cX1_writeDown 47 = .ok (.aload_n 0, 1) by decide +kernel) ?_
  refine gf_X1_35 rfl (show decode cX1_writeDown 48 = .ok (.getfield 35, 3) by decide +kernel) h0 ?_
  refine j_bipush (n := 25) (by decide +kernel) (show decode cX1_writeDown 51 = .ok (.bipush 25, 2) by decide +kernel) ?_
  have hr7 := h.1
  have h := h.2
  refine j_icmp_ge (tgt := 69) hr7 (inl (by decide)) (show decode cX1_writeDown 53 = .ok (.if_icmp .ge 16, 3) by decide +kernel) (by decide) (fun c => ?_) (fun c => ?_)
  · have h := h.1 c
    refine s_aload_n (i := 0) rfl (show decode cX1_writeDown 69 = .ok (.aload_n 0, 1) by decide +kernel) ?_
    refine s_aload_n (i := 0) rfl (show decode cX1_writeDown 70 = .ok (.aload_n 0, 1) by decide +kernel) ?_
    refine gf_X1_32 rfl (show decode cX1_writeDown 71 = .ok (.getfield 32, 3) by decide +kernel) h0 ?_
    refine j_iconst (show decode cX1_writeDown 74 = .ok (.iconst 1, 1) by decide +kernel) ?_
    refine j_iadd (show decode cX1_writeDown 75 = .ok (.iadd, 1) by decide +kernel) ?_
    refine j_bipush (n := 25) (by decide +kernel) (show decode cX1_writeDown 76 = .ok (.bipush 25, 2) by decide +kernel) ?_
    have hr8 := h.1
    have h := h.2
    refine j_irem hr8 (inl (by decide)) (by decide) (show decode cX1_writeDown 78 = .ok (.irem, 1) by decide +kernel) ?_
    refine pf_X1_32 rfl (show decode cX1_writeDown 79 = .ok (.putfield 32, 3) by decide +kernel) h0 ?_
    obtain ⟨σ10, eσ10⟩ : ∃ z : jM, z = up σ7 a0 3 (Int.tmod ((σ7 a0 3) + 1) 25) := ⟨_, rfl⟩
    refine j_sig eσ10 ?_
    have h := h σ10 eσ10
    exact j_ret (rokV (show decode cX1_writeDown 82 = .ok (.return_, 1) by decide +kernel) rfl) ⟨rfl, rfl, h⟩
  · have h := h.2 c
    refine s_aload_n (i := 0) rfl (show decode cX1_writeDown 56 = .ok (.aload_n 0, 1) by decide +kernel) ?_
    refine j_dup (show (2 : Nat) ≠ 1 by decide) (show decode cX1_writeDown 57 = .ok (.dup, 1) by decide +kernel) ?_
    refine gf_X1_35 rfl (show decode cX1_writeDown 58 = .ok (.getfield 35, 3) by decide +kernel) h0 ?_
    refine j_iconst (show decode cX1_writeDown 61 = .ok (.iconst 1, 1) by decide +kernel) ?_
    refine j_iadd (show decode cX1_writeDown 62 = .ok (.iadd, 1) by decide +kernel) ?_
    refine pf_X1_35 rfl (show decode cX1_writeDown 63 = .ok (.putfield 35, 3) by decide +kernel) h0 ?_
    obtain ⟨σ11, eσ11⟩ : ∃ z : jM, z = up σ7 a0 4 ((σ7 a0 4) + 1) := ⟨_, rfl⟩
    refine j_sig eσ11 ?_
    have h := h σ11 eσ11
    refine j_goto (tgt := 82) (show decode cX1_writeDown 66 = .ok (.goto 16, 3) by decide +kernel) (by decide) ?_
    exact j_ret (rokV (show decode cX1_writeDown 82 = .ok (.return_, 1) by decide +kernel) rfl) ⟨rfl, rfl, h⟩
theorem c_X1_writeDown {d : Nat} {t : Int} {Q : Int → jM → Prop} {σ : jM} {a0 p1 p2 p3 : Int} (h0 : ob (GG t) a0 1) (h : (inR ((σ a0 3) + (σ a0 4))) ∧ ((inR (σ a0 6)) ∧ ((inR p1) ∧ ((inR p2) ∧ ((inR p3) ∧ (((0 : Int) ≤ (Int.tmod ((σ a0 3) + (σ a0 4)) 25) ∧ (Int.tmod ((σ a0 3) + (σ a0 4)) 25) < 25) ∧ (∀ σ7 : jM, σ7 = up σ (a0 + 3) (Int.tmod ((σ a0 3) + (σ a0 4)) 25) (((((((σ a0 6) * 4) + p1) * 8) + p2) * 10000) + p3) → ((inR (σ7 a0 4)) ∧ ((25 ≤ (σ7 a0 4) → ((inR ((σ7 a0 3) + 1)) ∧ (∀ σ10 : jM, σ10 = up σ7 a0 3 (Int.tmod ((σ7 a0 3) + 1) 25) → (Q 0 σ10)))) ∧ ((σ7 a0 4) < 25 → (∀ σ11 : jM, σ11 = up σ7 a0 4 ((σ7 a0 4) + 1) → (Q 0 σ11)))))))))))) : Ct mX1_writeDown (d) 9 t [rv a0, iv p1, iv p2, iv p3] σ Q := Ct_of (by decide +kernel) (Nat.le_of_ble_eq_true rfl) (b_X1_writeDown_0 h0 h)
set_option maxRecDepth 4000 in
theorem b_X1_lineShows_0 {d : Nat} {t : Int} {Q : Int → jM → Prop} {σ : jM} {a0 p1 p2 : Int} (h0 : ob (GG t) a0 1) (h : (inR ((σ a0 3) + p1)) ∧ (((0 : Int) ≤ (Int.tmod ((σ a0 3) + p1) 25) ∧ (Int.tmod ((σ a0 3) + p1) 25) < 25) ∧ ((inR p2) ∧ ((p2 < 0 ∨ 2 < p2 → ((inL (σ (a0 + 3) (Int.tmod ((σ a0 3) + p1) 25))) ∧ (Q (Int.tmod (σ (a0 + 3) (Int.tmod ((σ a0 3) + p1) 25)) 10000) σ))) ∧ (p2 = 0 → ((inL (σ (a0 + 3) (Int.tmod ((σ a0 3) + p1) 25))) ∧ (Q (Int.tdiv (σ (a0 + 3) (Int.tmod ((σ a0 3) + p1) 25)) 320000) σ))) ∧ (p2 = 1 → ((inL (σ (a0 + 3) (Int.tmod ((σ a0 3) + p1) 25))) ∧ ((inL (Int.tdiv (σ (a0 + 3) (Int.tmod ((σ a0 3) + p1) 25)) 80000)) ∧ (Q (Int.tmod (Int.tdiv (σ (a0 + 3) (Int.tmod ((σ a0 3) + p1) 25)) 80000) 4) σ)))) ∧ (p2 = 2 → ((inL (σ (a0 + 3) (Int.tmod ((σ a0 3) + p1) 25))) ∧ ((inL (Int.tdiv (σ (a0 + 3) (Int.tmod ((σ a0 3) + p1) 25)) 10000)) ∧ (Q (Int.tmod (Int.tdiv (σ (a0 + 3) (Int.tmod ((σ a0 3) + p1) 25)) 10000) 8) σ)))))))) : Jt mX1_lineShows (d) 0 t Q 0 [rv a0, iv p1, iv p2, uv, uv] [] σ := by
  refine s_aload_n (i := 0) rfl (show decode cX1_lineShows 0 = .ok (.aload_n 0, 1) by decide +kernel) ?_
  refine gf_X1_18 (x := (a0 + 3)) rfl (show decode cX1_lineShows 1 = .ok (.getfield 18, 3) by decide +kernel) h0 (gr_1_2 h0) ?_
  refine s_aload_n (i := 0) rfl (show decode cX1_lineShows 4 = .ok (.aload_n 0, 1) by decide +kernel) ?_
  refine gf_X1_32 rfl (show decode cX1_lineShows 5 = .ok (.getfield 32, 3) by decide +kernel) h0 ?_
  refine j_iload_n (i := 1) rfl (show decode cX1_lineShows 8 = .ok (.iload_n 1, 1) by decide +kernel) ?_
  refine j_iadd (show decode cX1_lineShows 9 = .ok (.iadd, 1) by decide +kernel) ?_
  refine j_bipush (n := 25) (by decide +kernel) (show decode cX1_lineShows 10 = .ok (.bipush 25, 2) by decide +kernel) ?_
  have hr0 := h.1
  have h := h.2
  refine j_irem hr0 (inl (by decide)) (by decide) (show decode cX1_lineShows 12 = .ok (.irem, 1) by decide +kernel) ?_
  refine s_lald (show decode cX1_lineShows 13 = .ok (.laload, 1) by decide +kernel) (ok_1_2 h0) h.1 ?_
  have h := h.2
  refine s_lst_n (i := 3) (L' := [rv a0, iv p1, iv p2, jv (σ (a0 + 3) (Int.tmod ((σ a0 3) + p1) 25)), uv]) rfl (by decide) (show decode cX1_lineShows 14 = .ok (.lstore_n 3, 1) by decide +kernel) ?_
  refine j_iload_n (i := 2) rfl (show decode cX1_lineShows 15 = .ok (.iload_n 2, 1) by decide +kernel) ?_
  have hr1 := h.1
  have h := h.2
  rcases (show (p2 < 0 ∨ 2 < p2) ∨ p2 = 0 ∨ p2 = 1 ∨ p2 = 2 by omega) with c | c | c | c
  · refine j_tableOut (tgt := 73) hr1 (show decode cX1_lineShows 16 = .ok (.tableswitch 57 0 2 #[28, 35, 46], 28) by decide +kernel) c (by decide) ?_
    have h := h.1 c
    refine j_lload_n (i := 3) rfl (show decode cX1_lineShows 73 = .ok (.lload_n 3, 1) by decide +kernel) ?_
    refine j_ldc2 (x := 10000) (tt_in 756 (by decide +kernel) rfl) (show decode cX1_lineShows 74 = .ok (.ldc2_w 107, 3) by decide +kernel) ?_
    have hr2 := h.1
    have h := h.2
    refine j_lrem hr2 (inll (by decide)) (by decide) (show decode cX1_lineShows 77 = .ok (.lrem, 1) by decide +kernel) ?_
    refine j_l2i (show decode cX1_lineShows 78 = .ok (.l2i, 1) by decide +kernel) ?_
    exact j_ret (rokI (show decode cX1_lineShows 79 = .ok (.ireturn, 1) by decide +kernel) rfl) ⟨rfl, rfl, h⟩
  · refine j_tableIn (tgt := 44) hr1 (show decode cX1_lineShows 16 = .ok (.tableswitch 57 0 2 #[28, 35, 46], 28) by decide +kernel) (by omega) (by omega) (by rw [c]; rfl) (by decide) ?_
    have h := h.2.1 c
    refine j_lload_n (i := 3) rfl (show decode cX1_lineShows 44 = .ok (.lload_n 3, 1) by decide +kernel) ?_
    refine j_ldc2 (x := 320000) (tt_in 960 (by decide +kernel) rfl) (show decode cX1_lineShows 45 = .ok (.ldc2_w 109, 3) by decide +kernel) ?_
    have hr3 := h.1
    have h := h.2
    refine j_ldiv hr3 (inll (by decide)) (by decide) (show decode cX1_lineShows 48 = .ok (.ldiv, 1) by decide +kernel) ?_
    refine j_l2i (show decode cX1_lineShows 49 = .ok (.l2i, 1) by decide +kernel) ?_
    exact j_ret (rokI (show decode cX1_lineShows 50 = .ok (.ireturn, 1) by decide +kernel) rfl) ⟨rfl, rfl, h⟩
  · refine j_tableIn (tgt := 51) hr1 (show decode cX1_lineShows 16 = .ok (.tableswitch 57 0 2 #[28, 35, 46], 28) by decide +kernel) (by omega) (by omega) (by rw [c]; rfl) (by decide) ?_
    have h := h.2.2.1 c
    refine j_lload_n (i := 3) rfl (show decode cX1_lineShows 51 = .ok (.lload_n 3, 1) by decide +kernel) ?_
    refine j_ldc2 (x := 80000) (tt_in 961 (by decide +kernel) rfl) (show decode cX1_lineShows 52 = .ok (.ldc2_w 111, 3) by decide +kernel) ?_
    have hr4 := h.1
    have h := h.2
    refine j_ldiv hr4 (inll (by decide)) (by decide) (show decode cX1_lineShows 55 = .ok (.ldiv, 1) by decide +kernel) ?_
    refine j_ldc2 (x := 4) (tt_in 754 (by decide +kernel) rfl) (show decode cX1_lineShows 56 = .ok (.ldc2_w 103, 3) by decide +kernel) ?_
    have hr5 := h.1
    have h := h.2
    refine j_lrem hr5 (inll (by decide)) (by decide) (show decode cX1_lineShows 59 = .ok (.lrem, 1) by decide +kernel) ?_
    refine j_l2i (show decode cX1_lineShows 60 = .ok (.l2i, 1) by decide +kernel) ?_
    exact j_ret (rokI (show decode cX1_lineShows 61 = .ok (.ireturn, 1) by decide +kernel) rfl) ⟨rfl, rfl, h⟩
  · refine j_tableIn (tgt := 62) hr1 (show decode cX1_lineShows 16 = .ok (.tableswitch 57 0 2 #[28, 35, 46], 28) by decide +kernel) (by omega) (by omega) (by rw [c]; rfl) (by decide) ?_
    have h := h.2.2.2 c
    refine j_lload_n (i := 3) rfl (show decode cX1_lineShows 62 = .ok (.lload_n 3, 1) by decide +kernel) ?_
    refine j_ldc2 (x := 10000) (tt_in 756 (by decide +kernel) rfl) (show decode cX1_lineShows 63 = .ok (.ldc2_w 107, 3) by decide +kernel) ?_
    have hr6 := h.1
    have h := h.2
    refine j_ldiv hr6 (inll (by decide)) (by decide) (show decode cX1_lineShows 66 = .ok (.ldiv, 1) by decide +kernel) ?_
    refine j_ldc2 (x := 8) (tt_in 755 (by decide +kernel) rfl) (show decode cX1_lineShows 67 = .ok (.ldc2_w 105, 3) by decide +kernel) ?_
    have hr7 := h.1
    have h := h.2
    refine j_lrem hr7 (inll (by decide)) (by decide) (show decode cX1_lineShows 70 = .ok (.lrem, 1) by decide +kernel) ?_
    refine j_l2i (show decode cX1_lineShows 71 = .ok (.l2i, 1) by decide +kernel) ?_
    exact j_ret (rokI (show decode cX1_lineShows 72 = .ok (.ireturn, 1) by decide +kernel) rfl) ⟨rfl, rfl, h⟩
theorem c_X1_lineShows {d : Nat} {t : Int} {Q : Int → jM → Prop} {σ : jM} {a0 p1 p2 : Int} (h0 : ob (GG t) a0 1) (h : (inR ((σ a0 3) + p1)) ∧ (((0 : Int) ≤ (Int.tmod ((σ a0 3) + p1) 25) ∧ (Int.tmod ((σ a0 3) + p1) 25) < 25) ∧ ((inR p2) ∧ ((p2 < 0 ∨ 2 < p2 → ((inL (σ (a0 + 3) (Int.tmod ((σ a0 3) + p1) 25))) ∧ (Q (Int.tmod (σ (a0 + 3) (Int.tmod ((σ a0 3) + p1) 25)) 10000) σ))) ∧ (p2 = 0 → ((inL (σ (a0 + 3) (Int.tmod ((σ a0 3) + p1) 25))) ∧ (Q (Int.tdiv (σ (a0 + 3) (Int.tmod ((σ a0 3) + p1) 25)) 320000) σ))) ∧ (p2 = 1 → ((inL (σ (a0 + 3) (Int.tmod ((σ a0 3) + p1) 25))) ∧ ((inL (Int.tdiv (σ (a0 + 3) (Int.tmod ((σ a0 3) + p1) 25)) 80000)) ∧ (Q (Int.tmod (Int.tdiv (σ (a0 + 3) (Int.tmod ((σ a0 3) + p1) 25)) 80000) 4) σ)))) ∧ (p2 = 2 → ((inL (σ (a0 + 3) (Int.tmod ((σ a0 3) + p1) 25))) ∧ ((inL (Int.tdiv (σ (a0 + 3) (Int.tmod ((σ a0 3) + p1) 25)) 10000)) ∧ (Q (Int.tmod (Int.tdiv (σ (a0 + 3) (Int.tmod ((σ a0 3) + p1) 25)) 10000) 8) σ)))))))) : Ct mX1_lineShows (d) 0 t [rv a0, iv p1, iv p2] σ Q := Ct_of (by decide +kernel) (Nat.le_of_ble_eq_true rfl) (b_X1_lineShows_0 h0 h)
set_option maxRecDepth 4000 in
theorem b_X1_fullBits_4 {d : Nat} {t : Int} {Q : Int → jM → Prop} {σ : jM} {a0 v1 v2 : Int} (h0 : ob (GG t) a0 1) (h : (inR v2) ∧ ((8 ≤ v2 → (Q v1 σ)) ∧ (v2 < 8 → (((0 : Int) ≤ v2 ∧ v2 < 8) ∧ ((inR (σ (a0 + 1) v2)) ∧ (((σ (a0 + 1) v2) ≤ 0 → (Jt mX1_fullBits (d) 0 t Q 4 [rv a0, iv v1, iv (v2 + 1)] [] σ)) ∧ (0 < (σ (a0 + 1) v2) → (Jt mX1_fullBits (d) 0 t Q 4 [rv a0, iv (i_or v1 (i_shl 1 v2)), iv (v2 + 1)] [] σ)))))))) : Jt mX1_fullBits (d) 0 t Q 4 [rv a0, iv v1, iv v2] [] σ := by
  refine j_iload_n (i := 2) rfl (show decode cX1_fullBits 4 = .ok (.iload_n 2, 1) by decide +kernel) ?_
  refine j_bipush (n := 8) (by decide +kernel) (show decode cX1_fullBits 5 = .ok (.bipush 8, 2) by decide +kernel) ?_
  have hr0 := h.1
  have h := h.2
  refine j_icmp_ge (tgt := 31) hr0 (inl (by decide)) (show decode cX1_fullBits 7 = .ok (.if_icmp .ge 24, 3) by decide +kernel) (by decide) (fun c => ?_) (fun c => ?_)
  · have h := h.1 c
    refine j_iload_n (i := 1) rfl (show decode cX1_fullBits 31 = .ok (.iload_n 1, 1) by decide +kernel) ?_
    exact j_ret (rokI (show decode cX1_fullBits 32 = .ok (.ireturn, 1) by decide +kernel) rfl) ⟨rfl, rfl, h⟩
  · have h := h.2 c
    refine s_aload_n (i := 0) rfl (show decode cX1_fullBits 10 = .ok (.aload_n 0, 1) by decide +kernel) ?_
    refine gf_X1_9 (x := (a0 + 1)) rfl (show decode cX1_fullBits 11 = .ok (.getfield 9, 3) by decide +kernel) h0 (gr_1_0 h0) ?_
    refine j_iload_n (i := 2) rfl (show decode cX1_fullBits 14 = .ok (.iload_n 2, 1) by decide +kernel) ?_
    refine s_iald (show decode cX1_fullBits 15 = .ok (.iaload, 1) by decide +kernel) (ok_1_0 h0) h.1 ?_
    have h := h.2
    have hr1 := h.1
    have h := h.2
    refine j_if_le (tgt := 25) hr1 (show decode cX1_fullBits 16 = .ok (.ifCond .le 9, 3) by decide +kernel) (by decide) (fun c => ?_) (fun c => ?_)
    · have h := h.1 c
      refine s_iinc (i := 2) rfl (L' := [rv a0, iv v1, iv (v2 + 1)]) rfl (show decode cX1_fullBits 25 = .ok (.iinc 2 1, 3) by decide +kernel) ?_
      refine j_goto (tgt := 4) (show decode cX1_fullBits 28 = .ok (.goto (-24), 3) by decide +kernel) (by decide) ?_
      exact h
    · have h := h.2 c
      refine j_iload_n (i := 1) rfl (show decode cX1_fullBits 19 = .ok (.iload_n 1, 1) by decide +kernel) ?_
      refine j_iconst (show decode cX1_fullBits 20 = .ok (.iconst 1, 1) by decide +kernel) ?_
      refine j_iload_n (i := 2) rfl (show decode cX1_fullBits 21 = .ok (.iload_n 2, 1) by decide +kernel) ?_
      refine j_ishl (show decode cX1_fullBits 22 = .ok (.ishl, 1) by decide +kernel) ?_
      refine j_ior (show decode cX1_fullBits 23 = .ok (.ior, 1) by decide +kernel) ?_
      refine s_ist_n (i := 1) (L' := [rv a0, iv (i_or v1 (i_shl 1 v2)), iv v2]) rfl (by decide) (show decode cX1_fullBits 24 = .ok (.istore_n 1, 1) by decide +kernel) ?_
      refine s_iinc (i := 2) rfl (L' := [rv a0, iv (i_or v1 (i_shl 1 v2)), iv (v2 + 1)]) rfl (show decode cX1_fullBits 25 = .ok (.iinc 2 1, 3) by decide +kernel) ?_
      refine j_goto (tgt := 4) (show decode cX1_fullBits 28 = .ok (.goto (-24), 3) by decide +kernel) (by decide) ?_
      exact h
set_option maxRecDepth 4000 in
theorem b_X1_fullBits_0 {d : Nat} {t : Int} {Q : Int → jM → Prop} {σ : jM} {a0 : Int} (h0 : ob (GG t) a0 1) (h : Jt mX1_fullBits (d) 0 t Q 4 [rv a0, iv 0, iv 0] [] σ) : Jt mX1_fullBits (d) 0 t Q 0 [rv a0, uv, uv] [] σ := by
  refine j_iconst (show decode cX1_fullBits 0 = .ok (.iconst 0, 1) by decide +kernel) ?_
  refine s_ist_n (i := 1) (L' := [rv a0, iv 0, uv]) rfl (by decide) (show decode cX1_fullBits 1 = .ok (.istore_n 1, 1) by decide +kernel) ?_
  refine j_iconst (show decode cX1_fullBits 2 = .ok (.iconst 0, 1) by decide +kernel) ?_
  refine s_ist_n (i := 2) (L' := [rv a0, iv 0, iv 0]) rfl (by decide) (show decode cX1_fullBits 3 = .ok (.istore_n 2, 1) by decide +kernel) ?_
  exact h
theorem c_X1_fullBits {d : Nat} {t : Int} {Q : Int → jM → Prop} {σ : jM} {a0 : Int} (h0 : ob (GG t) a0 1) (h : Jt mX1_fullBits (d) 0 t Q 4 [rv a0, iv 0, iv 0] [] σ) : Ct mX1_fullBits (d) 0 t [rv a0] σ Q := Ct_of (by decide +kernel) (Nat.le_of_ble_eq_true rfl) (b_X1_fullBits_0 h0 h)
set_option maxRecDepth 4000 in
theorem b_X1_allPounds_4 {d : Nat} {t : Int} {Q : Int → jM → Prop} {σ : jM} {a0 v1 v2 : Int} (h0 : ob (GG t) a0 1) (h : (inR v2) ∧ ((8 ≤ v2 → (Q v1 σ)) ∧ (v2 < 8 → (((0 : Int) ≤ v2 ∧ v2 < 8) ∧ (Jt mX1_allPounds (d) 0 t Q 4 [rv a0, iv (v1 + (σ (a0 + 1) v2)), iv (v2 + 1)] [] σ))))) : Jt mX1_allPounds (d) 0 t Q 4 [rv a0, iv v1, iv v2] [] σ := by
  refine j_iload_n (i := 2) rfl (show decode cX1_allPounds 4 = .ok (.iload_n 2, 1) by decide +kernel) ?_
  refine j_bipush (n := 8) (by decide +kernel) (show decode cX1_allPounds 5 = .ok (.bipush 8, 2) by decide +kernel) ?_
  have hr0 := h.1
  have h := h.2
  refine j_icmp_ge (tgt := 25) hr0 (inl (by decide)) (show decode cX1_allPounds 7 = .ok (.if_icmp .ge 18, 3) by decide +kernel) (by decide) (fun c => ?_) (fun c => ?_)
  · have h := h.1 c
    refine j_iload_n (i := 1) rfl (show decode cX1_allPounds 25 = .ok (.iload_n 1, 1) by decide +kernel) ?_
    exact j_ret (rokI (show decode cX1_allPounds 26 = .ok (.ireturn, 1) by decide +kernel) rfl) ⟨rfl, rfl, h⟩
  · have h := h.2 c
    refine j_iload_n (i := 1) rfl (show decode cX1_allPounds 10 = .ok (.iload_n 1, 1) by decide +kernel) ?_
    refine s_aload_n (i := 0) rfl (show decode cX1_allPounds 11 = .ok (.aload_n 0, 1) by decide +kernel) ?_
    refine gf_X1_9 (x := (a0 + 1)) rfl (show decode cX1_allPounds 12 = .ok (.getfield 9, 3) by decide +kernel) h0 (gr_1_0 h0) ?_
    refine j_iload_n (i := 2) rfl (show decode cX1_allPounds 15 = .ok (.iload_n 2, 1) by decide +kernel) ?_
    refine s_iald (show decode cX1_allPounds 16 = .ok (.iaload, 1) by decide +kernel) (ok_1_0 h0) h.1 ?_
    have h := h.2
    refine j_iadd (show decode cX1_allPounds 17 = .ok (.iadd, 1) by decide +kernel) ?_
    refine s_ist_n (i := 1) (L' := [rv a0, iv (v1 + (σ (a0 + 1) v2)), iv v2]) rfl (by decide) (show decode cX1_allPounds 18 = .ok (.istore_n 1, 1) by decide +kernel) ?_
    refine s_iinc (i := 2) rfl (L' := [rv a0, iv (v1 + (σ (a0 + 1) v2)), iv (v2 + 1)]) rfl (show decode cX1_allPounds 19 = .ok (.iinc 2 1, 3) by decide +kernel) ?_
    refine j_goto (tgt := 4) (show decode cX1_allPounds 22 = .ok (.goto (-18), 3) by decide +kernel) (by decide) ?_
    exact h
set_option maxRecDepth 4000 in
theorem b_X1_allPounds_0 {d : Nat} {t : Int} {Q : Int → jM → Prop} {σ : jM} {a0 : Int} (h0 : ob (GG t) a0 1) (h : Jt mX1_allPounds (d) 0 t Q 4 [rv a0, iv 0, iv 0] [] σ) : Jt mX1_allPounds (d) 0 t Q 0 [rv a0, uv, uv] [] σ := by
  refine j_iconst (show decode cX1_allPounds 0 = .ok (.iconst 0, 1) by decide +kernel) ?_
  refine s_ist_n (i := 1) (L' := [rv a0, iv 0, uv]) rfl (by decide) (show decode cX1_allPounds 1 = .ok (.istore_n 1, 1) by decide +kernel) ?_
  refine j_iconst (show decode cX1_allPounds 2 = .ok (.iconst 0, 1) by decide +kernel) ?_
  refine s_ist_n (i := 2) (L' := [rv a0, iv 0, iv 0]) rfl (by decide) (show decode cX1_allPounds 3 = .ok (.istore_n 2, 1) by decide +kernel) ?_
  exact h
theorem c_X1_allPounds {d : Nat} {t : Int} {Q : Int → jM → Prop} {σ : jM} {a0 : Int} (h0 : ob (GG t) a0 1) (h : Jt mX1_allPounds (d) 0 t Q 4 [rv a0, iv 0, iv 0] [] σ) : Ct mX1_allPounds (d) 0 t [rv a0] σ Q := Ct_of (by decide +kernel) (Nat.le_of_ble_eq_true rfl) (b_X1_allPounds_0 h0 h)
set_option maxRecDepth 4000 in
theorem b_X1_crockOfMost_4 {d : Nat} {t : Int} {Q : Int → jM → Prop} {σ : jM} {a0 p1 v2 v3 : Int} (h0 : ob (GG t) a0 1) {n1 : Nat} (h1 : ar (GG t) p1 1 n1) (h : (inR v3) ∧ ((8 ≤ v3 → (Q v2 σ)) ∧ (v3 < 8 → ((inR v3) ∧ ((inR (n1 : Int)) ∧ (((n1 : Int) ≤ v3 → (Q v2 σ)) ∧ (v3 < (n1 : Int) → (((0 : Int) ≤ v3 ∧ v3 < 8) ∧ ((inR (σ (a0 + 1) v3)) ∧ (((σ (a0 + 1) v3) ≤ 0 → (Jt mX1_crockOfMost (d) 0 t Q 4 [rv a0, rv p1, iv v2, iv (v3 + 1)] [] σ)) ∧ (0 < (σ (a0 + 1) v3) → ((inR v2) ∧ ((v2 = (-1) → (Jt mX1_crockOfMost (d) 0 t Q 4 [rv a0, rv p1, iv v3, iv (v3 + 1)] [] σ)) ∧ (¬ v2 = (-1) → (((0 : Int) ≤ v3 ∧ v3 < (n1 : Int)) ∧ (((0 : Int) ≤ v2 ∧ v2 < (n1 : Int)) ∧ ((inR (σ p1 v3)) ∧ ((inR (σ p1 v2)) ∧ (((σ p1 v3) ≤ (σ p1 v2) → (Jt mX1_crockOfMost (d) 0 t Q 4 [rv a0, rv p1, iv v2, iv (v3 + 1)] [] σ)) ∧ ((σ p1 v2) < (σ p1 v3) → (Jt mX1_crockOfMost (d) 0 t Q 4 [rv a0, rv p1, iv v3, iv (v3 + 1)] [] σ))))))))))))))))))))) : Jt mX1_crockOfMost (d) 0 t Q 4 [rv a0, rv p1, iv v2, iv v3] [] σ := by
  refine j_iload_n (i := 3) rfl (show decode cX1_crockOfMost 4 = .ok (.iload_n 3, 1) by decide +kernel) ?_
  refine j_bipush (n := 8) (by decide +kernel) (show decode cX1_crockOfMost 5 = .ok (.bipush 8, 2) by decide +kernel) ?_
  have hr0 := h.1
  have h := h.2
  refine j_icmp_ge (tgt := 47) hr0 (inl (by decide)) (show decode cX1_crockOfMost 7 = .ok (.if_icmp .ge 40, 3) by decide +kernel) (by decide) (fun c => ?_) (fun c => ?_)
  · have h := h.1 c
    refine j_iload_n (i := 2) rfl (show decode cX1_crockOfMost 47 = .ok (.iload_n 2, 1) by decide +kernel) ?_
    exact j_ret (rokI (show decode cX1_crockOfMost 48 = .ok (.ireturn, 1) by decide +kernel) rfl) ⟨rfl, rfl, h⟩
  · have h := h.2 c
    refine j_iload_n (i := 3) rfl (show decode cX1_crockOfMost 10 = .ok (.iload_n 3, 1) by decide +kernel) ?_
    refine s_aload_n (i := 1) rfl (show decode cX1_crockOfMost 11 = .ok (.aload_n 1, 1) by decide +kernel) ?_
    refine j_alen1 (show decode cX1_crockOfMost 12 = .ok (.arraylength, 1) by decide +kernel) h1 ?_
    have hr1 := h.1
    have h := h.2
    have hr2 := h.1
    have h := h.2
    refine j_icmp_ge (tgt := 47) hr1 hr2 (show decode cX1_crockOfMost 13 = .ok (.if_icmp .ge 34, 3) by decide +kernel) (by decide) (fun c => ?_) (fun c => ?_)
    · have h := h.1 c
      refine j_iload_n (i := 2) rfl (show decode cX1_crockOfMost 47 = .ok (.iload_n 2, 1) by decide +kernel) ?_
      exact j_ret (rokI (show decode cX1_crockOfMost 48 = .ok (.ireturn, 1) by decide +kernel) rfl) ⟨rfl, rfl, h⟩
    · have h := h.2 c
      refine s_aload_n (i := 0) rfl (show decode cX1_crockOfMost 16 = .ok (.aload_n 0, 1) by decide +kernel) ?_
      refine gf_X1_9 (x := (a0 + 1)) rfl (show decode cX1_crockOfMost 17 = .ok (.getfield 9, 3) by decide +kernel) h0 (gr_1_0 h0) ?_
      refine j_iload_n (i := 3) rfl (show decode cX1_crockOfMost 20 = .ok (.iload_n 3, 1) by decide +kernel) ?_
      refine s_iald (show decode cX1_crockOfMost 21 = .ok (.iaload, 1) by decide +kernel) (ok_1_0 h0) h.1 ?_
      have h := h.2
      have hr3 := h.1
      have h := h.2
      refine j_if_le (tgt := 41) hr3 (show decode cX1_crockOfMost 22 = .ok (.ifCond .le 19, 3) by decide +kernel) (by decide) (fun c => ?_) (fun c => ?_)
      · have h := h.1 c
        refine s_iinc (i := 3) rfl (L' := [rv a0, rv p1, iv v2, iv (v3 + 1)]) rfl (show decode cX1_crockOfMost 41 = .ok (.iinc 3 1, 3) by decide +kernel) ?_
        refine j_goto (tgt := 4) (show decode cX1_crockOfMost 44 = .ok (.goto (-40), 3) by decide +kernel) (by decide) ?_
        exact h
      · have h := h.2 c
        refine j_iload_n (i := 2) rfl (show decode cX1_crockOfMost 25 = .ok (.iload_n 2, 1) by decide +kernel) ?_
        refine j_iconst (show decode cX1_crockOfMost 26 = .ok (.iconst (-1), 1) by decide +kernel) ?_
        have hr4 := h.1
        have h := h.2
        refine j_icmp_eq (tgt := 39) hr4 (inl (by decide)) (show decode cX1_crockOfMost 27 = .ok (.if_icmp .eq 12, 3) by decide +kernel) (by decide) (fun c => ?_) (fun c => ?_)
        · have h := h.1 c
          refine j_iload_n (i := 3) rfl (show decode cX1_crockOfMost 39 = .ok (.iload_n 3, 1) by decide +kernel) ?_
          refine s_ist_n (i := 2) (L' := [rv a0, rv p1, iv v3, iv v3]) rfl (by decide) (show decode cX1_crockOfMost 40 = .ok (.istore_n 2, 1) by decide +kernel) ?_
          refine s_iinc (i := 3) rfl (L' := [rv a0, rv p1, iv v3, iv (v3 + 1)]) rfl (show decode cX1_crockOfMost 41 = .ok (.iinc 3 1, 3) by decide +kernel) ?_
          refine j_goto (tgt := 4) (show decode cX1_crockOfMost 44 = .ok (.goto (-40), 3) by decide +kernel) (by decide) ?_
          exact h
        · have h := h.2 c
          refine s_aload_n (i := 1) rfl (show decode cX1_crockOfMost 30 = .ok (.aload_n 1, 1) by decide +kernel) ?_
          refine j_iload_n (i := 3) rfl (show decode cX1_crockOfMost 31 = .ok (.iload_n 3, 1) by decide +kernel) ?_
          refine s_iald (show decode cX1_crockOfMost 32 = .ok (.iaload, 1) by decide +kernel) h1 h.1 ?_
          have h := h.2
          refine s_aload_n (i := 1) rfl (show decode cX1_crockOfMost 33 = .ok (.aload_n 1, 1) by decide +kernel) ?_
          refine j_iload_n (i := 2) rfl (show decode cX1_crockOfMost 34 = .ok (.iload_n 2, 1) by decide +kernel) ?_
          refine s_iald (show decode cX1_crockOfMost 35 = .ok (.iaload, 1) by decide +kernel) h1 h.1 ?_
          have h := h.2
          have hr5 := h.1
          have h := h.2
          have hr6 := h.1
          have h := h.2
          refine j_icmp_le (tgt := 41) hr5 hr6 (show decode cX1_crockOfMost 36 = .ok (.if_icmp .le 5, 3) by decide +kernel) (by decide) (fun c => ?_) (fun c => ?_)
          · have h := h.1 c
            refine s_iinc (i := 3) rfl (L' := [rv a0, rv p1, iv v2, iv (v3 + 1)]) rfl (show decode cX1_crockOfMost 41 = .ok (.iinc 3 1, 3) by decide +kernel) ?_
            refine j_goto (tgt := 4) (show decode cX1_crockOfMost 44 = .ok (.goto (-40), 3) by decide +kernel) (by decide) ?_
            exact h
          · have h := h.2 c
            refine j_iload_n (i := 3) rfl (show decode cX1_crockOfMost 39 = .ok (.iload_n 3, 1) by decide +kernel) ?_
            refine s_ist_n (i := 2) (L' := [rv a0, rv p1, iv v3, iv v3]) rfl (by decide) (show decode cX1_crockOfMost 40 = .ok (.istore_n 2, 1) by decide +kernel) ?_
            refine s_iinc (i := 3) rfl (L' := [rv a0, rv p1, iv v3, iv (v3 + 1)]) rfl (show decode cX1_crockOfMost 41 = .ok (.iinc 3 1, 3) by decide +kernel) ?_
            refine j_goto (tgt := 4) (show decode cX1_crockOfMost 44 = .ok (.goto (-40), 3) by decide +kernel) (by decide) ?_
            exact h
set_option maxRecDepth 4000 in
theorem b_X1_crockOfMost_0 {d : Nat} {t : Int} {Q : Int → jM → Prop} {σ : jM} {a0 p1 : Int} (h0 : ob (GG t) a0 1) {n1 : Nat} (h1 : ar (GG t) p1 1 n1) (h : Jt mX1_crockOfMost (d) 0 t Q 4 [rv a0, rv p1, iv (-1), iv 0] [] σ) : Jt mX1_crockOfMost (d) 0 t Q 0 [rv a0, rv p1, uv, uv] [] σ := by
  refine j_iconst (show decode cX1_crockOfMost 0 = .ok (.iconst (-1), 1) by decide +kernel) ?_
  refine s_ist_n (i := 2) (L' := [rv a0, rv p1, iv (-1), uv]) rfl (by decide) (show decode cX1_crockOfMost 1 = .ok (.istore_n 2, 1) by decide +kernel) ?_
  refine j_iconst (show decode cX1_crockOfMost 2 = .ok (.iconst 0, 1) by decide +kernel) ?_
  refine s_ist_n (i := 3) (L' := [rv a0, rv p1, iv (-1), iv 0]) rfl (by decide) (show decode cX1_crockOfMost 3 = .ok (.istore_n 3, 1) by decide +kernel) ?_
  exact h
theorem c_X1_crockOfMost {d : Nat} {t : Int} {Q : Int → jM → Prop} {σ : jM} {a0 p1 : Int} (h0 : ob (GG t) a0 1) {n1 : Nat} (h1 : ar (GG t) p1 1 n1) (h : Jt mX1_crockOfMost (d) 0 t Q 4 [rv a0, rv p1, iv (-1), iv 0] [] σ) : Ct mX1_crockOfMost (d) 0 t [rv a0, rv p1] σ Q := Ct_of (by decide +kernel) (Nat.le_of_ble_eq_true rfl) (b_X1_crockOfMost_0 h0 h1 h)
