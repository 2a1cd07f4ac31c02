/-! ===== walks (printed by wip/whole/gen_blocks.py) ===== -/
set_option maxRecDepth 4000 in
theorem b_X4_joiningsOf_0 {d : Nat} {t : Int} {Q : Int → jM → Prop} {σ : jM} {p1 p2 p3 p4 : Int} (h : ((0 : Int) ≤ ((p1 * 4) + p2) ∧ ((p1 * 4) + p2) < 164) ∧ ((inR (σ 288 ((p1 * 4) + p2))) ∧ ((¬ (σ 288 ((p1 * 4) + p2)) = (-2) → (((0 : Int) ≤ ((p1 * 4) + p2) ∧ ((p1 * 4) + p2) < 164) ∧ (Q (σ 288 ((p1 * 4) + p2)) σ))) ∧ ((σ 288 ((p1 * 4) + p2)) = (-2) → (Ct mX4_sought d 0 t [rv 287, iv p1, iv p2, iv p3, iv p4] σ (fun r2 σ2 => (((0 : Int) ≤ ((p1 * 4) + p2) ∧ ((p1 * 4) + p2) < 164) ∧ (∀ σ4 : jM, σ4 = up σ2 288 ((p1 * 4) + p2) r2 → (((0 : Int) ≤ ((p1 * 4) + p2) ∧ ((p1 * 4) + p2) < 164) ∧ (Q (σ4 288 ((p1 * 4) + p2)) σ4)))))))))) : Jt mX4_joiningsOf (d + 1) 0 t Q 0 [rv 287, iv p1, iv p2, iv p3, iv p4, uv] [] σ := by
  refine j_iload_n (i := 1) rfl (show decode cX4_joiningsOf 0 = .ok (.iload_n 1, 1) by decide +kernel) ?_
  refine j_iconst (show decode cX4_joiningsOf 1 = .ok (.iconst 4, 1) by decide +kernel) ?_
  refine j_imul (show decode cX4_joiningsOf 2 = .ok (.imul, 1) by decide +kernel) ?_
  refine j_iload_n (i := 2) rfl (show decode cX4_joiningsOf 3 = .ok (.iload_n 2, 1) by decide +kernel) ?_
  refine j_iadd (show decode cX4_joiningsOf 4 = .ok (.iadd, 1) by decide +kernel) ?_
  refine s_ist (i := 5) (L' := [rv 287, iv p1, iv p2, iv p3, iv p4, iv ((p1 * 4) + p2)]) rfl (by decide) (show decode cX4_joiningsOf 5 = .ok (.istore 5, 2) by decide +kernel) ?_
  refine s_aload_n (i := 0) rfl (show decode cX4_joiningsOf 7 = .ok (.aload_n 0, 1) by decide +kernel) ?_
  refine gf_X4_11 (x := 288) rfl (show decode cX4_joiningsOf 8 = .ok (.getfield 11, 3) by decide +kernel) okl_287 rfl ?_
  refine j_iload (i := 5) rfl (show decode cX4_joiningsOf 11 = .ok (.iload 5, 2) by decide +kernel) ?_
  refine s_iald (show decode cX4_joiningsOf 13 = .ok (.iaload, 1) by decide +kernel) okl_288 h.1 ?_
  have h := h.2
  refine j_bipush (n := -2) (by decide +kernel) (show decode cX4_joiningsOf 14 = .ok (.bipush (-2), 2) by decide +kernel) ?_
  have hr0 := h.1
  have h := h.2
  refine j_icmp_ne (tgt := 35) hr0 (inl (by decide)) (show decode cX4_joiningsOf 16 = .ok (.if_icmp .ne 19, 3) by decide +kernel) (by decide) (fun c => ?_) (fun c => ?_)
  · have h := h.1 c
    refine s_aload_n (i := 0) rfl (show decode cX4_joiningsOf 35 = .ok (.aload_n 0, 1) by decide +kernel) ?_
    refine gf_X4_11 (x := 288) rfl (show decode cX4_joiningsOf 36 = .ok (.getfield 11, 3) by decide +kernel) okl_287 rfl ?_
    refine j_iload (i := 5) rfl (show decode cX4_joiningsOf 39 = .ok (.iload 5, 2) by decide +kernel) ?_
    refine s_iald (show decode cX4_joiningsOf 41 = .ok (.iaload, 1) by decide +kernel) okl_288 h.1 ?_
    have h := h.2
    exact j_ret (rokI (show decode cX4_joiningsOf 42 = .ok (.ireturn, 1) by decide +kernel) rfl) ⟨rfl, rfl, h⟩
  · have h := h.2 c
    refine s_aload_n (i := 0) rfl (show decode cX4_joiningsOf 19 = .ok (.aload_n 0, 1) by decide +kernel) ?_
    refine gf_X4_11 (x := 288) rfl (show decode cX4_joiningsOf 20 = .ok (.getfield 11, 3) by decide +kernel) okl_287 rfl ?_
    refine j_iload (i := 5) rfl (show decode cX4_joiningsOf 23 = .ok (.iload 5, 2) by decide +kernel) ?_
    refine s_aload_n (i := 0) rfl (show decode cX4_joiningsOf 25 = .ok (.aload_n 0, 1) by decide +kernel) ?_
    refine j_iload_n (i := 1) rfl (show decode cX4_joiningsOf 26 = .ok (.iload_n 1, 1) by decide +kernel) ?_
    refine j_iload_n (i := 2) rfl (show decode cX4_joiningsOf 27 = .ok (.iload_n 2, 1) by decide +kernel) ?_
    refine j_iload_n (i := 3) rfl (show decode cX4_joiningsOf 28 = .ok (.iload_n 3, 1) by decide +kernel) ?_
    refine j_iload (i := 4) rfl (show decode cX4_joiningsOf 29 = .ok (.iload 4, 2) by decide +kernel) ?_
    refine j_ctV (m' := mX4_sought) (As := [iv p1, iv p2, iv p3, iv p4]) (ci := 4) (tag := 0) (N := 0) (cw_X4_18 rfl) (show decode cX4_joiningsOf 31 = .ok (.invokevirtual 18, 3) by decide +kernel) rfl (Nat.le_of_ble_eq_true rfl) (by decide) okl_287 rfl rfl (Nat.le_refl _) h (fun r2 σ2 h => ?_)
    have hb2 := h.1
    have h := h.2
    refine s_iast (show decode cX4_joiningsOf 34 = .ok (.iastore, 1) by decide +kernel) okl_288 hb2 ?_
    obtain ⟨σ4, eσ4⟩ : ∃ z : jM, z = up σ2 288 ((p1 * 4) + p2) r2 := ⟨_, rfl⟩
    refine j_sig eσ4 ?_
    have h := h σ4 eσ4
    refine s_aload_n (i := 0) rfl (show decode cX4_joiningsOf 35 = .ok (.aload_n 0, 1) by decide +kernel) ?_
    refine gf_X4_11 (x := 288) rfl (show decode cX4_joiningsOf 36 = .ok (.getfield 11, 3) by decide +kernel) okl_287 rfl ?_
    refine j_iload (i := 5) rfl (show decode cX4_joiningsOf 39 = .ok (.iload 5, 2) by decide +kernel) ?_
    refine s_iald (show decode cX4_joiningsOf 41 = .ok (.iaload, 1) by decide +kernel) okl_288 h.1 ?_
    have h := h.2
    exact j_ret (rokI (show decode cX4_joiningsOf 42 = .ok (.ireturn, 1) by decide +kernel) rfl) ⟨rfl, rfl, h⟩
theorem c_X4_joiningsOf {d : Nat} {t : Int} {Q : Int → jM → Prop} {σ : jM} {p1 p2 p3 p4 : Int} (h : ((0 : Int) ≤ ((p1 * 4) + p2) ∧ ((p1 * 4) + p2) < 164) ∧ ((inR (σ 288 ((p1 * 4) + p2))) ∧ ((¬ (σ 288 ((p1 * 4) + p2)) = (-2) → (((0 : Int) ≤ ((p1 * 4) + p2) ∧ ((p1 * 4) + p2) < 164) ∧ (Q (σ 288 ((p1 * 4) + p2)) σ))) ∧ ((σ 288 ((p1 * 4) + p2)) = (-2) → (Ct mX4_sought d 0 t [rv 287, iv p1, iv p2, iv p3, iv p4] σ (fun r2 σ2 => (((0 : Int) ≤ ((p1 * 4) + p2) ∧ ((p1 * 4) + p2) < 164) ∧ (∀ σ4 : jM, σ4 = up σ2 288 ((p1 * 4) + p2) r2 → (((0 : Int) ≤ ((p1 * 4) + p2) ∧ ((p1 * 4) + p2) < 164) ∧ (Q (σ4 288 ((p1 * 4) + p2)) σ4)))))))))) : Ct mX4_joiningsOf (d + 1) 0 t [rv 287, iv p1, iv p2, iv p3, iv p4] σ Q := Ct_of (by decide +kernel) (Nat.le_of_ble_eq_true rfl) (b_X4_joiningsOf_0 h)
set_option maxRecDepth 4000 in
theorem b_X4_sought_23 {d : Nat} {t : Int} {Q : Int → jM → Prop} {σ : jM} {p1 p2 p3 p4 v5 v6 : Int} (h : (inR v6) ∧ ((3 ≤ v6 → ((inR v5) ∧ ((v5 = 0 → (Q v5 σ)) ∧ (¬ v5 = 0 → (Ct mX4_reachable d 0 t [rv 287, iv v5] σ (fun r3 σ3 => ((inR r3) ∧ ((r3 = 0 → (Jt mX4_sought (d + 1) 0 t Q 13 [rv 287, iv p1, iv p2, iv p3, iv p4, iv (v5 + 1), uv] [] σ3)) ∧ (¬ r3 = 0 → (Q v5 σ3)))))))))) ∧ (v6 < 3 → ((inR v6) ∧ ((¬ v6 = 0 → (((0 : Int) ≤ v6 ∧ v6 < 3) ∧ (∀ σ7 : jM, σ7 = up σ 289 v6 0 → (Jt mX4_sought (d + 1) 0 t Q 23 [rv 287, iv p1, iv p2, iv p3, iv p4, iv v5, iv (v6 + 1)] [] σ7)))) ∧ (v6 = 0 → (((0 : Int) ≤ v6 ∧ v6 < 3) ∧ (∀ σ9 : jM, σ9 = up σ 289 v6 1 → (Jt mX4_sought (d + 1) 0 t Q 23 [rv 287, iv p1, iv p2, iv p3, iv p4, iv v5, iv (v6 + 1)] [] σ9))))))))) : Jt mX4_sought (d + 1) 0 t Q 23 [rv 287, iv p1, iv p2, iv p3, iv p4, iv v5, iv v6] [] σ := by
  refine j_iload (i := 6) rfl (show decode cX4_sought 23 = .ok (.iload 6, 2) by decide +kernel) ?_
  refine j_iconst (show decode cX4_sought 25 = .ok (.iconst 3, 1) by decide +kernel) ?_
  have hr0 := h.1
  have h := h.2
  refine j_icmp_ge (tgt := 52) hr0 (inl (by decide)) (show decode cX4_sought 26 = .ok (.if_icmp .ge 26, 3) by decide +kernel) (by decide) (fun c => ?_) (fun c => ?_)
  · have h := h.1 c
    refine j_iload (i := 5) rfl (show decode cX4_sought 52 = .ok (.iload 5, 2) by decide +kernel) ?_
    have hr1 := h.1
    have h := h.2
    refine j_if_eq (tgt := 66) hr1 (show decode cX4_sought 54 = .ok (.ifCond .eq 12, 3) by decide +kernel) (by decide) (fun c => ?_) (fun c => ?_)
    · have h := h.1 c
      refine j_iload (i := 5) rfl (show decode cX4_sought 66 = .ok (.iload 5, 2) by decide +kernel) ?_
      exact j_ret (rokI (show decode cX4_sought 68 = .ok (.ireturn, 1) by decide +kernel) rfl) ⟨rfl, rfl, h⟩
    · have h := h.2 c
      refine s_aload_n (i := 0) rfl (show decode cX4_sought 57 = .ok (.aload_n 0, 1) by decide +kernel) ?_
      refine j_iload (i := 5) rfl (show decode cX4_sought 58 = .ok (.iload 5, 2) by decide +kernel) ?_
      refine j_ctV (m' := mX4_reachable) (As := [iv v5]) (ci := 4) (tag := 0) (N := 0) (cw_X4_29 rfl) (show decode cX4_sought 60 = .ok (.invokevirtual 29, 3) by decide +kernel) rfl (Nat.le_of_ble_eq_true rfl) (by decide) okl_287 rfl rfl (Nat.le_refl _) h (fun r3 σ3 h => ?_)
      have hr3 := h.1
      have h := h.2
      refine j_if_eq (tgt := 69) hr3 (show decode cX4_sought 63 = .ok (.ifCond .eq 6, 3) by decide +kernel) (by decide) (fun c => ?_) (fun c => ?_)
      · have h := h.1 c
        refine s_iinc (i := 5) rfl (L' := [rv 287, iv p1, iv p2, iv p3, iv p4, iv (v5 + 1), iv v6]) rfl (show decode cX4_sought 69 = .ok (.iinc 5 1, 3) by decide +kernel) ?_
        refine j_goto (tgt := 13) (show decode cX4_sought 72 = .ok (.goto (-59), 3) by decide +kernel) (by decide) ?_
        refine j_drop 6 ?_
        exact h
      · have h := h.2 c
        refine j_iload (i := 5) rfl (show decode cX4_sought 66 = .ok (.iload 5, 2) by decide +kernel) ?_
        exact j_ret (rokI (show decode cX4_sought 68 = .ok (.ireturn, 1) by decide +kernel) rfl) ⟨rfl, rfl, h⟩
  · have h := h.2 c
    refine s_aload_n (i := 0) rfl (show decode cX4_sought 29 = .ok (.aload_n 0, 1) by decide +kernel) ?_
    refine gf_X4_15 (x := 289) rfl (show decode cX4_sought 30 = .ok (.getfield 15, 3) by decide +kernel) okl_287 rfl ?_
    refine j_iload (i := 6) rfl (show decode cX4_sought 33 = .ok (.iload 6, 2) by decide +kernel) ?_
    refine j_iload (i := 6) rfl (show decode cX4_sought 35 = .ok (.iload 6, 2) by decide +kernel) ?_
    have hr4 := h.1
    have h := h.2
    refine j_if_ne (tgt := 44) hr4 (show decode cX4_sought 37 = .ok (.ifCond .ne 7, 3) by decide +kernel) (by decide) (fun c => ?_) (fun c => ?_)
    · have h := h.1 c
      refine j_iconst (show decode cX4_sought 44 = .ok (.iconst 0, 1) by decide +kernel) ?_
      have hb5 := h.1
      have h := h.2
      refine s_iast (show decode cX4_sought 45 = .ok (.iastore, 1) by decide +kernel) okl_289 hb5 ?_
      obtain ⟨σ7, eσ7⟩ : ∃ z : jM, z = up σ 289 v6 0 := ⟨_, rfl⟩
      refine j_sig eσ7 ?_
      have h := h σ7 eσ7
      refine s_iinc (i := 6) rfl (L' := [rv 287, iv p1, iv p2, iv p3, iv p4, iv v5, iv (v6 + 1)]) rfl (show decode cX4_sought 46 = .ok (.iinc 6 1, 3) by decide +kernel) ?_
      refine j_goto (tgt := 23) (show decode cX4_sought 49 = .ok (.goto (-26), 3) by decide +kernel) (by decide) ?_
      exact h
    · have h := h.2 c
      refine j_iconst (show decode cX4_sought 40 = .ok (.iconst 1, 1) by decide +kernel) ?_
      refine j_goto (tgt := 45) (show decode cX4_sought 41 = .ok (.goto 4, 3) by decide +kernel) (by decide) ?_
      have hb7 := h.1
      have h := h.2
      refine s_iast (show decode cX4_sought 45 = .ok (.iastore, 1) by decide +kernel) okl_289 hb7 ?_
      obtain ⟨σ9, eσ9⟩ : ∃ z : jM, z = up σ 289 v6 1 := ⟨_, rfl⟩
      refine j_sig eσ9 ?_
      have h := h σ9 eσ9
      refine s_iinc (i := 6) rfl (L' := [rv 287, iv p1, iv p2, iv p3, iv p4, iv v5, iv (v6 + 1)]) rfl (show decode cX4_sought 46 = .ok (.iinc 6 1, 3) by decide +kernel) ?_
      refine j_goto (tgt := 23) (show decode cX4_sought 49 = .ok (.goto (-26), 3) by decide +kernel) (by decide) ?_
      exact h
set_option maxRecDepth 4000 in
theorem b_X4_sought_13 {d : Nat} {t : Int} {Q : Int → jM → Prop} {σ : jM} {p1 p2 p3 p4 v5 : Int} (h : (inR v5) ∧ ((inR p4) ∧ ((p4 < v5 → (Q (-1) σ)) ∧ (v5 ≤ p4 → (Jt mX4_sought (d + 1) 0 t Q 23 [rv 287, iv p1, iv p2, iv p3, iv p4, iv v5, iv 0] [] σ))))) : Jt mX4_sought (d + 1) 0 t Q 13 [rv 287, iv p1, iv p2, iv p3, iv p4, iv v5, uv] [] σ := by
  refine j_iload (i := 5) rfl (show decode cX4_sought 13 = .ok (.iload 5, 2) by decide +kernel) ?_
  refine j_iload (i := 4) rfl (show decode cX4_sought 15 = .ok (.iload 4, 2) by decide +kernel) ?_
  have hr0 := h.1
  have h := h.2
  have hr1 := h.1
  have h := h.2
  refine j_icmp_gt (tgt := 75) hr0 hr1 (show decode cX4_sought 17 = .ok (.if_icmp .gt 58, 3) by decide +kernel) (by decide) (fun c => ?_) (fun c => ?_)
  · have h := h.1 c
    refine j_iconst (show decode cX4_sought 75 = .ok (.iconst (-1), 1) by decide +kernel) ?_
    exact j_ret (rokI (show decode cX4_sought 76 = .ok (.ireturn, 1) by decide +kernel) rfl) ⟨rfl, rfl, h⟩
  · have h := h.2 c
    refine j_iconst (show decode cX4_sought 20 = .ok (.iconst 0, 1) by decide +kernel) ?_
    refine s_ist (i := 6) (L' := [rv 287, iv p1, iv p2, iv p3, iv p4, iv v5, iv 0]) rfl (by decide) (show decode cX4_sought 21 = .ok (.istore 6, 2) by decide +kernel) ?_
    exact h
set_option maxRecDepth 4000 in
theorem b_X4_sought_0 {d : Nat} {t : Int} {Q : Int → jM → Prop} {σ : jM} {p1 p2 p3 p4 : Int} (h : ∀ σ1 : jM, σ1 = up σ 287 3 p1 → (∀ σ2 : jM, σ2 = up σ1 287 2 p2 → (Jt mX4_sought (d + 1) 0 t Q 13 [rv 287, iv p1, iv p2, iv p3, iv p4, iv p3, uv] [] σ2))) : Jt mX4_sought (d + 1) 0 t Q 0 [rv 287, iv p1, iv p2, iv p3, iv p4, uv, uv] [] σ := by
  refine s_aload_n (i := 0) rfl (show decode cX4_sought 0 = .ok (.aload_n 0, 1) by decide +kernel) ?_
  refine j_iload_n (i := 1) rfl (show decode cX4_sought 1 = .ok (.iload_n 1, 1) by decide +kernel) ?_
  refine pf_X4_22 rfl (show decode cX4_sought 2 = .ok (.putfield 22, 3) by decide +kernel) okl_287 ?_
  obtain ⟨σ1, eσ1⟩ : ∃ z : jM, z = up σ 287 3 p1 := ⟨_, rfl⟩
  refine j_sig eσ1 ?_
  have h := h σ1 eσ1
  refine s_aload_n (i := 0) rfl (show decode cX4_sought 5 = .ok (.aload_n 0, 1) by decide +kernel) ?_
  refine j_iload_n (i := 2) rfl (show decode cX4_sought 6 = .ok (.iload_n 2, 1) by decide +kernel) ?_
  refine pf_X4_26 rfl (show decode cX4_sought 7 = .ok (.putfield 26, 3) by decide +kernel) okl_287 ?_
  obtain ⟨σ2, eσ2⟩ : ∃ z : jM, z = up σ1 287 2 p2 := ⟨_, rfl⟩
  refine j_sig eσ2 ?_
  have h := h σ2 eσ2
  refine j_iload_n (i := 3) rfl (show decode cX4_sought 10 = .ok (.iload_n 3, 1) by decide +kernel) ?_
  refine s_ist (i := 5) (L' := [rv 287, iv p1, iv p2, iv p3, iv p4, iv p3, uv]) rfl (by decide) (show decode cX4_sought 11 = .ok (.istore 5, 2) by decide +kernel) ?_
  exact h
theorem c_X4_sought {d : Nat} {t : Int} {Q : Int → jM → Prop} {σ : jM} {p1 p2 p3 p4 : Int} (h : ∀ σ1 : jM, σ1 = up σ 287 3 p1 → (∀ σ2 : jM, σ2 = up σ1 287 2 p2 → (Jt mX4_sought (d + 1) 0 t Q 13 [rv 287, iv p1, iv p2, iv p3, iv p4, iv p3, uv] [] σ2))) : Ct mX4_sought (d + 1) 0 t [rv 287, iv p1, iv p2, iv p3, iv p4] σ Q := Ct_of (by decide +kernel) (Nat.le_of_ble_eq_true rfl) (b_X4_sought_0 h)
set_option maxRecDepth 4000 in
theorem b_X4_reachable_59 {d : Nat} {t : Int} {Q : Int → jM → Prop} {σ : jM} {p1 v2 v3 v4 : Int} (h : (inR v4) ∧ ((inR (σ 287 2)) ∧ (((σ 287 2) ≤ v4 → (Jt mX4_reachable (d + 1) 0 t Q 48 [rv 287, iv p1, iv v2, iv (v3 + 1), uv, uv] [] σ)) ∧ (v4 < (σ 287 2) → (((0 : Int) ≤ v3 ∧ v3 < 3) ∧ (((0 : Int) ≤ v4 ∧ v4 < 3) ∧ (((0 : Int) ≤ v3 ∧ v3 < 3) ∧ ((inR (σ 289 v3)) ∧ (((σ 289 v3) = 0 → (Jt mX4_reachable (d + 1) 0 t Q 59 [rv 287, iv p1, iv v2, iv v3, iv (v4 + 1), uv] [] σ)) ∧ (¬ (σ 289 v3) = 0 → (((0 : Int) ≤ v4 ∧ v4 < 3) ∧ ((inR (σ 289 v4)) ∧ (((σ 289 v4) = 0 → (Jt mX4_reachable (d + 1) 0 t Q 59 [rv 287, iv p1, iv v2, iv v3, iv (v4 + 1), uv] [] σ)) ∧ (¬ (σ 289 v4) = 0 → ((inR ((σ 289 v3) + (σ 289 v4))) ∧ ((inR (σ 287 3)) ∧ ((((σ 289 v3) + (σ 289 v4)) ≤ (σ 287 3) → ((inR ((σ 289 v3) + (σ 289 v4))) ∧ ((inR (σ 287 3)) ∧ ((((σ 289 v3) + (σ 289 v4)) = (σ 287 3) → (Q 1 σ)) ∧ (¬ ((σ 289 v3) + (σ 289 v4)) = (σ 287 3) → ((inR p1) ∧ ((p1 ≤ 1 → (Jt mX4_reachable (d + 1) 0 t Q 59 [rv 287, iv p1, iv v2, iv v3, iv (v4 + 1), uv] [] σ)) ∧ (1 < p1 → (Ct mX4_stands d 0 t [rv 287, iv ((σ 289 v3) + (σ 289 v4))] σ (fun r10 σ10 => ((inR r10) ∧ ((¬ r10 = 0 → (Jt mX4_reachable (d + 1) 0 t Q 59 [rv 287, iv p1, iv v2, iv v3, iv (v4 + 1), uv] [] σ10)) ∧ (r10 = 0 → (Ct mX4_reachableWith d 0 t [rv 287, iv ((σ 289 v3) + (σ 289 v4)), iv (p1 - 1)] σ10 (fun r12 σ12 => ((inR r12) ∧ ((r12 = 0 → (Jt mX4_reachable (d + 1) 0 t Q 59 [rv 287, iv p1, iv v2, iv v3, iv (v4 + 1), uv] [] σ12)) ∧ (¬ r12 = 0 → (Q 1 σ12))))))))))))))))))) ∧ ((σ 287 3) < ((σ 289 v3) + (σ 289 v4)) → (Jt mX4_reachable (d + 1) 0 t Q 59 [rv 287, iv p1, iv v2, iv v3, iv (v4 + 1), uv] [] σ))))))))))))))))))) : Jt mX4_reachable (d + 1) 0 t Q 59 [rv 287, iv p1, iv v2, iv v3, iv v4, uv] [] σ := by
  refine j_iload (i := 4) rfl (show decode cX4_reachable 59 = .ok (.iload 4, 2) by decide +kernel) ?_
  refine s_aload_n (i := 0) rfl (show decode cX4_reachable 61 = .ok (.aload_n 0, 1) by decide +kernel) ?_
  refine gf_X4_26 rfl (show decode cX4_reachable 62 = .ok (.getfield 26, 3) by decide +kernel) okl_287 ?_
  have hr0 := h.1
  have h := h.2
  have hr1 := h.1
  have h := h.2
  refine j_icmp_ge (tgt := 158) hr0 hr1 (show decode cX4_reachable 65 = .ok (.if_icmp .ge 93, 3) by decide +kernel) (by decide) (fun c => ?_) (fun c => ?_)
  · have h := h.1 c
    refine s_iinc (i := 3) rfl (L' := [rv 287, iv p1, iv v2, iv (v3 + 1), iv v4, uv]) rfl (show decode cX4_reachable 158 = .ok (.iinc 3 1, 3) by decide +kernel) ?_
    refine j_goto (tgt := 48) (show decode cX4_reachable 161 = .ok (.goto (-113), 3) by decide +kernel) (by decide) ?_
    refine j_drop 4 ?_
    exact h
  · have h := h.2 c
    refine s_aload_n (i := 0) rfl (show decode cX4_reachable 68 = .ok (.aload_n 0, 1) by decide +kernel) ?_
    refine gf_X4_15 (x := 289) rfl (show decode cX4_reachable 69 = .ok (.getfield 15, 3) by decide +kernel) okl_287 rfl ?_
    refine j_iload_n (i := 3) rfl (show decode cX4_reachable 72 = .ok (.iload_n 3, 1) by decide +kernel) ?_
    refine s_iald (show decode cX4_reachable 73 = .ok (.iaload, 1) by decide +kernel) okl_289 h.1 ?_
    have h := h.2
    refine s_aload_n (i := 0) rfl (show decode cX4_reachable 74 = .ok (.aload_n 0, 1) by decide +kernel) ?_
    refine gf_X4_15 (x := 289) rfl (show decode cX4_reachable 75 = .ok (.getfield 15, 3) by decide +kernel) okl_287 rfl ?_
    refine j_iload (i := 4) rfl (show decode cX4_reachable 78 = .ok (.iload 4, 2) by decide +kernel) ?_
    refine s_iald (show decode cX4_reachable 80 = .ok (.iaload, 1) by decide +kernel) okl_289 h.1 ?_
    have h := h.2
    refine j_iadd (show decode cX4_reachable 81 = .ok (.iadd, 1) by decide +kernel) ?_
    refine s_ist (i := 5) (L' := [rv 287, iv p1, iv v2, iv v3, iv v4, iv ((σ 289 v3) + (σ 289 v4))]) rfl (by decide) (show decode cX4_reachable 82 = .ok (.istore 5, 2) by decide +kernel) ?_
    refine s_aload_n (i := 0) rfl (show decode cX4_reachable 84 = .ok (.aload_n 0, 1) by decide +kernel) ?_
    refine gf_X4_15 (x := 289) rfl (show decode cX4_reachable 85 = .ok (.getfield 15, 3) by decide +kernel) okl_287 rfl ?_
    refine j_iload_n (i := 3) rfl (show decode cX4_reachable 88 = .ok (.iload_n 3, 1) by decide +kernel) ?_
    refine s_iald (show decode cX4_reachable 89 = .ok (.iaload, 1) by decide +kernel) okl_289 h.1 ?_
    have h := h.2
    have hr2 := h.1
    have h := h.2
    refine j_if_eq (tgt := 152) hr2 (show decode cX4_reachable 90 = .ok (.ifCond .eq 62, 3) by decide +kernel) (by decide) (fun c => ?_) (fun c => ?_)
    · have h := h.1 c
      refine s_iinc (i := 4) rfl (L' := [rv 287, iv p1, iv v2, iv v3, iv (v4 + 1), iv ((σ 289 v3) + (σ 289 v4))]) rfl (show decode cX4_reachable 152 = .ok (.iinc 4 1, 3) by decide +kernel) ?_
      refine j_goto (tgt := 59) (show decode cX4_reachable 155 = .ok (.goto (-96), 3) by decide +kernel) (by decide) ?_
      refine j_drop 5 ?_
      exact h
    · have h := h.2 c
      refine s_aload_n (i := 0) rfl (show decode cX4_reachable 93 = .ok (.aload_n 0, 1) by decide +kernel) ?_
      refine gf_X4_15 (x := 289) rfl (show decode cX4_reachable 94 = .ok (.getfield 15, 3) by decide +kernel) okl_287 rfl ?_
      refine j_iload (i := 4) rfl (show decode cX4_reachable 97 = .ok (.iload 4, 2) by decide +kernel) ?_
      refine s_iald (show decode cX4_reachable 99 = .ok (.iaload, 1) by decide +kernel) okl_289 h.1 ?_
      have h := h.2
      have hr3 := h.1
      have h := h.2
      refine j_if_eq (tgt := 152) hr3 (show decode cX4_reachable 100 = .ok (.ifCond .eq 52, 3) by decide +kernel) (by decide) (fun c => ?_) (fun c => ?_)
      · have h := h.1 c
        refine s_iinc (i := 4) rfl (L' := [rv 287, iv p1, iv v2, iv v3, iv (v4 + 1), iv ((σ 289 v3) + (σ 289 v4))]) rfl (show decode cX4_reachable 152 = .ok (.iinc 4 1, 3) by decide +kernel) ?_
        refine j_goto (tgt := 59) (show decode cX4_reachable 155 = .ok (.goto (-96), 3) by decide +kernel) (by decide) ?_
        refine j_drop 5 ?_
        exact h
      · have h := h.2 c
        refine j_iload (i := 5) rfl (show decode cX4_reachable 103 = .ok (.iload 5, 2) by decide +kernel) ?_
        refine s_aload_n (i := 0) rfl (show decode cX4_reachable 105 = .ok (.aload_n 0, 1) by decide +kernel) ?_
        refine gf_X4_22 rfl (show decode cX4_reachable 106 = .ok (.getfield 22, 3) by decide +kernel) okl_287 ?_
        have hr4 := h.1
        have h := h.2
        have hr5 := h.1
        have h := h.2
        refine j_icmp_le (tgt := 115) hr4 hr5 (show decode cX4_reachable 109 = .ok (.if_icmp .le 6, 3) by decide +kernel) (by decide) (fun c => ?_) (fun c => ?_)
        · have h := h.1 c
          refine j_iload (i := 5) rfl (show decode cX4_reachable 115 = .ok (.iload 5, 2) by decide +kernel) ?_
          refine s_aload_n (i := 0) rfl (show decode cX4_reachable 117 = .ok (.aload_n 0, 1) by decide +kernel) ?_
          refine gf_X4_22 rfl (show decode cX4_reachable 118 = .ok (.getfield 22, 3) by decide +kernel) okl_287 ?_
          have hr6 := h.1
          have h := h.2
          have hr7 := h.1
          have h := h.2
          refine j_icmp_eq (tgt := 150) hr6 hr7 (show decode cX4_reachable 121 = .ok (.if_icmp .eq 29, 3) by decide +kernel) (by decide) (fun c => ?_) (fun c => ?_)
          · have h := h.1 c
            refine j_iconst (show decode cX4_reachable 150 = .ok (.iconst 1, 1) by decide +kernel) ?_
            exact j_ret (rokZ (show decode cX4_reachable 151 = .ok (.ireturn, 1) by decide +kernel) rfl (Or.inr rfl)) ⟨rfl, rfl, h⟩
          · have h := h.2 c
            refine j_iload_n (i := 1) rfl (show decode cX4_reachable 124 = .ok (.iload_n 1, 1) by decide +kernel) ?_
            refine j_iconst (show decode cX4_reachable 125 = .ok (.iconst 1, 1) by decide +kernel) ?_
            have hr8 := h.1
            have h := h.2
            refine j_icmp_le (tgt := 152) hr8 (inl (by decide)) (show decode cX4_reachable 126 = .ok (.if_icmp .le 26, 3) by decide +kernel) (by decide) (fun c => ?_) (fun c => ?_)
            · have h := h.1 c
              refine s_iinc (i := 4) rfl (L' := [rv 287, iv p1, iv v2, iv v3, iv (v4 + 1), iv ((σ 289 v3) + (σ 289 v4))]) rfl (show decode cX4_reachable 152 = .ok (.iinc 4 1, 3) by decide +kernel) ?_
              refine j_goto (tgt := 59) (show decode cX4_reachable 155 = .ok (.goto (-96), 3) by decide +kernel) (by decide) ?_
              refine j_drop 5 ?_
              exact h
            · have h := h.2 c
              refine s_aload_n (i := 0) rfl (show decode cX4_reachable 129 = .ok (.aload_n 0, 1) by decide +kernel) ?_
              refine j_iload (i := 5) rfl (show decode cX4_reachable 130 = .ok (.iload 5, 2) by decide +kernel) ?_
              refine j_ctV (m' := mX4_stands) (As := [iv ((σ 289 v3) + (σ 289 v4))]) (ci := 4) (tag := 0) (N := 0) (cw_X4_39 rfl) (show decode cX4_reachable 132 = .ok (.invokevirtual 39, 3) by decide +kernel) rfl (Nat.le_of_ble_eq_true rfl) (by decide) okl_287 rfl rfl (Nat.le_refl _) h (fun r10 σ10 h => ?_)
              have hr10 := h.1
              have h := h.2
              refine j_if_ne (tgt := 152) hr10 (show decode cX4_reachable 135 = .ok (.ifCond .ne 17, 3) by decide +kernel) (by decide) (fun c => ?_) (fun c => ?_)
              · have h := h.1 c
                refine s_iinc (i := 4) rfl (L' := [rv 287, iv p1, iv v2, iv v3, iv (v4 + 1), iv ((σ 289 v3) + (σ 289 v4))]) rfl (show decode cX4_reachable 152 = .ok (.iinc 4 1, 3) by decide +kernel) ?_
                refine j_goto (tgt := 59) (show decode cX4_reachable 155 = .ok (.goto (-96), 3) by decide +kernel) (by decide) ?_
                refine j_drop 5 ?_
                exact h
              · have h := h.2 c
                refine s_aload_n (i := 0) rfl (show decode cX4_reachable 138 = .ok (.aload_n 0, 1) by decide +kernel) ?_
                refine j_iload (i := 5) rfl (show decode cX4_reachable 139 = .ok (.iload 5, 2) by decide +kernel) ?_
                refine j_iload_n (i := 1) rfl (show decode cX4_reachable 141 = .ok (.iload_n 1, 1) by decide +kernel) ?_
                refine j_iconst (show decode cX4_reachable 142 = .ok (.iconst 1, 1) by decide +kernel) ?_
                refine j_isub (show decode cX4_reachable 143 = .ok (.isub, 1) by decide +kernel) ?_
                refine j_ctV (m' := mX4_reachableWith) (As := [iv ((σ 289 v3) + (σ 289 v4)), iv (p1 - 1)]) (ci := 4) (tag := 0) (N := 0) (cw_X4_42 rfl) (show decode cX4_reachable 144 = .ok (.invokevirtual 42, 3) by decide +kernel) rfl (Nat.le_of_ble_eq_true rfl) (by decide) okl_287 rfl rfl (Nat.le_refl _) h (fun r12 σ12 h => ?_)
                have hr12 := h.1
                have h := h.2
                refine j_if_eq (tgt := 152) hr12 (show decode cX4_reachable 147 = .ok (.ifCond .eq 5, 3) by decide +kernel) (by decide) (fun c => ?_) (fun c => ?_)
                · have h := h.1 c
                  refine s_iinc (i := 4) rfl (L' := [rv 287, iv p1, iv v2, iv v3, iv (v4 + 1), iv ((σ 289 v3) + (σ 289 v4))]) rfl (show decode cX4_reachable 152 = .ok (.iinc 4 1, 3) by decide +kernel) ?_
                  refine j_goto (tgt := 59) (show decode cX4_reachable 155 = .ok (.goto (-96), 3) by decide +kernel) (by decide) ?_
                  refine j_drop 5 ?_
                  exact h
                · have h := h.2 c
                  refine j_iconst (show decode cX4_reachable 150 = .ok (.iconst 1, 1) by decide +kernel) ?_
                  exact j_ret (rokZ (show decode cX4_reachable 151 = .ok (.ireturn, 1) by decide +kernel) rfl (Or.inr rfl)) ⟨rfl, rfl, h⟩
        · have h := h.2 c
          refine j_goto (tgt := 152) (show decode cX4_reachable 112 = .ok (.goto 40, 3) by decide +kernel) (by decide) ?_
          refine s_iinc (i := 4) rfl (L' := [rv 287, iv p1, iv v2, iv v3, iv (v4 + 1), iv ((σ 289 v3) + (σ 289 v4))]) rfl (show decode cX4_reachable 152 = .ok (.iinc 4 1, 3) by decide +kernel) ?_
          refine j_goto (tgt := 59) (show decode cX4_reachable 155 = .ok (.goto (-96), 3) by decide +kernel) (by decide) ?_
          refine j_drop 5 ?_
          exact h
set_option maxRecDepth 4000 in
theorem b_X4_reachable_48 {d : Nat} {t : Int} {Q : Int → jM → Prop} {σ : jM} {p1 v2 v3 : Int} (h : (inR v3) ∧ ((inR (σ 287 2)) ∧ (((σ 287 2) ≤ v3 → (Q 0 σ)) ∧ (v3 < (σ 287 2) → (Jt mX4_reachable (d + 1) 0 t Q 59 [rv 287, iv p1, iv v2, iv v3, iv v3, uv] [] σ))))) : Jt mX4_reachable (d + 1) 0 t Q 48 [rv 287, iv p1, iv v2, iv v3, uv, uv] [] σ := by
  refine j_iload_n (i := 3) rfl (show decode cX4_reachable 48 = .ok (.iload_n 3, 1) by decide +kernel) ?_
  refine s_aload_n (i := 0) rfl (show decode cX4_reachable 49 = .ok (.aload_n 0, 1) by decide +kernel) ?_
  refine gf_X4_26 rfl (show decode cX4_reachable 50 = .ok (.getfield 26, 3) by decide +kernel) okl_287 ?_
  have hr0 := h.1
  have h := h.2
  have hr1 := h.1
  have h := h.2
  refine j_icmp_ge (tgt := 164) hr0 hr1 (show decode cX4_reachable 53 = .ok (.if_icmp .ge 111, 3) by decide +kernel) (by decide) (fun c => ?_) (fun c => ?_)
  · have h := h.1 c
    refine j_iconst (show decode cX4_reachable 164 = .ok (.iconst 0, 1) by decide +kernel) ?_
    exact j_ret (rokZ (show decode cX4_reachable 165 = .ok (.ireturn, 1) by decide +kernel) rfl (Or.inl rfl)) ⟨rfl, rfl, h⟩
  · have h := h.2 c
    refine j_iload_n (i := 3) rfl (show decode cX4_reachable 56 = .ok (.iload_n 3, 1) by decide +kernel) ?_
    refine s_ist (i := 4) (L' := [rv 287, iv p1, iv v2, iv v3, iv v3, uv]) rfl (by decide) (show decode cX4_reachable 57 = .ok (.istore 4, 2) by decide +kernel) ?_
    exact h
set_option maxRecDepth 4000 in
theorem b_X4_reachable_4 {d : Nat} {t : Int} {Q : Int → jM → Prop} {σ : jM} {p1 v2 v3 : Int} (h : (inR v3) ∧ ((inR (σ 287 2)) ∧ (((σ 287 2) ≤ v3 → ((inR p1) ∧ ((p1 < 1 → (Q 0 σ)) ∧ (1 ≤ p1 → ((inR (i_shl v2 p1)) ∧ ((inR (σ 287 3)) ∧ (((σ 287 3) ≤ (i_shl v2 p1) → (Jt mX4_reachable (d + 1) 0 t Q 48 [rv 287, iv p1, iv v2, iv 0, uv, uv] [] σ)) ∧ ((i_shl v2 p1) < (σ 287 3) → (Q 0 σ))))))))) ∧ (v3 < (σ 287 2) → (((0 : Int) ≤ v3 ∧ v3 < 3) ∧ ((inR v2) ∧ ((inR (σ 289 v3)) ∧ (Jt mX4_reachable (d + 1) 0 t Q 4 [rv 287, iv p1, iv (max v2 (σ 289 v3)), iv (v3 + 1), uv, uv] [] σ)))))))) : Jt mX4_reachable (d + 1) 0 t Q 4 [rv 287, iv p1, iv v2, iv v3, uv, uv] [] σ := by
  refine j_iload_n (i := 3) rfl (show decode cX4_reachable 4 = .ok (.iload_n 3, 1) by decide +kernel) ?_
  refine s_aload_n (i := 0) rfl (show decode cX4_reachable 5 = .ok (.aload_n 0, 1) by decide +kernel) ?_
  refine gf_X4_26 rfl (show decode cX4_reachable 6 = .ok (.getfield 26, 3) by decide +kernel) okl_287 ?_
  have hr0 := h.1
  have h := h.2
  have hr1 := h.1
  have h := h.2
  refine j_icmp_ge (tgt := 29) hr0 hr1 (show decode cX4_reachable 9 = .ok (.if_icmp .ge 20, 3) by decide +kernel) (by decide) (fun c => ?_) (fun c => ?_)
  · have h := h.1 c
    refine j_iload_n (i := 1) rfl (show decode cX4_reachable 29 = .ok (.iload_n 1, 1) by decide +kernel) ?_
    refine j_iconst (show decode cX4_reachable 30 = .ok (.iconst 1, 1) by decide +kernel) ?_
    have hr2 := h.1
    have h := h.2
    refine j_icmp_lt (tgt := 44) hr2 (inl (by decide)) (show decode cX4_reachable 31 = .ok (.if_icmp .lt 13, 3) by decide +kernel) (by decide) (fun c => ?_) (fun c => ?_)
    · have h := h.1 c
      refine j_iconst (show decode cX4_reachable 44 = .ok (.iconst 0, 1) by decide +kernel) ?_
      exact j_ret (rokZ (show decode cX4_reachable 45 = .ok (.ireturn, 1) by decide +kernel) rfl (Or.inl rfl)) ⟨rfl, rfl, h⟩
    · have h := h.2 c
      refine j_iload_n (i := 2) rfl (show decode cX4_reachable 34 = .ok (.iload_n 2, 1) by decide +kernel) ?_
      refine j_iload_n (i := 1) rfl (show decode cX4_reachable 35 = .ok (.iload_n 1, 1) by decide +kernel) ?_
      refine j_ishl (show decode cX4_reachable 36 = .ok (.ishl, 1) by decide +kernel) ?_
      refine s_aload_n (i := 0) rfl (show decode cX4_reachable 37 = .ok (.aload_n 0, 1) by decide +kernel) ?_
      refine gf_X4_22 rfl (show decode cX4_reachable 38 = .ok (.getfield 22, 3) by decide +kernel) okl_287 ?_
      have hr3 := h.1
      have h := h.2
      have hr4 := h.1
      have h := h.2
      refine j_icmp_ge (tgt := 46) hr3 hr4 (show decode cX4_reachable 41 = .ok (.if_icmp .ge 5, 3) by decide +kernel) (by decide) (fun c => ?_) (fun c => ?_)
      · have h := h.1 c
        refine j_iconst (show decode cX4_reachable 46 = .ok (.iconst 0, 1) by decide +kernel) ?_
        refine s_ist_n (i := 3) (L' := [rv 287, iv p1, iv v2, iv 0, uv, uv]) rfl (by decide) (show decode cX4_reachable 47 = .ok (.istore_n 3, 1) by decide +kernel) ?_
        exact h
      · have h := h.2 c
        refine j_iconst (show decode cX4_reachable 44 = .ok (.iconst 0, 1) by decide +kernel) ?_
        exact j_ret (rokZ (show decode cX4_reachable 45 = .ok (.ireturn, 1) by decide +kernel) rfl (Or.inl rfl)) ⟨rfl, rfl, h⟩
  · have h := h.2 c
    refine j_iload_n (i := 2) rfl (show decode cX4_reachable 12 = .ok (.iload_n 2, 1) by decide +kernel) ?_
    refine s_aload_n (i := 0) rfl (show decode cX4_reachable 13 = .ok (.aload_n 0, 1) by decide +kernel) ?_
    refine gf_X4_15 (x := 289) rfl (show decode cX4_reachable 14 = .ok (.getfield 15, 3) by decide +kernel) okl_287 rfl ?_
    refine j_iload_n (i := 3) rfl (show decode cX4_reachable 17 = .ok (.iload_n 3, 1) by decide +kernel) ?_
    refine s_iald (show decode cX4_reachable 18 = .ok (.iaload, 1) by decide +kernel) okl_289 h.1 ?_
    have h := h.2
    have hr5 := h.1
    have h := h.2
    have hr6 := h.1
    have h := h.2
    refine j_max (tt_in 1077 (by decide +kernel) rfl) (by omega) (Nat.le_of_ble_eq_true rfl) hr5 hr6 (show decode cX4_reachable 19 = .ok (.invokestatic 33, 3) by decide +kernel) ?_
    refine s_ist_n (i := 2) (L' := [rv 287, iv p1, iv (max v2 (σ 289 v3)), iv v3, uv, uv]) rfl (by decide) (show decode cX4_reachable 22 = .ok (.istore_n 2, 1) by decide +kernel) ?_
    refine s_iinc (i := 3) rfl (L' := [rv 287, iv p1, iv (max v2 (σ 289 v3)), iv (v3 + 1), uv, uv]) rfl (show decode cX4_reachable 23 = .ok (.iinc 3 1, 3) by decide +kernel) ?_
    refine j_goto (tgt := 4) (show decode cX4_reachable 26 = .ok (.goto (-22), 3) by decide +kernel) (by decide) ?_
    exact h
set_option maxRecDepth 4000 in
theorem b_X4_reachable_0 {d : Nat} {t : Int} {Q : Int → jM → Prop} {σ : jM} {p1 : Int} (h : Jt mX4_reachable (d + 1) 0 t Q 4 [rv 287, iv p1, iv 0, iv 0, uv, uv] [] σ) : Jt mX4_reachable (d + 1) 0 t Q 0 [rv 287, iv p1, uv, uv, uv, uv] [] σ := by
  refine j_iconst (show decode cX4_reachable 0 = .ok (.iconst 0, 1) by decide +kernel) ?_
  refine s_ist_n (i := 2) (L' := [rv 287, iv p1, iv 0, uv, uv, uv]) rfl (by decide) (show decode cX4_reachable 1 = .ok (.istore_n 2, 1) by decide +kernel) ?_
  refine j_iconst (show decode cX4_reachable 2 = .ok (.iconst 0, 1) by decide +kernel) ?_
  refine s_ist_n (i := 3) (L' := [rv 287, iv p1, iv 0, iv 0, uv, uv]) rfl (by decide) (show decode cX4_reachable 3 = .ok (.istore_n 3, 1) by decide +kernel) ?_
  exact h
theorem c_X4_reachable {d : Nat} {t : Int} {Q : Int → jM → Prop} {σ : jM} {p1 : Int} (h : Jt mX4_reachable (d + 1) 0 t Q 4 [rv 287, iv p1, iv 0, iv 0, uv, uv] [] σ) : Ct mX4_reachable (d + 1) 0 t [rv 287, iv p1] σ Q := Ct_of (by decide +kernel) (Nat.le_of_ble_eq_true rfl) (b_X4_reachable_0 h)
set_option maxRecDepth 4000 in
theorem b_X4_stands_2 {d : Nat} {t : Int} {Q : Int → jM → Prop} {σ : jM} {p1 v2 : Int} (h : (inR v2) ∧ ((inR (σ 287 2)) ∧ (((σ 287 2) ≤ v2 → (Q 0 σ)) ∧ (v2 < (σ 287 2) → (((0 : Int) ≤ v2 ∧ v2 < 3) ∧ ((inR (σ 289 v2)) ∧ ((inR p1) ∧ ((¬ (σ 289 v2) = p1 → (Jt mX4_stands (d) 0 t Q 2 [rv 287, iv p1, iv (v2 + 1)] [] σ)) ∧ ((σ 289 v2) = p1 → (Q 1 σ)))))))))) : Jt mX4_stands (d) 0 t Q 2 [rv 287, iv p1, iv v2] [] σ := by
  refine j_iload_n (i := 2) rfl (show decode cX4_stands 2 = .ok (.iload_n 2, 1) by decide +kernel) ?_
  refine s_aload_n (i := 0) rfl (show decode cX4_stands 3 = .ok (.aload_n 0, 1) by decide +kernel) ?_
  refine gf_X4_26 rfl (show decode cX4_stands 4 = .ok (.getfield 26, 3) by decide +kernel) okl_287 ?_
  have hr0 := h.1
  have h := h.2
  have hr1 := h.1
  have h := h.2
  refine j_icmp_ge (tgt := 28) hr0 hr1 (show decode cX4_stands 7 = .ok (.if_icmp .ge 21, 3) by decide +kernel) (by decide) (fun c => ?_) (fun c => ?_)
  · have h := h.1 c
    refine j_iconst (show decode cX4_stands 28 = .ok (.iconst 0, 1) by decide +kernel) ?_
    exact j_ret (rokZ (show decode cX4_stands 29 = .ok (.ireturn, 1) by decide +kernel) rfl (Or.inl rfl)) ⟨rfl, rfl, h⟩
  · have h := h.2 c
    refine s_aload_n (i := 0) rfl (show decode cX4_stands 10 = .ok (.aload_n 0, 1) by decide +kernel) ?_
    refine gf_X4_15 (x := 289) rfl (show decode cX4_stands 11 = .ok (.getfield 15, 3) by decide +kernel) okl_287 rfl ?_
    refine j_iload_n (i := 2) rfl (show decode cX4_stands 14 = .ok (.iload_n 2, 1) by decide +kernel) ?_
    refine s_iald (show decode cX4_stands 15 = .ok (.iaload, 1) by decide +kernel) okl_289 h.1 ?_
    have h := h.2
    refine j_iload_n (i := 1) rfl (show decode cX4_stands 16 = .ok (.iload_n 1, 1) by decide +kernel) ?_
    have hr2 := h.1
    have h := h.2
    have hr3 := h.1
    have h := h.2
    refine j_icmp_ne (tgt := 22) hr2 hr3 (show decode cX4_stands 17 = .ok (.if_icmp .ne 5, 3) by decide +kernel) (by decide) (fun c => ?_) (fun c => ?_)
    · have h := h.1 c
      refine s_iinc (i := 2) rfl (L' := [rv 287, iv p1, iv (v2 + 1)]) rfl (show decode cX4_stands 22 = .ok (.iinc 2 1, 3) by decide +kernel) ?_
      refine j_goto (tgt := 2) (show decode cX4_stands 25 = .ok (.goto (-23), 3) by decide +kernel) (by decide) ?_
      exact h
    · have h := h.2 c
      refine j_iconst (show decode cX4_stands 20 = .ok (.iconst 1, 1) by decide +kernel) ?_
      exact j_ret (rokZ (show decode cX4_stands 21 = .ok (.ireturn, 1) by decide +kernel) rfl (Or.inr rfl)) ⟨rfl, rfl, h⟩
set_option maxRecDepth 4000 in
theorem b_X4_stands_0 {d : Nat} {t : Int} {Q : Int → jM → Prop} {σ : jM} {p1 : Int} (h : Jt mX4_stands (d) 0 t Q 2 [rv 287, iv p1, iv 0] [] σ) : Jt mX4_stands (d) 0 t Q 0 [rv 287, iv p1, uv] [] σ := by
  refine j_iconst (show decode cX4_stands 0 = .ok (.iconst 0, 1) by decide +kernel) ?_
  refine s_ist_n (i := 2) (L' := [rv 287, iv p1, iv 0]) rfl (by decide) (show decode cX4_stands 1 = .ok (.istore_n 2, 1) by decide +kernel) ?_
  exact h
theorem c_X4_stands {d : Nat} {t : Int} {Q : Int → jM → Prop} {σ : jM} {p1 : Int} (h : Jt mX4_stands (d) 0 t Q 2 [rv 287, iv p1, iv 0] [] σ) : Ct mX4_stands (d) 0 t [rv 287, iv p1] σ Q := Ct_of (by decide +kernel) (Nat.le_of_ble_eq_true rfl) (b_X4_stands_0 h)
set_option maxRecDepth 4000 in
theorem b_X4_reachableWith_7 {d : Nat} {t : Int} {Q : Int → jM → Prop} {σ : jM} {p1 p2 v3 : Int} (h : (inR v3) ∧ ((v3 < 0 → (Q 0 σ)) ∧ (0 ≤ v3 → (((0 : Int) ≤ v3 ∧ v3 < 3) ∧ (((0 : Int) ≤ v3 ∧ v3 < 3) ∧ (∀ σ3 : jM, σ3 = up σ 289 v3 p1 → (Ct mX4_reachable d 0 t [rv 287, iv p2] σ3 (fun r4 σ4 => (((0 : Int) ≤ v3 ∧ v3 < 3) ∧ (∀ σ6 : jM, σ6 = up σ4 289 v3 (σ 289 v3) → ((inR r4) ∧ ((¬ r4 = 0 → ((r4 = 0 ∨ r4 = 1) ∧ (Q r4 σ6))) ∧ (r4 = 0 → ((inR (σ 289 v3)) ∧ ((¬ (σ 289 v3) = 0 → (Jt mX4_reachableWith (d + 1) 0 t Q 7 [rv 287, iv p1, iv p2, iv (v3 + (-1)), uv, uv] [] σ6)) ∧ ((σ 289 v3) = 0 → ((r4 = 0 ∨ r4 = 1) ∧ (Q r4 σ6)))))))))))))))))) : Jt mX4_reachableWith (d + 1) 0 t Q 7 [rv 287, iv p1, iv p2, iv v3, uv, uv] [] σ := by
  refine j_iload_n (i := 3) rfl (show decode cX4_reachableWith 7 = .ok (.iload_n 3, 1) by decide +kernel) ?_
  have hr0 := h.1
  have h := h.2
  refine j_if_lt (tgt := 60) hr0 (show decode cX4_reachableWith 8 = .ok (.ifCond .lt 52, 3) by decide +kernel) (by decide) (fun c => ?_) (fun c => ?_)
  · have h := h.1 c
    refine j_iconst (show decode cX4_reachableWith 60 = .ok (.iconst 0, 1) by decide +kernel) ?_
    exact j_ret (rokZ (show decode cX4_reachableWith 61 = .ok (.ireturn, 1) by decide +kernel) rfl (Or.inl rfl)) ⟨rfl, rfl, h⟩
  · have h := h.2 c
    refine s_aload_n (i := 0) rfl (show decode cX4_reachableWith 11 = .ok (.aload_n 0, 1) by decide +kernel) ?_
    refine gf_X4_15 (x := 289) rfl (show decode cX4_reachableWith 12 = .ok (.getfield 15, 3) by decide +kernel) okl_287 rfl ?_
    refine j_iload_n (i := 3) rfl (show decode cX4_reachableWith 15 = .ok (.iload_n 3, 1) by decide +kernel) ?_
    refine s_iald (show decode cX4_reachableWith 16 = .ok (.iaload, 1) by decide +kernel) okl_289 h.1 ?_
    have h := h.2
    refine s_ist (i := 4) (L' := [rv 287, iv p1, iv p2, iv v3, iv (σ 289 v3), uv]) rfl (by decide) (show decode cX4_reachableWith 17 = .ok (.istore 4, 2) by decide +kernel) ?_
    refine s_aload_n (i := 0) rfl (show decode cX4_reachableWith 19 = .ok (.aload_n 0, 1) by decide +kernel) ?_
    refine gf_X4_15 (x := 289) rfl (show decode cX4_reachableWith 20 = .ok (.getfield 15, 3) by decide +kernel) okl_287 rfl ?_
    refine j_iload_n (i := 3) rfl (show decode cX4_reachableWith 23 = .ok (.iload_n 3, 1) by decide +kernel) ?_
    refine j_iload_n (i := 1) rfl (show decode cX4_reachableWith 24 = .ok (.iload_n 1, 1) by decide +kernel) ?_
    have hb1 := h.1
    have h := h.2
    refine s_iast (show decode cX4_reachableWith 25 = .ok (.iastore, 1) by decide +kernel) okl_289 hb1 ?_
    obtain ⟨σ3, eσ3⟩ : ∃ z : jM, z = up σ 289 v3 p1 := ⟨_, rfl⟩
    refine j_sig eσ3 ?_
    have h := h σ3 eσ3
    refine s_aload_n (i := 0) rfl (show decode cX4_reachableWith 26 = .ok (.aload_n 0, 1) by decide +kernel) ?_
    refine j_iload_n (i := 2) rfl (show decode cX4_reachableWith 27 = .ok (.iload_n 2, 1) by decide +kernel) ?_
    refine j_ctV (m' := mX4_reachable) (As := [iv p2]) (ci := 4) (tag := 0) (N := 0) (cw_X4_29 rfl) (show decode cX4_reachableWith 28 = .ok (.invokevirtual 29, 3) by decide +kernel) rfl (Nat.le_of_ble_eq_true rfl) (by decide) okl_287 rfl rfl (Nat.le_refl _) h (fun r4 σ4 h => ?_)
    refine s_ist (i := 5) (L' := [rv 287, iv p1, iv p2, iv v3, iv (σ 289 v3), iv r4]) rfl (by decide) (show decode cX4_reachableWith 31 = .ok (.istore 5, 2) by decide +kernel) ?_
    refine s_aload_n (i := 0) rfl (show decode cX4_reachableWith 33 = .ok (.aload_n 0, 1) by decide +kernel) ?_
    refine gf_X4_15 (x := 289) rfl (show decode cX4_reachableWith 34 = .ok (.getfield 15, 3) by decide +kernel) okl_287 rfl ?_
    refine j_iload_n (i := 3) rfl (show decode cX4_reachableWith 37 = .ok (.iload_n 3, 1) by decide +kernel) ?_
    refine j_iload (i := 4) rfl (show decode cX4_reachableWith 38 = .ok (.iload 4, 2) by decide +kernel) ?_
    have hb4 := h.1
    have h := h.2
    refine s_iast (show decode cX4_reachableWith 40 = .ok (.iastore, 1) by decide +kernel) okl_289 hb4 ?_
    obtain ⟨σ6, eσ6⟩ : ∃ z : jM, z = up σ4 289 v3 (σ 289 v3) := ⟨_, rfl⟩
    refine j_sig eσ6 ?_
    have h := h σ6 eσ6
    refine j_iload (i := 5) rfl (show decode cX4_reachableWith 41 = .ok (.iload 5, 2) by decide +kernel) ?_
    have hr6 := h.1
    have h := h.2
    refine j_if_ne (tgt := 51) hr6 (show decode cX4_reachableWith 43 = .ok (.ifCond .ne 8, 3) by decide +kernel) (by decide) (fun c => ?_) (fun c => ?_)
    · have h := h.1 c
      refine j_iload (i := 5) rfl (show decode cX4_reachableWith 51 = .ok (.iload 5, 2) by decide +kernel) ?_
      have hz7 := h.1
      have h := h.2
      exact j_ret (rokZ (show decode cX4_reachableWith 53 = .ok (.ireturn, 1) by decide +kernel) rfl hz7) ⟨rfl, rfl, h⟩
    · have h := h.2 c
      refine j_iload (i := 4) rfl (show decode cX4_reachableWith 46 = .ok (.iload 4, 2) by decide +kernel) ?_
      have hr8 := h.1
      have h := h.2
      refine j_if_ne (tgt := 54) hr8 (show decode cX4_reachableWith 48 = .ok (.ifCond .ne 6, 3) by decide +kernel) (by decide) (fun c => ?_) (fun c => ?_)
      · have h := h.1 c
        refine s_iinc (i := 3) rfl (L' := [rv 287, iv p1, iv p2, iv (v3 + (-1)), iv (σ 289 v3), iv r4]) rfl (show decode cX4_reachableWith 54 = .ok (.iinc 3 (-1), 3) by decide +kernel) ?_
        refine j_goto (tgt := 7) (show decode cX4_reachableWith 57 = .ok (.goto (-50), 3) by decide +kernel) (by decide) ?_
        refine j_drop 4 ?_
        refine j_drop 5 ?_
        exact h
      · have h := h.2 c
        refine j_iload (i := 5) rfl (show decode cX4_reachableWith 51 = .ok (.iload 5, 2) by decide +kernel) ?_
        have hz9 := h.1
        have h := h.2
        exact j_ret (rokZ (show decode cX4_reachableWith 53 = .ok (.ireturn, 1) by decide +kernel) rfl hz9) ⟨rfl, rfl, h⟩
set_option maxRecDepth 4000 in
theorem b_X4_reachableWith_0 {d : Nat} {t : Int} {Q : Int → jM → Prop} {σ : jM} {p1 p2 : Int} (h : Jt mX4_reachableWith (d + 1) 0 t Q 7 [rv 287, iv p1, iv p2, iv ((σ 287 2) - 1), uv, uv] [] σ) : Jt mX4_reachableWith (d + 1) 0 t Q 0 [rv 287, iv p1, iv p2, uv, uv, uv] [] σ := by
  refine s_aload_n (i := 0) rfl (show decode cX4_reachableWith 0 = .ok (.aload_n 0, 1) by decide +kernel) ?_
  refine gf_X4_26 rfl (show decode cX4_reachableWith 1 = .ok (.getfield 26, 3) by decide +kernel) okl_287 ?_
  refine j_iconst (show decode cX4_reachableWith 4 = .ok (.iconst 1, 1) by decide +kernel) ?_
  refine j_isub (show decode cX4_reachableWith 5 = .ok (.isub, 1) by decide +kernel) ?_
  refine s_ist_n (i := 3) (L' := [rv 287, iv p1, iv p2, iv ((σ 287 2) - 1), uv, uv]) rfl (by decide) (show decode cX4_reachableWith 6 = .ok (.istore_n 3, 1) by decide +kernel) ?_
  exact h
theorem c_X4_reachableWith {d : Nat} {t : Int} {Q : Int → jM → Prop} {σ : jM} {p1 p2 : Int} (h : Jt mX4_reachableWith (d + 1) 0 t Q 7 [rv 287, iv p1, iv p2, iv ((σ 287 2) - 1), uv, uv] [] σ) : Ct mX4_reachableWith (d + 1) 0 t [rv 287, iv p1, iv p2] σ Q := Ct_of (by decide +kernel) (Nat.le_of_ble_eq_true rfl) (b_X4_reachableWith_0 h)
set_option maxRecDepth 4000 in
theorem b_X5_least_0 {d : Nat} {t : Int} {Q : Int → jM → Prop} {σ : jM} {p1 p2 p3 : Int} (h : ∀ σ1 : jM, σ1 = up σ 286 0 p1 → (∀ σ2 : jM, σ2 = up σ1 286 1 p2 → (∀ σ3 : jM, σ3 = up σ2 286 2 p3 → (∀ σ4 : jM, σ4 = up σ3 286 3 ((σ3 286 0) * (p2 + p3)) → (Ct mX5_spend d 9 t [rv 286, iv 1, jv 2, jv 0, iv 0, iv 1] σ4 (fun r5 σ5 => (Q (σ5 286 3) σ5))))))) : Jt mX5_least (d + 1) 0 t Q 0 [rv 286, iv p1, iv p2, iv p3] [] σ := by
  refine s_aload_n (i := 0) rfl (show decode cX5_least 0 = .ok (.aload_n 0, 1) by decide +kernel) ?_
  refine j_iload_n (i := 1) rfl (show decode cX5_least 1 = .ok (.iload_n 1, 1) by decide +kernel) ?_
  refine pf_X5_9 rfl (show decode cX5_least 2 = .ok (.putfield 9, 3) by decide +kernel) okl_286 ?_
  obtain ⟨σ1, eσ1⟩ : ∃ z : jM, z = up σ 286 0 p1 := ⟨_, rfl⟩
  refine j_sig eσ1 ?_
  have h := h σ1 eσ1
  refine s_aload_n (i := 0) rfl (show decode cX5_least 5 = .ok (.aload_n 0, 1) by decide +kernel) ?_
  refine j_iload_n (i := 2) rfl (show decode cX5_least 6 = .ok (.iload_n 2, 1) by decide +kernel) ?_
  refine pf_X5_15 rfl (show decode cX5_least 7 = .ok (.putfield 15, 3) by decide +kernel) okl_286 ?_
  obtain ⟨σ2, eσ2⟩ : ∃ z : jM, z = up σ1 286 1 p2 := ⟨_, rfl⟩
  refine j_sig eσ2 ?_
  have h := h σ2 eσ2
  refine s_aload_n (i := 0) rfl (show decode cX5_least 10 = .ok (.aload_n 0, 1) by decide +kernel) ?_
  refine j_iload_n (i := 3) rfl (show decode cX5_least 11 = .ok (.iload_n 3, 1) by decide +kernel) ?_
  refine pf_X5_18 rfl (show decode cX5_least 12 = .ok (.putfield 18, 3) by decide +kernel) okl_286 ?_
  obtain ⟨σ3, eσ3⟩ : ∃ z : jM, z = up σ2 286 2 p3 := ⟨_, rfl⟩
  refine j_sig eσ3 ?_
  have h := h σ3 eσ3
  refine s_aload_n (i := 0) rfl (show decode cX5_least 15 = .ok (.aload_n 0, 1) by decide +kernel) ?_
  refine s_aload_n (i := 0) rfl (show decode cX5_least 16 = .ok (.aload_n 0, 1) by decide +kernel) ?_
  refine gf_X5_9 rfl (show decode cX5_least 17 = .ok (.getfield 9, 3) by decide +kernel) okl_286 ?_
  refine j_iload_n (i := 2) rfl (show decode cX5_least 20 = .ok (.iload_n 2, 1) by decide +kernel) ?_
  refine j_iload_n (i := 3) rfl (show decode cX5_least 21 = .ok (.iload_n 3, 1) by decide +kernel) ?_
  refine j_iadd (show decode cX5_least 22 = .ok (.iadd, 1) by decide +kernel) ?_
  refine j_imul (show decode cX5_least 23 = .ok (.imul, 1) by decide +kernel) ?_
  refine pf_X5_21 rfl (show decode cX5_least 24 = .ok (.putfield 21, 3) by decide +kernel) okl_286 ?_
  obtain ⟨σ4, eσ4⟩ : ∃ z : jM, z = up σ3 286 3 ((σ3 286 0) * (p2 + p3)) := ⟨_, rfl⟩
  refine j_sig eσ4 ?_
  have h := h σ4 eσ4
  refine s_aload_n (i := 0) rfl (show decode cX5_least 27 = .ok (.aload_n 0, 1) by decide +kernel) ?_
  refine j_iconst (show decode cX5_least 28 = .ok (.iconst 1, 1) by decide +kernel) ?_
  refine j_ldc2 (x := 2) (tt_in 1045 (by decide +kernel) rfl) (show decode cX5_least 29 = .ok (.ldc2_w 24, 3) by decide +kernel) ?_
  refine j_lconst (x := 0) (by decide +kernel) (show decode cX5_least 32 = .ok (.lconst 0, 1) by decide +kernel) ?_
  refine j_iconst (show decode cX5_least 33 = .ok (.iconst 0, 1) by decide +kernel) ?_
  refine j_iconst (show decode cX5_least 34 = .ok (.iconst 1, 1) by decide +kernel) ?_
  refine j_ctVv (m' := mX5_spend) (As := [iv 1, jv 2, jv 0, iv 0, iv 1]) (ci := 5) (N := 0) (cw_X5_26 rfl) (show decode cX5_least 35 = .ok (.invokevirtual 26, 3) by decide +kernel) rfl (Nat.le_of_ble_eq_true rfl) okl_286 rfl rfl (Nat.le_refl _) h (fun r5 σ5 h => ?_)
  refine s_aload_n (i := 0) rfl (show decode cX5_least 38 = .ok (.aload_n 0, 1) by decide +kernel) ?_
  refine gf_X5_21 rfl (show decode cX5_least 39 = .ok (.getfield 21, 3) by decide +kernel) okl_286 ?_
  exact j_ret (rokI (show decode cX5_least 42 = .ok (.ireturn, 1) by decide +kernel) rfl) ⟨rfl, rfl, h⟩
theorem c_X5_least {d : Nat} {t : Int} {Q : Int → jM → Prop} {σ : jM} {p1 p2 p3 : Int} (h : ∀ σ1 : jM, σ1 = up σ 286 0 p1 → (∀ σ2 : jM, σ2 = up σ1 286 1 p2 → (∀ σ3 : jM, σ3 = up σ2 286 2 p3 → (∀ σ4 : jM, σ4 = up σ3 286 3 ((σ3 286 0) * (p2 + p3)) → (Ct mX5_spend d 9 t [rv 286, iv 1, jv 2, jv 0, iv 0, iv 1] σ4 (fun r5 σ5 => (Q (σ5 286 3) σ5))))))) : Ct mX5_least (d + 1) 0 t [rv 286, iv p1, iv p2, iv p3] σ Q := Ct_of (by decide +kernel) (Nat.le_of_ble_eq_true rfl) (b_X5_least_0 h)
set_option maxRecDepth 4000 in
theorem b_X5_spend_194 {d : Nat} {t : Int} {Q : Int → jM → Prop} {σ : jM} {p1 p2 p4 p6 p7 v8 v9 v10 : Int} (h : Jt mX5_spend (d + 1) 9 t Q 27 [rv 286, iv p1, jv p2, uv, jv p4, uv, iv p6, iv p7, iv (v8 + (-1)), uv, uv, uv, uv, uv] [] σ) : Jt mX5_spend (d + 1) 9 t Q 194 [rv 286, iv p1, jv p2, uv, jv p4, uv, iv p6, iv p7, iv v8, iv v9, iv v10, uv, uv, uv] [] σ := by
  refine s_iinc (i := 8) rfl (L' := [rv 286, iv p1, jv p2, uv, jv p4, uv, iv p6, iv p7, iv (v8 + (-1)), iv v9, iv v10, uv, uv, uv]) rfl (show decode cX5_spend 194 = .ok (.iinc 8 (-1), 3) by decide +kernel) ?_
  refine j_goto (tgt := 27) (show decode cX5_spend 197 = .ok (.goto (-170), 3) by decide +kernel) (by decide) ?_
  refine j_drop 9 ?_
  refine j_drop 10 ?_
  exact h
set_option maxRecDepth 4000 in
theorem b_X5_spend_139 {d : Nat} {t : Int} {Q : Int → jM → Prop} {σ : jM} {p1 p2 p4 p6 p7 v8 v9 v10 u0 : Int} (h : Ct mX5_leastFrom d 0 t [rv 286, iv v8, jv (l_or p2 (l_shl 1 v8))] σ (fun r1 σ1 => ((inR ((p6 + u0) + r1)) ∧ ((inR (σ1 286 3)) ∧ (((σ1 286 3) ≤ ((p6 + u0) + r1) → (Jt mX5_spend (d + 1) 9 t Q 194 [rv 286, iv p1, jv p2, uv, jv p4, uv, iv p6, iv p7, iv v8, iv v9, iv v10, uv, uv, uv] [] σ1)) ∧ (((p6 + u0) + r1) < (σ1 286 3) → (Ct mX5_spend d 9 t [rv 286, iv v8, jv (l_or p2 (l_shl 1 v8)), jv (l_or p4 (l_shl p2 v8)), iv (p6 + u0), iv (p7 + 1)] σ1 (fun r4 σ4 => (Jt mX5_spend (d + 1) 9 t Q 194 [rv 286, iv p1, jv p2, uv, jv p4, uv, iv p6, iv p7, iv v8, iv v9, iv v10, uv, uv, uv] [] σ4))))))))) : Jt mX5_spend (d + 1) 9 t Q 139 [rv 286, iv p1, jv p2, uv, jv p4, uv, iv p6, iv p7, iv v8, iv v9, iv v10, uv, uv, uv] [iv u0] σ := by
  refine s_ist (i := 11) (L' := [rv 286, iv p1, jv p2, uv, jv p4, uv, iv p6, iv p7, iv v8, iv v9, iv v10, iv u0, uv, uv]) rfl (by decide) (show decode cX5_spend 139 = .ok (.istore 11, 2) by decide +kernel) ?_
  refine j_lload_n (i := 2) rfl (show decode cX5_spend 141 = .ok (.lload_n 2, 1) by decide +kernel) ?_
  refine j_lconst (x := 1) (by decide +kernel) (show decode cX5_spend 142 = .ok (.lconst 1, 1) by decide +kernel) ?_
  refine j_iload (i := 8) rfl (show decode cX5_spend 143 = .ok (.iload 8, 2) by decide +kernel) ?_
  refine j_lshl (show decode cX5_spend 145 = .ok (.lshl, 1) by decide +kernel) ?_
  refine j_lor (show decode cX5_spend 146 = .ok (.lor, 1) by decide +kernel) ?_
  refine s_lst (i := 12) (L' := [rv 286, iv p1, jv p2, uv, jv p4, uv, iv p6, iv p7, iv v8, iv v9, iv v10, iv u0, jv (l_or p2 (l_shl 1 v8)), uv]) rfl (by decide) (show decode cX5_spend 147 = .ok (.lstore 12, 2) by decide +kernel) ?_
  refine j_iload (i := 6) rfl (show decode cX5_spend 149 = .ok (.iload 6, 2) by decide +kernel) ?_
  refine j_iload (i := 11) rfl (show decode cX5_spend 151 = .ok (.iload 11, 2) by decide +kernel) ?_
  refine j_iadd (show decode cX5_spend 153 = .ok (.iadd, 1) by decide +kernel) ?_
  refine s_aload_n (i := 0) rfl (show decode cX5_spend 154 = .ok (.aload_n 0, 1) by decide +kernel) ?_
  refine j_iload (i := 8) rfl (show decode cX5_spend 155 = .ok (.iload 8, 2) by decide +kernel) ?_
  refine j_lload (i := 12) rfl (show decode cX5_spend 157 = .ok (.lload 12, 2) by decide +kernel) ?_
  refine j_ctV (m' := mX5_leastFrom) (As := [iv v8, jv (l_or p2 (l_shl 1 v8))]) (ci := 5) (tag := 0) (N := 0) (cw_X5_36 rfl) (show decode cX5_spend 159 = .ok (.invokevirtual 36, 3) by decide +kernel) rfl (Nat.le_of_ble_eq_true rfl) (by decide) okl_286 rfl rfl (Nat.le_refl _) h (fun r1 σ1 h => ?_)
  refine j_iadd (show decode cX5_spend 162 = .ok (.iadd, 1) by decide +kernel) ?_
  refine s_aload_n (i := 0) rfl (show decode cX5_spend 163 = .ok (.aload_n 0, 1) by decide +kernel) ?_
  refine gf_X5_21 rfl (show decode cX5_spend 164 = .ok (.getfield 21, 3) by decide +kernel) okl_286 ?_
  have hr1 := h.1
  have h := h.2
  have hr2 := h.1
  have h := h.2
  refine j_icmp_ge (tgt := 194) hr1 hr2 (show decode cX5_spend 167 = .ok (.if_icmp .ge 27, 3) by decide +kernel) (by decide) (fun c => ?_) (fun c => ?_)
  · have h := h.1 c
    refine j_drop 11 ?_
    refine j_drop 12 ?_
    exact h
  · have h := h.2 c
    refine s_aload_n (i := 0) rfl (show decode cX5_spend 170 = .ok (.aload_n 0, 1) by decide +kernel) ?_
    refine j_iload (i := 8) rfl (show decode cX5_spend 171 = .ok (.iload 8, 2) by decide +kernel) ?_
    refine j_lload (i := 12) rfl (show decode cX5_spend 173 = .ok (.lload 12, 2) by decide +kernel) ?_
    refine j_lload (i := 4) rfl (show decode cX5_spend 175 = .ok (.lload 4, 2) by decide +kernel) ?_
    refine j_lload_n (i := 2) rfl (show decode cX5_spend 177 = .ok (.lload_n 2, 1) by decide +kernel) ?_
    refine j_iload (i := 8) rfl (show decode cX5_spend 178 = .ok (.iload 8, 2) by decide +kernel) ?_
    refine j_lshl (show decode cX5_spend 180 = .ok (.lshl, 1) by decide +kernel) ?_
    refine j_lor (show decode cX5_spend 181 = .ok (.lor, 1) by decide +kernel) ?_
    refine j_iload (i := 6) rfl (show decode cX5_spend 182 = .ok (.iload 6, 2) by decide +kernel) ?_
    refine j_iload (i := 11) rfl (show decode cX5_spend 184 = .ok (.iload 11, 2) by decide +kernel) ?_
    refine j_iadd (show decode cX5_spend 186 = .ok (.iadd, 1) by decide +kernel) ?_
    refine j_iload (i := 7) rfl (show decode cX5_spend 187 = .ok (.iload 7, 2) by decide +kernel) ?_
    refine j_iconst (show decode cX5_spend 189 = .ok (.iconst 1, 1) by decide +kernel) ?_
    refine j_iadd (show decode cX5_spend 190 = .ok (.iadd, 1) by decide +kernel) ?_
    refine j_ctVv (m' := mX5_spend) (As := [iv v8, jv (l_or p2 (l_shl 1 v8)), jv (l_or p4 (l_shl p2 v8)), iv (p6 + u0), iv (p7 + 1)]) (ci := 5) (N := 0) (cw_X5_26 rfl) (show decode cX5_spend 191 = .ok (.invokevirtual 26, 3) by decide +kernel) rfl (Nat.le_of_ble_eq_true rfl) okl_286 rfl rfl (Nat.le_refl _) h (fun r4 σ4 h => ?_)
    refine j_drop 11 ?_
    refine j_drop 12 ?_
    exact h
set_option maxRecDepth 4000 in
theorem b_X5_spend_123 {d : Nat} {t : Int} {Q : Int → jM → Prop} {σ : jM} {p1 p2 p4 p6 p7 v8 v9 v10 : Int} (h : (inR v9) ∧ ((v9 = 0 → (Jt mX5_spend (d + 1) 9 t Q 139 [rv 286, iv p1, jv p2, uv, jv p4, uv, iv p6, iv p7, iv v8, iv v9, iv v10, uv, uv, uv] [iv (σ 286 2)] σ)) ∧ (¬ v9 = 0 → (Jt mX5_spend (d + 1) 9 t Q 139 [rv 286, iv p1, jv p2, uv, jv p4, uv, iv p6, iv p7, iv v8, iv v9, iv v10, uv, uv, uv] [iv (σ 286 1)] σ)))) : Jt mX5_spend (d + 1) 9 t Q 123 [rv 286, iv p1, jv p2, uv, jv p4, uv, iv p6, iv p7, iv v8, iv v9, iv v10, uv, uv, uv] [] σ := by
  refine j_iload (i := 9) rfl (show decode cX5_spend 123 = .ok (.iload 9, 2) by decide +kernel) ?_
  have hr0 := h.1
  have h := h.2
  refine j_if_eq (tgt := 135) hr0 (show decode cX5_spend 125 = .ok (.ifCond .eq 10, 3) by decide +kernel) (by decide) (fun c => ?_) (fun c => ?_)
  · have h := h.1 c
    refine s_aload_n (i := 0) rfl (show decode cX5_spend 135 = .ok (.aload_n 0, 1) by decide +kernel) ?_
    refine gf_X5_18 rfl (show decode cX5_spend 136 = .ok (.getfield 18, 3) by decide +kernel) okl_286 ?_
    exact h
  · have h := h.2 c
    refine s_aload_n (i := 0) rfl (show decode cX5_spend 128 = .ok (.aload_n 0, 1) by decide +kernel) ?_
    refine gf_X5_15 rfl (show decode cX5_spend 129 = .ok (.getfield 15, 3) by decide +kernel) okl_286 ?_
    refine j_goto (tgt := 139) (show decode cX5_spend 132 = .ok (.goto 7, 3) by decide +kernel) (by decide) ?_
    exact h
set_option maxRecDepth 4000 in
theorem b_X5_spend_99 {d : Nat} {t : Int} {Q : Int → jM → Prop} {σ : jM} {p1 p2 p4 p6 p7 v8 v9 v10 : Int} (h : (inR v9) ∧ ((v9 = 0 → (Jt mX5_spend (d + 1) 9 t Q 123 [rv 286, iv p1, jv p2, uv, jv p4, uv, iv p6, iv p7, iv v8, iv v9, iv v10, uv, uv, uv] [] σ)) ∧ (¬ v9 = 0 → ((inR v10) ∧ ((v10 = 0 → (Jt mX5_spend (d + 1) 9 t Q 123 [rv 286, iv p1, jv p2, uv, jv p4, uv, iv p6, iv p7, iv v8, iv v9, iv v10, uv, uv, uv] [] σ)) ∧ (¬ v10 = 0 → ((inR (σ 286 1)) ∧ ((inR (σ 286 2)) ∧ (Jt mX5_spend (d + 1) 9 t Q 139 [rv 286, iv p1, jv p2, uv, jv p4, uv, iv p6, iv p7, iv v8, iv v9, iv v10, uv, uv, uv] [iv (min (σ 286 1) (σ 286 2))] σ))))))))) : Jt mX5_spend (d + 1) 9 t Q 99 [rv 286, iv p1, jv p2, uv, jv p4, uv, iv p6, iv p7, iv v8, iv v9, iv v10, uv, uv, uv] [] σ := by
  refine j_iload (i := 9) rfl (show decode cX5_spend 99 = .ok (.iload 9, 2) by decide +kernel) ?_
  have hr0 := h.1
  have h := h.2
  refine j_if_eq (tgt := 123) hr0 (show decode cX5_spend 101 = .ok (.ifCond .eq 22, 3) by decide +kernel) (by decide) (fun c => ?_) (fun c => ?_)
  · have h := h.1 c
    exact h
  · have h := h.2 c
    refine j_iload (i := 10) rfl (show decode cX5_spend 104 = .ok (.iload 10, 2) by decide +kernel) ?_
    have hr1 := h.1
    have h := h.2
    refine j_if_eq (tgt := 123) hr1 (show decode cX5_spend 106 = .ok (.ifCond .eq 17, 3) by decide +kernel) (by decide) (fun c => ?_) (fun c => ?_)
    · have h := h.1 c
      exact h
    · have h := h.2 c
      refine s_aload_n (i := 0) rfl (show decode cX5_spend 109 = .ok (.aload_n 0, 1) by decide +kernel) ?_
      refine gf_X5_15 rfl (show decode cX5_spend 110 = .ok (.getfield 15, 3) by decide +kernel) okl_286 ?_
      refine s_aload_n (i := 0) rfl (show decode cX5_spend 113 = .ok (.aload_n 0, 1) by decide +kernel) ?_
      refine gf_X5_18 rfl (show decode cX5_spend 114 = .ok (.getfield 18, 3) by decide +kernel) okl_286 ?_
      have hr2 := h.1
      have h := h.2
      have hr3 := h.1
      have h := h.2
      refine j_min (tt_in 1050 (by decide +kernel) rfl) (by omega) (Nat.le_of_ble_eq_true rfl) hr2 hr3 (show decode cX5_spend 117 = .ok (.invokestatic 30, 3) by decide +kernel) ?_
      refine j_goto (tgt := 139) (show decode cX5_spend 120 = .ok (.goto 19, 3) by decide +kernel) (by decide) ?_
      exact h
set_option maxRecDepth 4000 in
theorem b_X5_spend_27 {d : Nat} {t : Int} {Q : Int → jM → Prop} {σ : jM} {p1 p2 p4 p6 p7 v8 : Int} (h : (inR v8) ∧ ((inR p1) ∧ ((v8 ≤ p1 → (Q 0 σ)) ∧ (p1 < v8 → ((inR p7) ∧ ((40 ≤ p7 → (Q 0 σ)) ∧ (p7 < 40 → ((inR v8) ∧ ((inR (Int.tmod v8 2)) ∧ ((¬ (Int.tmod v8 2) = 0 → ((inL (l_and (l_ushr p4 v8) 1)) ∧ ((¬ (l_and (l_ushr p4 v8) 1) = 1 → ((¬ (0 : Int) = 0 → (Jt mX5_spend (d + 1) 9 t Q 99 [rv 286, iv p1, jv p2, uv, jv p4, uv, iv p6, iv p7, iv v8, iv 0, iv 0, uv, uv, uv] [] σ)) ∧ ((0 : Int) = 0 → ((¬ (0 : Int) = 0 → (Jt mX5_spend (d + 1) 9 t Q 99 [rv 286, iv p1, jv p2, uv, jv p4, uv, iv p6, iv p7, iv v8, iv 0, iv 0, uv, uv, uv] [] σ)) ∧ ((0 : Int) = 0 → (Jt mX5_spend (d + 1) 9 t Q 194 [rv 286, iv p1, jv p2, uv, jv p4, uv, iv p6, iv p7, iv v8, iv 0, iv 0, uv, uv, uv] [] σ)))))) ∧ ((l_and (l_ushr p4 v8) 1) = 1 → ((¬ (0 : Int) = 0 → (Jt mX5_spend (d + 1) 9 t Q 99 [rv 286, iv p1, jv p2, uv, jv p4, uv, iv p6, iv p7, iv v8, iv 0, iv 1, uv, uv, uv] [] σ)) ∧ ((0 : Int) = 0 → ((¬ (1 : Int) = 0 → (Jt mX5_spend (d + 1) 9 t Q 99 [rv 286, iv p1, jv p2, uv, jv p4, uv, iv p6, iv p7, iv v8, iv 0, iv 1, uv, uv, uv] [] σ)) ∧ ((1 : Int) = 0 → (Jt mX5_spend (d + 1) 9 t Q 194 [rv 286, iv p1, jv p2, uv, jv p4, uv, iv p6, iv p7, iv v8, iv 0, iv 1, uv, uv, uv] [] σ))))))))) ∧ ((Int.tmod v8 2) = 0 → ((inR v8) ∧ ((inL (l_and (l_ushr p2 (Int.tdiv v8 2)) 1)) ∧ ((¬ (l_and (l_ushr p2 (Int.tdiv v8 2)) 1) = 1 → ((inL (l_and (l_ushr p4 v8) 1)) ∧ ((¬ (l_and (l_ushr p4 v8) 1) = 1 → ((¬ (0 : Int) = 0 → (Jt mX5_spend (d + 1) 9 t Q 99 [rv 286, iv p1, jv p2, uv, jv p4, uv, iv p6, iv p7, iv v8, iv 0, iv 0, uv, uv, uv] [] σ)) ∧ ((0 : Int) = 0 → ((¬ (0 : Int) = 0 → (Jt mX5_spend (d + 1) 9 t Q 99 [rv 286, iv p1, jv p2, uv, jv p4, uv, iv p6, iv p7, iv v8, iv 0, iv 0, uv, uv, uv] [] σ)) ∧ ((0 : Int) = 0 → (Jt mX5_spend (d + 1) 9 t Q 194 [rv 286, iv p1, jv p2, uv, jv p4, uv, iv p6, iv p7, iv v8, iv 0, iv 0, uv, uv, uv] [] σ)))))) ∧ ((l_and (l_ushr p4 v8) 1) = 1 → ((¬ (0 : Int) = 0 → (Jt mX5_spend (d + 1) 9 t Q 99 [rv 286, iv p1, jv p2, uv, jv p4, uv, iv p6, iv p7, iv v8, iv 0, iv 1, uv, uv, uv] [] σ)) ∧ ((0 : Int) = 0 → ((¬ (1 : Int) = 0 → (Jt mX5_spend (d + 1) 9 t Q 99 [rv 286, iv p1, jv p2, uv, jv p4, uv, iv p6, iv p7, iv v8, iv 0, iv 1, uv, uv, uv] [] σ)) ∧ ((1 : Int) = 0 → (Jt mX5_spend (d + 1) 9 t Q 194 [rv 286, iv p1, jv p2, uv, jv p4, uv, iv p6, iv p7, iv v8, iv 0, iv 1, uv, uv, uv] [] σ))))))))) ∧ ((l_and (l_ushr p2 (Int.tdiv v8 2)) 1) = 1 → ((inL (l_and (l_ushr p4 v8) 1)) ∧ ((¬ (l_and (l_ushr p4 v8) 1) = 1 → ((¬ (1 : Int) = 0 → (Jt mX5_spend (d + 1) 9 t Q 99 [rv 286, iv p1, jv p2, uv, jv p4, uv, iv p6, iv p7, iv v8, iv 1, iv 0, uv, uv, uv] [] σ)) ∧ ((1 : Int) = 0 → ((¬ (0 : Int) = 0 → (Jt mX5_spend (d + 1) 9 t Q 99 [rv 286, iv p1, jv p2, uv, jv p4, uv, iv p6, iv p7, iv v8, iv 1, iv 0, uv, uv, uv] [] σ)) ∧ ((0 : Int) = 0 → (Jt mX5_spend (d + 1) 9 t Q 194 [rv 286, iv p1, jv p2, uv, jv p4, uv, iv p6, iv p7, iv v8, iv 1, iv 0, uv, uv, uv] [] σ)))))) ∧ ((l_and (l_ushr p4 v8) 1) = 1 → ((¬ (1 : Int) = 0 → (Jt mX5_spend (d + 1) 9 t Q 99 [rv 286, iv p1, jv p2, uv, jv p4, uv, iv p6, iv p7, iv v8, iv 1, iv 1, uv, uv, uv] [] σ)) ∧ ((1 : Int) = 0 → ((¬ (1 : Int) = 0 → (Jt mX5_spend (d + 1) 9 t Q 99 [rv 286, iv p1, jv p2, uv, jv p4, uv, iv p6, iv p7, iv v8, iv 1, iv 1, uv, uv, uv] [] σ)) ∧ ((1 : Int) = 0 → (Jt mX5_spend (d + 1) 9 t Q 194 [rv 286, iv p1, jv p2, uv, jv p4, uv, iv p6, iv p7, iv v8, iv 1, iv 1, uv, uv, uv] [] σ))))))))))))))))))))))) : Jt mX5_spend (d + 1) 9 t Q 27 [rv 286, iv p1, jv p2, uv, jv p4, uv, iv p6, iv p7, iv v8, uv, uv, uv, uv, uv] [] σ := by
  refine j_iload (i := 8) rfl (show decode cX5_spend 27 = .ok (.iload 8, 2) by decide +kernel) ?_
  refine j_iload_n (i := 1) rfl (show decode cX5_spend 29 = .ok (.iload_n 1, 1) by decide +kernel) ?_
  have hr0 := h.1
  have h := h.2
  have hr1 := h.1
  have h := h.2
  refine j_icmp_le (tgt := 200) hr0 hr1 (show decode cX5_spend 30 = .ok (.if_icmp .le 170, 3) by decide +kernel) (by decide) (fun c => ?_) (fun c => ?_)
  · have h := h.1 c
    exact j_ret (rokV (show decode cX5_spend 200 = .ok (.return_, 1) by decide +kernel) rfl) ⟨rfl, rfl, h⟩
  · have h := h.2 c
    refine j_iload (i := 7) rfl (show decode cX5_spend 33 = .ok (.iload 7, 2) by decide +kernel) ?_
    refine j_bipush (n := 40) (by decide +kernel) (show decode cX5_spend 35 = .ok (.bipush 40, 2) by decide +kernel) ?_
    have hr2 := h.1
    have h := h.2
    refine j_icmp_ge (tgt := 200) hr2 (inl (by decide)) (show decode cX5_spend 37 = .ok (.if_icmp .ge 163, 3) by decide +kernel) (by decide) (fun c => ?_) (fun c => ?_)
    · have h := h.1 c
      exact j_ret (rokV (show decode cX5_spend 200 = .ok (.return_, 1) by decide +kernel) rfl) ⟨rfl, rfl, h⟩
    · have h := h.2 c
      refine j_iload (i := 8) rfl (show decode cX5_spend 40 = .ok (.iload 8, 2) by decide +kernel) ?_
      refine j_iconst (show decode cX5_spend 42 = .ok (.iconst 2, 1) by decide +kernel) ?_
      have hr3 := h.1
      have h := h.2
      refine j_irem hr3 (inl (by decide)) (by decide) (show decode cX5_spend 43 = .ok (.irem, 1) by decide +kernel) ?_
      have hr4 := h.1
      have h := h.2
      refine j_if_ne (tgt := 64) hr4 (show decode cX5_spend 44 = .ok (.ifCond .ne 20, 3) by decide +kernel) (by decide) (fun c => ?_) (fun c => ?_)
      · have h := h.1 c
        refine j_iconst (show decode cX5_spend 64 = .ok (.iconst 0, 1) by decide +kernel) ?_
        refine s_ist (i := 9) (L' := [rv 286, iv p1, jv p2, uv, jv p4, uv, iv p6, iv p7, iv v8, iv 0, uv, uv, uv, uv]) rfl (by decide) (show decode cX5_spend 65 = .ok (.istore 9, 2) by decide +kernel) ?_
        refine j_lload (i := 4) rfl (show decode cX5_spend 67 = .ok (.lload 4, 2) by decide +kernel) ?_
        refine j_iload (i := 8) rfl (show decode cX5_spend 69 = .ok (.iload 8, 2) by decide +kernel) ?_
        refine j_lushr (show decode cX5_spend 71 = .ok (.lushr, 1) by decide +kernel) ?_
        refine j_lconst (x := 1) (by decide +kernel) (show decode cX5_spend 72 = .ok (.lconst 1, 1) by decide +kernel) ?_
        refine j_land (show decode cX5_spend 73 = .ok (.land, 1) by decide +kernel) ?_
        refine j_lconst (x := 1) (by decide +kernel) (show decode cX5_spend 74 = .ok (.lconst 1, 1) by decide +kernel) ?_
        have hr5 := h.1
        have h := h.2
        refine s_lif_ne (tgt := 83) hr5 (inll (by decide)) (show decode cX5_spend 75 = .ok (.lcmp, 1) by decide +kernel) (show decode cX5_spend 76 = .ok (.ifCond .ne 7, 3) by decide +kernel) (by decide) (fun c => ?_) (fun c => ?_)
        · have h := h.1 c
          refine j_iconst (show decode cX5_spend 83 = .ok (.iconst 0, 1) by decide +kernel) ?_
          refine s_ist (i := 10) (L' := [rv 286, iv p1, jv p2, uv, jv p4, uv, iv p6, iv p7, iv v8, iv 0, iv 0, uv, uv, uv]) rfl (by decide) (show decode cX5_spend 84 = .ok (.istore 10, 2) by decide +kernel) ?_
          refine j_iload (i := 9) rfl (show decode cX5_spend 86 = .ok (.iload 9, 2) by decide +kernel) ?_
          refine j_if_ne (tgt := 99) (inl (by decide)) (show decode cX5_spend 88 = .ok (.ifCond .ne 11, 3) by decide +kernel) (by decide) (fun c => ?_) (fun c => ?_)
          · have h := h.1 c
            exact h
          · have h := h.2 c
            refine j_iload (i := 10) rfl (show decode cX5_spend 91 = .ok (.iload 10, 2) by decide +kernel) ?_
            refine j_if_ne (tgt := 99) (inl (by decide)) (show decode cX5_spend 93 = .ok (.ifCond .ne 6, 3) by decide +kernel) (by decide) (fun c => ?_) (fun c => ?_)
            · have h := h.1 c
              exact h
            · have h := h.2 c
              refine j_goto (tgt := 194) (show decode cX5_spend 96 = .ok (.goto 98, 3) by decide +kernel) (by decide) ?_
              exact h
        · have h := h.2 c
          refine j_iconst (show decode cX5_spend 79 = .ok (.iconst 1, 1) by decide +kernel) ?_
          refine j_goto (tgt := 84) (show decode cX5_spend 80 = .ok (.goto 4, 3) by decide +kernel) (by decide) ?_
          refine s_ist (i := 10) (L' := [rv 286, iv p1, jv p2, uv, jv p4, uv, iv p6, iv p7, iv v8, iv 0, iv 1, uv, uv, uv]) rfl (by decide) (show decode cX5_spend 84 = .ok (.istore 10, 2) by decide +kernel) ?_
          refine j_iload (i := 9) rfl (show decode cX5_spend 86 = .ok (.iload 9, 2) by decide +kernel) ?_
          refine j_if_ne (tgt := 99) (inl (by decide)) (show decode cX5_spend 88 = .ok (.ifCond .ne 11, 3) by decide +kernel) (by decide) (fun c => ?_) (fun c => ?_)
          · have h := h.1 c
            exact h
          · have h := h.2 c
            refine j_iload (i := 10) rfl (show decode cX5_spend 91 = .ok (.iload 10, 2) by decide +kernel) ?_
            refine j_if_ne (tgt := 99) (inl (by decide)) (show decode cX5_spend 93 = .ok (.ifCond .ne 6, 3) by decide +kernel) (by decide) (fun c => ?_) (fun c => ?_)
            · have h := h.1 c
              exact h
            · have h := h.2 c
              refine j_goto (tgt := 194) (show decode cX5_spend 96 = .ok (.goto 98, 3) by decide +kernel) (by decide) ?_
              exact h
      · have h := h.2 c
        refine j_lload_n (i := 2) rfl (show decode cX5_spend 47 = .ok (.lload_n 2, 1) by decide +kernel) ?_
        refine j_iload (i := 8) rfl (show decode cX5_spend 48 = .ok (.iload 8, 2) by decide +kernel) ?_
        refine j_iconst (show decode cX5_spend 50 = .ok (.iconst 2, 1) by decide +kernel) ?_
        have hr6 := h.1
        have h := h.2
        refine j_idiv hr6 (inl (by decide)) (by decide) (show decode cX5_spend 51 = .ok (.idiv, 1) by decide +kernel) ?_
        refine j_lushr (show decode cX5_spend 52 = .ok (.lushr, 1) by decide +kernel) ?_
        refine j_lconst (x := 1) (by decide +kernel) (show decode cX5_spend 53 = .ok (.lconst 1, 1) by decide +kernel) ?_
        refine j_land (show decode cX5_spend 54 = .ok (.land, 1) by decide +kernel) ?_
        refine j_lconst (x := 1) (by decide +kernel) (show decode cX5_spend 55 = .ok (.lconst 1, 1) by decide +kernel) ?_
        have hr7 := h.1
        have h := h.2
        refine s_lif_ne (tgt := 64) hr7 (inll (by decide)) (show decode cX5_spend 56 = .ok (.lcmp, 1) by decide +kernel) (show decode cX5_spend 57 = .ok (.ifCond .ne 7, 3) by decide +kernel) (by decide) (fun c => ?_) (fun c => ?_)
        · have h := h.1 c
          refine j_iconst (show decode cX5_spend 64 = .ok (.iconst 0, 1) by decide +kernel) ?_
          refine s_ist (i := 9) (L' := [rv 286, iv p1, jv p2, uv, jv p4, uv, iv p6, iv p7, iv v8, iv 0, uv, uv, uv, uv]) rfl (by decide) (show decode cX5_spend 65 = .ok (.istore 9, 2) by decide +kernel) ?_
          refine j_lload (i := 4) rfl (show decode cX5_spend 67 = .ok (.lload 4, 2) by decide +kernel) ?_
          refine j_iload (i := 8) rfl (show decode cX5_spend 69 = .ok (.iload 8, 2) by decide +kernel) ?_
          refine j_lushr (show decode cX5_spend 71 = .ok (.lushr, 1) by decide +kernel) ?_
          refine j_lconst (x := 1) (by decide +kernel) (show decode cX5_spend 72 = .ok (.lconst 1, 1) by decide +kernel) ?_
          refine j_land (show decode cX5_spend 73 = .ok (.land, 1) by decide +kernel) ?_
          refine j_lconst (x := 1) (by decide +kernel) (show decode cX5_spend 74 = .ok (.lconst 1, 1) by decide +kernel) ?_
          have hr8 := h.1
          have h := h.2
          refine s_lif_ne (tgt := 83) hr8 (inll (by decide)) (show decode cX5_spend 75 = .ok (.lcmp, 1) by decide +kernel) (show decode cX5_spend 76 = .ok (.ifCond .ne 7, 3) by decide +kernel) (by decide) (fun c => ?_) (fun c => ?_)
          · have h := h.1 c
            refine j_iconst (show decode cX5_spend 83 = .ok (.iconst 0, 1) by decide +kernel) ?_
            refine s_ist (i := 10) (L' := [rv 286, iv p1, jv p2, uv, jv p4, uv, iv p6, iv p7, iv v8, iv 0, iv 0, uv, uv, uv]) rfl (by decide) (show decode cX5_spend 84 = .ok (.istore 10, 2) by decide +kernel) ?_
            refine j_iload (i := 9) rfl (show decode cX5_spend 86 = .ok (.iload 9, 2) by decide +kernel) ?_
            refine j_if_ne (tgt := 99) (inl (by decide)) (show decode cX5_spend 88 = .ok (.ifCond .ne 11, 3) by decide +kernel) (by decide) (fun c => ?_) (fun c => ?_)
            · have h := h.1 c
              exact h
            · have h := h.2 c
              refine j_iload (i := 10) rfl (show decode cX5_spend 91 = .ok (.iload 10, 2) by decide +kernel) ?_
              refine j_if_ne (tgt := 99) (inl (by decide)) (show decode cX5_spend 93 = .ok (.ifCond .ne 6, 3) by decide +kernel) (by decide) (fun c => ?_) (fun c => ?_)
              · have h := h.1 c
                exact h
              · have h := h.2 c
                refine j_goto (tgt := 194) (show decode cX5_spend 96 = .ok (.goto 98, 3) by decide +kernel) (by decide) ?_
                exact h
          · have h := h.2 c
            refine j_iconst (show decode cX5_spend 79 = .ok (.iconst 1, 1) by decide +kernel) ?_
            refine j_goto (tgt := 84) (show decode cX5_spend 80 = .ok (.goto 4, 3) by decide +kernel) (by decide) ?_
            refine s_ist (i := 10) (L' := [rv 286, iv p1, jv p2, uv, jv p4, uv, iv p6, iv p7, iv v8, iv 0, iv 1, uv, uv, uv]) rfl (by decide) (show decode cX5_spend 84 = .ok (.istore 10, 2) by decide +kernel) ?_
            refine j_iload (i := 9) rfl (show decode cX5_spend 86 = .ok (.iload 9, 2) by decide +kernel) ?_
            refine j_if_ne (tgt := 99) (inl (by decide)) (show decode cX5_spend 88 = .ok (.ifCond .ne 11, 3) by decide +kernel) (by decide) (fun c => ?_) (fun c => ?_)
            · have h := h.1 c
              exact h
            · have h := h.2 c
              refine j_iload (i := 10) rfl (show decode cX5_spend 91 = .ok (.iload 10, 2) by decide +kernel) ?_
              refine j_if_ne (tgt := 99) (inl (by decide)) (show decode cX5_spend 93 = .ok (.ifCond .ne 6, 3) by decide +kernel) (by decide) (fun c => ?_) (fun c => ?_)
              · have h := h.1 c
                exact h
              · have h := h.2 c
                refine j_goto (tgt := 194) (show decode cX5_spend 96 = .ok (.goto 98, 3) by decide +kernel) (by decide) ?_
                exact h
        · have h := h.2 c
          refine j_iconst (show decode cX5_spend 60 = .ok (.iconst 1, 1) by decide +kernel) ?_
          refine j_goto (tgt := 65) (show decode cX5_spend 61 = .ok (.goto 4, 3) by decide +kernel) (by decide) ?_
          refine s_ist (i := 9) (L' := [rv 286, iv p1, jv p2, uv, jv p4, uv, iv p6, iv p7, iv v8, iv 1, uv, uv, uv, uv]) rfl (by decide) (show decode cX5_spend 65 = .ok (.istore 9, 2) by decide +kernel) ?_
          refine j_lload (i := 4) rfl (show decode cX5_spend 67 = .ok (.lload 4, 2) by decide +kernel) ?_
          refine j_iload (i := 8) rfl (show decode cX5_spend 69 = .ok (.iload 8, 2) by decide +kernel) ?_
          refine j_lushr (show decode cX5_spend 71 = .ok (.lushr, 1) by decide +kernel) ?_
          refine j_lconst (x := 1) (by decide +kernel) (show decode cX5_spend 72 = .ok (.lconst 1, 1) by decide +kernel) ?_
          refine j_land (show decode cX5_spend 73 = .ok (.land, 1) by decide +kernel) ?_
          refine j_lconst (x := 1) (by decide +kernel) (show decode cX5_spend 74 = .ok (.lconst 1, 1) by decide +kernel) ?_
          have hr9 := h.1
          have h := h.2
          refine s_lif_ne (tgt := 83) hr9 (inll (by decide)) (show decode cX5_spend 75 = .ok (.lcmp, 1) by decide +kernel) (show decode cX5_spend 76 = .ok (.ifCond .ne 7, 3) by decide +kernel) (by decide) (fun c => ?_) (fun c => ?_)
          · have h := h.1 c
            refine j_iconst (show decode cX5_spend 83 = .ok (.iconst 0, 1) by decide +kernel) ?_
            refine s_ist (i := 10) (L' := [rv 286, iv p1, jv p2, uv, jv p4, uv, iv p6, iv p7, iv v8, iv 1, iv 0, uv, uv, uv]) rfl (by decide) (show decode cX5_spend 84 = .ok (.istore 10, 2) by decide +kernel) ?_
            refine j_iload (i := 9) rfl (show decode cX5_spend 86 = .ok (.iload 9, 2) by decide +kernel) ?_
            refine j_if_ne (tgt := 99) (inl (by decide)) (show decode cX5_spend 88 = .ok (.ifCond .ne 11, 3) by decide +kernel) (by decide) (fun c => ?_) (fun c => ?_)
            · have h := h.1 c
              exact h
            · have h := h.2 c
              refine j_iload (i := 10) rfl (show decode cX5_spend 91 = .ok (.iload 10, 2) by decide +kernel) ?_
              refine j_if_ne (tgt := 99) (inl (by decide)) (show decode cX5_spend 93 = .ok (.ifCond .ne 6, 3) by decide +kernel) (by decide) (fun c => ?_) (fun c => ?_)
              · have h := h.1 c
                exact h
              · have h := h.2 c
                refine j_goto (tgt := 194) (show decode cX5_spend 96 = .ok (.goto 98, 3) by decide +kernel) (by decide) ?_
                exact h
          · have h := h.2 c
            refine j_iconst (show decode cX5_spend 79 = .ok (.iconst 1, 1) by decide +kernel) ?_
            refine j_goto (tgt := 84) (show decode cX5_spend 80 = .ok (.goto 4, 3) by decide +kernel) (by decide) ?_
            refine s_ist (i := 10) (L' := [rv 286, iv p1, jv p2, uv, jv p4, uv, iv p6, iv p7, iv v8, iv 1, iv 1, uv, uv, uv]) rfl (by decide) (show decode cX5_spend 84 = .ok (.istore 10, 2) by decide +kernel) ?_
            refine j_iload (i := 9) rfl (show decode cX5_spend 86 = .ok (.iload 9, 2) by decide +kernel) ?_
            refine j_if_ne (tgt := 99) (inl (by decide)) (show decode cX5_spend 88 = .ok (.ifCond .ne 11, 3) by decide +kernel) (by decide) (fun c => ?_) (fun c => ?_)
            · have h := h.1 c
              exact h
            · have h := h.2 c
              refine j_iload (i := 10) rfl (show decode cX5_spend 91 = .ok (.iload 10, 2) by decide +kernel) ?_
              refine j_if_ne (tgt := 99) (inl (by decide)) (show decode cX5_spend 93 = .ok (.ifCond .ne 6, 3) by decide +kernel) (by decide) (fun c => ?_) (fun c => ?_)
              · have h := h.1 c
                exact h
              · have h := h.2 c
                refine j_goto (tgt := 194) (show decode cX5_spend 96 = .ok (.goto 98, 3) by decide +kernel) (by decide) ?_
                exact h
set_option maxRecDepth 4000 in
theorem b_X5_spend_0 {d : Nat} {t : Int} {Q : Int → jM → Prop} {σ : jM} {p1 p2 p4 p6 p7 : Int} (h : (inR p1) ∧ ((inR (σ 286 0)) ∧ ((¬ p1 = (σ 286 0) → ((inR (σ 286 0)) ∧ ((inR (2 * p1)) ∧ (Jt mX5_spend (d + 1) 9 t Q 27 [rv 286, iv p1, jv p2, uv, jv p4, uv, iv p6, iv p7, iv (min (σ 286 0) (2 * p1)), uv, uv, uv, uv, uv] [] σ)))) ∧ (p1 = (σ 286 0) → (∀ σ5 : jM, σ5 = up σ 286 3 p6 → (Q 0 σ5)))))) : Jt mX5_spend (d + 1) 9 t Q 0 [rv 286, iv p1, jv p2, uv, jv p4, uv, iv p6, iv p7, uv, uv, uv, uv, uv, uv] [] σ := by
  refine j_iload_n (i := 1) rfl (show decode cX5_spend 0 = .ok (.iload_n 1, 1) by decide +kernel) ?_
  refine s_aload_n (i := 0) rfl (show decode cX5_spend 1 = .ok (.aload_n 0, 1) by decide +kernel) ?_
  refine gf_X5_9 rfl (show decode cX5_spend 2 = .ok (.getfield 9, 3) by decide +kernel) okl_286 ?_
  have hr0 := h.1
  have h := h.2
  have hr1 := h.1
  have h := h.2
  refine j_icmp_ne (tgt := 15) hr0 hr1 (show decode cX5_spend 5 = .ok (.if_icmp .ne 10, 3) by decide +kernel) (by decide) (fun c => ?_) (fun c => ?_)
  · have h := h.1 c
    refine s_aload_n (i := 0) rfl (show decode cX5_spend 15 = .ok (.aload_n 0, 1) by decide +kernel) ?_
    refine gf_X5_9 rfl (show decode cX5_spend 16 = .ok (.getfield 9, 3) by decide +kernel) okl_286 ?_
    refine j_iconst (show decode cX5_spend 19 = .ok (.iconst 2, 1) by decide +kernel) ?_
    refine j_iload_n (i := 1) rfl (show decode cX5_spend 20 = .ok (.iload_n 1, 1) by decide +kernel) ?_
    refine j_imul (show decode cX5_spend 21 = .ok (.imul, 1) by decide +kernel) ?_
    have hr2 := h.1
    have h := h.2
    have hr3 := h.1
    have h := h.2
    refine j_min (tt_in 1050 (by decide +kernel) rfl) (by omega) (Nat.le_of_ble_eq_true rfl) hr2 hr3 (show decode cX5_spend 22 = .ok (.invokestatic 30, 3) by decide +kernel) ?_
    refine s_ist (i := 8) (L' := [rv 286, iv p1, jv p2, uv, jv p4, uv, iv p6, iv p7, iv (min (σ 286 0) (2 * p1)), uv, uv, uv, uv, uv]) rfl (by decide) (show decode cX5_spend 25 = .ok (.istore 8, 2) by decide +kernel) ?_
    exact h
  · have h := h.2 c
    refine s_aload_n (i := 0) rfl (show decode cX5_spend 8 = .ok (.aload_n 0, 1) by decide +kernel) ?_
    refine j_iload (i := 6) rfl (show decode cX5_spend 9 = .ok (.iload 6, 2) by decide +kernel) ?_
    refine pf_X5_21 rfl (show decode cX5_spend 11 = .ok (.putfield 21, 3) by decide +kernel) okl_286 ?_
    obtain ⟨σ5, eσ5⟩ : ∃ z : jM, z = up σ 286 3 p6 := ⟨_, rfl⟩
    refine j_sig eσ5 ?_
    have h := h σ5 eσ5
    exact j_ret (rokV (show decode cX5_spend 14 = .ok (.return_, 1) by decide +kernel) rfl) ⟨rfl, rfl, h⟩
theorem c_X5_spend {d : Nat} {t : Int} {Q : Int → jM → Prop} {σ : jM} {p1 p2 p4 p6 p7 : Int} (h : (inR p1) ∧ ((inR (σ 286 0)) ∧ ((¬ p1 = (σ 286 0) → ((inR (σ 286 0)) ∧ ((inR (2 * p1)) ∧ (Jt mX5_spend (d + 1) 9 t Q 27 [rv 286, iv p1, jv p2, uv, jv p4, uv, iv p6, iv p7, iv (min (σ 286 0) (2 * p1)), uv, uv, uv, uv, uv] [] σ)))) ∧ (p1 = (σ 286 0) → (∀ σ5 : jM, σ5 = up σ 286 3 p6 → (Q 0 σ5)))))) : Ct mX5_spend (d + 1) 9 t [rv 286, iv p1, jv p2, jv p4, iv p6, iv p7] σ Q := Ct_of (by decide +kernel) (Nat.le_of_ble_eq_true rfl) (b_X5_spend_0 h)
set_option maxRecDepth 4000 in
theorem b_X5_leastFrom_10 {d : Nat} {t : Int} {Q : Int → jM → Prop} {σ : jM} {p1 p2 v4 v5 : Int} (h : (inR v5) ∧ ((inR (σ 286 0)) ∧ (((σ 286 0) ≤ v5 → ((inR v4) ∧ ((v4 = 0 → ((inR (σ 286 1)) ∧ ((inR (σ 286 2)) ∧ (Q (v4 * (min (σ 286 1) (σ 286 2))) σ)))) ∧ (¬ v4 = 0 → ((inR (σ 286 2)) ∧ ((inR (σ 286 1)) ∧ (((σ 286 1) < (σ 286 2) → (Ct mX5_doublingsFrom d 0 t [rv 286, jv p2] σ (fun r8 σ8 => ((inR r8) ∧ ((¬ r8 = (-1) → ((inR (r8 * (σ8 286 1))) ∧ ((inR (((v4 - 1) * (σ 286 1)) + (σ 286 2))) ∧ (Q (min (r8 * (σ8 286 1)) (((v4 - 1) * (σ 286 1)) + (σ 286 2))) σ8)))) ∧ (r8 = (-1) → (Q (((v4 - 1) * (σ 286 1)) + (σ 286 2)) σ8))))))) ∧ ((σ 286 2) ≤ (σ 286 1) → ((inR (σ 286 1)) ∧ ((inR (σ 286 2)) ∧ (Q (v4 * (min (σ 286 1) (σ 286 2))) σ))))))))))) ∧ (v5 < (σ 286 0) → (Jt mX5_leastFrom (d + 1) 0 t Q 10 [rv 286, iv p1, jv p2, uv, iv (v4 + 1), iv (v5 * 2), uv] [] σ))))) : Jt mX5_leastFrom (d + 1) 0 t Q 10 [rv 286, iv p1, jv p2, uv, iv v4, iv v5, uv] [] σ := by
  refine j_iload (i := 5) rfl (show decode cX5_leastFrom 10 = .ok (.iload 5, 2) by decide +kernel) ?_
  refine s_aload_n (i := 0) rfl (show decode cX5_leastFrom 12 = .ok (.aload_n 0, 1) by decide +kernel) ?_
  refine gf_X5_9 rfl (show decode cX5_leastFrom 13 = .ok (.getfield 9, 3) by decide +kernel) okl_286 ?_
  have hr0 := h.1
  have h := h.2
  have hr1 := h.1
  have h := h.2
  refine j_icmp_ge (tgt := 31) hr0 hr1 (show decode cX5_leastFrom 16 = .ok (.if_icmp .ge 15, 3) by decide +kernel) (by decide) (fun c => ?_) (fun c => ?_)
  · have h := h.1 c
    refine j_iload (i := 4) rfl (show decode cX5_leastFrom 31 = .ok (.iload 4, 2) by decide +kernel) ?_
    have hr2 := h.1
    have h := h.2
    refine j_if_eq (tgt := 47) hr2 (show decode cX5_leastFrom 33 = .ok (.ifCond .eq 14, 3) by decide +kernel) (by decide) (fun c => ?_) (fun c => ?_)
    · have h := h.1 c
      refine j_iload (i := 4) rfl (show decode cX5_leastFrom 47 = .ok (.iload 4, 2) by decide +kernel) ?_
      refine s_aload_n (i := 0) rfl (show decode cX5_leastFrom 49 = .ok (.aload_n 0, 1) by decide +kernel) ?_
      refine gf_X5_15 rfl (show decode cX5_leastFrom 50 = .ok (.getfield 15, 3) by decide +kernel) okl_286 ?_
      refine s_aload_n (i := 0) rfl (show decode cX5_leastFrom 53 = .ok (.aload_n 0, 1) by decide +kernel) ?_
      refine gf_X5_18 rfl (show decode cX5_leastFrom 54 = .ok (.getfield 18, 3) by decide +kernel) okl_286 ?_
      have hr3 := h.1
      have h := h.2
      have hr4 := h.1
      have h := h.2
      refine j_min (tt_in 1050 (by decide +kernel) rfl) (by omega) (Nat.le_of_ble_eq_true rfl) hr3 hr4 (show decode cX5_leastFrom 57 = .ok (.invokestatic 30, 3) by decide +kernel) ?_
      refine j_imul (show decode cX5_leastFrom 60 = .ok (.imul, 1) by decide +kernel) ?_
      exact j_ret (rokI (show decode cX5_leastFrom 61 = .ok (.ireturn, 1) by decide +kernel) rfl) ⟨rfl, rfl, h⟩
    · have h := h.2 c
      refine s_aload_n (i := 0) rfl (show decode cX5_leastFrom 36 = .ok (.aload_n 0, 1) by decide +kernel) ?_
      refine gf_X5_18 rfl (show decode cX5_leastFrom 37 = .ok (.getfield 18, 3) by decide +kernel) okl_286 ?_
      refine s_aload_n (i := 0) rfl (show decode cX5_leastFrom 40 = .ok (.aload_n 0, 1) by decide +kernel) ?_
      refine gf_X5_15 rfl (show decode cX5_leastFrom 41 = .ok (.getfield 15, 3) by decide +kernel) okl_286 ?_
      have hr5 := h.1
      have h := h.2
      have hr6 := h.1
      have h := h.2
      refine j_icmp_gt (tgt := 62) hr5 hr6 (show decode cX5_leastFrom 44 = .ok (.if_icmp .gt 18, 3) by decide +kernel) (by decide) (fun c => ?_) (fun c => ?_)
      · have h := h.1 c
        refine j_iload (i := 4) rfl (show decode cX5_leastFrom 62 = .ok (.iload 4, 2) by decide +kernel) ?_
        refine j_iconst (show decode cX5_leastFrom 64 = .ok (.iconst 1, 1) by decide +kernel) ?_
        refine j_isub (show decode cX5_leastFrom 65 = .ok (.isub, 1) by decide +kernel) ?_
        refine s_aload_n (i := 0) rfl (show decode cX5_leastFrom 66 = .ok (.aload_n 0, 1) by decide +kernel) ?_
        refine gf_X5_15 rfl (show decode cX5_leastFrom 67 = .ok (.getfield 15, 3) by decide +kernel) okl_286 ?_
        refine j_imul (show decode cX5_leastFrom 70 = .ok (.imul, 1) by decide +kernel) ?_
        refine s_aload_n (i := 0) rfl (show decode cX5_leastFrom 71 = .ok (.aload_n 0, 1) by decide +kernel) ?_
        refine gf_X5_18 rfl (show decode cX5_leastFrom 72 = .ok (.getfield 18, 3) by decide +kernel) okl_286 ?_
        refine j_iadd (show decode cX5_leastFrom 75 = .ok (.iadd, 1) by decide +kernel) ?_
        refine s_ist (i := 5) (L' := [rv 286, iv p1, jv p2, uv, iv v4, iv (((v4 - 1) * (σ 286 1)) + (σ 286 2)), uv]) rfl (by decide) (show decode cX5_leastFrom 76 = .ok (.istore 5, 2) by decide +kernel) ?_
        refine s_aload_n (i := 0) rfl (show decode cX5_leastFrom 78 = .ok (.aload_n 0, 1) by decide +kernel) ?_
        refine j_lload_n (i := 2) rfl (show decode cX5_leastFrom 79 = .ok (.lload_n 2, 1) by decide +kernel) ?_
        refine j_ctV (m' := mX5_doublingsFrom) (As := [jv p2]) (ci := 5) (tag := 0) (N := 0) (cw_X5_43 rfl) (show decode cX5_leastFrom 80 = .ok (.invokevirtual 43, 3) by decide +kernel) rfl (Nat.le_of_ble_eq_true rfl) (by decide) okl_286 rfl rfl (Nat.le_refl _) h (fun r8 σ8 h => ?_)
        refine s_ist (i := 6) (L' := [rv 286, iv p1, jv p2, uv, iv v4, iv (((v4 - 1) * (σ 286 1)) + (σ 286 2)), iv r8]) rfl (by decide) (show decode cX5_leastFrom 83 = .ok (.istore 6, 2) by decide +kernel) ?_
        refine j_iload (i := 6) rfl (show decode cX5_leastFrom 85 = .ok (.iload 6, 2) by decide +kernel) ?_
        refine j_iconst (show decode cX5_leastFrom 87 = .ok (.iconst (-1), 1) by decide +kernel) ?_
        have hr8 := h.1
        have h := h.2
        refine j_icmp_ne (tgt := 96) hr8 (inl (by decide)) (show decode cX5_leastFrom 88 = .ok (.if_icmp .ne 8, 3) by decide +kernel) (by decide) (fun c => ?_) (fun c => ?_)
        · have h := h.1 c
          refine j_iload (i := 6) rfl (show decode cX5_leastFrom 96 = .ok (.iload 6, 2) by decide +kernel) ?_
          refine s_aload_n (i := 0) rfl (show decode cX5_leastFrom 98 = .ok (.aload_n 0, 1) by decide +kernel) ?_
          refine gf_X5_15 rfl (show decode cX5_leastFrom 99 = .ok (.getfield 15, 3) by decide +kernel) okl_286 ?_
          refine j_imul (show decode cX5_leastFrom 102 = .ok (.imul, 1) by decide +kernel) ?_
          refine j_iload (i := 5) rfl (show decode cX5_leastFrom 103 = .ok (.iload 5, 2) by decide +kernel) ?_
          have hr9 := h.1
          have h := h.2
          have hr10 := h.1
          have h := h.2
          refine j_min (tt_in 1050 (by decide +kernel) rfl) (by omega) (Nat.le_of_ble_eq_true rfl) hr9 hr10 (show decode cX5_leastFrom 105 = .ok (.invokestatic 30, 3) by decide +kernel) ?_
          exact j_ret (rokI (show decode cX5_leastFrom 108 = .ok (.ireturn, 1) by decide +kernel) rfl) ⟨rfl, rfl, h⟩
        · have h := h.2 c
          refine j_iload (i := 5) rfl (show decode cX5_leastFrom 91 = .ok (.iload 5, 2) by decide +kernel) ?_
          refine j_goto (tgt := 108) (show decode cX5_leastFrom 93 = .ok (.goto 15, 3) by decide +kernel) (by decide) ?_
          exact j_ret (rokI (show decode cX5_leastFrom 108 = .ok (.ireturn, 1) by decide +kernel) rfl) ⟨rfl, rfl, h⟩
      · have h := h.2 c
        refine j_iload (i := 4) rfl (show decode cX5_leastFrom 47 = .ok (.iload 4, 2) by decide +kernel) ?_
        refine s_aload_n (i := 0) rfl (show decode cX5_leastFrom 49 = .ok (.aload_n 0, 1) by decide +kernel) ?_
        refine gf_X5_15 rfl (show decode cX5_leastFrom 50 = .ok (.getfield 15, 3) by decide +kernel) okl_286 ?_
        refine s_aload_n (i := 0) rfl (show decode cX5_leastFrom 53 = .ok (.aload_n 0, 1) by decide +kernel) ?_
        refine gf_X5_18 rfl (show decode cX5_leastFrom 54 = .ok (.getfield 18, 3) by decide +kernel) okl_286 ?_
        have hr11 := h.1
        have h := h.2
        have hr12 := h.1
        have h := h.2
        refine j_min (tt_in 1050 (by decide +kernel) rfl) (by omega) (Nat.le_of_ble_eq_true rfl) hr11 hr12 (show decode cX5_leastFrom 57 = .ok (.invokestatic 30, 3) by decide +kernel) ?_
        refine j_imul (show decode cX5_leastFrom 60 = .ok (.imul, 1) by decide +kernel) ?_
        exact j_ret (rokI (show decode cX5_leastFrom 61 = .ok (.ireturn, 1) by decide +kernel) rfl) ⟨rfl, rfl, h⟩
  · have h := h.2 c
    refine s_iinc (i := 4) rfl (L' := [rv 286, iv p1, jv p2, uv, iv (v4 + 1), iv v5, uv]) rfl (show decode cX5_leastFrom 19 = .ok (.iinc 4 1, 3) by decide +kernel) ?_
    refine j_iload (i := 5) rfl (show decode cX5_leastFrom 22 = .ok (.iload 5, 2) by decide +kernel) ?_
    refine j_iconst (show decode cX5_leastFrom 24 = .ok (.iconst 2, 1) by decide +kernel) ?_
    refine j_imul (show decode cX5_leastFrom 25 = .ok (.imul, 1) by decide +kernel) ?_
    refine s_ist (i := 5) (L' := [rv 286, iv p1, jv p2, uv, iv (v4 + 1), iv (v5 * 2), uv]) rfl (by decide) (show decode cX5_leastFrom 26 = .ok (.istore 5, 2) by decide +kernel) ?_
    refine j_goto (tgt := 10) (show decode cX5_leastFrom 28 = .ok (.goto (-18), 3) by decide +kernel) (by decide) ?_
    exact h
set_option maxRecDepth 4000 in
theorem b_X5_leastFrom_0 {d : Nat} {t : Int} {Q : Int → jM → Prop} {σ : jM} {p1 p2 : Int} (h : (inR p1) ∧ (Jt mX5_leastFrom (d + 1) 0 t Q 10 [rv 286, iv p1, jv p2, uv, iv 0, iv (max p1 1), uv] [] σ)) : Jt mX5_leastFrom (d + 1) 0 t Q 0 [rv 286, iv p1, jv p2, uv, uv, uv, uv] [] σ := by
  refine j_iconst (show decode cX5_leastFrom 0 = .ok (.iconst 0, 1) by decide +kernel) ?_
  refine s_ist (i := 4) (L' := [rv 286, iv p1, jv p2, uv, iv 0, uv, uv]) rfl (by decide) (show decode cX5_leastFrom 1 = .ok (.istore 4, 2) by decide +kernel) ?_
  refine j_iload_n (i := 1) rfl (show decode cX5_leastFrom 3 = .ok (.iload_n 1, 1) by decide +kernel) ?_
  refine j_iconst (show decode cX5_leastFrom 4 = .ok (.iconst 1, 1) by decide +kernel) ?_
  have hr0 := h.1
  have h := h.2
  refine j_max (tt_in 1055 (by decide +kernel) rfl) (by omega) (Nat.le_of_ble_eq_true rfl) hr0 (inl (by decide)) (show decode cX5_leastFrom 5 = .ok (.invokestatic 40, 3) by decide +kernel) ?_
  refine s_ist (i := 5) (L' := [rv 286, iv p1, jv p2, uv, iv 0, iv (max p1 1), uv]) rfl (by decide) (show decode cX5_leastFrom 8 = .ok (.istore 5, 2) by decide +kernel) ?_
  exact h
theorem c_X5_leastFrom {d : Nat} {t : Int} {Q : Int → jM → Prop} {σ : jM} {p1 p2 : Int} (h : (inR p1) ∧ (Jt mX5_leastFrom (d + 1) 0 t Q 10 [rv 286, iv p1, jv p2, uv, iv 0, iv (max p1 1), uv] [] σ)) : Ct mX5_leastFrom (d + 1) 0 t [rv 286, iv p1, jv p2] σ Q := Ct_of (by decide +kernel) (Nat.le_of_ble_eq_true rfl) (b_X5_leastFrom_0 h)
set_option maxRecDepth 4000 in
theorem b_X5_doublingsFrom_8 {d : Nat} {t : Int} {Q : Int → jM → Prop} {σ : jM} {p1 v3 v4 : Int} (h : (inR v4) ∧ ((v4 ≤ 0 → (Q (-1) σ)) ∧ (0 < v4 → ((inL (l_and (l_ushr p1 v4) 1)) ∧ ((¬ (l_and (l_ushr p1 v4) 1) = 1 → ((inR v4) ∧ ((inR (Int.tmod v4 2)) ∧ ((¬ (Int.tmod v4 2) = 1 → ((inR v4) ∧ (Jt mX5_doublingsFrom (d) 0 t Q 8 [rv 286, jv p1, uv, iv (v3 + 1), iv (Int.tdiv v4 2)] [] σ))) ∧ ((Int.tmod v4 2) = 1 → (Q (-1) σ)))))) ∧ ((l_and (l_ushr p1 v4) 1) = 1 → (Q v3 σ))))))) : Jt mX5_doublingsFrom (d) 0 t Q 8 [rv 286, jv p1, uv, iv v3, iv v4] [] σ := by
  refine j_iload (i := 4) rfl (show decode cX5_doublingsFrom 8 = .ok (.iload 4, 2) by decide +kernel) ?_
  have hr0 := h.1
  have h := h.2
  refine j_if_le (tgt := 48) hr0 (show decode cX5_doublingsFrom 10 = .ok (.ifCond .le 38, 3) by decide +kernel) (by decide) (fun c => ?_) (fun c => ?_)
  · have h := h.1 c
    refine j_iconst (show decode cX5_doublingsFrom 48 = .ok (.iconst (-1), 1) by decide +kernel) ?_
    exact j_ret (rokI (show decode cX5_doublingsFrom 49 = .ok (.ireturn, 1) by decide +kernel) rfl) ⟨rfl, rfl, h⟩
  · have h := h.2 c
    refine j_lload_n (i := 1) rfl (show decode cX5_doublingsFrom 13 = .ok (.lload_n 1, 1) by decide +kernel) ?_
    refine j_iload (i := 4) rfl (show decode cX5_doublingsFrom 14 = .ok (.iload 4, 2) by decide +kernel) ?_
    refine j_lushr (show decode cX5_doublingsFrom 16 = .ok (.lushr, 1) by decide +kernel) ?_
    refine j_lconst (x := 1) (by decide +kernel) (show decode cX5_doublingsFrom 17 = .ok (.lconst 1, 1) by decide +kernel) ?_
    refine j_land (show decode cX5_doublingsFrom 18 = .ok (.land, 1) by decide +kernel) ?_
    refine j_lconst (x := 1) (by decide +kernel) (show decode cX5_doublingsFrom 19 = .ok (.lconst 1, 1) by decide +kernel) ?_
    have hr1 := h.1
    have h := h.2
    refine s_lif_ne (tgt := 26) hr1 (inll (by decide)) (show decode cX5_doublingsFrom 20 = .ok (.lcmp, 1) by decide +kernel) (show decode cX5_doublingsFrom 21 = .ok (.ifCond .ne 5, 3) by decide +kernel) (by decide) (fun c => ?_) (fun c => ?_)
    · have h := h.1 c
      refine j_iload (i := 4) rfl (show decode cX5_doublingsFrom 26 = .ok (.iload 4, 2) by decide +kernel) ?_
      refine j_iconst (show decode cX5_doublingsFrom 28 = .ok (.iconst 2, 1) by decide +kernel) ?_
      have hr2 := h.1
      have h := h.2
      refine j_irem hr2 (inl (by decide)) (by decide) (show decode cX5_doublingsFrom 29 = .ok (.irem, 1) by decide +kernel) ?_
      refine j_iconst (show decode cX5_doublingsFrom 30 = .ok (.iconst 1, 1) by decide +kernel) ?_
      have hr3 := h.1
      have h := h.2
      refine j_icmp_ne (tgt := 36) hr3 (inl (by decide)) (show decode cX5_doublingsFrom 31 = .ok (.if_icmp .ne 5, 3) by decide +kernel) (by decide) (fun c => ?_) (fun c => ?_)
      · have h := h.1 c
        refine s_iinc (i := 3) rfl (L' := [rv 286, jv p1, uv, iv (v3 + 1), iv v4]) rfl (show decode cX5_doublingsFrom 36 = .ok (.iinc 3 1, 3) by decide +kernel) ?_
        refine j_iload (i := 4) rfl (show decode cX5_doublingsFrom 39 = .ok (.iload 4, 2) by decide +kernel) ?_
        refine j_iconst (show decode cX5_doublingsFrom 41 = .ok (.iconst 2, 1) by decide +kernel) ?_
        have hr4 := h.1
        have h := h.2
        refine j_idiv hr4 (inl (by decide)) (by decide) (show decode cX5_doublingsFrom 42 = .ok (.idiv, 1) by decide +kernel) ?_
        refine s_ist (i := 4) (L' := [rv 286, jv p1, uv, iv (v3 + 1), iv (Int.tdiv v4 2)]) rfl (by decide) (show decode cX5_doublingsFrom 43 = .ok (.istore 4, 2) by decide +kernel) ?_
        refine j_goto (tgt := 8) (show decode cX5_doublingsFrom 45 = .ok (.goto (-37), 3) by decide +kernel) (by decide) ?_
        exact h
      · have h := h.2 c
        refine j_iconst (show decode cX5_doublingsFrom 34 = .ok (.iconst (-1), 1) by decide +kernel) ?_
        exact j_ret (rokI (show decode cX5_doublingsFrom 35 = .ok (.ireturn, 1) by decide +kernel) rfl) ⟨rfl, rfl, h⟩
    · have h := h.2 c
      refine j_iload_n (i := 3) rfl (show decode cX5_doublingsFrom 24 = .ok (.iload_n 3, 1) by decide +kernel) ?_
      exact j_ret (rokI (show decode cX5_doublingsFrom 25 = .ok (.ireturn, 1) by decide +kernel) rfl) ⟨rfl, rfl, h⟩
set_option maxRecDepth 4000 in
theorem b_X5_doublingsFrom_0 {d : Nat} {t : Int} {Q : Int → jM → Prop} {σ : jM} {p1 : Int} (h : Jt mX5_doublingsFrom (d) 0 t Q 8 [rv 286, jv p1, uv, iv 0, iv (σ 286 0)] [] σ) : Jt mX5_doublingsFrom (d) 0 t Q 0 [rv 286, jv p1, uv, uv, uv] [] σ := by
  refine j_iconst (show decode cX5_doublingsFrom 0 = .ok (.iconst 0, 1) by decide +kernel) ?_
  refine s_ist_n (i := 3) (L' := [rv 286, jv p1, uv, iv 0, uv]) rfl (by decide) (show decode cX5_doublingsFrom 1 = .ok (.istore_n 3, 1) by decide +kernel) ?_
  refine s_aload_n (i := 0) rfl (show decode cX5_doublingsFrom 2 = .ok (.aload_n 0, 1) by decide +kernel) ?_
  refine gf_X5_9 rfl (show decode cX5_doublingsFrom 3 = .ok (.getfield 9, 3) by decide +kernel) okl_286 ?_
  refine s_ist (i := 4) (L' := [rv 286, jv p1, uv, iv 0, iv (σ 286 0)]) rfl (by decide) (show decode cX5_doublingsFrom 6 = .ok (.istore 4, 2) by decide +kernel) ?_
  exact h
theorem c_X5_doublingsFrom {d : Nat} {t : Int} {Q : Int → jM → Prop} {σ : jM} {p1 : Int} (h : Jt mX5_doublingsFrom (d) 0 t Q 8 [rv 286, jv p1, uv, iv 0, iv (σ 286 0)] [] σ) : Ct mX5_doublingsFrom (d) 0 t [rv 286, jv p1] σ Q := Ct_of (by decide +kernel) (Nat.le_of_ble_eq_true rfl) (b_X5_doublingsFrom_0 h)
set_option maxRecDepth 4000 in
theorem b_X6_fewestOf_0 {d : Nat} {t : Int} {Q : Int → jM → Prop} {σ : jM} {p1 : Int} (h : ((0 : Int) ≤ p1 ∧ p1 < 41) ∧ ((inR (σ 291 p1)) ∧ ((¬ (σ 291 p1) = 0 → (((0 : Int) ≤ p1 ∧ p1 < 41) ∧ (Q ((σ 291 p1) - 1) σ))) ∧ ((σ 291 p1) = 0 → (Ct mX6_sought d 0 t [rv 290, iv p1] σ (fun r2 σ2 => (((0 : Int) ≤ p1 ∧ p1 < 41) ∧ (∀ σ4 : jM, σ4 = up σ2 291 p1 (1 + r2) → (((0 : Int) ≤ p1 ∧ p1 < 41) ∧ (Q ((σ4 291 p1) - 1) σ4)))))))))) : Jt mX6_fewestOf (d + 1) 0 t Q 0 [rv 290, iv p1] [] σ := by
  refine s_aload_n (i := 0) rfl (show decode cX6_fewestOf 0 = .ok (.aload_n 0, 1) by decide +kernel) ?_
  refine gf_X6_9 (x := 291) rfl (show decode cX6_fewestOf 1 = .ok (.getfield 9, 3) by decide +kernel) okl_290 rfl ?_
  refine j_iload_n (i := 1) rfl (show decode cX6_fewestOf 4 = .ok (.iload_n 1, 1) by decide +kernel) ?_
  refine s_iald (show decode cX6_fewestOf 5 = .ok (.iaload, 1) by decide +kernel) okl_291 h.1 ?_
  have h := h.2
  have hr0 := h.1
  have h := h.2
  refine j_if_ne (tgt := 22) hr0 (show decode cX6_fewestOf 6 = .ok (.ifCond .ne 16, 3) by decide +kernel) (by decide) (fun c => ?_) (fun c => ?_)
  · have h := h.1 c
    refine s_aload_n (i := 0) rfl (show decode cX6_fewestOf 22 = .ok (.aload_n 0, 1) by decide +kernel) ?_
    refine gf_X6_9 (x := 291) rfl (show decode cX6_fewestOf 23 = .ok (.getfield 9, 3) by decide +kernel) okl_290 rfl ?_
    refine j_iload_n (i := 1) rfl (show decode cX6_fewestOf 26 = .ok (.iload_n 1, 1) by decide +kernel) ?_
    refine s_iald (show decode cX6_fewestOf 27 = .ok (.iaload, 1) by decide +kernel) okl_291 h.1 ?_
    have h := h.2
    refine j_iconst (show decode cX6_fewestOf 28 = .ok (.iconst 1, 1) by decide +kernel) ?_
    refine j_isub (show decode cX6_fewestOf 29 = .ok (.isub, 1) by decide +kernel) ?_
    exact j_ret (rokI (show decode cX6_fewestOf 30 = .ok (.ireturn, 1) by decide +kernel) rfl) ⟨rfl, rfl, h⟩
  · have h := h.2 c
    refine s_aload_n (i := 0) rfl (show decode cX6_fewestOf 9 = .ok (.aload_n 0, 1) by decide +kernel) ?_
    refine gf_X6_9 (x := 291) rfl (show decode cX6_fewestOf 10 = .ok (.getfield 9, 3) by decide +kernel) okl_290 rfl ?_
    refine j_iload_n (i := 1) rfl (show decode cX6_fewestOf 13 = .ok (.iload_n 1, 1) by decide +kernel) ?_
    refine j_iconst (show decode cX6_fewestOf 14 = .ok (.iconst 1, 1) by decide +kernel) ?_
    refine s_aload_n (i := 0) rfl (show decode cX6_fewestOf 15 = .ok (.aload_n 0, 1) by decide +kernel) ?_
    refine j_iload_n (i := 1) rfl (show decode cX6_fewestOf 16 = .ok (.iload_n 1, 1) by decide +kernel) ?_
    refine j_ctV (m' := mX6_sought) (As := [iv p1]) (ci := 6) (tag := 0) (N := 0) (cw_X6_16 rfl) (show decode cX6_fewestOf 17 = .ok (.invokevirtual 16, 3) by decide +kernel) rfl (Nat.le_of_ble_eq_true rfl) (by decide) okl_290 rfl rfl (Nat.le_refl _) h (fun r2 σ2 h => ?_)
    refine j_iadd (show decode cX6_fewestOf 20 = .ok (.iadd, 1) by decide +kernel) ?_
    have hb2 := h.1
    have h := h.2
    refine s_iast (show decode cX6_fewestOf 21 = .ok (.iastore, 1) by decide +kernel) okl_291 hb2 ?_
    obtain ⟨σ4, eσ4⟩ : ∃ z : jM, z = up σ2 291 p1 (1 + r2) := ⟨_, rfl⟩
    refine j_sig eσ4 ?_
    have h := h σ4 eσ4
    refine s_aload_n (i := 0) rfl (show decode cX6_fewestOf 22 = .ok (.aload_n 0, 1) by decide +kernel) ?_
    refine gf_X6_9 (x := 291) rfl (show decode cX6_fewestOf 23 = .ok (.getfield 9, 3) by decide +kernel) okl_290 rfl ?_
    refine j_iload_n (i := 1) rfl (show decode cX6_fewestOf 26 = .ok (.iload_n 1, 1) by decide +kernel) ?_
    refine s_iald (show decode cX6_fewestOf 27 = .ok (.iaload, 1) by decide +kernel) okl_291 h.1 ?_
    have h := h.2
    refine j_iconst (show decode cX6_fewestOf 28 = .ok (.iconst 1, 1) by decide +kernel) ?_
    refine j_isub (show decode cX6_fewestOf 29 = .ok (.isub, 1) by decide +kernel) ?_
    exact j_ret (rokI (show decode cX6_fewestOf 30 = .ok (.ireturn, 1) by decide +kernel) rfl) ⟨rfl, rfl, h⟩
theorem c_X6_fewestOf {d : Nat} {t : Int} {Q : Int → jM → Prop} {σ : jM} {p1 : Int} (h : ((0 : Int) ≤ p1 ∧ p1 < 41) ∧ ((inR (σ 291 p1)) ∧ ((¬ (σ 291 p1) = 0 → (((0 : Int) ≤ p1 ∧ p1 < 41) ∧ (Q ((σ 291 p1) - 1) σ))) ∧ ((σ 291 p1) = 0 → (Ct mX6_sought d 0 t [rv 290, iv p1] σ (fun r2 σ2 => (((0 : Int) ≤ p1 ∧ p1 < 41) ∧ (∀ σ4 : jM, σ4 = up σ2 291 p1 (1 + r2) → (((0 : Int) ≤ p1 ∧ p1 < 41) ∧ (Q ((σ4 291 p1) - 1) σ4)))))))))) : Ct mX6_fewestOf (d + 1) 0 t [rv 290, iv p1] σ Q := Ct_of (by decide +kernel) (Nat.le_of_ble_eq_true rfl) (b_X6_fewestOf_0 h)
set_option maxRecDepth 4000 in
theorem b_X6_sought_14 {d : Nat} {t : Int} {Q : Int → jM → Prop} {σ : jM} {p1 v2 : Int} (h : (inR p1) ∧ ((p1 ≤ 1 → (Q 0 σ)) ∧ (1 < p1 → ((inR v2) ∧ ((12 ≤ v2 → (Q 0 σ)) ∧ (v2 < 12 → (Ct mX6_reachable d 0 t [rv 290, iv 1, iv v2] σ (fun r3 σ3 => ((inR r3) ∧ ((r3 = 0 → (Jt mX6_sought (d + 1) 0 t Q 14 [rv 290, iv p1, iv (v2 + 1)] [] σ3)) ∧ (¬ r3 = 0 → (Q v2 σ3)))))))))))) : Jt mX6_sought (d + 1) 0 t Q 14 [rv 290, iv p1, iv v2] [] σ := by
  refine j_iload_n (i := 1) rfl (show decode cX6_sought 14 = .ok (.iload_n 1, 1) by decide +kernel) ?_
  refine j_iconst (show decode cX6_sought 15 = .ok (.iconst 1, 1) by decide +kernel) ?_
  have hr0 := h.1
  have h := h.2
  refine j_icmp_le (tgt := 42) hr0 (inl (by decide)) (show decode cX6_sought 16 = .ok (.if_icmp .le 26, 3) by decide +kernel) (by decide) (fun c => ?_) (fun c => ?_)
  · have h := h.1 c
    refine j_iconst (show decode cX6_sought 42 = .ok (.iconst 0, 1) by decide +kernel) ?_
    exact j_ret (rokI (show decode cX6_sought 43 = .ok (.ireturn, 1) by decide +kernel) rfl) ⟨rfl, rfl, h⟩
  · have h := h.2 c
    refine j_iload_n (i := 2) rfl (show decode cX6_sought 19 = .ok (.iload_n 2, 1) by decide +kernel) ?_
    refine j_bipush (n := 12) (by decide +kernel) (show decode cX6_sought 20 = .ok (.bipush 12, 2) by decide +kernel) ?_
    have hr1 := h.1
    have h := h.2
    refine j_icmp_ge (tgt := 42) hr1 (inl (by decide)) (show decode cX6_sought 22 = .ok (.if_icmp .ge 20, 3) by decide +kernel) (by decide) (fun c => ?_) (fun c => ?_)
    · have h := h.1 c
      refine j_iconst (show decode cX6_sought 42 = .ok (.iconst 0, 1) by decide +kernel) ?_
      exact j_ret (rokI (show decode cX6_sought 43 = .ok (.ireturn, 1) by decide +kernel) rfl) ⟨rfl, rfl, h⟩
    · have h := h.2 c
      refine s_aload_n (i := 0) rfl (show decode cX6_sought 25 = .ok (.aload_n 0, 1) by decide +kernel) ?_
      refine j_iconst (show decode cX6_sought 26 = .ok (.iconst 1, 1) by decide +kernel) ?_
      refine j_iload_n (i := 2) rfl (show decode cX6_sought 27 = .ok (.iload_n 2, 1) by decide +kernel) ?_
      refine j_ctV (m' := mX6_reachable) (As := [iv 1, iv v2]) (ci := 6) (tag := 0) (N := 0) (cw_X6_24 rfl) (show decode cX6_sought 28 = .ok (.invokevirtual 24, 3) by decide +kernel) rfl (Nat.le_of_ble_eq_true rfl) (by decide) okl_290 rfl rfl (Nat.le_refl _) h (fun r3 σ3 h => ?_)
      have hr3 := h.1
      have h := h.2
      refine j_if_eq (tgt := 36) hr3 (show decode cX6_sought 31 = .ok (.ifCond .eq 5, 3) by decide +kernel) (by decide) (fun c => ?_) (fun c => ?_)
      · have h := h.1 c
        refine s_iinc (i := 2) rfl (L' := [rv 290, iv p1, iv (v2 + 1)]) rfl (show decode cX6_sought 36 = .ok (.iinc 2 1, 3) by decide +kernel) ?_
        refine j_goto (tgt := 14) (show decode cX6_sought 39 = .ok (.goto (-25), 3) by decide +kernel) (by decide) ?_
        exact h
      · have h := h.2 c
        refine j_iload_n (i := 2) rfl (show decode cX6_sought 34 = .ok (.iload_n 2, 1) by decide +kernel) ?_
        exact j_ret (rokI (show decode cX6_sought 35 = .ok (.ireturn, 1) by decide +kernel) rfl) ⟨rfl, rfl, h⟩
set_option maxRecDepth 4000 in
theorem b_X6_sought_0 {d : Nat} {t : Int} {Q : Int → jM → Prop} {σ : jM} {p1 : Int} (h : ∀ σ1 : jM, σ1 = up σ 290 2 p1 → (((0 : Int) ≤ 0 ∧ (0 : Int) < 12) ∧ (∀ σ3 : jM, σ3 = up σ1 292 0 1 → (Jt mX6_sought (d + 1) 0 t Q 14 [rv 290, iv p1, iv 1] [] σ3)))) : Jt mX6_sought (d + 1) 0 t Q 0 [rv 290, iv p1, uv] [] σ := by
  refine s_aload_n (i := 0) rfl (show decode cX6_sought 0 = .ok (.aload_n 0, 1) by decide +kernel) ?_
  refine j_iload_n (i := 1) rfl (show decode cX6_sought 1 = .ok (.iload_n 1, 1) by decide +kernel) ?_
  refine pf_X6_20 rfl (show decode cX6_sought 2 = .ok (.putfield 20, 3) by decide +kernel) okl_290 ?_
  obtain ⟨σ1, eσ1⟩ : ∃ z : jM, z = up σ 290 2 p1 := ⟨_, rfl⟩
  refine j_sig eσ1 ?_
  have h := h σ1 eσ1
  refine s_aload_n (i := 0) rfl (show decode cX6_sought 5 = .ok (.aload_n 0, 1) by decide +kernel) ?_
  refine gf_X6_13 (x := 292) rfl (show decode cX6_sought 6 = .ok (.getfield 13, 3) by decide +kernel) okl_290 rfl ?_
  refine j_iconst (show decode cX6_sought 9 = .ok (.iconst 0, 1) by decide +kernel) ?_
  refine j_iconst (show decode cX6_sought 10 = .ok (.iconst 1, 1) by decide +kernel) ?_
  have hb1 := h.1
  have h := h.2
  refine s_iast (show decode cX6_sought 11 = .ok (.iastore, 1) by decide +kernel) okl_292 hb1 ?_
  obtain ⟨σ3, eσ3⟩ : ∃ z : jM, z = up σ1 292 0 1 := ⟨_, rfl⟩
  refine j_sig eσ3 ?_
  have h := h σ3 eσ3
  refine j_iconst (show decode cX6_sought 12 = .ok (.iconst 1, 1) by decide +kernel) ?_
  refine s_ist_n (i := 2) (L' := [rv 290, iv p1, iv 1]) rfl (by decide) (show decode cX6_sought 13 = .ok (.istore_n 2, 1) by decide +kernel) ?_
  exact h
theorem c_X6_sought {d : Nat} {t : Int} {Q : Int → jM → Prop} {σ : jM} {p1 : Int} (h : ∀ σ1 : jM, σ1 = up σ 290 2 p1 → (((0 : Int) ≤ 0 ∧ (0 : Int) < 12) ∧ (∀ σ3 : jM, σ3 = up σ1 292 0 1 → (Jt mX6_sought (d + 1) 0 t Q 14 [rv 290, iv p1, iv 1] [] σ3)))) : Ct mX6_sought (d + 1) 0 t [rv 290, iv p1] σ Q := Ct_of (by decide +kernel) (Nat.le_of_ble_eq_true rfl) (b_X6_sought_0 h)
set_option maxRecDepth 4000 in
theorem b_X6_reachable_80 {d : Nat} {t : Int} {Q : Int → jM → Prop} {σ : jM} {p1 p2 v3 v4 v5 : Int} (h : (inR v5) ∧ ((inR v4) ∧ ((v4 < v5 → (Jt mX6_reachable (d + 1) 0 t Q 71 [rv 290, iv p1, iv p2, iv v3, iv (v4 + 1), uv] [] σ)) ∧ (v5 ≤ v4 → (((0 : Int) ≤ v4 ∧ v4 < 12) ∧ (((0 : Int) ≤ v5 ∧ v5 < 12) ∧ (Ct mX6_reachableWith d 0 t [rv 290, iv ((σ 292 v4) + (σ 292 v5)), iv p1, iv (p2 - 1)] σ (fun r3 σ3 => ((inR r3) ∧ ((¬ r3 = 0 → (Q 1 σ3)) ∧ (r3 = 0 → (((0 : Int) ≤ v4 ∧ v4 < 12) ∧ (((0 : Int) ≤ v5 ∧ v5 < 12) ∧ ((inR ((σ3 292 v4) - (σ3 292 v5))) ∧ (Ct mX6_reachableWith d 0 t [rv 290, iv (iabs ((σ3 292 v4) - (σ3 292 v5))), iv p1, iv (p2 - 1)] σ3 (fun r6 σ6 => ((inR r6) ∧ ((r6 = 0 → (Jt mX6_reachable (d + 1) 0 t Q 80 [rv 290, iv p1, iv p2, iv v3, iv v4, iv (v5 + 1)] [] σ6)) ∧ (¬ r6 = 0 → (Q 1 σ6)))))))))))))))))))) : Jt mX6_reachable (d + 1) 0 t Q 80 [rv 290, iv p1, iv p2, iv v3, iv v4, iv v5] [] σ := by
  refine j_iload (i := 5) rfl (show decode cX6_reachable 80 = .ok (.iload 5, 2) by decide +kernel) ?_
  refine j_iload (i := 4) rfl (show decode cX6_reachable 82 = .ok (.iload 4, 2) by decide +kernel) ?_
  have hr0 := h.1
  have h := h.2
  have hr1 := h.1
  have h := h.2
  refine j_icmp_gt (tgt := 150) hr0 hr1 (show decode cX6_reachable 84 = .ok (.if_icmp .gt 66, 3) by decide +kernel) (by decide) (fun c => ?_) (fun c => ?_)
  · have h := h.1 c
    refine s_iinc (i := 4) rfl (L' := [rv 290, iv p1, iv p2, iv v3, iv (v4 + 1), iv v5]) rfl (show decode cX6_reachable 150 = .ok (.iinc 4 1, 3) by decide +kernel) ?_
    refine j_goto (tgt := 71) (show decode cX6_reachable 153 = .ok (.goto (-82), 3) by decide +kernel) (by decide) ?_
    refine j_drop 5 ?_
    exact h
  · have h := h.2 c
    refine s_aload_n (i := 0) rfl (show decode cX6_reachable 87 = .ok (.aload_n 0, 1) by decide +kernel) ?_
    refine s_aload_n (i := 0) rfl (show decode cX6_reachable 88 = .ok (.aload_n 0, 1) by decide +kernel) ?_
    refine gf_X6_13 (x := 292) rfl (show decode cX6_reachable 89 = .ok (.getfield 13, 3) by decide +kernel) okl_290 rfl ?_
    refine j_iload (i := 4) rfl (show decode cX6_reachable 92 = .ok (.iload 4, 2) by decide +kernel) ?_
    refine s_iald (show decode cX6_reachable 94 = .ok (.iaload, 1) by decide +kernel) okl_292 h.1 ?_
    have h := h.2
    refine s_aload_n (i := 0) rfl (show decode cX6_reachable 95 = .ok (.aload_n 0, 1) by decide +kernel) ?_
    refine gf_X6_13 (x := 292) rfl (show decode cX6_reachable 96 = .ok (.getfield 13, 3) by decide +kernel) okl_290 rfl ?_
    refine j_iload (i := 5) rfl (show decode cX6_reachable 99 = .ok (.iload 5, 2) by decide +kernel) ?_
    refine s_iald (show decode cX6_reachable 101 = .ok (.iaload, 1) by decide +kernel) okl_292 h.1 ?_
    have h := h.2
    refine j_iadd (show decode cX6_reachable 102 = .ok (.iadd, 1) by decide +kernel) ?_
    refine j_iload_n (i := 1) rfl (show decode cX6_reachable 103 = .ok (.iload_n 1, 1) by decide +kernel) ?_
    refine j_iload_n (i := 2) rfl (show decode cX6_reachable 104 = .ok (.iload_n 2, 1) by decide +kernel) ?_
    refine j_iconst (show decode cX6_reachable 105 = .ok (.iconst 1, 1) by decide +kernel) ?_
    refine j_isub (show decode cX6_reachable 106 = .ok (.isub, 1) by decide +kernel) ?_
    refine j_ctV (m' := mX6_reachableWith) (As := [iv ((σ 292 v4) + (σ 292 v5)), iv p1, iv (p2 - 1)]) (ci := 6) (tag := 0) (N := 0) (cw_X6_33 rfl) (show decode cX6_reachable 107 = .ok (.invokevirtual 33, 3) by decide +kernel) rfl (Nat.le_of_ble_eq_true rfl) (by decide) okl_290 rfl rfl (Nat.le_refl _) h (fun r3 σ3 h => ?_)
    have hr3 := h.1
    have h := h.2
    refine j_if_ne (tgt := 142) hr3 (show decode cX6_reachable 110 = .ok (.ifCond .ne 32, 3) by decide +kernel) (by decide) (fun c => ?_) (fun c => ?_)
    · have h := h.1 c
      refine j_iconst (show decode cX6_reachable 142 = .ok (.iconst 1, 1) by decide +kernel) ?_
      exact j_ret (rokZ (show decode cX6_reachable 143 = .ok (.ireturn, 1) by decide +kernel) rfl (Or.inr rfl)) ⟨rfl, rfl, h⟩
    · have h := h.2 c
      refine s_aload_n (i := 0) rfl (show decode cX6_reachable 113 = .ok (.aload_n 0, 1) by decide +kernel) ?_
      refine s_aload_n (i := 0) rfl (show decode cX6_reachable 114 = .ok (.aload_n 0, 1) by decide +kernel) ?_
      refine gf_X6_13 (x := 292) rfl (show decode cX6_reachable 115 = .ok (.getfield 13, 3) by decide +kernel) okl_290 rfl ?_
      refine j_iload (i := 4) rfl (show decode cX6_reachable 118 = .ok (.iload 4, 2) by decide +kernel) ?_
      refine s_iald (show decode cX6_reachable 120 = .ok (.iaload, 1) by decide +kernel) okl_292 h.1 ?_
      have h := h.2
      refine s_aload_n (i := 0) rfl (show decode cX6_reachable 121 = .ok (.aload_n 0, 1) by decide +kernel) ?_
      refine gf_X6_13 (x := 292) rfl (show decode cX6_reachable 122 = .ok (.getfield 13, 3) by decide +kernel) okl_290 rfl ?_
      refine j_iload (i := 5) rfl (show decode cX6_reachable 125 = .ok (.iload 5, 2) by decide +kernel) ?_
      refine s_iald (show decode cX6_reachable 127 = .ok (.iaload, 1) by decide +kernel) okl_292 h.1 ?_
      have h := h.2
      refine j_isub (show decode cX6_reachable 128 = .ok (.isub, 1) by decide +kernel) ?_
      have hr4 := h.1
      have h := h.2
      refine j_abs (tt_in 1102 (by decide +kernel) rfl) (by omega) (Nat.le_of_ble_eq_true rfl) hr4 (show decode cX6_reachable 129 = .ok (.invokestatic 28, 3) by decide +kernel) ?_
      refine j_iload_n (i := 1) rfl (show decode cX6_reachable 132 = .ok (.iload_n 1, 1) by decide +kernel) ?_
      refine j_iload_n (i := 2) rfl (show decode cX6_reachable 133 = .ok (.iload_n 2, 1) by decide +kernel) ?_
      refine j_iconst (show decode cX6_reachable 134 = .ok (.iconst 1, 1) by decide +kernel) ?_
      refine j_isub (show decode cX6_reachable 135 = .ok (.isub, 1) by decide +kernel) ?_
      refine j_ctV (m' := mX6_reachableWith) (As := [iv (iabs ((σ3 292 v4) - (σ3 292 v5))), iv p1, iv (p2 - 1)]) (ci := 6) (tag := 0) (N := 0) (cw_X6_33 rfl) (show decode cX6_reachable 136 = .ok (.invokevirtual 33, 3) by decide +kernel) rfl (Nat.le_of_ble_eq_true rfl) (by decide) okl_290 rfl rfl (Nat.le_refl _) h (fun r6 σ6 h => ?_)
      have hr6 := h.1
      have h := h.2
      refine j_if_eq (tgt := 144) hr6 (show decode cX6_reachable 139 = .ok (.ifCond .eq 5, 3) by decide +kernel) (by decide) (fun c => ?_) (fun c => ?_)
      · have h := h.1 c
        refine s_iinc (i := 5) rfl (L' := [rv 290, iv p1, iv p2, iv v3, iv v4, iv (v5 + 1)]) rfl (show decode cX6_reachable 144 = .ok (.iinc 5 1, 3) by decide +kernel) ?_
        refine j_goto (tgt := 80) (show decode cX6_reachable 147 = .ok (.goto (-67), 3) by decide +kernel) (by decide) ?_
        exact h
      · have h := h.2 c
        refine j_iconst (show decode cX6_reachable 142 = .ok (.iconst 1, 1) by decide +kernel) ?_
        exact j_ret (rokZ (show decode cX6_reachable 143 = .ok (.ireturn, 1) by decide +kernel) rfl (Or.inr rfl)) ⟨rfl, rfl, h⟩
set_option maxRecDepth 4000 in
theorem b_X6_reachable_71 {d : Nat} {t : Int} {Q : Int → jM → Prop} {σ : jM} {p1 p2 v3 v4 : Int} (h : (inR v4) ∧ ((inR p1) ∧ ((p1 ≤ v4 → (Q 0 σ)) ∧ (v4 < p1 → (Jt mX6_reachable (d + 1) 0 t Q 80 [rv 290, iv p1, iv p2, iv v3, iv v4, iv 0] [] σ))))) : Jt mX6_reachable (d + 1) 0 t Q 71 [rv 290, iv p1, iv p2, iv v3, iv v4, uv] [] σ := by
  refine j_iload (i := 4) rfl (show decode cX6_reachable 71 = .ok (.iload 4, 2) by decide +kernel) ?_
  refine j_iload_n (i := 1) rfl (show decode cX6_reachable 73 = .ok (.iload_n 1, 1) by decide +kernel) ?_
  have hr0 := h.1
  have h := h.2
  have hr1 := h.1
  have h := h.2
  refine j_icmp_ge (tgt := 156) hr0 hr1 (show decode cX6_reachable 74 = .ok (.if_icmp .ge 82, 3) by decide +kernel) (by decide) (fun c => ?_) (fun c => ?_)
  · have h := h.1 c
    refine j_iconst (show decode cX6_reachable 156 = .ok (.iconst 0, 1) by decide +kernel) ?_
    exact j_ret (rokZ (show decode cX6_reachable 157 = .ok (.ireturn, 1) by decide +kernel) rfl (Or.inl rfl)) ⟨rfl, rfl, h⟩
  · have h := h.2 c
    refine j_iconst (show decode cX6_reachable 77 = .ok (.iconst 0, 1) by decide +kernel) ?_
    refine s_ist (i := 5) (L' := [rv 290, iv p1, iv p2, iv v3, iv v4, iv 0]) rfl (by decide) (show decode cX6_reachable 78 = .ok (.istore 5, 2) by decide +kernel) ?_
    exact h
set_option maxRecDepth 4000 in
theorem b_X6_reachable_17 {d : Nat} {t : Int} {Q : Int → jM → Prop} {σ : jM} {p1 p2 v3 v4 : Int} (h : (inR v4) ∧ ((inR p1) ∧ ((p1 ≤ v4 → (Q 0 σ)) ∧ (v4 < p1 → (((0 : Int) ≤ v4 ∧ v4 < 12) ∧ ((inR (v3 + (σ 292 v4))) ∧ ((inR (σ 290 2)) ∧ (((v3 + (σ 292 v4)) = (σ 290 2) → (Q 1 σ)) ∧ (¬ (v3 + (σ 292 v4)) = (σ 290 2) → (((0 : Int) ≤ v4 ∧ v4 < 12) ∧ ((inR (v3 - (σ 292 v4))) ∧ ((inR (iabs (v3 - (σ 292 v4)))) ∧ ((inR (σ 290 2)) ∧ ((¬ (iabs (v3 - (σ 292 v4))) = (σ 290 2) → (Jt mX6_reachable (d + 1) 0 t Q 17 [rv 290, iv p1, iv p2, iv v3, iv (v4 + 1), uv] [] σ)) ∧ ((iabs (v3 - (σ 292 v4))) = (σ 290 2) → (Q 1 σ)))))))))))))))) : Jt mX6_reachable (d + 1) 0 t Q 17 [rv 290, iv p1, iv p2, iv v3, iv v4, uv] [] σ := by
  refine j_iload (i := 4) rfl (show decode cX6_reachable 17 = .ok (.iload 4, 2) by decide +kernel) ?_
  refine j_iload_n (i := 1) rfl (show decode cX6_reachable 19 = .ok (.iload_n 1, 1) by decide +kernel) ?_
  have hr0 := h.1
  have h := h.2
  have hr1 := h.1
  have h := h.2
  refine j_icmp_ge (tgt := 66) hr0 hr1 (show decode cX6_reachable 20 = .ok (.if_icmp .ge 46, 3) by decide +kernel) (by decide) (fun c => ?_) (fun c => ?_)
  · have h := h.1 c
    refine j_iconst (show decode cX6_reachable 66 = .ok (.iconst 0, 1) by decide +kernel) ?_
    exact j_ret (rokZ (show decode cX6_reachable 67 = .ok (.ireturn, 1) by decide +kernel) rfl (Or.inl rfl)) ⟨rfl, rfl, h⟩
  · have h := h.2 c
    refine j_iload_n (i := 3) rfl (show decode cX6_reachable 23 = .ok (.iload_n 3, 1) by decide +kernel) ?_
    refine s_aload_n (i := 0) rfl (show decode cX6_reachable 24 = .ok (.aload_n 0, 1) by decide +kernel) ?_
    refine gf_X6_13 (x := 292) rfl (show decode cX6_reachable 25 = .ok (.getfield 13, 3) by decide +kernel) okl_290 rfl ?_
    refine j_iload (i := 4) rfl (show decode cX6_reachable 28 = .ok (.iload 4, 2) by decide +kernel) ?_
    refine s_iald (show decode cX6_reachable 30 = .ok (.iaload, 1) by decide +kernel) okl_292 h.1 ?_
    have h := h.2
    refine j_iadd (show decode cX6_reachable 31 = .ok (.iadd, 1) by decide +kernel) ?_
    refine s_aload_n (i := 0) rfl (show decode cX6_reachable 32 = .ok (.aload_n 0, 1) by decide +kernel) ?_
    refine gf_X6_20 rfl (show decode cX6_reachable 33 = .ok (.getfield 20, 3) by decide +kernel) okl_290 ?_
    have hr2 := h.1
    have h := h.2
    have hr3 := h.1
    have h := h.2
    refine j_icmp_eq (tgt := 58) hr2 hr3 (show decode cX6_reachable 36 = .ok (.if_icmp .eq 22, 3) by decide +kernel) (by decide) (fun c => ?_) (fun c => ?_)
    · have h := h.1 c
      refine j_iconst (show decode cX6_reachable 58 = .ok (.iconst 1, 1) by decide +kernel) ?_
      exact j_ret (rokZ (show decode cX6_reachable 59 = .ok (.ireturn, 1) by decide +kernel) rfl (Or.inr rfl)) ⟨rfl, rfl, h⟩
    · have h := h.2 c
      refine j_iload_n (i := 3) rfl (show decode cX6_reachable 39 = .ok (.iload_n 3, 1) by decide +kernel) ?_
      refine s_aload_n (i := 0) rfl (show decode cX6_reachable 40 = .ok (.aload_n 0, 1) by decide +kernel) ?_
      refine gf_X6_13 (x := 292) rfl (show decode cX6_reachable 41 = .ok (.getfield 13, 3) by decide +kernel) okl_290 rfl ?_
      refine j_iload (i := 4) rfl (show decode cX6_reachable 44 = .ok (.iload 4, 2) by decide +kernel) ?_
      refine s_iald (show decode cX6_reachable 46 = .ok (.iaload, 1) by decide +kernel) okl_292 h.1 ?_
      have h := h.2
      refine j_isub (show decode cX6_reachable 47 = .ok (.isub, 1) by decide +kernel) ?_
      have hr4 := h.1
      have h := h.2
      refine j_abs (tt_in 1102 (by decide +kernel) rfl) (by omega) (Nat.le_of_ble_eq_true rfl) hr4 (show decode cX6_reachable 48 = .ok (.invokestatic 28, 3) by decide +kernel) ?_
      refine s_aload_n (i := 0) rfl (show decode cX6_reachable 51 = .ok (.aload_n 0, 1) by decide +kernel) ?_
      refine gf_X6_20 rfl (show decode cX6_reachable 52 = .ok (.getfield 20, 3) by decide +kernel) okl_290 ?_
      have hr5 := h.1
      have h := h.2
      have hr6 := h.1
      have h := h.2
      refine j_icmp_ne (tgt := 60) hr5 hr6 (show decode cX6_reachable 55 = .ok (.if_icmp .ne 5, 3) by decide +kernel) (by decide) (fun c => ?_) (fun c => ?_)
      · have h := h.1 c
        refine s_iinc (i := 4) rfl (L' := [rv 290, iv p1, iv p2, iv v3, iv (v4 + 1), uv]) rfl (show decode cX6_reachable 60 = .ok (.iinc 4 1, 3) by decide +kernel) ?_
        refine j_goto (tgt := 17) (show decode cX6_reachable 63 = .ok (.goto (-46), 3) by decide +kernel) (by decide) ?_
        exact h
      · have h := h.2 c
        refine j_iconst (show decode cX6_reachable 58 = .ok (.iconst 1, 1) by decide +kernel) ?_
        exact j_ret (rokZ (show decode cX6_reachable 59 = .ok (.ireturn, 1) by decide +kernel) rfl (Or.inr rfl)) ⟨rfl, rfl, h⟩
set_option maxRecDepth 4000 in
theorem b_X6_reachable_0 {d : Nat} {t : Int} {Q : Int → jM → Prop} {σ : jM} {p1 p2 : Int} (h : ((0 : Int) ≤ (p1 - 1) ∧ (p1 - 1) < 12) ∧ ((inR p2) ∧ ((¬ p2 = 1 → (Jt mX6_reachable (d + 1) 0 t Q 71 [rv 290, iv p1, iv p2, iv (σ 292 (p1 - 1)), iv 0, uv] [] σ)) ∧ (p2 = 1 → (Jt mX6_reachable (d + 1) 0 t Q 17 [rv 290, iv p1, iv p2, iv (σ 292 (p1 - 1)), iv 0, uv] [] σ))))) : Jt mX6_reachable (d + 1) 0 t Q 0 [rv 290, iv p1, iv p2, uv, uv, uv] [] σ := by
  refine s_aload_n (i := 0) rfl (show decode cX6_reachable 0 = .ok (.aload_n 0, 1) by decide +kernel) ?_
  refine gf_X6_13 (x := 292) rfl (show decode cX6_reachable 1 = .ok (.getfield 13, 3) by decide +kernel) okl_290 rfl ?_
  refine j_iload_n (i := 1) rfl (show decode cX6_reachable 4 = .ok (.iload_n 1, 1) by decide +kernel) ?_
  refine j_iconst (show decode cX6_reachable 5 = .ok (.iconst 1, 1) by decide +kernel) ?_
  refine j_isub (show decode cX6_reachable 6 = .ok (.isub, 1) by decide +kernel) ?_
  refine s_iald (show decode cX6_reachable 7 = .ok (.iaload, 1) by decide +kernel) okl_292 h.1 ?_
  have h := h.2
  refine s_ist_n (i := 3) (L' := [rv 290, iv p1, iv p2, iv (σ 292 (p1 - 1)), uv, uv]) rfl (by decide) (show decode cX6_reachable 8 = .ok (.istore_n 3, 1) by decide +kernel) ?_
  refine j_iload_n (i := 2) rfl (show decode cX6_reachable 9 = .ok (.iload_n 2, 1) by decide +kernel) ?_
  refine j_iconst (show decode cX6_reachable 10 = .ok (.iconst 1, 1) by decide +kernel) ?_
  have hr0 := h.1
  have h := h.2
  refine j_icmp_ne (tgt := 68) hr0 (inl (by decide)) (show decode cX6_reachable 11 = .ok (.if_icmp .ne 57, 3) by decide +kernel) (by decide) (fun c => ?_) (fun c => ?_)
  · have h := h.1 c
    refine j_iconst (show decode cX6_reachable 68 = .ok (.iconst 0, 1) by decide +kernel) ?_
    refine s_ist (i := 4) (L' := [rv 290, iv p1, iv p2, iv (σ 292 (p1 - 1)), iv 0, uv]) rfl (by decide) (show decode cX6_reachable 69 = .ok (.istore 4, 2) by decide +kernel) ?_
    exact h
  · have h := h.2 c
    refine j_iconst (show decode cX6_reachable 14 = .ok (.iconst 0, 1) by decide +kernel) ?_
    refine s_ist (i := 4) (L' := [rv 290, iv p1, iv p2, iv (σ 292 (p1 - 1)), iv 0, uv]) rfl (by decide) (show decode cX6_reachable 15 = .ok (.istore 4, 2) by decide +kernel) ?_
    exact h
theorem c_X6_reachable {d : Nat} {t : Int} {Q : Int → jM → Prop} {σ : jM} {p1 p2 : Int} (h : ((0 : Int) ≤ (p1 - 1) ∧ (p1 - 1) < 12) ∧ ((inR p2) ∧ ((¬ p2 = 1 → (Jt mX6_reachable (d + 1) 0 t Q 71 [rv 290, iv p1, iv p2, iv (σ 292 (p1 - 1)), iv 0, uv] [] σ)) ∧ (p2 = 1 → (Jt mX6_reachable (d + 1) 0 t Q 17 [rv 290, iv p1, iv p2, iv (σ 292 (p1 - 1)), iv 0, uv] [] σ))))) : Ct mX6_reachable (d + 1) 0 t [rv 290, iv p1, iv p2] σ Q := Ct_of (by decide +kernel) (Nat.le_of_ble_eq_true rfl) (b_X6_reachable_0 h)
set_option maxRecDepth 4000 in
theorem b_X6_reachableWith_22 {d : Nat} {t : Int} {Q : Int → jM → Prop} {σ : jM} {p1 p2 p3 v4 : Int} (h : (inR v4) ∧ ((inR p2) ∧ ((p2 ≤ v4 → (((0 : Int) ≤ p2 ∧ p2 < 12) ∧ (∀ σ4 : jM, σ4 = up σ 292 p2 p1 → (Ct mX6_reachable d 0 t [rv 290, iv (p2 + 1), iv p3] σ4 (fun r5 σ5 => ((r5 = 0 ∨ r5 = 1) ∧ (Q r5 σ5))))))) ∧ (v4 < p2 → (((0 : Int) ≤ v4 ∧ v4 < 12) ∧ ((inR (σ 292 v4)) ∧ ((inR p1) ∧ ((¬ (σ 292 v4) = p1 → (Jt mX6_reachableWith (d + 1) 0 t Q 22 [rv 290, iv p1, iv p2, iv p3, iv (v4 + 1)] [] σ)) ∧ ((σ 292 v4) = p1 → (Q 0 σ)))))))))) : Jt mX6_reachableWith (d + 1) 0 t Q 22 [rv 290, iv p1, iv p2, iv p3, iv v4] [] σ := by
  refine j_iload (i := 4) rfl (show decode cX6_reachableWith 22 = .ok (.iload 4, 2) by decide +kernel) ?_
  refine j_iload_n (i := 2) rfl (show decode cX6_reachableWith 24 = .ok (.iload_n 2, 1) by decide +kernel) ?_
  have hr0 := h.1
  have h := h.2
  have hr1 := h.1
  have h := h.2
  refine j_icmp_ge (tgt := 47) hr0 hr1 (show decode cX6_reachableWith 25 = .ok (.if_icmp .ge 22, 3) by decide +kernel) (by decide) (fun c => ?_) (fun c => ?_)
  · have h := h.1 c
    refine s_aload_n (i := 0) rfl (show decode cX6_reachableWith 47 = .ok (.aload_n 0, 1) by decide +kernel) ?_
    refine gf_X6_13 (x := 292) rfl (show decode cX6_reachableWith 48 = .ok (.getfield 13, 3) by decide +kernel) okl_290 rfl ?_
    refine j_iload_n (i := 2) rfl (show decode cX6_reachableWith 51 = .ok (.iload_n 2, 1) by decide +kernel) ?_
    refine j_iload_n (i := 1) rfl (show decode cX6_reachableWith 52 = .ok (.iload_n 1, 1) by decide +kernel) ?_
    have hb2 := h.1
    have h := h.2
    refine s_iast (show decode cX6_reachableWith 53 = .ok (.iastore, 1) by decide +kernel) okl_292 hb2 ?_
    obtain ⟨σ4, eσ4⟩ : ∃ z : jM, z = up σ 292 p2 p1 := ⟨_, rfl⟩
    refine j_sig eσ4 ?_
    have h := h σ4 eσ4
    refine s_aload_n (i := 0) rfl (show decode cX6_reachableWith 54 = .ok (.aload_n 0, 1) by decide +kernel) ?_
    refine j_iload_n (i := 2) rfl (show decode cX6_reachableWith 55 = .ok (.iload_n 2, 1) by decide +kernel) ?_
    refine j_iconst (show decode cX6_reachableWith 56 = .ok (.iconst 1, 1) by decide +kernel) ?_
    refine j_iadd (show decode cX6_reachableWith 57 = .ok (.iadd, 1) by decide +kernel) ?_
    refine j_iload_n (i := 3) rfl (show decode cX6_reachableWith 58 = .ok (.iload_n 3, 1) by decide +kernel) ?_
    refine j_ctV (m' := mX6_reachable) (As := [iv (p2 + 1), iv p3]) (ci := 6) (tag := 0) (N := 0) (cw_X6_24 rfl) (show decode cX6_reachableWith 59 = .ok (.invokevirtual 24, 3) by decide +kernel) rfl (Nat.le_of_ble_eq_true rfl) (by decide) okl_290 rfl rfl (Nat.le_refl _) h (fun r5 σ5 h => ?_)
    have hz5 := h.1
    have h := h.2
    exact j_ret (rokZ (show decode cX6_reachableWith 62 = .ok (.ireturn, 1) by decide +kernel) rfl hz5) ⟨rfl, rfl, h⟩
  · have h := h.2 c
    refine s_aload_n (i := 0) rfl (show decode cX6_reachableWith 28 = .ok (.aload_n 0, 1) by decide +kernel) ?_
    refine gf_X6_13 (x := 292) rfl (show decode cX6_reachableWith 29 = .ok (.getfield 13, 3) by decide +kernel) okl_290 rfl ?_
    refine j_iload (i := 4) rfl (show decode cX6_reachableWith 32 = .ok (.iload 4, 2) by decide +kernel) ?_
    refine s_iald (show decode cX6_reachableWith 34 = .ok (.iaload, 1) by decide +kernel) okl_292 h.1 ?_
    have h := h.2
    refine j_iload_n (i := 1) rfl (show decode cX6_reachableWith 35 = .ok (.iload_n 1, 1) by decide +kernel) ?_
    have hr6 := h.1
    have h := h.2
    have hr7 := h.1
    have h := h.2
    refine j_icmp_ne (tgt := 41) hr6 hr7 (show decode cX6_reachableWith 36 = .ok (.if_icmp .ne 5, 3) by decide +kernel) (by decide) (fun c => ?_) (fun c => ?_)
    · have h := h.1 c
      refine s_iinc (i := 4) rfl (L' := [rv 290, iv p1, iv p2, iv p3, iv (v4 + 1)]) rfl (show decode cX6_reachableWith 41 = .ok (.iinc 4 1, 3) by decide +kernel) ?_
      refine j_goto (tgt := 22) (show decode cX6_reachableWith 44 = .ok (.goto (-22), 3) by decide +kernel) (by decide) ?_
      exact h
    · have h := h.2 c
      refine j_iconst (show decode cX6_reachableWith 39 = .ok (.iconst 0, 1) by decide +kernel) ?_
      exact j_ret (rokZ (show decode cX6_reachableWith 40 = .ok (.ireturn, 1) by decide +kernel) rfl (Or.inl rfl)) ⟨rfl, rfl, h⟩
set_option maxRecDepth 4000 in
theorem b_X6_reachableWith_0 {d : Nat} {t : Int} {Q : Int → jM → Prop} {σ : jM} {p1 p2 p3 : Int} (h : (inR p1) ∧ ((p1 < 1 → (Q 0 σ)) ∧ (1 ≤ p1 → ((inR p1) ∧ ((80 < p1 → (Q 0 σ)) ∧ (p1 ≤ 80 → ((inR p2) ∧ ((p2 < 12 → (Jt mX6_reachableWith (d + 1) 0 t Q 22 [rv 290, iv p1, iv p2, iv p3, iv 0] [] σ)) ∧ (12 ≤ p2 → (Q 0 σ)))))))))) : Jt mX6_reachableWith (d + 1) 0 t Q 0 [rv 290, iv p1, iv p2, iv p3, uv] [] σ := by
  refine j_iload_n (i := 1) rfl (show decode cX6_reachableWith 0 = .ok (.iload_n 1, 1) by decide +kernel) ?_
  refine j_iconst (show decode cX6_reachableWith 1 = .ok (.iconst 1, 1) by decide +kernel) ?_
  have hr0 := h.1
  have h := h.2
  refine j_icmp_lt (tgt := 17) hr0 (inl (by decide)) (show decode cX6_reachableWith 2 = .ok (.if_icmp .lt 15, 3) by decide +kernel) (by decide) (fun c => ?_) (fun c => ?_)
  · have h := h.1 c
    refine j_iconst (show decode cX6_reachableWith 17 = .ok (.iconst 0, 1) by decide +kernel) ?_
    exact j_ret (rokZ (show decode cX6_reachableWith 18 = .ok (.ireturn, 1) by decide +kernel) rfl (Or.inl rfl)) ⟨rfl, rfl, h⟩
  · have h := h.2 c
    refine j_iload_n (i := 1) rfl (show decode cX6_reachableWith 5 = .ok (.iload_n 1, 1) by decide +kernel) ?_
    refine j_bipush (n := 80) (by decide +kernel) (show decode cX6_reachableWith 6 = .ok (.bipush 80, 2) by decide +kernel) ?_
    have hr1 := h.1
    have h := h.2
    refine j_icmp_gt (tgt := 17) hr1 (inl (by decide)) (show decode cX6_reachableWith 8 = .ok (.if_icmp .gt 9, 3) by decide +kernel) (by decide) (fun c => ?_) (fun c => ?_)
    · have h := h.1 c
      refine j_iconst (show decode cX6_reachableWith 17 = .ok (.iconst 0, 1) by decide +kernel) ?_
      exact j_ret (rokZ (show decode cX6_reachableWith 18 = .ok (.ireturn, 1) by decide +kernel) rfl (Or.inl rfl)) ⟨rfl, rfl, h⟩
    · have h := h.2 c
      refine j_iload_n (i := 2) rfl (show decode cX6_reachableWith 11 = .ok (.iload_n 2, 1) by decide +kernel) ?_
      refine j_bipush (n := 12) (by decide +kernel) (show decode cX6_reachableWith 12 = .ok (.bipush 12, 2) by decide +kernel) ?_
      have hr2 := h.1
      have h := h.2
      refine j_icmp_lt (tgt := 19) hr2 (inl (by decide)) (show decode cX6_reachableWith 14 = .ok (.if_icmp .lt 5, 3) by decide +kernel) (by decide) (fun c => ?_) (fun c => ?_)
      · have h := h.1 c
        refine j_iconst (show decode cX6_reachableWith 19 = .ok (.iconst 0, 1) by decide +kernel) ?_
        refine s_ist (i := 4) (L' := [rv 290, iv p1, iv p2, iv p3, iv 0]) rfl (by decide) (show decode cX6_reachableWith 20 = .ok (.istore 4, 2) by decide +kernel) ?_
        exact h
      · have h := h.2 c
        refine j_iconst (show decode cX6_reachableWith 17 = .ok (.iconst 0, 1) by decide +kernel) ?_
        exact j_ret (rokZ (show decode cX6_reachableWith 18 = .ok (.ireturn, 1) by decide +kernel) rfl (Or.inl rfl)) ⟨rfl, rfl, h⟩
theorem c_X6_reachableWith {d : Nat} {t : Int} {Q : Int → jM → Prop} {σ : jM} {p1 p2 p3 : Int} (h : (inR p1) ∧ ((p1 < 1 → (Q 0 σ)) ∧ (1 ≤ p1 → ((inR p1) ∧ ((80 < p1 → (Q 0 σ)) ∧ (p1 ≤ 80 → ((inR p2) ∧ ((p2 < 12 → (Jt mX6_reachableWith (d + 1) 0 t Q 22 [rv 290, iv p1, iv p2, iv p3, iv 0] [] σ)) ∧ (12 ≤ p2 → (Q 0 σ)))))))))) : Ct mX6_reachableWith (d + 1) 0 t [rv 290, iv p1, iv p2, iv p3] σ Q := Ct_of (by decide +kernel) (Nat.le_of_ble_eq_true rfl) (b_X6_reachableWith_0 h)
set_option maxRecDepth 4000 in
theorem b_X0_joiningsOf_0 {d : Nat} {t : Int} {Q : Int → jM → Prop} {σ : jM} {p1 : Int} (h : (inR p1) ∧ ((p1 < 1 → (Q (-1) σ)) ∧ (1 ≤ p1 → ((inR p1) ∧ ((p1 ≤ 120 → (((0 : Int) ≤ p1 ∧ p1 < 121) ∧ ((inR (σ 281 p1)) ∧ ((¬ (σ 281 p1) = 0 → (((0 : Int) ≤ p1 ∧ p1 < 121) ∧ (Q ((σ 281 p1) - 1) σ))) ∧ ((σ 281 p1) = 0 → (∀ σ4 : jM, σ4 = up σ 275 5 0 → (Ct mX0_want (d + 1) 9 t [rv 275, iv p1] σ4 (fun r5 σ5 => (Ct mX0_findLowest (d + 1) 9 t [rv 275] σ5 (fun r6 σ6 => ((inR ((σ6 275 6) + 1)) ∧ (((0 : Int) ≤ p1 ∧ p1 < 121) ∧ (∀ σ9 : jM, σ9 = up σ6 281 p1 (min 10 ((σ6 275 6) + 1)) → (((0 : Int) ≤ p1 ∧ p1 < 121) ∧ (((0 : Int) ≤ 0 ∧ (0 : Int) ≤ (p1 * 10) ∧ (0 : Int) ≤ (σ9 281 p1) ∧ (0 : Int) + (σ9 281 p1) ≤ 24 ∧ (p1 * 10) + (σ9 281 p1) ≤ 1210) ∧ (∀ σ11 : jM, σ11 = cpy σ9 276 0 282 (p1 * 10) (σ9 281 p1) → (((0 : Int) ≤ p1 ∧ p1 < 121) ∧ (Q ((σ11 281 p1) - 1) σ11)))))))))))))))))) ∧ (120 < p1 → (Q (-1) σ))))))) : Jt mX0_joiningsOf (d + 2) 0 t Q 0 [rv 275, iv p1] [] σ := by
  refine j_iload_n (i := 1) rfl (show decode cX0_joiningsOf 0 = .ok (.iload_n 1, 1) by decide +kernel) ?_
  refine j_iconst (show decode cX0_joiningsOf 1 = .ok (.iconst 1, 1) by decide +kernel) ?_
  have hr0 := h.1
  have h := h.2
  refine j_icmp_lt (tgt := 11) hr0 (inl (by decide)) (show decode cX0_joiningsOf 2 = .ok (.if_icmp .lt 9, 3) by decide +kernel) (by decide) (fun c => ?_) (fun c => ?_)
  · have h := h.1 c
    refine j_iconst (show decode cX0_joiningsOf 11 = .ok (.iconst (-1), 1) by decide +kernel) ?_
    exact j_ret (rokI (show decode cX0_joiningsOf 12 = .ok (.ireturn, 1) by decide +kernel) rfl) ⟨rfl, rfl, h⟩
  · have h := h.2 c
    refine j_iload_n (i := 1) rfl (show decode cX0_joiningsOf 5 = .ok (.iload_n 1, 1) by decide +kernel) ?_
    refine j_bipush (n := 120) (by decide +kernel) (show decode cX0_joiningsOf 6 = .ok (.bipush 120, 2) by decide +kernel) ?_
    have hr1 := h.1
    have h := h.2
    refine j_icmp_le (tgt := 13) hr1 (inl (by decide)) (show decode cX0_joiningsOf 8 = .ok (.if_icmp .le 5, 3) by decide +kernel) (by decide) (fun c => ?_) (fun c => ?_)
    · have h := h.1 c
      refine s_aload_n (i := 0) rfl (show decode cX0_joiningsOf 13 = .ok (.aload_n 0, 1) by decide +kernel) ?_
      refine gf_X0_28 (x := 281) rfl (show decode cX0_joiningsOf 14 = .ok (.getfield 28, 3) by decide +kernel) okl_275 rfl ?_
      refine j_iload_n (i := 1) rfl (show decode cX0_joiningsOf 17 = .ok (.iload_n 1, 1) by decide +kernel) ?_
      refine s_iald (show decode cX0_joiningsOf 18 = .ok (.iaload, 1) by decide +kernel) okl_281 h.1 ?_
      have h := h.2
      have hr2 := h.1
      have h := h.2
      refine j_if_ne (tgt := 75) hr2 (show decode cX0_joiningsOf 19 = .ok (.ifCond .ne 56, 3) by decide +kernel) (by decide) (fun c => ?_) (fun c => ?_)
      · have h := h.1 c
        refine s_aload_n (i := 0) rfl (show decode cX0_joiningsOf 75 = .ok (.aload_n 0, 1) by decide +kernel) ?_
        refine gf_X0_28 (x := 281) rfl (show decode cX0_joiningsOf 76 = .ok (.getfield 28, 3) by decide +kernel) okl_275 rfl ?_
        refine j_iload_n (i := 1) rfl (show decode cX0_joiningsOf 79 = .ok (.iload_n 1, 1) by decide +kernel) ?_
        refine s_iald (show decode cX0_joiningsOf 80 = .ok (.iaload, 1) by decide +kernel) okl_281 h.1 ?_
        have h := h.2
        refine j_iconst (show decode cX0_joiningsOf 81 = .ok (.iconst 1, 1) by decide +kernel) ?_
        refine j_isub (show decode cX0_joiningsOf 82 = .ok (.isub, 1) by decide +kernel) ?_
        exact j_ret (rokI (show decode cX0_joiningsOf 83 = .ok (.ireturn, 1) by decide +kernel) rfl) ⟨rfl, rfl, h⟩
      · have h := h.2 c
        refine s_aload_n (i := 0) rfl (show decode cX0_joiningsOf 22 = .ok (.aload_n 0, 1) by decide +kernel) ?_
        refine j_iconst (show decode cX0_joiningsOf 23 = .ok (.iconst 0, 1) by decide +kernel) ?_
        refine pf_X0_43 rfl (show decode cX0_joiningsOf 24 = .ok (.putfield 43, 3) by decide +kernel) okl_275 ?_
        obtain ⟨σ4, eσ4⟩ : ∃ z : jM, z = up σ 275 5 0 := ⟨_, rfl⟩
        refine j_sig eσ4 ?_
        have h := h σ4 eσ4
        refine s_aload_n (i := 0) rfl (show decode cX0_joiningsOf 27 = .ok (.aload_n 0, 1) by decide +kernel) ?_
        refine j_iload_n (i := 1) rfl (show decode cX0_joiningsOf 28 = .ok (.iload_n 1, 1) by decide +kernel) ?_
        refine j_ctVv (m' := mX0_want) (As := [iv p1]) (ci := 0) (N := 0) (cw_X0_47 rfl) (show decode cX0_joiningsOf 29 = .ok (.invokevirtual 47, 3) by decide +kernel) rfl (Nat.le_of_ble_eq_true rfl) okl_275 rfl rfl (Nat.le_refl _) h (fun r5 σ5 h => ?_)
        refine s_aload_n (i := 0) rfl (show decode cX0_joiningsOf 32 = .ok (.aload_n 0, 1) by decide +kernel) ?_
        refine j_ctVv (m' := mX0_findLowest) (As := []) (ci := 0) (N := 0) (cw_X0_51 rfl) (show decode cX0_joiningsOf 33 = .ok (.invokevirtual 51, 3) by decide +kernel) rfl (Nat.le_of_ble_eq_true rfl) okl_275 rfl rfl (Nat.le_refl _) h (fun r6 σ6 h => ?_)
        refine s_aload_n (i := 0) rfl (show decode cX0_joiningsOf 36 = .ok (.aload_n 0, 1) by decide +kernel) ?_
        refine gf_X0_28 (x := 281) rfl (show decode cX0_joiningsOf 37 = .ok (.getfield 28, 3) by decide +kernel) okl_275 rfl ?_
        refine j_iload_n (i := 1) rfl (show decode cX0_joiningsOf 40 = .ok (.iload_n 1, 1) by decide +kernel) ?_
        refine j_bipush (n := 10) (by decide +kernel) (show decode cX0_joiningsOf 41 = .ok (.bipush 10, 2) by decide +kernel) ?_
        refine s_aload_n (i := 0) rfl (show decode cX0_joiningsOf 43 = .ok (.aload_n 0, 1) by decide +kernel) ?_
        refine gf_X0_54 rfl (show decode cX0_joiningsOf 44 = .ok (.getfield 54, 3) by decide +kernel) okl_275 ?_
        refine j_iconst (show decode cX0_joiningsOf 47 = .ok (.iconst 1, 1) by decide +kernel) ?_
        refine j_iadd (show decode cX0_joiningsOf 48 = .ok (.iadd, 1) by decide +kernel) ?_
        have hr6 := h.1
        have h := h.2
        refine j_min (tt_in 902 (by decide +kernel) rfl) (by omega) (Nat.le_of_ble_eq_true rfl) (inl (by decide)) hr6 (show decode cX0_joiningsOf 49 = .ok (.invokestatic 57, 3) by decide +kernel) ?_
        have hb7 := h.1
        have h := h.2
        refine s_iast (show decode cX0_joiningsOf 52 = .ok (.iastore, 1) by decide +kernel) okl_281 hb7 ?_
        obtain ⟨σ9, eσ9⟩ : ∃ z : jM, z = up σ6 281 p1 (min 10 ((σ6 275 6) + 1)) := ⟨_, rfl⟩
        refine j_sig eσ9 ?_
        have h := h σ9 eσ9
        refine s_aload_n (i := 0) rfl (show decode cX0_joiningsOf 53 = .ok (.aload_n 0, 1) by decide +kernel) ?_
        refine gf_X0_11 (x := 276) rfl (show decode cX0_joiningsOf 54 = .ok (.getfield 11, 3) by decide +kernel) okl_275 rfl ?_
        refine j_iconst (show decode cX0_joiningsOf 57 = .ok (.iconst 0, 1) by decide +kernel) ?_
        refine s_aload_n (i := 0) rfl (show decode cX0_joiningsOf 58 = .ok (.aload_n 0, 1) by decide +kernel) ?_
        refine gf_X0_31 (x := 282) rfl (show decode cX0_joiningsOf 59 = .ok (.getfield 31, 3) by decide +kernel) okl_275 rfl ?_
        refine j_iload_n (i := 1) rfl (show decode cX0_joiningsOf 62 = .ok (.iload_n 1, 1) by decide +kernel) ?_
        refine j_bipush (n := 10) (by decide +kernel) (show decode cX0_joiningsOf 63 = .ok (.bipush 10, 2) by decide +kernel) ?_
        refine j_imul (show decode cX0_joiningsOf 65 = .ok (.imul, 1) by decide +kernel) ?_
        refine s_aload_n (i := 0) rfl (show decode cX0_joiningsOf 66 = .ok (.aload_n 0, 1) by decide +kernel) ?_
        refine gf_X0_28 (x := 281) rfl (show decode cX0_joiningsOf 67 = .ok (.getfield 28, 3) by decide +kernel) okl_275 rfl ?_
        refine j_iload_n (i := 1) rfl (show decode cX0_joiningsOf 70 = .ok (.iload_n 1, 1) by decide +kernel) ?_
        refine s_iald (show decode cX0_joiningsOf 71 = .ok (.iaload, 1) by decide +kernel) okl_281 h.1 ?_
        have h := h.2
        have hb9 := h.1
        have h := h.2
        refine j_copy1 (tt_in 903 (by decide +kernel) rfl) (by omega) (Nat.le_of_ble_eq_true rfl) okl_276 okl_282 (arN (t := t) okl_276 (by decide)) (arN (t := t) okl_282 (by decide)) hb9 (show decode cX0_joiningsOf 72 = .ok (.invokestatic 63, 3) by decide +kernel) ?_
        obtain ⟨σ11, eσ11⟩ : ∃ z : jM, z = cpy σ9 276 0 282 (p1 * 10) (σ9 281 p1) := ⟨_, rfl⟩
        refine j_sig eσ11 ?_
        have h := h σ11 eσ11
        refine s_aload_n (i := 0) rfl (show decode cX0_joiningsOf 75 = .ok (.aload_n 0, 1) by decide +kernel) ?_
        refine gf_X0_28 (x := 281) rfl (show decode cX0_joiningsOf 76 = .ok (.getfield 28, 3) by decide +kernel) okl_275 rfl ?_
        refine j_iload_n (i := 1) rfl (show decode cX0_joiningsOf 79 = .ok (.iload_n 1, 1) by decide +kernel) ?_
        refine s_iald (show decode cX0_joiningsOf 80 = .ok (.iaload, 1) by decide +kernel) okl_281 h.1 ?_
        have h := h.2
        refine j_iconst (show decode cX0_joiningsOf 81 = .ok (.iconst 1, 1) by decide +kernel) ?_
        refine j_isub (show decode cX0_joiningsOf 82 = .ok (.isub, 1) by decide +kernel) ?_
        exact j_ret (rokI (show decode cX0_joiningsOf 83 = .ok (.ireturn, 1) by decide +kernel) rfl) ⟨rfl, rfl, h⟩
    · have h := h.2 c
      refine j_iconst (show decode cX0_joiningsOf 11 = .ok (.iconst (-1), 1) by decide +kernel) ?_
      exact j_ret (rokI (show decode cX0_joiningsOf 12 = .ok (.ireturn, 1) by decide +kernel) rfl) ⟨rfl, rfl, h⟩
theorem c_X0_joiningsOf {d : Nat} {t : Int} {Q : Int → jM → Prop} {σ : jM} {p1 : Int} (h : (inR p1) ∧ ((p1 < 1 → (Q (-1) σ)) ∧ (1 ≤ p1 → ((inR p1) ∧ ((p1 ≤ 120 → (((0 : Int) ≤ p1 ∧ p1 < 121) ∧ ((inR (σ 281 p1)) ∧ ((¬ (σ 281 p1) = 0 → (((0 : Int) ≤ p1 ∧ p1 < 121) ∧ (Q ((σ 281 p1) - 1) σ))) ∧ ((σ 281 p1) = 0 → (∀ σ4 : jM, σ4 = up σ 275 5 0 → (Ct mX0_want (d + 1) 9 t [rv 275, iv p1] σ4 (fun r5 σ5 => (Ct mX0_findLowest (d + 1) 9 t [rv 275] σ5 (fun r6 σ6 => ((inR ((σ6 275 6) + 1)) ∧ (((0 : Int) ≤ p1 ∧ p1 < 121) ∧ (∀ σ9 : jM, σ9 = up σ6 281 p1 (min 10 ((σ6 275 6) + 1)) → (((0 : Int) ≤ p1 ∧ p1 < 121) ∧ (((0 : Int) ≤ 0 ∧ (0 : Int) ≤ (p1 * 10) ∧ (0 : Int) ≤ (σ9 281 p1) ∧ (0 : Int) + (σ9 281 p1) ≤ 24 ∧ (p1 * 10) + (σ9 281 p1) ≤ 1210) ∧ (∀ σ11 : jM, σ11 = cpy σ9 276 0 282 (p1 * 10) (σ9 281 p1) → (((0 : Int) ≤ p1 ∧ p1 < 121) ∧ (Q ((σ11 281 p1) - 1) σ11)))))))))))))))))) ∧ (120 < p1 → (Q (-1) σ))))))) : Ct mX0_joiningsOf (d + 2) 0 t [rv 275, iv p1] σ Q := Ct_of (by decide +kernel) (Nat.le_of_ble_eq_true rfl) (b_X0_joiningsOf_0 h)
set_option maxRecDepth 4000 in
theorem b_X0_linkOf_0 {d : Nat} {t : Int} {Q : Int → jM → Prop} {σ : jM} {p1 p2 : Int} (h : (inR p1) ∧ ((p1 < 1 → (Q (-1) σ)) ∧ (1 ≤ p1 → ((inR p1) ∧ ((120 < p1 → (Q (-1) σ)) ∧ (p1 ≤ 120 → ((inR p2) ∧ ((p2 < 0 → (Q (-1) σ)) ∧ (0 ≤ p2 → (((0 : Int) ≤ p1 ∧ p1 < 121) ∧ ((inR p2) ∧ ((inR (σ 281 p1)) ∧ ((p2 < (σ 281 p1) → (((0 : Int) ≤ ((p1 * 10) + p2) ∧ ((p1 * 10) + p2) < 1210) ∧ (Q (σ 282 ((p1 * 10) + p2)) σ))) ∧ ((σ 281 p1) ≤ p2 → (Q (-1) σ))))))))))))))) : Jt mX0_linkOf (d) 0 t Q 0 [rv 275, iv p1, iv p2] [] σ := by
  refine j_iload_n (i := 1) rfl (show decode cX0_linkOf 0 = .ok (.iload_n 1, 1) by decide +kernel) ?_
  refine j_iconst (show decode cX0_linkOf 1 = .ok (.iconst 1, 1) by decide +kernel) ?_
  have hr0 := h.1
  have h := h.2
  refine j_icmp_lt (tgt := 25) hr0 (inl (by decide)) (show decode cX0_linkOf 2 = .ok (.if_icmp .lt 23, 3) by decide +kernel) (by decide) (fun c => ?_) (fun c => ?_)
  · have h := h.1 c
    refine j_iconst (show decode cX0_linkOf 25 = .ok (.iconst (-1), 1) by decide +kernel) ?_
    exact j_ret (rokI (show decode cX0_linkOf 26 = .ok (.ireturn, 1) by decide +kernel) rfl) ⟨rfl, rfl, h⟩
  · have h := h.2 c
    refine j_iload_n (i := 1) rfl (show decode cX0_linkOf 5 = .ok (.iload_n 1, 1) by decide +kernel) ?_
    refine j_bipush (n := 120) (by decide +kernel) (show decode cX0_linkOf 6 = .ok (.bipush 120, 2) by decide +kernel) ?_
    have hr1 := h.1
    have h := h.2
    refine j_icmp_gt (tgt := 25) hr1 (inl (by decide)) (show decode cX0_linkOf 8 = .ok (.if_icmp .gt 17, 3) by decide +kernel) (by decide) (fun c => ?_) (fun c => ?_)
    · have h := h.1 c
      refine j_iconst (show decode cX0_linkOf 25 = .ok (.iconst (-1), 1) by decide +kernel) ?_
      exact j_ret (rokI (show decode cX0_linkOf 26 = .ok (.ireturn, 1) by decide +kernel) rfl) ⟨rfl, rfl, h⟩
    · have h := h.2 c
      refine j_iload_n (i := 2) rfl (show decode cX0_linkOf 11 = .ok (.iload_n 2, 1) by decide +kernel) ?_
      have hr2 := h.1
      have h := h.2
      refine j_if_lt (tgt := 25) hr2 (show decode cX0_linkOf 12 = .ok (.ifCond .lt 13, 3) by decide +kernel) (by decide) (fun c => ?_) (fun c => ?_)
      · have h := h.1 c
        refine j_iconst (show decode cX0_linkOf 25 = .ok (.iconst (-1), 1) by decide +kernel) ?_
        exact j_ret (rokI (show decode cX0_linkOf 26 = .ok (.ireturn, 1) by decide +kernel) rfl) ⟨rfl, rfl, h⟩
      · have h := h.2 c
        refine j_iload_n (i := 2) rfl (show decode cX0_linkOf 15 = .ok (.iload_n 2, 1) by decide +kernel) ?_
        refine s_aload_n (i := 0) rfl (show decode cX0_linkOf 16 = .ok (.aload_n 0, 1) by decide +kernel) ?_
        refine gf_X0_28 (x := 281) rfl (show decode cX0_linkOf 17 = .ok (.getfield 28, 3) by decide +kernel) okl_275 rfl ?_
        refine j_iload_n (i := 1) rfl (show decode cX0_linkOf 20 = .ok (.iload_n 1, 1) by decide +kernel) ?_
        refine s_iald (show decode cX0_linkOf 21 = .ok (.iaload, 1) by decide +kernel) okl_281 h.1 ?_
        have h := h.2
        have hr3 := h.1
        have h := h.2
        have hr4 := h.1
        have h := h.2
        refine j_icmp_lt (tgt := 27) hr3 hr4 (show decode cX0_linkOf 22 = .ok (.if_icmp .lt 5, 3) by decide +kernel) (by decide) (fun c => ?_) (fun c => ?_)
        · have h := h.1 c
          refine s_aload_n (i := 0) rfl (show decode cX0_linkOf 27 = .ok (.aload_n 0, 1) by decide +kernel) ?_
          refine gf_X0_31 (x := 282) rfl (show decode cX0_linkOf 28 = .ok (.getfield 31, 3) by decide +kernel) okl_275 rfl ?_
          refine j_iload_n (i := 1) rfl (show decode cX0_linkOf 31 = .ok (.iload_n 1, 1) by decide +kernel) ?_
          refine j_bipush (n := 10) (by decide +kernel) (show decode cX0_linkOf 32 = .ok (.bipush 10, 2) by decide +kernel) ?_
          refine j_imul (show decode cX0_linkOf 34 = .ok (.imul, 1) by decide +kernel) ?_
          refine j_iload_n (i := 2) rfl (show decode cX0_linkOf 35 = .ok (.iload_n 2, 1) by decide +kernel) ?_
          refine j_iadd (show decode cX0_linkOf 36 = .ok (.iadd, 1) by decide +kernel) ?_
          refine s_iald (show decode cX0_linkOf 37 = .ok (.iaload, 1) by decide +kernel) okl_282 h.1 ?_
          have h := h.2
          exact j_ret (rokI (show decode cX0_linkOf 38 = .ok (.ireturn, 1) by decide +kernel) rfl) ⟨rfl, rfl, h⟩
        · have h := h.2 c
          refine j_iconst (show decode cX0_linkOf 25 = .ok (.iconst (-1), 1) by decide +kernel) ?_
          exact j_ret (rokI (show decode cX0_linkOf 26 = .ok (.ireturn, 1) by decide +kernel) rfl) ⟨rfl, rfl, h⟩
theorem c_X0_linkOf {d : Nat} {t : Int} {Q : Int → jM → Prop} {σ : jM} {p1 p2 : Int} (h : (inR p1) ∧ ((p1 < 1 → (Q (-1) σ)) ∧ (1 ≤ p1 → ((inR p1) ∧ ((120 < p1 → (Q (-1) σ)) ∧ (p1 ≤ 120 → ((inR p2) ∧ ((p2 < 0 → (Q (-1) σ)) ∧ (0 ≤ p2 → (((0 : Int) ≤ p1 ∧ p1 < 121) ∧ ((inR p2) ∧ ((inR (σ 281 p1)) ∧ ((p2 < (σ 281 p1) → (((0 : Int) ≤ ((p1 * 10) + p2) ∧ ((p1 * 10) + p2) < 1210) ∧ (Q (σ 282 ((p1 * 10) + p2)) σ))) ∧ ((σ 281 p1) ≤ p2 → (Q (-1) σ))))))))))))))) : Ct mX0_linkOf (d) 0 t [rv 275, iv p1, iv p2] σ Q := Ct_of (by decide +kernel) (Nat.le_of_ble_eq_true rfl) (b_X0_linkOf_0 h)
set_option maxRecDepth 4000 in
theorem b_X0_joiningsOfBoth_0 {d : Nat} {t : Int} {Q : Int → jM → Prop} {σ : jM} {p1 p2 : Int} (h : ∀ σ1 : jM, σ1 = up σ 275 5 0 → (Ct mX0_want d 9 t [rv 275, iv p1] σ1 (fun r2 σ2 => (Ct mX0_want d 9 t [rv 275, iv p2] σ2 (fun r3 σ3 => (Ct mX0_findLowest d 9 t [rv 275] σ3 (fun r4 σ4 => (Q (σ4 275 6) σ4)))))))) : Jt mX0_joiningsOfBoth (d + 1) 0 t Q 0 [rv 275, iv p1, iv p2] [] σ := by
  refine s_aload_n (i := 0) rfl (show decode cX0_joiningsOfBoth 0 = .ok (.aload_n 0, 1) by decide +kernel) ?_
  refine j_iconst (show decode cX0_joiningsOfBoth 1 = .ok (.iconst 0, 1) by decide +kernel) ?_
  refine pf_X0_43 rfl (show decode cX0_joiningsOfBoth 2 = .ok (.putfield 43, 3) by decide +kernel) okl_275 ?_
  obtain ⟨σ1, eσ1⟩ : ∃ z : jM, z = up σ 275 5 0 := ⟨_, rfl⟩
  refine j_sig eσ1 ?_
  have h := h σ1 eσ1
  refine s_aload_n (i := 0) rfl (show decode cX0_joiningsOfBoth 5 = .ok (.aload_n 0, 1) by decide +kernel) ?_
  refine j_iload_n (i := 1) rfl (show decode cX0_joiningsOfBoth 6 = .ok (.iload_n 1, 1) by decide +kernel) ?_
  refine j_ctVv (m' := mX0_want) (As := [iv p1]) (ci := 0) (N := 0) (cw_X0_47 rfl) (show decode cX0_joiningsOfBoth 7 = .ok (.invokevirtual 47, 3) by decide +kernel) rfl (Nat.le_of_ble_eq_true rfl) okl_275 rfl rfl (Nat.le_refl _) h (fun r2 σ2 h => ?_)
  refine s_aload_n (i := 0) rfl (show decode cX0_joiningsOfBoth 10 = .ok (.aload_n 0, 1) by decide +kernel) ?_
  refine j_iload_n (i := 2) rfl (show decode cX0_joiningsOfBoth 11 = .ok (.iload_n 2, 1) by decide +kernel) ?_
  refine j_ctVv (m' := mX0_want) (As := [iv p2]) (ci := 0) (N := 0) (cw_X0_47 rfl) (show decode cX0_joiningsOfBoth 12 = .ok (.invokevirtual 47, 3) by decide +kernel) rfl (Nat.le_of_ble_eq_true rfl) okl_275 rfl rfl (Nat.le_refl _) h (fun r3 σ3 h => ?_)
  refine s_aload_n (i := 0) rfl (show decode cX0_joiningsOfBoth 15 = .ok (.aload_n 0, 1) by decide +kernel) ?_
  refine j_ctVv (m' := mX0_findLowest) (As := []) (ci := 0) (N := 0) (cw_X0_51 rfl) (show decode cX0_joiningsOfBoth 16 = .ok (.invokevirtual 51, 3) by decide +kernel) rfl (Nat.le_of_ble_eq_true rfl) okl_275 rfl rfl (Nat.le_refl _) h (fun r4 σ4 h => ?_)
  refine s_aload_n (i := 0) rfl (show decode cX0_joiningsOfBoth 19 = .ok (.aload_n 0, 1) by decide +kernel) ?_
  refine gf_X0_54 rfl (show decode cX0_joiningsOfBoth 20 = .ok (.getfield 54, 3) by decide +kernel) okl_275 ?_
  exact j_ret (rokI (show decode cX0_joiningsOfBoth 23 = .ok (.ireturn, 1) by decide +kernel) rfl) ⟨rfl, rfl, h⟩
theorem c_X0_joiningsOfBoth {d : Nat} {t : Int} {Q : Int → jM → Prop} {σ : jM} {p1 p2 : Int} (h : ∀ σ1 : jM, σ1 = up σ 275 5 0 → (Ct mX0_want d 9 t [rv 275, iv p1] σ1 (fun r2 σ2 => (Ct mX0_want d 9 t [rv 275, iv p2] σ2 (fun r3 σ3 => (Ct mX0_findLowest d 9 t [rv 275] σ3 (fun r4 σ4 => (Q (σ4 275 6) σ4)))))))) : Ct mX0_joiningsOfBoth (d + 1) 0 t [rv 275, iv p1, iv p2] σ Q := Ct_of (by decide +kernel) (Nat.le_of_ble_eq_true rfl) (b_X0_joiningsOfBoth_0 h)
set_option maxRecDepth 4000 in
theorem b_X0_fulfil_24 {d : Nat} {t : Int} {Q : Int → jM → Prop} {σ : jM} {p1 p2 v3 : Int} {n1 : Nat} (h1 : ar (GG t) p1 1 n1) (h : (inR v3) ∧ ((inR p2) ∧ ((p2 ≤ v3 → (∀ σ3 : jM, σ3 = up σ 275 11 p2 → (Ct mX0_findLowest (d + 1) 9 t [rv 275] σ3 (fun r4 σ4 => (∀ σ5 : jM, σ5 = up σ4 275 13 ((σ4 275 6) + 1) → (((0 : Int) ≤ 0 ∧ (0 : Int) ≤ 0 ∧ (0 : Int) ≤ (σ5 275 13) ∧ (0 : Int) + (σ5 275 13) ≤ 24 ∧ (0 : Int) + (σ5 275 13) ≤ 24) ∧ (∀ σ7 : jM, σ7 = cpy σ5 276 0 285 0 (σ5 275 13) → (Q 0 σ7)))))))) ∧ (v3 < p2 → ((inR v3) ∧ ((inR (n1 : Int)) ∧ (((n1 : Int) ≤ v3 → (∀ σ10 : jM, σ10 = up σ 275 11 p2 → (Ct mX0_findLowest (d + 1) 9 t [rv 275] σ10 (fun r11 σ11 => (∀ σ12 : jM, σ12 = up σ11 275 13 ((σ11 275 6) + 1) → (((0 : Int) ≤ 0 ∧ (0 : Int) ≤ 0 ∧ (0 : Int) ≤ (σ12 275 13) ∧ (0 : Int) + (σ12 275 13) ≤ 24 ∧ (0 : Int) + (σ12 275 13) ≤ 24) ∧ (∀ σ14 : jM, σ14 = cpy σ12 276 0 285 0 (σ12 275 13) → (Q 0 σ14)))))))) ∧ (v3 < (n1 : Int) → ((inR v3) ∧ ((4 ≤ v3 → (∀ σ16 : jM, σ16 = up σ 275 11 p2 → (Ct mX0_findLowest (d + 1) 9 t [rv 275] σ16 (fun r17 σ17 => (∀ σ18 : jM, σ18 = up σ17 275 13 ((σ17 275 6) + 1) → (((0 : Int) ≤ 0 ∧ (0 : Int) ≤ 0 ∧ (0 : Int) ≤ (σ18 275 13) ∧ (0 : Int) + (σ18 275 13) ≤ 24 ∧ (0 : Int) + (σ18 275 13) ≤ 24) ∧ (∀ σ20 : jM, σ20 = cpy σ18 276 0 285 0 (σ18 275 13) → (Q 0 σ20)))))))) ∧ (v3 < 4 → (((0 : Int) ≤ v3 ∧ v3 < (n1 : Int)) ∧ (((0 : Int) ≤ v3 ∧ v3 < 4) ∧ (∀ σ22 : jM, σ22 = up σ 284 v3 (σ p1 v3) → (((0 : Int) ≤ v3 ∧ v3 < (n1 : Int)) ∧ (Ct mX0_want (d + 1) 9 t [rv 275, iv (σ22 p1 v3)] σ22 (fun r23 σ23 => (Jt mX0_fulfil (d + 2) 9 t Q 24 [rv 275, rv p1, iv p2, iv (v3 + 1)] [] σ23)))))))))))))))))) : Jt mX0_fulfil (d + 2) 9 t Q 24 [rv 275, rv p1, iv p2, iv v3] [] σ := by
  refine j_iload_n (i := 3) rfl (show decode cX0_fulfil 24 = .ok (.iload_n 3, 1) by decide +kernel) ?_
  refine j_iload_n (i := 2) rfl (show decode cX0_fulfil 25 = .ok (.iload_n 2, 1) by decide +kernel) ?_
  have hr0 := h.1
  have h := h.2
  have hr1 := h.1
  have h := h.2
  refine j_icmp_ge (tgt := 62) hr0 hr1 (show decode cX0_fulfil 26 = .ok (.if_icmp .ge 36, 3) by decide +kernel) (by decide) (fun c => ?_) (fun c => ?_)
  · have h := h.1 c
    refine s_aload_n (i := 0) rfl (show decode cX0_fulfil 62 = .ok (.aload_n 0, 1) by decide +kernel) ?_
    refine j_iload_n (i := 2) rfl (show decode cX0_fulfil 63 = .ok (.iload_n 2, 1) by decide +kernel) ?_
    refine pf_X0_76 rfl (show decode cX0_fulfil 64 = .ok (.putfield 76, 3) by decide +kernel) okl_275 ?_
    obtain ⟨σ3, eσ3⟩ : ∃ z : jM, z = up σ 275 11 p2 := ⟨_, rfl⟩
    refine j_sig eσ3 ?_
    have h := h σ3 eσ3
    refine s_aload_n (i := 0) rfl (show decode cX0_fulfil 67 = .ok (.aload_n 0, 1) by decide +kernel) ?_
    refine j_ctVv (m' := mX0_findLowest) (As := []) (ci := 0) (N := 0) (cw_X0_51 rfl) (show decode cX0_fulfil 68 = .ok (.invokevirtual 51, 3) by decide +kernel) rfl (Nat.le_of_ble_eq_true rfl) okl_275 rfl rfl (Nat.le_refl _) h (fun r4 σ4 h => ?_)
    refine s_aload_n (i := 0) rfl (show decode cX0_fulfil 71 = .ok (.aload_n 0, 1) by decide +kernel) ?_
    refine s_aload_n (i := 0) rfl (show decode cX0_fulfil 72 = .ok (.aload_n 0, 1) by decide +kernel) ?_
    refine gf_X0_54 rfl (show decode cX0_fulfil 73 = .ok (.getfield 54, 3) by decide +kernel) okl_275 ?_
    refine j_iconst (show decode cX0_fulfil 76 = .ok (.iconst 1, 1) by decide +kernel) ?_
    refine j_iadd (show decode cX0_fulfil 77 = .ok (.iadd, 1) by decide +kernel) ?_
    refine pf_X0_69 rfl (show decode cX0_fulfil 78 = .ok (.putfield 69, 3) by decide +kernel) okl_275 ?_
    obtain ⟨σ5, eσ5⟩ : ∃ z : jM, z = up σ4 275 13 ((σ4 275 6) + 1) := ⟨_, rfl⟩
    refine j_sig eσ5 ?_
    have h := h σ5 eσ5
    refine s_aload_n (i := 0) rfl (show decode cX0_fulfil 81 = .ok (.aload_n 0, 1) by decide +kernel) ?_
    refine gf_X0_11 (x := 276) rfl (show decode cX0_fulfil 82 = .ok (.getfield 11, 3) by decide +kernel) okl_275 rfl ?_
    refine j_iconst (show decode cX0_fulfil 85 = .ok (.iconst 0, 1) by decide +kernel) ?_
    refine s_aload_n (i := 0) rfl (show decode cX0_fulfil 86 = .ok (.aload_n 0, 1) by decide +kernel) ?_
    refine gf_X0_40 (x := 285) rfl (show decode cX0_fulfil 87 = .ok (.getfield 40, 3) by decide +kernel) okl_275 rfl ?_
    refine j_iconst (show decode cX0_fulfil 90 = .ok (.iconst 0, 1) by decide +kernel) ?_
    refine s_aload_n (i := 0) rfl (show decode cX0_fulfil 91 = .ok (.aload_n 0, 1) by decide +kernel) ?_
    refine gf_X0_69 rfl (show decode cX0_fulfil 92 = .ok (.getfield 69, 3) by decide +kernel) okl_275 ?_
    have hb5 := h.1
    have h := h.2
    refine j_copy1 (tt_in 903 (by decide +kernel) rfl) (by omega) (Nat.le_of_ble_eq_true rfl) okl_276 okl_285 (arN (t := t) okl_276 (by decide)) (arN (t := t) okl_285 (by decide)) hb5 (show decode cX0_fulfil 95 = .ok (.invokestatic 63, 3) by decide +kernel) ?_
    obtain ⟨σ7, eσ7⟩ : ∃ z : jM, z = cpy σ5 276 0 285 0 (σ5 275 13) := ⟨_, rfl⟩
    refine j_sig eσ7 ?_
    have h := h σ7 eσ7
    exact j_ret (rokV (show decode cX0_fulfil 98 = .ok (.return_, 1) by decide +kernel) rfl) ⟨rfl, rfl, h⟩
  · have h := h.2 c
    refine j_iload_n (i := 3) rfl (show decode cX0_fulfil 29 = .ok (.iload_n 3, 1) by decide +kernel) ?_
    refine s_aload_n (i := 1) rfl (show decode cX0_fulfil 30 = .ok (.aload_n 1, 1) by decide +kernel) ?_
    refine j_alen1 (show decode cX0_fulfil 31 = .ok (.arraylength, 1) by decide +kernel) h1 ?_
    have hr7 := h.1
    have h := h.2
    have hr8 := h.1
    have h := h.2
    refine j_icmp_ge (tgt := 62) hr7 hr8 (show decode cX0_fulfil 32 = .ok (.if_icmp .ge 30, 3) by decide +kernel) (by decide) (fun c => ?_) (fun c => ?_)
    · have h := h.1 c
      refine s_aload_n (i := 0) rfl (show decode cX0_fulfil 62 = .ok (.aload_n 0, 1) by decide +kernel) ?_
      refine j_iload_n (i := 2) rfl (show decode cX0_fulfil 63 = .ok (.iload_n 2, 1) by decide +kernel) ?_
      refine pf_X0_76 rfl (show decode cX0_fulfil 64 = .ok (.putfield 76, 3) by decide +kernel) okl_275 ?_
      obtain ⟨σ10, eσ10⟩ : ∃ z : jM, z = up σ 275 11 p2 := ⟨_, rfl⟩
      refine j_sig eσ10 ?_
      have h := h σ10 eσ10
      refine s_aload_n (i := 0) rfl (show decode cX0_fulfil 67 = .ok (.aload_n 0, 1) by decide +kernel) ?_
      refine j_ctVv (m' := mX0_findLowest) (As := []) (ci := 0) (N := 0) (cw_X0_51 rfl) (show decode cX0_fulfil 68 = .ok (.invokevirtual 51, 3) by decide +kernel) rfl (Nat.le_of_ble_eq_true rfl) okl_275 rfl rfl (Nat.le_refl _) h (fun r11 σ11 h => ?_)
      refine s_aload_n (i := 0) rfl (show decode cX0_fulfil 71 = .ok (.aload_n 0, 1) by decide +kernel) ?_
      refine s_aload_n (i := 0) rfl (show decode cX0_fulfil 72 = .ok (.aload_n 0, 1) by decide +kernel) ?_
      refine gf_X0_54 rfl (show decode cX0_fulfil 73 = .ok (.getfield 54, 3) by decide +kernel) okl_275 ?_
      refine j_iconst (show decode cX0_fulfil 76 = .ok (.iconst 1, 1) by decide +kernel) ?_
      refine j_iadd (show decode cX0_fulfil 77 = .ok (.iadd, 1) by decide +kernel) ?_
      refine pf_X0_69 rfl (show decode cX0_fulfil 78 = .ok (.putfield 69, 3) by decide +kernel) okl_275 ?_
      obtain ⟨σ12, eσ12⟩ : ∃ z : jM, z = up σ11 275 13 ((σ11 275 6) + 1) := ⟨_, rfl⟩
      refine j_sig eσ12 ?_
      have h := h σ12 eσ12
      refine s_aload_n (i := 0) rfl (show decode cX0_fulfil 81 = .ok (.aload_n 0, 1) by decide +kernel) ?_
      refine gf_X0_11 (x := 276) rfl (show decode cX0_fulfil 82 = .ok (.getfield 11, 3) by decide +kernel) okl_275 rfl ?_
      refine j_iconst (show decode cX0_fulfil 85 = .ok (.iconst 0, 1) by decide +kernel) ?_
      refine s_aload_n (i := 0) rfl (show decode cX0_fulfil 86 = .ok (.aload_n 0, 1) by decide +kernel) ?_
      refine gf_X0_40 (x := 285) rfl (show decode cX0_fulfil 87 = .ok (.getfield 40, 3) by decide +kernel) okl_275 rfl ?_
      refine j_iconst (show decode cX0_fulfil 90 = .ok (.iconst 0, 1) by decide +kernel) ?_
      refine s_aload_n (i := 0) rfl (show decode cX0_fulfil 91 = .ok (.aload_n 0, 1) by decide +kernel) ?_
      refine gf_X0_69 rfl (show decode cX0_fulfil 92 = .ok (.getfield 69, 3) by decide +kernel) okl_275 ?_
      have hb12 := h.1
      have h := h.2
      refine j_copy1 (tt_in 903 (by decide +kernel) rfl) (by omega) (Nat.le_of_ble_eq_true rfl) okl_276 okl_285 (arN (t := t) okl_276 (by decide)) (arN (t := t) okl_285 (by decide)) hb12 (show decode cX0_fulfil 95 = .ok (.invokestatic 63, 3) by decide +kernel) ?_
      obtain ⟨σ14, eσ14⟩ : ∃ z : jM, z = cpy σ12 276 0 285 0 (σ12 275 13) := ⟨_, rfl⟩
      refine j_sig eσ14 ?_
      have h := h σ14 eσ14
      exact j_ret (rokV (show decode cX0_fulfil 98 = .ok (.return_, 1) by decide +kernel) rfl) ⟨rfl, rfl, h⟩
    · have h := h.2 c
      refine j_iload_n (i := 3) rfl (show decode cX0_fulfil 35 = .ok (.iload_n 3, 1) by decide +kernel) ?_
      refine j_iconst (show decode cX0_fulfil 36 = .ok (.iconst 4, 1) by decide +kernel) ?_
      have hr14 := h.1
      have h := h.2
      refine j_icmp_ge (tgt := 62) hr14 (inl (by decide)) (show decode cX0_fulfil 37 = .ok (.if_icmp .ge 25, 3) by decide +kernel) (by decide) (fun c => ?_) (fun c => ?_)
      · have h := h.1 c
        refine s_aload_n (i := 0) rfl (show decode cX0_fulfil 62 = .ok (.aload_n 0, 1) by decide +kernel) ?_
        refine j_iload_n (i := 2) rfl (show decode cX0_fulfil 63 = .ok (.iload_n 2, 1) by decide +kernel) ?_
        refine pf_X0_76 rfl (show decode cX0_fulfil 64 = .ok (.putfield 76, 3) by decide +kernel) okl_275 ?_
        obtain ⟨σ16, eσ16⟩ : ∃ z : jM, z = up σ 275 11 p2 := ⟨_, rfl⟩
        refine j_sig eσ16 ?_
        have h := h σ16 eσ16
        refine s_aload_n (i := 0) rfl (show decode cX0_fulfil 67 = .ok (.aload_n 0, 1) by decide +kernel) ?_
        refine j_ctVv (m' := mX0_findLowest) (As := []) (ci := 0) (N := 0) (cw_X0_51 rfl) (show decode cX0_fulfil 68 = .ok (.invokevirtual 51, 3) by decide +kernel) rfl (Nat.le_of_ble_eq_true rfl) okl_275 rfl rfl (Nat.le_refl _) h (fun r17 σ17 h => ?_)
        refine s_aload_n (i := 0) rfl (show decode cX0_fulfil 71 = .ok (.aload_n 0, 1) by decide +kernel) ?_
        refine s_aload_n (i := 0) rfl (show decode cX0_fulfil 72 = .ok (.aload_n 0, 1) by decide +kernel) ?_
        refine gf_X0_54 rfl (show decode cX0_fulfil 73 = .ok (.getfield 54, 3) by decide +kernel) okl_275 ?_
        refine j_iconst (show decode cX0_fulfil 76 = .ok (.iconst 1, 1) by decide +kernel) ?_
        refine j_iadd (show decode cX0_fulfil 77 = .ok (.iadd, 1) by decide +kernel) ?_
        refine pf_X0_69 rfl (show decode cX0_fulfil 78 = .ok (.putfield 69, 3) by decide +kernel) okl_275 ?_
        obtain ⟨σ18, eσ18⟩ : ∃ z : jM, z = up σ17 275 13 ((σ17 275 6) + 1) := ⟨_, rfl⟩
        refine j_sig eσ18 ?_
        have h := h σ18 eσ18
        refine s_aload_n (i := 0) rfl (show decode cX0_fulfil 81 = .ok (.aload_n 0, 1) by decide +kernel) ?_
        refine gf_X0_11 (x := 276) rfl (show decode cX0_fulfil 82 = .ok (.getfield 11, 3) by decide +kernel) okl_275 rfl ?_
        refine j_iconst (show decode cX0_fulfil 85 = .ok (.iconst 0, 1) by decide +kernel) ?_
        refine s_aload_n (i := 0) rfl (show decode cX0_fulfil 86 = .ok (.aload_n 0, 1) by decide +kernel) ?_
        refine gf_X0_40 (x := 285) rfl (show decode cX0_fulfil 87 = .ok (.getfield 40, 3) by decide +kernel) okl_275 rfl ?_
        refine j_iconst (show decode cX0_fulfil 90 = .ok (.iconst 0, 1) by decide +kernel) ?_
        refine s_aload_n (i := 0) rfl (show decode cX0_fulfil 91 = .ok (.aload_n 0, 1) by decide +kernel) ?_
        refine gf_X0_69 rfl (show decode cX0_fulfil 92 = .ok (.getfield 69, 3) by decide +kernel) okl_275 ?_
        have hb18 := h.1
        have h := h.2
        refine j_copy1 (tt_in 903 (by decide +kernel) rfl) (by omega) (Nat.le_of_ble_eq_true rfl) okl_276 okl_285 (arN (t := t) okl_276 (by decide)) (arN (t := t) okl_285 (by decide)) hb18 (show decode cX0_fulfil 95 = .ok (.invokestatic 63, 3) by decide +kernel) ?_
        obtain ⟨σ20, eσ20⟩ : ∃ z : jM, z = cpy σ18 276 0 285 0 (σ18 275 13) := ⟨_, rfl⟩
        refine j_sig eσ20 ?_
        have h := h σ20 eσ20
        exact j_ret (rokV (show decode cX0_fulfil 98 = .ok (.return_, 1) by decide +kernel) rfl) ⟨rfl, rfl, h⟩
      · have h := h.2 c
        refine s_aload_n (i := 0) rfl (show decode cX0_fulfil 40 = .ok (.aload_n 0, 1) by decide +kernel) ?_
        refine gf_X0_37 (x := 284) rfl (show decode cX0_fulfil 41 = .ok (.getfield 37, 3) by decide +kernel) okl_275 rfl ?_
        refine j_iload_n (i := 3) rfl (show decode cX0_fulfil 44 = .ok (.iload_n 3, 1) by decide +kernel) ?_
        refine s_aload_n (i := 1) rfl (show decode cX0_fulfil 45 = .ok (.aload_n 1, 1) by decide +kernel) ?_
        refine j_iload_n (i := 3) rfl (show decode cX0_fulfil 46 = .ok (.iload_n 3, 1) by decide +kernel) ?_
        refine s_iald (show decode cX0_fulfil 47 = .ok (.iaload, 1) by decide +kernel) h1 h.1 ?_
        have h := h.2
        have hb20 := h.1
        have h := h.2
        refine s_iast (show decode cX0_fulfil 48 = .ok (.iastore, 1) by decide +kernel) okl_284 hb20 ?_
        obtain ⟨σ22, eσ22⟩ : ∃ z : jM, z = up σ 284 v3 (σ p1 v3) := ⟨_, rfl⟩
        refine j_sig eσ22 ?_
        have h := h σ22 eσ22
        refine s_aload_n (i := 0) rfl (show decode cX0_fulfil 49 = .ok (.aload_n 0, 1) by decide +kernel) ?_
        refine s_aload_n (i := 1) rfl (show decode cX0_fulfil 50 = .ok (.aload_n 1, 1) by decide +kernel) ?_
        refine j_iload_n (i := 3) rfl (show decode cX0_fulfil 51 = .ok (.iload_n 3, 1) by decide +kernel) ?_
        refine s_iald (show decode cX0_fulfil 52 = .ok (.iaload, 1) by decide +kernel) h1 h.1 ?_
        have h := h.2
        refine j_ctVv (m' := mX0_want) (As := [iv (σ22 p1 v3)]) (ci := 0) (N := 0) (cw_X0_47 rfl) (show decode cX0_fulfil 53 = .ok (.invokevirtual 47, 3) by decide +kernel) rfl (Nat.le_of_ble_eq_true rfl) okl_275 rfl rfl (Nat.le_refl _) h (fun r23 σ23 h => ?_)
        refine s_iinc (i := 3) rfl (L' := [rv 275, rv p1, iv p2, iv (v3 + 1)]) rfl (show decode cX0_fulfil 56 = .ok (.iinc 3 1, 3) by decide +kernel) ?_
        refine j_goto (tgt := 24) (show decode cX0_fulfil 59 = .ok (.goto (-35), 3) by decide +kernel) (by decide) ?_
        exact h
set_option maxRecDepth 4000 in
theorem b_X0_fulfil_0 {d : Nat} {t : Int} {Q : Int → jM → Prop} {σ : jM} {p1 p2 : Int} {n1 : Nat} (h1 : ar (GG t) p1 1 n1) (h : (inR (σ 275 13)) ∧ (((σ 275 13) ≤ 0 → (∀ σ2 : jM, σ2 = up σ 275 5 0 → (Jt mX0_fulfil (d + 2) 9 t Q 24 [rv 275, rv p1, iv p2, iv 0] [] σ2))) ∧ (0 < (σ 275 13) → (Ct mX0_isFulfilled (d + 1) 0 t [rv 275, rv p1, iv p2] σ (fun r3 σ3 => ((inR r3) ∧ ((r3 = 0 → (∀ σ5 : jM, σ5 = up σ3 275 5 0 → (Jt mX0_fulfil (d + 2) 9 t Q 24 [rv 275, rv p1, iv p2, iv 0] [] σ5))) ∧ (¬ r3 = 0 → (Q 0 σ3))))))))) : Jt mX0_fulfil (d + 2) 9 t Q 0 [rv 275, rv p1, iv p2, uv] [] σ := by
  refine s_aload_n (i := 0) rfl (show decode cX0_fulfil 0 = .ok (.aload_n 0, 1) by decide +kernel) ?_
  refine gf_X0_69 rfl (show decode cX0_fulfil 1 = .ok (.getfield 69, 3) by decide +kernel) okl_275 ?_
  have hr0 := h.1
  have h := h.2
  refine j_if_le (tgt := 17) hr0 (show decode cX0_fulfil 4 = .ok (.ifCond .le 13, 3) by decide +kernel) (by decide) (fun c => ?_) (fun c => ?_)
  · have h := h.1 c
    refine s_aload_n (i := 0) rfl (show decode cX0_fulfil 17 = .ok (.aload_n 0, 1) by decide +kernel) ?_
    refine j_iconst (show decode cX0_fulfil 18 = .ok (.iconst 0, 1) by decide +kernel) ?_
    refine pf_X0_43 rfl (show decode cX0_fulfil 19 = .ok (.putfield 43, 3) by decide +kernel) okl_275 ?_
    obtain ⟨σ2, eσ2⟩ : ∃ z : jM, z = up σ 275 5 0 := ⟨_, rfl⟩
    refine j_sig eσ2 ?_
    have h := h σ2 eσ2
    refine j_iconst (show decode cX0_fulfil 22 = .ok (.iconst 0, 1) by decide +kernel) ?_
    refine s_ist_n (i := 3) (L' := [rv 275, rv p1, iv p2, iv 0]) rfl (by decide) (show decode cX0_fulfil 23 = .ok (.istore_n 3, 1) by decide +kernel) ?_
    exact h
  · have h := h.2 c
    refine s_aload_n (i := 0) rfl (show decode cX0_fulfil 7 = .ok (.aload_n 0, 1) by decide +kernel) ?_
    refine s_aload_n (i := 1) rfl (show decode cX0_fulfil 8 = .ok (.aload_n 1, 1) by decide +kernel) ?_
    refine j_iload_n (i := 2) rfl (show decode cX0_fulfil 9 = .ok (.iload_n 2, 1) by decide +kernel) ?_
    refine j_ctV (m' := mX0_isFulfilled) (As := [rv p1, iv p2]) (ci := 0) (tag := 0) (N := 0) (cw_X0_72 rfl) (show decode cX0_fulfil 10 = .ok (.invokevirtual 72, 3) by decide +kernel) rfl (Nat.le_of_ble_eq_true rfl) (by decide) okl_275 rfl rfl (Nat.le_refl _) h (fun r3 σ3 h => ?_)
    have hr3 := h.1
    have h := h.2
    refine j_if_eq (tgt := 17) hr3 (show decode cX0_fulfil 13 = .ok (.ifCond .eq 4, 3) by decide +kernel) (by decide) (fun c => ?_) (fun c => ?_)
    · have h := h.1 c
      refine s_aload_n (i := 0) rfl (show decode cX0_fulfil 17 = .ok (.aload_n 0, 1) by decide +kernel) ?_
      refine j_iconst (show decode cX0_fulfil 18 = .ok (.iconst 0, 1) by decide +kernel) ?_
      refine pf_X0_43 rfl (show decode cX0_fulfil 19 = .ok (.putfield 43, 3) by decide +kernel) okl_275 ?_
      obtain ⟨σ5, eσ5⟩ : ∃ z : jM, z = up σ3 275 5 0 := ⟨_, rfl⟩
      refine j_sig eσ5 ?_
      have h := h σ5 eσ5
      refine j_iconst (show decode cX0_fulfil 22 = .ok (.iconst 0, 1) by decide +kernel) ?_
      refine s_ist_n (i := 3) (L' := [rv 275, rv p1, iv p2, iv 0]) rfl (by decide) (show decode cX0_fulfil 23 = .ok (.istore_n 3, 1) by decide +kernel) ?_
      exact h
    · have h := h.2 c
      exact j_ret (rokV (show decode cX0_fulfil 16 = .ok (.return_, 1) by decide +kernel) rfl) ⟨rfl, rfl, h⟩
theorem c_X0_fulfil {d : Nat} {t : Int} {Q : Int → jM → Prop} {σ : jM} {p1 p2 : Int} {n1 : Nat} (h1 : ar (GG t) p1 1 n1) (h : (inR (σ 275 13)) ∧ (((σ 275 13) ≤ 0 → (∀ σ2 : jM, σ2 = up σ 275 5 0 → (Jt mX0_fulfil (d + 2) 9 t Q 24 [rv 275, rv p1, iv p2, iv 0] [] σ2))) ∧ (0 < (σ 275 13) → (Ct mX0_isFulfilled (d + 1) 0 t [rv 275, rv p1, iv p2] σ (fun r3 σ3 => ((inR r3) ∧ ((r3 = 0 → (∀ σ5 : jM, σ5 = up σ3 275 5 0 → (Jt mX0_fulfil (d + 2) 9 t Q 24 [rv 275, rv p1, iv p2, iv 0] [] σ5))) ∧ (¬ r3 = 0 → (Q 0 σ3))))))))) : Ct mX0_fulfil (d + 2) 9 t [rv 275, rv p1, iv p2] σ Q := Ct_of (by decide +kernel) (Nat.le_of_ble_eq_true rfl) (b_X0_fulfil_0 h1 h)
set_option maxRecDepth 4000 in
theorem b_X0_isFulfilled_12 {d : Nat} {t : Int} {Q : Int → jM → Prop} {σ : jM} {p1 p2 v3 : Int} {n1 : Nat} (h1 : ar (GG t) p1 1 n1) (h : (inR v3) ∧ ((inR p2) ∧ ((p2 ≤ v3 → (Q 1 σ)) ∧ (v3 < p2 → ((inR v3) ∧ ((inR (n1 : Int)) ∧ (((n1 : Int) ≤ v3 → (Q 1 σ)) ∧ (v3 < (n1 : Int) → ((inR v3) ∧ ((4 ≤ v3 → (Q 1 σ)) ∧ (v3 < 4 → (((0 : Int) ≤ v3 ∧ v3 < (n1 : Int)) ∧ (((0 : Int) ≤ v3 ∧ v3 < 4) ∧ ((inR (σ p1 v3)) ∧ ((inR (σ 284 v3)) ∧ (((σ p1 v3) = (σ 284 v3) → (Jt mX0_isFulfilled (d) 0 t Q 12 [rv 275, rv p1, iv p2, iv (v3 + 1)] [] σ)) ∧ (¬ (σ p1 v3) = (σ 284 v3) → (Q 0 σ)))))))))))))))))) : Jt mX0_isFulfilled (d) 0 t Q 12 [rv 275, rv p1, iv p2, iv v3] [] σ := by
  refine j_iload_n (i := 3) rfl (show decode cX0_isFulfilled 12 = .ok (.iload_n 3, 1) by decide +kernel) ?_
  refine j_iload_n (i := 2) rfl (show decode cX0_isFulfilled 13 = .ok (.iload_n 2, 1) by decide +kernel) ?_
  have hr0 := h.1
  have h := h.2
  have hr1 := h.1
  have h := h.2
  refine j_icmp_ge (tgt := 48) hr0 hr1 (show decode cX0_isFulfilled 14 = .ok (.if_icmp .ge 34, 3) by decide +kernel) (by decide) (fun c => ?_) (fun c => ?_)
  · have h := h.1 c
    refine j_iconst (show decode cX0_isFulfilled 48 = .ok (.iconst 1, 1) by decide +kernel) ?_
    exact j_ret (rokZ (show decode cX0_isFulfilled 49 = .ok (.ireturn, 1) by decide +kernel) rfl (Or.inr rfl)) ⟨rfl, rfl, h⟩
  · have h := h.2 c
    refine j_iload_n (i := 3) rfl (show decode cX0_isFulfilled 17 = .ok (.iload_n 3, 1) by decide +kernel) ?_
    refine s_aload_n (i := 1) rfl (show decode cX0_isFulfilled 18 = .ok (.aload_n 1, 1) by decide +kernel) ?_
    refine j_alen1 (show decode cX0_isFulfilled 19 = .ok (.arraylength, 1) by decide +kernel) h1 ?_
    have hr2 := h.1
    have h := h.2
    have hr3 := h.1
    have h := h.2
    refine j_icmp_ge (tgt := 48) hr2 hr3 (show decode cX0_isFulfilled 20 = .ok (.if_icmp .ge 28, 3) by decide +kernel) (by decide) (fun c => ?_) (fun c => ?_)
    · have h := h.1 c
      refine j_iconst (show decode cX0_isFulfilled 48 = .ok (.iconst 1, 1) by decide +kernel) ?_
      exact j_ret (rokZ (show decode cX0_isFulfilled 49 = .ok (.ireturn, 1) by decide +kernel) rfl (Or.inr rfl)) ⟨rfl, rfl, h⟩
    · have h := h.2 c
      refine j_iload_n (i := 3) rfl (show decode cX0_isFulfilled 23 = .ok (.iload_n 3, 1) by decide +kernel) ?_
      refine j_iconst (show decode cX0_isFulfilled 24 = .ok (.iconst 4, 1) by decide +kernel) ?_
      have hr4 := h.1
      have h := h.2
      refine j_icmp_ge (tgt := 48) hr4 (inl (by decide)) (show decode cX0_isFulfilled 25 = .ok (.if_icmp .ge 23, 3) by decide +kernel) (by decide) (fun c => ?_) (fun c => ?_)
      · have h := h.1 c
        refine j_iconst (show decode cX0_isFulfilled 48 = .ok (.iconst 1, 1) by decide +kernel) ?_
        exact j_ret (rokZ (show decode cX0_isFulfilled 49 = .ok (.ireturn, 1) by decide +kernel) rfl (Or.inr rfl)) ⟨rfl, rfl, h⟩
      · have h := h.2 c
        refine s_aload_n (i := 1) rfl (show decode cX0_isFulfilled 28 = .ok (.aload_n 1, 1) by decide +kernel) ?_
        refine j_iload_n (i := 3) rfl (show decode cX0_isFulfilled 29 = .ok (.iload_n 3, 1) by decide +kernel) ?_
        refine s_iald (show decode cX0_isFulfilled 30 = .ok (.iaload, 1) by decide +kernel) h1 h.1 ?_
        have h := h.2
        refine s_aload_n (i := 0) rfl (show decode cX0_isFulfilled 31 = .ok (.aload_n 0, 1) by decide +kernel) ?_
        refine gf_X0_37 (x := 284) rfl (show decode cX0_isFulfilled 32 = .ok (.getfield 37, 3) by decide +kernel) okl_275 rfl ?_
        refine j_iload_n (i := 3) rfl (show decode cX0_isFulfilled 35 = .ok (.iload_n 3, 1) by decide +kernel) ?_
        refine s_iald (show decode cX0_isFulfilled 36 = .ok (.iaload, 1) by decide +kernel) okl_284 h.1 ?_
        have h := h.2
        have hr5 := h.1
        have h := h.2
        have hr6 := h.1
        have h := h.2
        refine j_icmp_eq (tgt := 42) hr5 hr6 (show decode cX0_isFulfilled 37 = .ok (.if_icmp .eq 5, 3) by decide +kernel) (by decide) (fun c => ?_) (fun c => ?_)
        · have h := h.1 c
          refine s_iinc (i := 3) rfl (L' := [rv 275, rv p1, iv p2, iv (v3 + 1)]) rfl (show decode cX0_isFulfilled 42 = .ok (.iinc 3 1, 3) by decide +kernel) ?_
          refine j_goto (tgt := 12) (show decode cX0_isFulfilled 45 = .ok (.goto (-33), 3) by decide +kernel) (by decide) ?_
          exact h
        · have h := h.2 c
          refine j_iconst (show decode cX0_isFulfilled 40 = .ok (.iconst 0, 1) by decide +kernel) ?_
          exact j_ret (rokZ (show decode cX0_isFulfilled 41 = .ok (.ireturn, 1) by decide +kernel) rfl (Or.inl rfl)) ⟨rfl, rfl, h⟩
set_option maxRecDepth 4000 in
theorem b_X0_isFulfilled_0 {d : Nat} {t : Int} {Q : Int → jM → Prop} {σ : jM} {p1 p2 : Int} {n1 : Nat} (h1 : ar (GG t) p1 1 n1) (h : (inR p2) ∧ ((inR (σ 275 11)) ∧ ((p2 = (σ 275 11) → (Jt mX0_isFulfilled (d) 0 t Q 12 [rv 275, rv p1, iv p2, iv 0] [] σ)) ∧ (¬ p2 = (σ 275 11) → (Q 0 σ))))) : Jt mX0_isFulfilled (d) 0 t Q 0 [rv 275, rv p1, iv p2, uv] [] σ := by
  refine j_iload_n (i := 2) rfl (show decode cX0_isFulfilled 0 = .ok (.iload_n 2, 1) by decide +kernel) ?_
  refine s_aload_n (i := 0) rfl (show decode cX0_isFulfilled 1 = .ok (.aload_n 0, 1) by decide +kernel) ?_
  refine gf_X0_76 rfl (show decode cX0_isFulfilled 2 = .ok (.getfield 76, 3) by decide +kernel) okl_275 ?_
  have hr0 := h.1
  have h := h.2
  have hr1 := h.1
  have h := h.2
  refine j_icmp_eq (tgt := 10) hr0 hr1 (show decode cX0_isFulfilled 5 = .ok (.if_icmp .eq 5, 3) by decide +kernel) (by decide) (fun c => ?_) (fun c => ?_)
  · have h := h.1 c
    refine j_iconst (show decode cX0_isFulfilled 10 = .ok (.iconst 0, 1) by decide +kernel) ?_
    refine s_ist_n (i := 3) (L' := [rv 275, rv p1, iv p2, iv 0]) rfl (by decide) (show decode cX0_isFulfilled 11 = .ok (.istore_n 3, 1) by decide +kernel) ?_
    exact h
  · have h := h.2 c
    refine j_iconst (show decode cX0_isFulfilled 8 = .ok (.iconst 0, 1) by decide +kernel) ?_
    exact j_ret (rokZ (show decode cX0_isFulfilled 9 = .ok (.ireturn, 1) by decide +kernel) rfl (Or.inl rfl)) ⟨rfl, rfl, h⟩
theorem c_X0_isFulfilled {d : Nat} {t : Int} {Q : Int → jM → Prop} {σ : jM} {p1 p2 : Int} {n1 : Nat} (h1 : ar (GG t) p1 1 n1) (h : (inR p2) ∧ ((inR (σ 275 11)) ∧ ((p2 = (σ 275 11) → (Jt mX0_isFulfilled (d) 0 t Q 12 [rv 275, rv p1, iv p2, iv 0] [] σ)) ∧ (¬ p2 = (σ 275 11) → (Q 0 σ))))) : Ct mX0_isFulfilled (d) 0 t [rv 275, rv p1, iv p2] σ Q := Ct_of (by decide +kernel) (Nat.le_of_ble_eq_true rfl) (b_X0_isFulfilled_0 h1 h)
set_option maxRecDepth 4000 in
theorem b_X0_want_63 {d : Nat} {t : Int} {Q : Int → jM → Prop} {σ : jM} {p1 v2 v3 : Int} (h : (inR v3) ∧ ((inR v2) ∧ ((v3 ≤ v2 → (((0 : Int) ≤ v2 ∧ v2 < 4) ∧ (∀ σ4 : jM, σ4 = up σ 280 v2 p1 → (∀ σ5 : jM, σ5 = up σ4 275 5 ((σ4 275 5) + 1) → (Q 0 σ5))))) ∧ (v2 < v3 → (((0 : Int) ≤ (v3 - 1) ∧ (v3 - 1) < 4) ∧ (((0 : Int) ≤ v3 ∧ v3 < 4) ∧ (∀ σ7 : jM, σ7 = up σ 280 v3 (σ 280 (v3 - 1)) → (Jt mX0_want (d) 9 t Q 63 [rv 275, iv p1, iv v2, iv (v3 + (-1))] [] σ7)))))))) : Jt mX0_want (d) 9 t Q 63 [rv 275, iv p1, iv v2, iv v3] [] σ := by
  refine j_iload_n (i := 3) rfl (show decode cX0_want 63 = .ok (.iload_n 3, 1) by decide +kernel) ?_
  refine j_iload_n (i := 2) rfl (show decode cX0_want 64 = .ok (.iload_n 2, 1) by decide +kernel) ?_
  have hr0 := h.1
  have h := h.2
  have hr1 := h.1
  have h := h.2
  refine j_icmp_le (tgt := 88) hr0 hr1 (show decode cX0_want 65 = .ok (.if_icmp .le 23, 3) by decide +kernel) (by decide) (fun c => ?_) (fun c => ?_)
  · have h := h.1 c
    refine s_aload_n (i := 0) rfl (show decode cX0_want 88 = .ok (.aload_n 0, 1) by decide +kernel) ?_
    refine gf_X0_25 (x := 280) rfl (show decode cX0_want 89 = .ok (.getfield 25, 3) by decide +kernel) okl_275 rfl ?_
    refine j_iload_n (i := 2) rfl (show decode cX0_want 92 = .ok (.iload_n 2, 1) by decide +kernel) ?_
    refine j_iload_n (i := 1) rfl (show decode cX0_want 93 = .ok (.iload_n 1, 1) by decide +kernel) ?_
    have hb2 := h.1
    have h := h.2
    refine s_iast (show decode cX0_want 94 = .ok (.iastore, 1) by decide +kernel) okl_280 hb2 ?_
    obtain ⟨σ4, eσ4⟩ : ∃ z : jM, z = up σ 280 v2 p1 := ⟨_, rfl⟩
    refine j_sig eσ4 ?_
    have h := h σ4 eσ4
    refine s_aload_n (i := 0) rfl (show decode cX0_want 95 = .ok (.aload_n 0, 1) by decide +kernel) ?_
    refine j_dup (show (2 : Nat) ≠ 1 by decide) (show decode cX0_want 96 = .ok (.dup, 1) by decide +kernel) ?_
    refine gf_X0_43 rfl (show decode cX0_want 97 = .ok (.getfield 43, 3) by decide +kernel) okl_275 ?_
    refine j_iconst (show decode cX0_want 100 = .ok (.iconst 1, 1) by decide +kernel) ?_
    refine j_iadd (show decode cX0_want 101 = .ok (.iadd, 1) by decide +kernel) ?_
    refine pf_X0_43 rfl (show decode cX0_want 102 = .ok (.putfield 43, 3) by decide +kernel) okl_275 ?_
    obtain ⟨σ5, eσ5⟩ : ∃ z : jM, z = up σ4 275 5 ((σ4 275 5) + 1) := ⟨_, rfl⟩
    refine j_sig eσ5 ?_
    have h := h σ5 eσ5
    exact j_ret (rokV (show decode cX0_want 105 = .ok (.return_, 1) by decide +kernel) rfl) ⟨rfl, rfl, h⟩
  · have h := h.2 c
    refine s_aload_n (i := 0) rfl (show decode cX0_want 68 = .ok (.aload_n 0, 1) by decide +kernel) ?_
    refine gf_X0_25 (x := 280) rfl (show decode cX0_want 69 = .ok (.getfield 25, 3) by decide +kernel) okl_275 rfl ?_
    refine j_iload_n (i := 3) rfl (show decode cX0_want 72 = .ok (.iload_n 3, 1) by decide +kernel) ?_
    refine s_aload_n (i := 0) rfl (show decode cX0_want 73 = .ok (.aload_n 0, 1) by decide +kernel) ?_
    refine gf_X0_25 (x := 280) rfl (show decode cX0_want 74 = .ok (.getfield 25, 3) by decide +kernel) okl_275 rfl ?_
    refine j_iload_n (i := 3) rfl (show decode cX0_want 77 = .ok (.iload_n 3, 1) by decide +kernel) ?_
    refine j_iconst (show decode cX0_want 78 = .ok (.iconst 1, 1) by decide +kernel) ?_
    refine j_isub (show decode cX0_want 79 = .ok (.isub, 1) by decide +kernel) ?_
    refine s_iald (show decode cX0_want 80 = .ok (.iaload, 1) by decide +kernel) okl_280 h.1 ?_
    have h := h.2
    have hb5 := h.1
    have h := h.2
    refine s_iast (show decode cX0_want 81 = .ok (.iastore, 1) by decide +kernel) okl_280 hb5 ?_
    obtain ⟨σ7, eσ7⟩ : ∃ z : jM, z = up σ 280 v3 (σ 280 (v3 - 1)) := ⟨_, rfl⟩
    refine j_sig eσ7 ?_
    have h := h σ7 eσ7
    refine s_iinc (i := 3) rfl (L' := [rv 275, iv p1, iv v2, iv (v3 + (-1))]) rfl (show decode cX0_want 82 = .ok (.iinc 3 (-1), 3) by decide +kernel) ?_
    refine j_goto (tgt := 63) (show decode cX0_want 85 = .ok (.goto (-22), 3) by decide +kernel) (by decide) ?_
    exact h
set_option maxRecDepth 4000 in
theorem b_X0_want_2 {d : Nat} {t : Int} {Q : Int → jM → Prop} {σ : jM} {p1 v2 : Int} (h : (inR v2) ∧ ((inR (σ 275 5)) ∧ (((σ 275 5) ≤ v2 → ((inR p1) ∧ ((p1 = 1 → (Q 0 σ)) ∧ (¬ p1 = 1 → ((inR (σ 275 5)) ∧ ((4 ≤ (σ 275 5) → (Q 0 σ)) ∧ ((σ 275 5) < 4 → ((inR v2) ∧ ((inR (σ 275 5)) ∧ (((σ 275 5) ≤ v2 → (Jt mX0_want (d) 9 t Q 63 [rv 275, iv p1, iv v2, iv (σ 275 5)] [] σ)) ∧ (v2 < (σ 275 5) → (((0 : Int) ≤ v2 ∧ v2 < 4) ∧ ((inR (σ 280 v2)) ∧ ((inR p1) ∧ ((¬ (σ 280 v2) = p1 → (Jt mX0_want (d) 9 t Q 63 [rv 275, iv p1, iv v2, iv (σ 275 5)] [] σ)) ∧ ((σ 280 v2) = p1 → (Q 0 σ))))))))))))))))) ∧ (v2 < (σ 275 5) → (((0 : Int) ≤ v2 ∧ v2 < 4) ∧ ((inR (σ 280 v2)) ∧ ((inR p1) ∧ ((p1 ≤ (σ 280 v2) → ((inR p1) ∧ ((p1 = 1 → (Q 0 σ)) ∧ (¬ p1 = 1 → ((inR (σ 275 5)) ∧ ((4 ≤ (σ 275 5) → (Q 0 σ)) ∧ ((σ 275 5) < 4 → ((inR v2) ∧ ((inR (σ 275 5)) ∧ (((σ 275 5) ≤ v2 → (Jt mX0_want (d) 9 t Q 63 [rv 275, iv p1, iv v2, iv (σ 275 5)] [] σ)) ∧ (v2 < (σ 275 5) → (((0 : Int) ≤ v2 ∧ v2 < 4) ∧ ((inR (σ 280 v2)) ∧ ((inR p1) ∧ ((¬ (σ 280 v2) = p1 → (Jt mX0_want (d) 9 t Q 63 [rv 275, iv p1, iv v2, iv (σ 275 5)] [] σ)) ∧ ((σ 280 v2) = p1 → (Q 0 σ))))))))))))))))) ∧ ((σ 280 v2) < p1 → (Jt mX0_want (d) 9 t Q 2 [rv 275, iv p1, iv (v2 + 1), uv] [] σ)))))))))) : Jt mX0_want (d) 9 t Q 2 [rv 275, iv p1, iv v2, uv] [] σ := by
  refine j_iload_n (i := 2) rfl (show decode cX0_want 2 = .ok (.iload_n 2, 1) by decide +kernel) ?_
  refine s_aload_n (i := 0) rfl (show decode cX0_want 3 = .ok (.aload_n 0, 1) by decide +kernel) ?_
  refine gf_X0_43 rfl (show decode cX0_want 4 = .ok (.getfield 43, 3) by decide +kernel) okl_275 ?_
  have hr0 := h.1
  have h := h.2
  have hr1 := h.1
  have h := h.2
  refine j_icmp_ge (tgt := 26) hr0 hr1 (show decode cX0_want 7 = .ok (.if_icmp .ge 19, 3) by decide +kernel) (by decide) (fun c => ?_) (fun c => ?_)
  · have h := h.1 c
    refine j_iload_n (i := 1) rfl (show decode cX0_want 26 = .ok (.iload_n 1, 1) by decide +kernel) ?_
    refine j_iconst (show decode cX0_want 27 = .ok (.iconst 1, 1) by decide +kernel) ?_
    have hr2 := h.1
    have h := h.2
    refine j_icmp_eq (tgt := 57) hr2 (inl (by decide)) (show decode cX0_want 28 = .ok (.if_icmp .eq 29, 3) by decide +kernel) (by decide) (fun c => ?_) (fun c => ?_)
    · have h := h.1 c
      exact j_ret (rokV (show decode cX0_want 57 = .ok (.return_, 1) by decide +kernel) rfl) ⟨rfl, rfl, h⟩
    · have h := h.2 c
      refine s_aload_n (i := 0) rfl (show decode cX0_want 31 = .ok (.aload_n 0, 1) by decide +kernel) ?_
      refine gf_X0_43 rfl (show decode cX0_want 32 = .ok (.getfield 43, 3) by decide +kernel) okl_275 ?_
      refine j_iconst (show decode cX0_want 35 = .ok (.iconst 4, 1) by decide +kernel) ?_
      have hr3 := h.1
      have h := h.2
      refine j_icmp_ge (tgt := 57) hr3 (inl (by decide)) (show decode cX0_want 36 = .ok (.if_icmp .ge 21, 3) by decide +kernel) (by decide) (fun c => ?_) (fun c => ?_)
      · have h := h.1 c
        exact j_ret (rokV (show decode cX0_want 57 = .ok (.return_, 1) by decide +kernel) rfl) ⟨rfl, rfl, h⟩
      · have h := h.2 c
        refine j_iload_n (i := 2) rfl (show decode cX0_want 39 = .ok (.iload_n 2, 1) by decide +kernel) ?_
        refine s_aload_n (i := 0) rfl (show decode cX0_want 40 = .ok (.aload_n 0, 1) by decide +kernel) ?_
        refine gf_X0_43 rfl (show decode cX0_want 41 = .ok (.getfield 43, 3) by decide +kernel) okl_275 ?_
        have hr4 := h.1
        have h := h.2
        have hr5 := h.1
        have h := h.2
        refine j_icmp_ge (tgt := 58) hr4 hr5 (show decode cX0_want 44 = .ok (.if_icmp .ge 14, 3) by decide +kernel) (by decide) (fun c => ?_) (fun c => ?_)
        · have h := h.1 c
          refine s_aload_n (i := 0) rfl (show decode cX0_want 58 = .ok (.aload_n 0, 1) by decide +kernel) ?_
          refine gf_X0_43 rfl (show decode cX0_want 59 = .ok (.getfield 43, 3) by decide +kernel) okl_275 ?_
          refine s_ist_n (i := 3) (L' := [rv 275, iv p1, iv v2, iv (σ 275 5)]) rfl (by decide) (show decode cX0_want 62 = .ok (.istore_n 3, 1) by decide +kernel) ?_
          exact h
        · have h := h.2 c
          refine s_aload_n (i := 0) rfl (show decode cX0_want 47 = .ok (.aload_n 0, 1) by decide +kernel) ?_
          refine gf_X0_25 (x := 280) rfl (show decode cX0_want 48 = .ok (.getfield 25, 3) by decide +kernel) okl_275 rfl ?_
          refine j_iload_n (i := 2) rfl (show decode cX0_want 51 = .ok (.iload_n 2, 1) by decide +kernel) ?_
          refine s_iald (show decode cX0_want 52 = .ok (.iaload, 1) by decide +kernel) okl_280 h.1 ?_
          have h := h.2
          refine j_iload_n (i := 1) rfl (show decode cX0_want 53 = .ok (.iload_n 1, 1) by decide +kernel) ?_
          have hr6 := h.1
          have h := h.2
          have hr7 := h.1
          have h := h.2
          refine j_icmp_ne (tgt := 58) hr6 hr7 (show decode cX0_want 54 = .ok (.if_icmp .ne 4, 3) by decide +kernel) (by decide) (fun c => ?_) (fun c => ?_)
          · have h := h.1 c
            refine s_aload_n (i := 0) rfl (show decode cX0_want 58 = .ok (.aload_n 0, 1) by decide +kernel) ?_
            refine gf_X0_43 rfl (show decode cX0_want 59 = .ok (.getfield 43, 3) by decide +kernel) okl_275 ?_
            refine s_ist_n (i := 3) (L' := [rv 275, iv p1, iv v2, iv (σ 275 5)]) rfl (by decide) (show decode cX0_want 62 = .ok (.istore_n 3, 1) by decide +kernel) ?_
            exact h
          · have h := h.2 c
            exact j_ret (rokV (show decode cX0_want 57 = .ok (.return_, 1) by decide +kernel) rfl) ⟨rfl, rfl, h⟩
  · have h := h.2 c
    refine s_aload_n (i := 0) rfl (show decode cX0_want 10 = .ok (.aload_n 0, 1) by decide +kernel) ?_
    refine gf_X0_25 (x := 280) rfl (show decode cX0_want 11 = .ok (.getfield 25, 3) by decide +kernel) okl_275 rfl ?_
    refine j_iload_n (i := 2) rfl (show decode cX0_want 14 = .ok (.iload_n 2, 1) by decide +kernel) ?_
    refine s_iald (show decode cX0_want 15 = .ok (.iaload, 1) by decide +kernel) okl_280 h.1 ?_
    have h := h.2
    refine j_iload_n (i := 1) rfl (show decode cX0_want 16 = .ok (.iload_n 1, 1) by decide +kernel) ?_
    have hr8 := h.1
    have h := h.2
    have hr9 := h.1
    have h := h.2
    refine j_icmp_ge (tgt := 26) hr8 hr9 (show decode cX0_want 17 = .ok (.if_icmp .ge 9, 3) by decide +kernel) (by decide) (fun c => ?_) (fun c => ?_)
    · have h := h.1 c
      refine j_iload_n (i := 1) rfl (show decode cX0_want 26 = .ok (.iload_n 1, 1) by decide +kernel) ?_
      refine j_iconst (show decode cX0_want 27 = .ok (.iconst 1, 1) by decide +kernel) ?_
      have hr10 := h.1
      have h := h.2
      refine j_icmp_eq (tgt := 57) hr10 (inl (by decide)) (show decode cX0_want 28 = .ok (.if_icmp .eq 29, 3) by decide +kernel) (by decide) (fun c => ?_) (fun c => ?_)
      · have h := h.1 c
        exact j_ret (rokV (show decode cX0_want 57 = .ok (.return_, 1) by decide +kernel) rfl) ⟨rfl, rfl, h⟩
      · have h := h.2 c
        refine s_aload_n (i := 0) rfl (show decode cX0_want 31 = .ok (.aload_n 0, 1) by decide +kernel) ?_
        refine gf_X0_43 rfl (show decode cX0_want 32 = .ok (.getfield 43, 3) by decide +kernel) okl_275 ?_
        refine j_iconst (show decode cX0_want 35 = .ok (.iconst 4, 1) by decide +kernel) ?_
        have hr11 := h.1
        have h := h.2
        refine j_icmp_ge (tgt := 57) hr11 (inl (by decide)) (show decode cX0_want 36 = .ok (.if_icmp .ge 21, 3) by decide +kernel) (by decide) (fun c => ?_) (fun c => ?_)
        · have h := h.1 c
          exact j_ret (rokV (show decode cX0_want 57 = .ok (.return_, 1) by decide +kernel) rfl) ⟨rfl, rfl, h⟩
        · have h := h.2 c
          refine j_iload_n (i := 2) rfl (show decode cX0_want 39 = .ok (.iload_n 2, 1) by decide +kernel) ?_
          refine s_aload_n (i := 0) rfl (show decode cX0_want 40 = .ok (.aload_n 0, 1) by decide +kernel) ?_
          refine gf_X0_43 rfl (show decode cX0_want 41 = .ok (.getfield 43, 3) by decide +kernel) okl_275 ?_
          have hr12 := h.1
          have h := h.2
          have hr13 := h.1
          have h := h.2
          refine j_icmp_ge (tgt := 58) hr12 hr13 (show decode cX0_want 44 = .ok (.if_icmp .ge 14, 3) by decide +kernel) (by decide) (fun c => ?_) (fun c => ?_)
          · have h := h.1 c
            refine s_aload_n (i := 0) rfl (show decode cX0_want 58 = .ok (.aload_n 0, 1) by decide +kernel) ?_
            refine gf_X0_43 rfl (show decode cX0_want 59 = .ok (.getfield 43, 3) by decide +kernel) okl_275 ?_
            refine s_ist_n (i := 3) (L' := [rv 275, iv p1, iv v2, iv (σ 275 5)]) rfl (by decide) (show decode cX0_want 62 = .ok (.istore_n 3, 1) by decide +kernel) ?_
            exact h
          · have h := h.2 c
            refine s_aload_n (i := 0) rfl (show decode cX0_want 47 = .ok (.aload_n 0, 1) by decide +kernel) ?_
            refine gf_X0_25 (x := 280) rfl (show decode cX0_want 48 = .ok (.getfield 25, 3) by decide +kernel) okl_275 rfl ?_
            refine j_iload_n (i := 2) rfl (show decode cX0_want 51 = .ok (.iload_n 2, 1) by decide +kernel) ?_
            refine s_iald (show decode cX0_want 52 = .ok (.iaload, 1) by decide +kernel) okl_280 h.1 ?_
            have h := h.2
            refine j_iload_n (i := 1) rfl (show decode cX0_want 53 = .ok (.iload_n 1, 1) by decide +kernel) ?_
            have hr14 := h.1
            have h := h.2
            have hr15 := h.1
            have h := h.2
            refine j_icmp_ne (tgt := 58) hr14 hr15 (show decode cX0_want 54 = .ok (.if_icmp .ne 4, 3) by decide +kernel) (by decide) (fun c => ?_) (fun c => ?_)
            · have h := h.1 c
              refine s_aload_n (i := 0) rfl (show decode cX0_want 58 = .ok (.aload_n 0, 1) by decide +kernel) ?_
              refine gf_X0_43 rfl (show decode cX0_want 59 = .ok (.getfield 43, 3) by decide +kernel) okl_275 ?_
              refine s_ist_n (i := 3) (L' := [rv 275, iv p1, iv v2, iv (σ 275 5)]) rfl (by decide) (show decode cX0_want 62 = .ok (.istore_n 3, 1) by decide +kernel) ?_
              exact h
            · have h := h.2 c
              exact j_ret (rokV (show decode cX0_want 57 = .ok (.return_, 1) by decide +kernel) rfl) ⟨rfl, rfl, h⟩
    · have h := h.2 c
      refine s_iinc (i := 2) rfl (L' := [rv 275, iv p1, iv (v2 + 1), uv]) rfl (show decode cX0_want 20 = .ok (.iinc 2 1, 3) by decide +kernel) ?_
      refine j_goto (tgt := 2) (show decode cX0_want 23 = .ok (.goto (-21), 3) by decide +kernel) (by decide) ?_
      exact h
set_option maxRecDepth 4000 in
theorem b_X0_want_0 {d : Nat} {t : Int} {Q : Int → jM → Prop} {σ : jM} {p1 : Int} (h : Jt mX0_want (d) 9 t Q 2 [rv 275, iv p1, iv 0, uv] [] σ) : Jt mX0_want (d) 9 t Q 0 [rv 275, iv p1, uv, uv] [] σ := by
  refine j_iconst (show decode cX0_want 0 = .ok (.iconst 0, 1) by decide +kernel) ?_
  refine s_ist_n (i := 2) (L' := [rv 275, iv p1, iv 0, uv]) rfl (by decide) (show decode cX0_want 1 = .ok (.istore_n 2, 1) by decide +kernel) ?_
  exact h
theorem c_X0_want {d : Nat} {t : Int} {Q : Int → jM → Prop} {σ : jM} {p1 : Int} (h : Jt mX0_want (d) 9 t Q 2 [rv 275, iv p1, iv 0, uv] [] σ) : Ct mX0_want (d) 9 t [rv 275, iv p1] σ Q := Ct_of (by decide +kernel) (Nat.le_of_ble_eq_true rfl) (b_X0_want_0 h)
set_option maxRecDepth 4000 in
theorem b_X0_findLowest_24 {d : Nat} {t : Int} {Q : Int → jM → Prop} {σ : jM} {v1 : Int} (h : (inR v1) ∧ ((24 ≤ v1 → (Q 0 σ)) ∧ (v1 < 24 → (∀ σ2 : jM, σ2 = up σ 275 6 v1 → (Ct mX0_goesOn d 0 t [rv 275, iv 0, iv 0] σ2 (fun r3 σ3 => ((inR r3) ∧ ((r3 = 0 → (Jt mX0_findLowest (d + 1) 9 t Q 24 [rv 275, iv (v1 + 1)] [] σ3)) ∧ (¬ r3 = 0 → (Q 0 σ3)))))))))) : Jt mX0_findLowest (d + 1) 9 t Q 24 [rv 275, iv v1] [] σ := by
  refine j_iload_n (i := 1) rfl (show decode cX0_findLowest 24 = .ok (.iload_n 1, 1) by decide +kernel) ?_
  refine j_bipush (n := 24) (by decide +kernel) (show decode cX0_findLowest 25 = .ok (.bipush 24, 2) by decide +kernel) ?_
  have hr0 := h.1
  have h := h.2
  refine j_icmp_ge (tgt := 51) hr0 (inl (by decide)) (show decode cX0_findLowest 27 = .ok (.if_icmp .ge 24, 3) by decide +kernel) (by decide) (fun c => ?_) (fun c => ?_)
  · have h := h.1 c
    exact j_ret (rokV (show decode cX0_findLowest 51 = .ok (.return_, 1) by decide +kernel) rfl) ⟨rfl, rfl, h⟩
  · have h := h.2 c
    refine s_aload_n (i := 0) rfl (show decode cX0_findLowest 30 = .ok (.aload_n 0, 1) by decide +kernel) ?_
    refine j_iload_n (i := 1) rfl (show decode cX0_findLowest 31 = .ok (.iload_n 1, 1) by decide +kernel) ?_
    refine pf_X0_54 rfl (show decode cX0_findLowest 32 = .ok (.putfield 54, 3) by decide +kernel) okl_275 ?_
    obtain ⟨σ2, eσ2⟩ : ∃ z : jM, z = up σ 275 6 v1 := ⟨_, rfl⟩
    refine j_sig eσ2 ?_
    have h := h σ2 eσ2
    refine s_aload_n (i := 0) rfl (show decode cX0_findLowest 35 = .ok (.aload_n 0, 1) by decide +kernel) ?_
    refine j_iconst (show decode cX0_findLowest 36 = .ok (.iconst 0, 1) by decide +kernel) ?_
    refine j_iconst (show decode cX0_findLowest 37 = .ok (.iconst 0, 1) by decide +kernel) ?_
    refine j_ctV (m' := mX0_goesOn) (As := [iv 0, iv 0]) (ci := 0) (tag := 0) (N := 0) (cw_X0_83 rfl) (show decode cX0_findLowest 38 = .ok (.invokevirtual 83, 3) by decide +kernel) rfl (Nat.le_of_ble_eq_true rfl) (by decide) okl_275 rfl rfl (Nat.le_refl _) h (fun r3 σ3 h => ?_)
    have hr3 := h.1
    have h := h.2
    refine j_if_eq (tgt := 45) hr3 (show decode cX0_findLowest 41 = .ok (.ifCond .eq 4, 3) by decide +kernel) (by decide) (fun c => ?_) (fun c => ?_)
    · have h := h.1 c
      refine s_iinc (i := 1) rfl (L' := [rv 275, iv (v1 + 1)]) rfl (show decode cX0_findLowest 45 = .ok (.iinc 1 1, 3) by decide +kernel) ?_
      refine j_goto (tgt := 24) (show decode cX0_findLowest 48 = .ok (.goto (-24), 3) by decide +kernel) (by decide) ?_
      exact h
    · have h := h.2 c
      exact j_ret (rokV (show decode cX0_findLowest 44 = .ok (.return_, 1) by decide +kernel) rfl) ⟨rfl, rfl, h⟩
set_option maxRecDepth 4000 in
theorem b_X0_findLowest_0 {d : Nat} {t : Int} {Q : Int → jM → Prop} {σ : jM} (h : ∀ σ1 : jM, σ1 = up σ 275 6 0 → (Ct mX0_put d 9 t [rv 275, iv 0, iv 1] σ1 (fun r2 σ2 => ((inR (σ2 275 5)) ∧ ((¬ (σ2 275 5) = 0 → (Jt mX0_findLowest (d + 1) 9 t Q 24 [rv 275, iv (σ2 275 5)] [] σ2)) ∧ ((σ2 275 5) = 0 → (Q 0 σ2))))))) : Jt mX0_findLowest (d + 1) 9 t Q 0 [rv 275, uv] [] σ := by
  refine s_aload_n (i := 0) rfl (show decode cX0_findLowest 0 = .ok (.aload_n 0, 1) by decide +kernel) ?_
  refine j_iconst (show decode cX0_findLowest 1 = .ok (.iconst 0, 1) by decide +kernel) ?_
  refine pf_X0_54 rfl (show decode cX0_findLowest 2 = .ok (.putfield 54, 3) by decide +kernel) okl_275 ?_
  obtain ⟨σ1, eσ1⟩ : ∃ z : jM, z = up σ 275 6 0 := ⟨_, rfl⟩
  refine j_sig eσ1 ?_
  have h := h σ1 eσ1
  refine s_aload_n (i := 0) rfl (show decode cX0_findLowest 5 = .ok (.aload_n 0, 1) by decide +kernel) ?_
  refine j_iconst (show decode cX0_findLowest 6 = .ok (.iconst 0, 1) by decide +kernel) ?_
  refine j_iconst (show decode cX0_findLowest 7 = .ok (.iconst 1, 1) by decide +kernel) ?_
  refine j_ctVv (m' := mX0_put) (As := [iv 0, iv 1]) (ci := 0) (N := 0) (cw_X0_79 rfl) (show decode cX0_findLowest 8 = .ok (.invokevirtual 79, 3) by decide +kernel) rfl (Nat.le_of_ble_eq_true rfl) okl_275 rfl rfl (Nat.le_refl _) h (fun r2 σ2 h => ?_)
  refine s_aload_n (i := 0) rfl (show decode cX0_findLowest 11 = .ok (.aload_n 0, 1) by decide +kernel) ?_
  refine gf_X0_43 rfl (show decode cX0_findLowest 12 = .ok (.getfield 43, 3) by decide +kernel) okl_275 ?_
  have hr2 := h.1
  have h := h.2
  refine j_if_ne (tgt := 19) hr2 (show decode cX0_findLowest 15 = .ok (.ifCond .ne 4, 3) by decide +kernel) (by decide) (fun c => ?_) (fun c => ?_)
  · have h := h.1 c
    refine s_aload_n (i := 0) rfl (show decode cX0_findLowest 19 = .ok (.aload_n 0, 1) by decide +kernel) ?_
    refine gf_X0_43 rfl (show decode cX0_findLowest 20 = .ok (.getfield 43, 3) by decide +kernel) okl_275 ?_
    refine s_ist_n (i := 1) (L' := [rv 275, iv (σ2 275 5)]) rfl (by decide) (show decode cX0_findLowest 23 = .ok (.istore_n 1, 1) by decide +kernel) ?_
    exact h
  · have h := h.2 c
    exact j_ret (rokV (show decode cX0_findLowest 18 = .ok (.return_, 1) by decide +kernel) rfl) ⟨rfl, rfl, h⟩
theorem c_X0_findLowest {d : Nat} {t : Int} {Q : Int → jM → Prop} {σ : jM} (h : ∀ σ1 : jM, σ1 = up σ 275 6 0 → (Ct mX0_put d 9 t [rv 275, iv 0, iv 1] σ1 (fun r2 σ2 => ((inR (σ2 275 5)) ∧ ((¬ (σ2 275 5) = 0 → (Jt mX0_findLowest (d + 1) 9 t Q 24 [rv 275, iv (σ2 275 5)] [] σ2)) ∧ ((σ2 275 5) = 0 → (Q 0 σ2))))))) : Ct mX0_findLowest (d + 1) 9 t [rv 275] σ Q := Ct_of (by decide +kernel) (Nat.le_of_ble_eq_true rfl) (b_X0_findLowest_0 h)
set_option maxRecDepth 4000 in
theorem b_X0_goesOn_185 {d : Nat} {t : Int} {Q : Int → jM → Prop} {σ : jM} {p1 p2 v3 v4 v5 v6 v7 : Int} (h : Jt mX0_goesOn (d + 1) 0 t Q 81 [rv 275, iv p1, iv p2, iv v3, iv v4, iv v5, iv v6, iv (v7 + 1)] [] σ) : Jt mX0_goesOn (d + 1) 0 t Q 185 [rv 275, iv p1, iv p2, iv v3, iv v4, iv v5, iv v6, iv v7] [] σ := by
  refine s_iinc (i := 7) rfl (L' := [rv 275, iv p1, iv p2, iv v3, iv v4, iv v5, iv v6, iv (v7 + 1)]) rfl (show decode cX0_goesOn 185 = .ok (.iinc 7 1, 3) by decide +kernel) ?_
  refine j_goto (tgt := 81) (show decode cX0_goesOn 188 = .ok (.goto (-107), 3) by decide +kernel) (by decide) ?_
  exact h
set_option maxRecDepth 4000 in
theorem b_X0_goesOn_177 {d : Nat} {t : Int} {Q : Int → jM → Prop} {σ : jM} {p1 p2 v3 v4 v5 v6 v7 u0 u1 : Int} (h : Ct mX0_goesOn d 0 t [rv 275, iv u1, iv u0] σ (fun r1 σ1 => ((inR r1) ∧ ((r1 = 0 → (Jt mX0_goesOn (d + 1) 0 t Q 185 [rv 275, iv p1, iv p2, iv v3, iv v4, iv v5, iv v6, iv v7] [] σ1)) ∧ (¬ r1 = 0 → (Q 1 σ1)))))) : Jt mX0_goesOn (d + 1) 0 t Q 177 [rv 275, iv p1, iv p2, iv v3, iv v4, iv v5, iv v6, iv v7] [iv u0, iv u1, rv 275] σ := by
  refine j_ctV (m' := mX0_goesOn) (As := [iv u1, iv u0]) (ci := 0) (tag := 0) (N := 0) (cw_X0_83 rfl) (show decode cX0_goesOn 177 = .ok (.invokevirtual 83, 3) by decide +kernel) rfl (Nat.le_of_ble_eq_true rfl) (by decide) okl_275 rfl rfl (Nat.le_refl _) h (fun r1 σ1 h => ?_)
  have hr1 := h.1
  have h := h.2
  refine j_if_eq (tgt := 185) hr1 (show decode cX0_goesOn 180 = .ok (.ifCond .eq 5, 3) by decide +kernel) (by decide) (fun c => ?_) (fun c => ?_)
  · have h := h.1 c
    exact h
  · have h := h.2 c
    refine j_iconst (show decode cX0_goesOn 183 = .ok (.iconst 1, 1) by decide +kernel) ?_
    exact j_ret (rokZ (show decode cX0_goesOn 184 = .ok (.ireturn, 1) by decide +kernel) rfl (Or.inr rfl)) ⟨rfl, rfl, h⟩
set_option maxRecDepth 4000 in
theorem b_X0_goesOn_81 {d : Nat} {t : Int} {Q : Int → jM → Prop} {σ : jM} {p1 p2 v3 v4 v5 v6 v7 : Int} (h : (inR v7) ∧ ((inR v5) ∧ ((v5 < v7 → (Q 0 σ)) ∧ (v7 ≤ v5 → (Ct mX0_sumFrom d 0 t [rv 275, iv p1, iv v7] σ (fun r3 σ3 => ((inR v7) ∧ ((inR r3) ∧ ((inR (max v7 r3)) ∧ ((inR v5) ∧ (((max v7 r3) ≤ v5 → ((inR v3) ∧ ((¬ v3 = 2 → (Ct mX0_put d 9 t [rv 275, iv (p1 + 1), iv (max v7 r3)] σ3 (fun r9 σ9 => ((inR (max v7 r3)) ∧ ((inR v5) ∧ ((¬ (max v7 r3) = v5 → (Jt mX0_goesOn (d + 1) 0 t Q 177 [rv 275, iv p1, iv p2, iv v3, iv v4, iv v5, iv v6, iv (max v7 r3)] [iv p2, iv (p1 + 1), rv 275] σ9)) ∧ ((max v7 r3) = v5 → (Jt mX0_goesOn (d + 1) 0 t Q 177 [rv 275, iv p1, iv p2, iv v3, iv v4, iv v5, iv v6, iv (max v7 r3)] [iv (p2 + 1), iv (p1 + 1), rv 275] σ9)))))))) ∧ (v3 = 2 → ((inR v5) ∧ ((inR v4) ∧ ((¬ v5 = v4 → (Ct mX0_put d 9 t [rv 275, iv (p1 + 1), iv (max v7 r3)] σ3 (fun r14 σ14 => ((inR (max v7 r3)) ∧ ((inR v5) ∧ ((¬ (max v7 r3) = v5 → (Jt mX0_goesOn (d + 1) 0 t Q 177 [rv 275, iv p1, iv p2, iv v3, iv v4, iv v5, iv v6, iv (max v7 r3)] [iv p2, iv (p1 + 1), rv 275] σ14)) ∧ ((max v7 r3) = v5 → (Jt mX0_goesOn (d + 1) 0 t Q 177 [rv 275, iv p1, iv p2, iv v3, iv v4, iv v5, iv v6, iv (max v7 r3)] [iv (p2 + 1), iv (p1 + 1), rv 275] σ14)))))))) ∧ (v5 = v4 → ((inR ((max v7 r3) + (max v7 r3))) ∧ ((inR v4) ∧ ((((max v7 r3) + (max v7 r3)) = v4 → (Ct mX0_put d 9 t [rv 275, iv (p1 + 1), iv (max v7 r3)] σ3 (fun r19 σ19 => ((inR (max v7 r3)) ∧ ((inR v5) ∧ ((¬ (max v7 r3) = v5 → (Jt mX0_goesOn (d + 1) 0 t Q 177 [rv 275, iv p1, iv p2, iv v3, iv v4, iv v5, iv v6, iv (max v7 r3)] [iv p2, iv (p1 + 1), rv 275] σ19)) ∧ ((max v7 r3) = v5 → (Jt mX0_goesOn (d + 1) 0 t Q 177 [rv 275, iv p1, iv p2, iv v3, iv v4, iv v5, iv v6, iv (max v7 r3)] [iv (p2 + 1), iv (p1 + 1), rv 275] σ19)))))))) ∧ (¬ ((max v7 r3) + (max v7 r3)) = v4 → (Ct mX0_isLink d 0 t [rv 275, iv p1, iv (v4 - (max v7 r3))] σ3 (fun r22 σ22 => ((inR r22) ∧ ((¬ r22 = 0 → (Ct mX0_put d 9 t [rv 275, iv (p1 + 1), iv (max v7 r3)] σ22 (fun r24 σ24 => ((inR (max v7 r3)) ∧ ((inR v5) ∧ ((¬ (max v7 r3) = v5 → (Jt mX0_goesOn (d + 1) 0 t Q 177 [rv 275, iv p1, iv p2, iv v3, iv v4, iv v5, iv v6, iv (max v7 r3)] [iv p2, iv (p1 + 1), rv 275] σ24)) ∧ ((max v7 r3) = v5 → (Jt mX0_goesOn (d + 1) 0 t Q 177 [rv 275, iv p1, iv p2, iv v3, iv v4, iv v5, iv v6, iv (max v7 r3)] [iv (p2 + 1), iv (p1 + 1), rv 275] σ24)))))))) ∧ (r22 = 0 → (Jt mX0_goesOn (d + 1) 0 t Q 185 [rv 275, iv p1, iv p2, iv v3, iv v4, iv v5, iv v6, iv (max v7 r3)] [] σ22)))))))))))))))))) ∧ (v5 < (max v7 r3) → (Q 0 σ3))))))))))))) : Jt mX0_goesOn (d + 1) 0 t Q 81 [rv 275, iv p1, iv p2, iv v3, iv v4, iv v5, iv v6, iv v7] [] σ := by
  refine j_iload (i := 7) rfl (show decode cX0_goesOn 81 = .ok (.iload 7, 2) by decide +kernel) ?_
  refine j_iload (i := 5) rfl (show decode cX0_goesOn 83 = .ok (.iload 5, 2) by decide +kernel) ?_
  have hr0 := h.1
  have h := h.2
  have hr1 := h.1
  have h := h.2
  refine j_icmp_gt (tgt := 191) hr0 hr1 (show decode cX0_goesOn 85 = .ok (.if_icmp .gt 106, 3) by decide +kernel) (by decide) (fun c => ?_) (fun c => ?_)
  · have h := h.1 c
    refine j_iconst (show decode cX0_goesOn 191 = .ok (.iconst 0, 1) by decide +kernel) ?_
    exact j_ret (rokZ (show decode cX0_goesOn 192 = .ok (.ireturn, 1) by decide +kernel) rfl (Or.inl rfl)) ⟨rfl, rfl, h⟩
  · have h := h.2 c
    refine j_iload (i := 7) rfl (show decode cX0_goesOn 88 = .ok (.iload 7, 2) by decide +kernel) ?_
    refine s_aload_n (i := 0) rfl (show decode cX0_goesOn 90 = .ok (.aload_n 0, 1) by decide +kernel) ?_
    refine j_iload_n (i := 1) rfl (show decode cX0_goesOn 91 = .ok (.iload_n 1, 1) by decide +kernel) ?_
    refine j_iload (i := 7) rfl (show decode cX0_goesOn 92 = .ok (.iload 7, 2) by decide +kernel) ?_
    refine j_ctV (m' := mX0_sumFrom) (As := [iv p1, iv v7]) (ci := 0) (tag := 0) (N := 0) (cw_X0_93 rfl) (show decode cX0_goesOn 94 = .ok (.invokevirtual 93, 3) by decide +kernel) rfl (Nat.le_of_ble_eq_true rfl) (by decide) okl_275 rfl rfl (Nat.le_refl _) h (fun r3 σ3 h => ?_)
    have hr3 := h.1
    have h := h.2
    have hr4 := h.1
    have h := h.2
    refine j_max (tt_in 886 (by decide +kernel) rfl) (by omega) (Nat.le_of_ble_eq_true rfl) hr3 hr4 (show decode cX0_goesOn 97 = .ok (.invokestatic 90, 3) by decide +kernel) ?_
    refine s_ist (i := 7) (L' := [rv 275, iv p1, iv p2, iv v3, iv v4, iv v5, iv v6, iv (max v7 r3)]) rfl (by decide) (show decode cX0_goesOn 100 = .ok (.istore 7, 2) by decide +kernel) ?_
    refine j_iload (i := 7) rfl (show decode cX0_goesOn 102 = .ok (.iload 7, 2) by decide +kernel) ?_
    refine j_iload (i := 5) rfl (show decode cX0_goesOn 104 = .ok (.iload 5, 2) by decide +kernel) ?_
    have hr5 := h.1
    have h := h.2
    have hr6 := h.1
    have h := h.2
    refine j_icmp_le (tgt := 112) hr5 hr6 (show decode cX0_goesOn 106 = .ok (.if_icmp .le 6, 3) by decide +kernel) (by decide) (fun c => ?_) (fun c => ?_)
    · have h := h.1 c
      refine j_iload_n (i := 3) rfl (show decode cX0_goesOn 112 = .ok (.iload_n 3, 1) by decide +kernel) ?_
      refine j_iconst (show decode cX0_goesOn 113 = .ok (.iconst 2, 1) by decide +kernel) ?_
      have hr7 := h.1
      have h := h.2
      refine j_icmp_ne (tgt := 150) hr7 (inl (by decide)) (show decode cX0_goesOn 114 = .ok (.if_icmp .ne 36, 3) by decide +kernel) (by decide) (fun c => ?_) (fun c => ?_)
      · have h := h.1 c
        refine s_aload_n (i := 0) rfl (show decode cX0_goesOn 150 = .ok (.aload_n 0, 1) by decide +kernel) ?_
        refine j_iload_n (i := 1) rfl (show decode cX0_goesOn 151 = .ok (.iload_n 1, 1) by decide +kernel) ?_
        refine j_iconst (show decode cX0_goesOn 152 = .ok (.iconst 1, 1) by decide +kernel) ?_
        refine j_iadd (show decode cX0_goesOn 153 = .ok (.iadd, 1) by decide +kernel) ?_
        refine j_iload (i := 7) rfl (show decode cX0_goesOn 154 = .ok (.iload 7, 2) by decide +kernel) ?_
        refine j_ctVv (m' := mX0_put) (As := [iv (p1 + 1), iv (max v7 r3)]) (ci := 0) (N := 0) (cw_X0_79 rfl) (show decode cX0_goesOn 156 = .ok (.invokevirtual 79, 3) by decide +kernel) rfl (Nat.le_of_ble_eq_true rfl) okl_275 rfl rfl (Nat.le_refl _) h (fun r9 σ9 h => ?_)
        refine s_aload_n (i := 0) rfl (show decode cX0_goesOn 159 = .ok (.aload_n 0, 1) by decide +kernel) ?_
        refine j_iload_n (i := 1) rfl (show decode cX0_goesOn 160 = .ok (.iload_n 1, 1) by decide +kernel) ?_
        refine j_iconst (show decode cX0_goesOn 161 = .ok (.iconst 1, 1) by decide +kernel) ?_
        refine j_iadd (show decode cX0_goesOn 162 = .ok (.iadd, 1) by decide +kernel) ?_
        refine j_iload (i := 7) rfl (show decode cX0_goesOn 163 = .ok (.iload 7, 2) by decide +kernel) ?_
        refine j_iload (i := 5) rfl (show decode cX0_goesOn 165 = .ok (.iload 5, 2) by decide +kernel) ?_
        have hr9 := h.1
        have h := h.2
        have hr10 := h.1
        have h := h.2
        refine j_icmp_ne (tgt := 176) hr9 hr10 (show decode cX0_goesOn 167 = .ok (.if_icmp .ne 9, 3) by decide +kernel) (by decide) (fun c => ?_) (fun c => ?_)
        · have h := h.1 c
          refine j_iload_n (i := 2) rfl (show decode cX0_goesOn 176 = .ok (.iload_n 2, 1) by decide +kernel) ?_
          exact h
        · have h := h.2 c
          refine j_iload_n (i := 2) rfl (show decode cX0_goesOn 170 = .ok (.iload_n 2, 1) by decide +kernel) ?_
          refine j_iconst (show decode cX0_goesOn 171 = .ok (.iconst 1, 1) by decide +kernel) ?_
          refine j_iadd (show decode cX0_goesOn 172 = .ok (.iadd, 1) by decide +kernel) ?_
          refine j_goto (tgt := 177) (show decode cX0_goesOn 173 = .ok (.goto 4, 3) by decide +kernel) (by decide) ?_
          exact h
      · have h := h.2 c
        refine j_iload (i := 5) rfl (show decode cX0_goesOn 117 = .ok (.iload 5, 2) by decide +kernel) ?_
        refine j_iload (i := 4) rfl (show decode cX0_goesOn 119 = .ok (.iload 4, 2) by decide +kernel) ?_
        have hr11 := h.1
        have h := h.2
        have hr12 := h.1
        have h := h.2
        refine j_icmp_ne (tgt := 150) hr11 hr12 (show decode cX0_goesOn 121 = .ok (.if_icmp .ne 29, 3) by decide +kernel) (by decide) (fun c => ?_) (fun c => ?_)
        · have h := h.1 c
          refine s_aload_n (i := 0) rfl (show decode cX0_goesOn 150 = .ok (.aload_n 0, 1) by decide +kernel) ?_
          refine j_iload_n (i := 1) rfl (show decode cX0_goesOn 151 = .ok (.iload_n 1, 1) by decide +kernel) ?_
          refine j_iconst (show decode cX0_goesOn 152 = .ok (.iconst 1, 1) by decide +kernel) ?_
          refine j_iadd (show decode cX0_goesOn 153 = .ok (.iadd, 1) by decide +kernel) ?_
          refine j_iload (i := 7) rfl (show decode cX0_goesOn 154 = .ok (.iload 7, 2) by decide +kernel) ?_
          refine j_ctVv (m' := mX0_put) (As := [iv (p1 + 1), iv (max v7 r3)]) (ci := 0) (N := 0) (cw_X0_79 rfl) (show decode cX0_goesOn 156 = .ok (.invokevirtual 79, 3) by decide +kernel) rfl (Nat.le_of_ble_eq_true rfl) okl_275 rfl rfl (Nat.le_refl _) h (fun r14 σ14 h => ?_)
          refine s_aload_n (i := 0) rfl (show decode cX0_goesOn 159 = .ok (.aload_n 0, 1) by decide +kernel) ?_
          refine j_iload_n (i := 1) rfl (show decode cX0_goesOn 160 = .ok (.iload_n 1, 1) by decide +kernel) ?_
          refine j_iconst (show decode cX0_goesOn 161 = .ok (.iconst 1, 1) by decide +kernel) ?_
          refine j_iadd (show decode cX0_goesOn 162 = .ok (.iadd, 1) by decide +kernel) ?_
          refine j_iload (i := 7) rfl (show decode cX0_goesOn 163 = .ok (.iload 7, 2) by decide +kernel) ?_
          refine j_iload (i := 5) rfl (show decode cX0_goesOn 165 = .ok (.iload 5, 2) by decide +kernel) ?_
          have hr14 := h.1
          have h := h.2
          have hr15 := h.1
          have h := h.2
          refine j_icmp_ne (tgt := 176) hr14 hr15 (show decode cX0_goesOn 167 = .ok (.if_icmp .ne 9, 3) by decide +kernel) (by decide) (fun c => ?_) (fun c => ?_)
          · have h := h.1 c
            refine j_iload_n (i := 2) rfl (show decode cX0_goesOn 176 = .ok (.iload_n 2, 1) by decide +kernel) ?_
            exact h
          · have h := h.2 c
            refine j_iload_n (i := 2) rfl (show decode cX0_goesOn 170 = .ok (.iload_n 2, 1) by decide +kernel) ?_
            refine j_iconst (show decode cX0_goesOn 171 = .ok (.iconst 1, 1) by decide +kernel) ?_
            refine j_iadd (show decode cX0_goesOn 172 = .ok (.iadd, 1) by decide +kernel) ?_
            refine j_goto (tgt := 177) (show decode cX0_goesOn 173 = .ok (.goto 4, 3) by decide +kernel) (by decide) ?_
            exact h
        · have h := h.2 c
          refine j_iload (i := 7) rfl (show decode cX0_goesOn 124 = .ok (.iload 7, 2) by decide +kernel) ?_
          refine j_iload (i := 7) rfl (show decode cX0_goesOn 126 = .ok (.iload 7, 2) by decide +kernel) ?_
          refine j_iadd (show decode cX0_goesOn 128 = .ok (.iadd, 1) by decide +kernel) ?_
          refine j_iload (i := 4) rfl (show decode cX0_goesOn 129 = .ok (.iload 4, 2) by decide +kernel) ?_
          have hr16 := h.1
          have h := h.2
          have hr17 := h.1
          have h := h.2
          refine j_icmp_eq (tgt := 150) hr16 hr17 (show decode cX0_goesOn 131 = .ok (.if_icmp .eq 19, 3) by decide +kernel) (by decide) (fun c => ?_) (fun c => ?_)
          · have h := h.1 c
            refine s_aload_n (i := 0) rfl (show decode cX0_goesOn 150 = .ok (.aload_n 0, 1) by decide +kernel) ?_
            refine j_iload_n (i := 1) rfl (show decode cX0_goesOn 151 = .ok (.iload_n 1, 1) by decide +kernel) ?_
            refine j_iconst (show decode cX0_goesOn 152 = .ok (.iconst 1, 1) by decide +kernel) ?_
            refine j_iadd (show decode cX0_goesOn 153 = .ok (.iadd, 1) by decide +kernel) ?_
            refine j_iload (i := 7) rfl (show decode cX0_goesOn 154 = .ok (.iload 7, 2) by decide +kernel) ?_
            refine j_ctVv (m' := mX0_put) (As := [iv (p1 + 1), iv (max v7 r3)]) (ci := 0) (N := 0) (cw_X0_79 rfl) (show decode cX0_goesOn 156 = .ok (.invokevirtual 79, 3) by decide +kernel) rfl (Nat.le_of_ble_eq_true rfl) okl_275 rfl rfl (Nat.le_refl _) h (fun r19 σ19 h => ?_)
            refine s_aload_n (i := 0) rfl (show decode cX0_goesOn 159 = .ok (.aload_n 0, 1) by decide +kernel) ?_
            refine j_iload_n (i := 1) rfl (show decode cX0_goesOn 160 = .ok (.iload_n 1, 1) by decide +kernel) ?_
            refine j_iconst (show decode cX0_goesOn 161 = .ok (.iconst 1, 1) by decide +kernel) ?_
            refine j_iadd (show decode cX0_goesOn 162 = .ok (.iadd, 1) by decide +kernel) ?_
            refine j_iload (i := 7) rfl (show decode cX0_goesOn 163 = .ok (.iload 7, 2) by decide +kernel) ?_
            refine j_iload (i := 5) rfl (show decode cX0_goesOn 165 = .ok (.iload 5, 2) by decide +kernel) ?_
            have hr19 := h.1
            have h := h.2
            have hr20 := h.1
            have h := h.2
            refine j_icmp_ne (tgt := 176) hr19 hr20 (show decode cX0_goesOn 167 = .ok (.if_icmp .ne 9, 3) by decide +kernel) (by decide) (fun c => ?_) (fun c => ?_)
            · have h := h.1 c
              refine j_iload_n (i := 2) rfl (show decode cX0_goesOn 176 = .ok (.iload_n 2, 1) by decide +kernel) ?_
              exact h
            · have h := h.2 c
              refine j_iload_n (i := 2) rfl (show decode cX0_goesOn 170 = .ok (.iload_n 2, 1) by decide +kernel) ?_
              refine j_iconst (show decode cX0_goesOn 171 = .ok (.iconst 1, 1) by decide +kernel) ?_
              refine j_iadd (show decode cX0_goesOn 172 = .ok (.iadd, 1) by decide +kernel) ?_
              refine j_goto (tgt := 177) (show decode cX0_goesOn 173 = .ok (.goto 4, 3) by decide +kernel) (by decide) ?_
              exact h
          · have h := h.2 c
            refine s_aload_n (i := 0) rfl (show decode cX0_goesOn 134 = .ok (.aload_n 0, 1) by decide +kernel) ?_
            refine j_iload_n (i := 1) rfl (show decode cX0_goesOn 135 = .ok (.iload_n 1, 1) by decide +kernel) ?_
            refine j_iload (i := 4) rfl (show decode cX0_goesOn 136 = .ok (.iload 4, 2) by decide +kernel) ?_
            refine j_iload (i := 7) rfl (show decode cX0_goesOn 138 = .ok (.iload 7, 2) by decide +kernel) ?_
            refine j_isub (show decode cX0_goesOn 140 = .ok (.isub, 1) by decide +kernel) ?_
            refine j_ctV (m' := mX0_isLink) (As := [iv p1, iv (v4 - (max v7 r3))]) (ci := 0) (tag := 0) (N := 0) (cw_X0_96 rfl) (show decode cX0_goesOn 141 = .ok (.invokevirtual 96, 3) by decide +kernel) rfl (Nat.le_of_ble_eq_true rfl) (by decide) okl_275 rfl rfl (Nat.le_refl _) h (fun r22 σ22 h => ?_)
            have hr22 := h.1
            have h := h.2
            refine j_if_ne (tgt := 150) hr22 (show decode cX0_goesOn 144 = .ok (.ifCond .ne 6, 3) by decide +kernel) (by decide) (fun c => ?_) (fun c => ?_)
            · have h := h.1 c
              refine s_aload_n (i := 0) rfl (show decode cX0_goesOn 150 = .ok (.aload_n 0, 1) by decide +kernel) ?_
              refine j_iload_n (i := 1) rfl (show decode cX0_goesOn 151 = .ok (.iload_n 1, 1) by decide +kernel) ?_
              refine j_iconst (show decode cX0_goesOn 152 = .ok (.iconst 1, 1) by decide +kernel) ?_
              refine j_iadd (show decode cX0_goesOn 153 = .ok (.iadd, 1) by decide +kernel) ?_
              refine j_iload (i := 7) rfl (show decode cX0_goesOn 154 = .ok (.iload 7, 2) by decide +kernel) ?_
              refine j_ctVv (m' := mX0_put) (As := [iv (p1 + 1), iv (max v7 r3)]) (ci := 0) (N := 0) (cw_X0_79 rfl) (show decode cX0_goesOn 156 = .ok (.invokevirtual 79, 3) by decide +kernel) rfl (Nat.le_of_ble_eq_true rfl) okl_275 rfl rfl (Nat.le_refl _) h (fun r24 σ24 h => ?_)
              refine s_aload_n (i := 0) rfl (show decode cX0_goesOn 159 = .ok (.aload_n 0, 1) by decide +kernel) ?_
              refine j_iload_n (i := 1) rfl (show decode cX0_goesOn 160 = .ok (.iload_n 1, 1) by decide +kernel) ?_
              refine j_iconst (show decode cX0_goesOn 161 = .ok (.iconst 1, 1) by decide +kernel) ?_
              refine j_iadd (show decode cX0_goesOn 162 = .ok (.iadd, 1) by decide +kernel) ?_
              refine j_iload (i := 7) rfl (show decode cX0_goesOn 163 = .ok (.iload 7, 2) by decide +kernel) ?_
              refine j_iload (i := 5) rfl (show decode cX0_goesOn 165 = .ok (.iload 5, 2) by decide +kernel) ?_
              have hr24 := h.1
              have h := h.2
              have hr25 := h.1
              have h := h.2
              refine j_icmp_ne (tgt := 176) hr24 hr25 (show decode cX0_goesOn 167 = .ok (.if_icmp .ne 9, 3) by decide +kernel) (by decide) (fun c => ?_) (fun c => ?_)
              · have h := h.1 c
                refine j_iload_n (i := 2) rfl (show decode cX0_goesOn 176 = .ok (.iload_n 2, 1) by decide +kernel) ?_
                exact h
              · have h := h.2 c
                refine j_iload_n (i := 2) rfl (show decode cX0_goesOn 170 = .ok (.iload_n 2, 1) by decide +kernel) ?_
                refine j_iconst (show decode cX0_goesOn 171 = .ok (.iconst 1, 1) by decide +kernel) ?_
                refine j_iadd (show decode cX0_goesOn 172 = .ok (.iadd, 1) by decide +kernel) ?_
                refine j_goto (tgt := 177) (show decode cX0_goesOn 173 = .ok (.goto 4, 3) by decide +kernel) (by decide) ?_
                exact h
            · have h := h.2 c
              refine j_goto (tgt := 185) (show decode cX0_goesOn 147 = .ok (.goto 38, 3) by decide +kernel) (by decide) ?_
              exact h
    · have h := h.2 c
      refine j_goto (tgt := 191) (show decode cX0_goesOn 109 = .ok (.goto 82, 3) by decide +kernel) (by decide) ?_
      refine j_iconst (show decode cX0_goesOn 191 = .ok (.iconst 0, 1) by decide +kernel) ?_
      exact j_ret (rokZ (show decode cX0_goesOn 192 = .ok (.ireturn, 1) by decide +kernel) rfl (Or.inl rfl)) ⟨rfl, rfl, h⟩
set_option maxRecDepth 4000 in
theorem b_X0_goesOn_0 {d : Nat} {t : Int} {Q : Int → jM → Prop} {σ : jM} {p1 p2 : Int} (h : (inR p2) ∧ ((inR (σ 275 5)) ∧ ((p2 < (σ 275 5) → ((inR ((σ 275 6) - p1)) ∧ ((inR ((σ 275 5) - p2)) ∧ ((((σ 275 5) - p2) ≤ ((σ 275 6) - p1) → (((0 : Int) ≤ ((σ 275 5) - 1) ∧ ((σ 275 5) - 1) < 4) ∧ (((0 : Int) ≤ p2 ∧ p2 < 4) ∧ (((0 : Int) ≤ p1 ∧ p1 < 24) ∧ (Ct mX0_leastNext d 0 t [iv (σ 280 ((σ 275 5) - 1)), iv ((σ 275 6) - p1)] σ (fun r5 σ5 => ((inR ((σ 276 p1) + 1)) ∧ ((inR r5) ∧ (Jt mX0_goesOn (d + 1) 0 t Q 81 [rv 275, iv p1, iv p2, iv ((σ 275 6) - p1), iv (σ 280 ((σ 275 5) - 1)), iv (σ 280 p2), iv (max ((σ 276 p1) + 1) r5), iv (max ((σ 276 p1) + 1) r5)] [] σ5))))))))) ∧ (((σ 275 6) - p1) < ((σ 275 5) - p2) → (Q 0 σ)))))) ∧ ((σ 275 5) ≤ p2 → ((inR ((σ 275 6) - p1)) ∧ ((¬ ((σ 275 6) - p1) = 0 → (Q 0 σ)) ∧ (((σ 275 6) - p1) = 0 → (Q 1 σ)))))))) : Jt mX0_goesOn (d + 1) 0 t Q 0 [rv 275, iv p1, iv p2, uv, uv, uv, uv, uv] [] σ := by
  refine s_aload_n (i := 0) rfl (show decode cX0_goesOn 0 = .ok (.aload_n 0, 1) by decide +kernel) ?_
  refine gf_X0_54 rfl (show decode cX0_goesOn 1 = .ok (.getfield 54, 3) by decide +kernel) okl_275 ?_
  refine j_iload_n (i := 1) rfl (show decode cX0_goesOn 4 = .ok (.iload_n 1, 1) by decide +kernel) ?_
  refine j_isub (show decode cX0_goesOn 5 = .ok (.isub, 1) by decide +kernel) ?_
  refine s_ist_n (i := 3) (L' := [rv 275, iv p1, iv p2, iv ((σ 275 6) - p1), uv, uv, uv, uv]) rfl (by decide) (show decode cX0_goesOn 6 = .ok (.istore_n 3, 1) by decide +kernel) ?_
  refine j_iload_n (i := 2) rfl (show decode cX0_goesOn 7 = .ok (.iload_n 2, 1) by decide +kernel) ?_
  refine s_aload_n (i := 0) rfl (show decode cX0_goesOn 8 = .ok (.aload_n 0, 1) by decide +kernel) ?_
  refine gf_X0_43 rfl (show decode cX0_goesOn 9 = .ok (.getfield 43, 3) by decide +kernel) okl_275 ?_
  have hr0 := h.1
  have h := h.2
  have hr1 := h.1
  have h := h.2
  refine j_icmp_lt (tgt := 25) hr0 hr1 (show decode cX0_goesOn 12 = .ok (.if_icmp .lt 13, 3) by decide +kernel) (by decide) (fun c => ?_) (fun c => ?_)
  · have h := h.1 c
    refine j_iload_n (i := 3) rfl (show decode cX0_goesOn 25 = .ok (.iload_n 3, 1) by decide +kernel) ?_
    refine s_aload_n (i := 0) rfl (show decode cX0_goesOn 26 = .ok (.aload_n 0, 1) by decide +kernel) ?_
    refine gf_X0_43 rfl (show decode cX0_goesOn 27 = .ok (.getfield 43, 3) by decide +kernel) okl_275 ?_
    refine j_iload_n (i := 2) rfl (show decode cX0_goesOn 30 = .ok (.iload_n 2, 1) by decide +kernel) ?_
    refine j_isub (show decode cX0_goesOn 31 = .ok (.isub, 1) by decide +kernel) ?_
    have hr2 := h.1
    have h := h.2
    have hr3 := h.1
    have h := h.2
    refine j_icmp_ge (tgt := 37) hr2 hr3 (show decode cX0_goesOn 32 = .ok (.if_icmp .ge 5, 3) by decide +kernel) (by decide) (fun c => ?_) (fun c => ?_)
    · have h := h.1 c
      refine s_aload_n (i := 0) rfl (show decode cX0_goesOn 37 = .ok (.aload_n 0, 1) by decide +kernel) ?_
      refine gf_X0_25 (x := 280) rfl (show decode cX0_goesOn 38 = .ok (.getfield 25, 3) by decide +kernel) okl_275 rfl ?_
      refine s_aload_n (i := 0) rfl (show decode cX0_goesOn 41 = .ok (.aload_n 0, 1) by decide +kernel) ?_
      refine gf_X0_43 rfl (show decode cX0_goesOn 42 = .ok (.getfield 43, 3) by decide +kernel) okl_275 ?_
      refine j_iconst (show decode cX0_goesOn 45 = .ok (.iconst 1, 1) by decide +kernel) ?_
      refine j_isub (show decode cX0_goesOn 46 = .ok (.isub, 1) by decide +kernel) ?_
      refine s_iald (show decode cX0_goesOn 47 = .ok (.iaload, 1) by decide +kernel) okl_280 h.1 ?_
      have h := h.2
      refine s_ist (i := 4) (L' := [rv 275, iv p1, iv p2, iv ((σ 275 6) - p1), iv (σ 280 ((σ 275 5) - 1)), uv, uv, uv]) rfl (by decide) (show decode cX0_goesOn 48 = .ok (.istore 4, 2) by decide +kernel) ?_
      refine s_aload_n (i := 0) rfl (show decode cX0_goesOn 50 = .ok (.aload_n 0, 1) by decide +kernel) ?_
      refine gf_X0_25 (x := 280) rfl (show decode cX0_goesOn 51 = .ok (.getfield 25, 3) by decide +kernel) okl_275 rfl ?_
      refine j_iload_n (i := 2) rfl (show decode cX0_goesOn 54 = .ok (.iload_n 2, 1) by decide +kernel) ?_
      refine s_iald (show decode cX0_goesOn 55 = .ok (.iaload, 1) by decide +kernel) okl_280 h.1 ?_
      have h := h.2
      refine s_ist (i := 5) (L' := [rv 275, iv p1, iv p2, iv ((σ 275 6) - p1), iv (σ 280 ((σ 275 5) - 1)), iv (σ 280 p2), uv, uv]) rfl (by decide) (show decode cX0_goesOn 56 = .ok (.istore 5, 2) by decide +kernel) ?_
      refine s_aload_n (i := 0) rfl (show decode cX0_goesOn 58 = .ok (.aload_n 0, 1) by decide +kernel) ?_
      refine gf_X0_11 (x := 276) rfl (show decode cX0_goesOn 59 = .ok (.getfield 11, 3) by decide +kernel) okl_275 rfl ?_
      refine j_iload_n (i := 1) rfl (show decode cX0_goesOn 62 = .ok (.iload_n 1, 1) by decide +kernel) ?_
      refine s_iald (show decode cX0_goesOn 63 = .ok (.iaload, 1) by decide +kernel) okl_276 h.1 ?_
      have h := h.2
      refine j_iconst (show decode cX0_goesOn 64 = .ok (.iconst 1, 1) by decide +kernel) ?_
      refine j_iadd (show decode cX0_goesOn 65 = .ok (.iadd, 1) by decide +kernel) ?_
      refine j_iload (i := 4) rfl (show decode cX0_goesOn 66 = .ok (.iload 4, 2) by decide +kernel) ?_
      refine j_iload_n (i := 3) rfl (show decode cX0_goesOn 68 = .ok (.iload_n 3, 1) by decide +kernel) ?_
      refine j_ctS (m' := mX0_leastNext) (As := [iv (σ 280 ((σ 275 5) - 1)), iv ((σ 275 6) - p1)]) (tag := 0) (cw_X0_87 rfl) (show decode cX0_goesOn 69 = .ok (.invokestatic 87, 3) by decide +kernel) rfl (Nat.le_of_ble_eq_true rfl) (by decide) (Nat.le_refl _) h (fun r5 σ5 h => ?_)
      have hr5 := h.1
      have h := h.2
      have hr6 := h.1
      have h := h.2
      refine j_max (tt_in 886 (by decide +kernel) rfl) (by omega) (Nat.le_of_ble_eq_true rfl) hr5 hr6 (show decode cX0_goesOn 72 = .ok (.invokestatic 90, 3) by decide +kernel) ?_
      refine s_ist (i := 6) (L' := [rv 275, iv p1, iv p2, iv ((σ 275 6) - p1), iv (σ 280 ((σ 275 5) - 1)), iv (σ 280 p2), iv (max ((σ 276 p1) + 1) r5), uv]) rfl (by decide) (show decode cX0_goesOn 75 = .ok (.istore 6, 2) by decide +kernel) ?_
      refine j_iload (i := 6) rfl (show decode cX0_goesOn 77 = .ok (.iload 6, 2) by decide +kernel) ?_
      refine s_ist (i := 7) (L' := [rv 275, iv p1, iv p2, iv ((σ 275 6) - p1), iv (σ 280 ((σ 275 5) - 1)), iv (σ 280 p2), iv (max ((σ 276 p1) + 1) r5), iv (max ((σ 276 p1) + 1) r5)]) rfl (by decide) (show decode cX0_goesOn 79 = .ok (.istore 7, 2) by decide +kernel) ?_
      exact h
    · have h := h.2 c
      refine j_iconst (show decode cX0_goesOn 35 = .ok (.iconst 0, 1) by decide +kernel) ?_
      exact j_ret (rokZ (show decode cX0_goesOn 36 = .ok (.ireturn, 1) by decide +kernel) rfl (Or.inl rfl)) ⟨rfl, rfl, h⟩
  · have h := h.2 c
    refine j_iload_n (i := 3) rfl (show decode cX0_goesOn 15 = .ok (.iload_n 3, 1) by decide +kernel) ?_
    have hr7 := h.1
    have h := h.2
    refine j_if_ne (tgt := 23) hr7 (show decode cX0_goesOn 16 = .ok (.ifCond .ne 7, 3) by decide +kernel) (by decide) (fun c => ?_) (fun c => ?_)
    · have h := h.1 c
      refine j_iconst (show decode cX0_goesOn 23 = .ok (.iconst 0, 1) by decide +kernel) ?_
      exact j_ret (rokZ (show decode cX0_goesOn 24 = .ok (.ireturn, 1) by decide +kernel) rfl (Or.inl rfl)) ⟨rfl, rfl, h⟩
    · have h := h.2 c
      refine j_iconst (show decode cX0_goesOn 19 = .ok (.iconst 1, 1) by decide +kernel) ?_
      refine j_goto (tgt := 24) (show decode cX0_goesOn 20 = .ok (.goto 4, 3) by decide +kernel) (by decide) ?_
      exact j_ret (rokZ (show decode cX0_goesOn 24 = .ok (.ireturn, 1) by decide +kernel) rfl (Or.inr rfl)) ⟨rfl, rfl, h⟩
theorem c_X0_goesOn {d : Nat} {t : Int} {Q : Int → jM → Prop} {σ : jM} {p1 p2 : Int} (h : (inR p2) ∧ ((inR (σ 275 5)) ∧ ((p2 < (σ 275 5) → ((inR ((σ 275 6) - p1)) ∧ ((inR ((σ 275 5) - p2)) ∧ ((((σ 275 5) - p2) ≤ ((σ 275 6) - p1) → (((0 : Int) ≤ ((σ 275 5) - 1) ∧ ((σ 275 5) - 1) < 4) ∧ (((0 : Int) ≤ p2 ∧ p2 < 4) ∧ (((0 : Int) ≤ p1 ∧ p1 < 24) ∧ (Ct mX0_leastNext d 0 t [iv (σ 280 ((σ 275 5) - 1)), iv ((σ 275 6) - p1)] σ (fun r5 σ5 => ((inR ((σ 276 p1) + 1)) ∧ ((inR r5) ∧ (Jt mX0_goesOn (d + 1) 0 t Q 81 [rv 275, iv p1, iv p2, iv ((σ 275 6) - p1), iv (σ 280 ((σ 275 5) - 1)), iv (σ 280 p2), iv (max ((σ 276 p1) + 1) r5), iv (max ((σ 276 p1) + 1) r5)] [] σ5))))))))) ∧ (((σ 275 6) - p1) < ((σ 275 5) - p2) → (Q 0 σ)))))) ∧ ((σ 275 5) ≤ p2 → ((inR ((σ 275 6) - p1)) ∧ ((¬ ((σ 275 6) - p1) = 0 → (Q 0 σ)) ∧ (((σ 275 6) - p1) = 0 → (Q 1 σ)))))))) : Ct mX0_goesOn (d + 1) 0 t [rv 275, iv p1, iv p2] σ Q := Ct_of (by decide +kernel) (Nat.le_of_ble_eq_true rfl) (b_X0_goesOn_0 h)
set_option maxRecDepth 4000 in
theorem b_X0_isLink_0 {d : Nat} {t : Int} {Q : Int → jM → Prop} {σ : jM} {p1 p2 : Int} (h : (inR p2) ∧ ((p2 < 0 → (Q 0 σ)) ∧ (0 ≤ p2 → ((inR p2) ∧ ((64 ≤ p2 → (Q 0 σ)) ∧ (p2 < 64 → (((0 : Int) ≤ p1 ∧ p1 < 24) ∧ ((inL (l_and (l_ushr (σ 277 p1) p2) 1)) ∧ ((¬ (l_and (l_ushr (σ 277 p1) p2) 1) = 1 → (Q 0 σ)) ∧ ((l_and (l_ushr (σ 277 p1) p2) 1) = 1 → (Q 1 σ))))))))))) : Jt mX0_isLink (d) 0 t Q 0 [rv 275, iv p1, iv p2] [] σ := by
  refine j_iload_n (i := 2) rfl (show decode cX0_isLink 0 = .ok (.iload_n 2, 1) by decide +kernel) ?_
  have hr0 := h.1
  have h := h.2
  refine j_if_lt (tgt := 29) hr0 (show decode cX0_isLink 1 = .ok (.ifCond .lt 28, 3) by decide +kernel) (by decide) (fun c => ?_) (fun c => ?_)
  · have h := h.1 c
    refine j_iconst (show decode cX0_isLink 29 = .ok (.iconst 0, 1) by decide +kernel) ?_
    exact j_ret (rokZ (show decode cX0_isLink 30 = .ok (.ireturn, 1) by decide +kernel) rfl (Or.inl rfl)) ⟨rfl, rfl, h⟩
  · have h := h.2 c
    refine j_iload_n (i := 2) rfl (show decode cX0_isLink 4 = .ok (.iload_n 2, 1) by decide +kernel) ?_
    refine j_bipush (n := 64) (by decide +kernel) (show decode cX0_isLink 5 = .ok (.bipush 64, 2) by decide +kernel) ?_
    have hr1 := h.1
    have h := h.2
    refine j_icmp_ge (tgt := 29) hr1 (inl (by decide)) (show decode cX0_isLink 7 = .ok (.if_icmp .ge 22, 3) by decide +kernel) (by decide) (fun c => ?_) (fun c => ?_)
    · have h := h.1 c
      refine j_iconst (show decode cX0_isLink 29 = .ok (.iconst 0, 1) by decide +kernel) ?_
      exact j_ret (rokZ (show decode cX0_isLink 30 = .ok (.ireturn, 1) by decide +kernel) rfl (Or.inl rfl)) ⟨rfl, rfl, h⟩
    · have h := h.2 c
      refine s_aload_n (i := 0) rfl (show decode cX0_isLink 10 = .ok (.aload_n 0, 1) by decide +kernel) ?_
      refine gf_X0_15 (x := 277) rfl (show decode cX0_isLink 11 = .ok (.getfield 15, 3) by decide +kernel) okl_275 rfl ?_
      refine j_iload_n (i := 1) rfl (show decode cX0_isLink 14 = .ok (.iload_n 1, 1) by decide +kernel) ?_
      refine s_lald (show decode cX0_isLink 15 = .ok (.laload, 1) by decide +kernel) okl_277 h.1 ?_
      have h := h.2
      refine j_iload_n (i := 2) rfl (show decode cX0_isLink 16 = .ok (.iload_n 2, 1) by decide +kernel) ?_
      refine j_lushr (show decode cX0_isLink 17 = .ok (.lushr, 1) by decide +kernel) ?_
      refine j_lconst (x := 1) (by decide +kernel) (show decode cX0_isLink 18 = .ok (.lconst 1, 1) by decide +kernel) ?_
      refine j_land (show decode cX0_isLink 19 = .ok (.land, 1) by decide +kernel) ?_
      refine j_lconst (x := 1) (by decide +kernel) (show decode cX0_isLink 20 = .ok (.lconst 1, 1) by decide +kernel) ?_
      have hr2 := h.1
      have h := h.2
      refine s_lif_ne (tgt := 29) hr2 (inll (by decide)) (show decode cX0_isLink 21 = .ok (.lcmp, 1) by decide +kernel) (show decode cX0_isLink 22 = .ok (.ifCond .ne 7, 3) by decide +kernel) (by decide) (fun c => ?_) (fun c => ?_)
      · have h := h.1 c
        refine j_iconst (show decode cX0_isLink 29 = .ok (.iconst 0, 1) by decide +kernel) ?_
        exact j_ret (rokZ (show decode cX0_isLink 30 = .ok (.ireturn, 1) by decide +kernel) rfl (Or.inl rfl)) ⟨rfl, rfl, h⟩
      · have h := h.2 c
        refine j_iconst (show decode cX0_isLink 25 = .ok (.iconst 1, 1) by decide +kernel) ?_
        refine j_goto (tgt := 30) (show decode cX0_isLink 26 = .ok (.goto 4, 3) by decide +kernel) (by decide) ?_
        exact j_ret (rokZ (show decode cX0_isLink 30 = .ok (.ireturn, 1) by decide +kernel) rfl (Or.inr rfl)) ⟨rfl, rfl, h⟩
theorem c_X0_isLink {d : Nat} {t : Int} {Q : Int → jM → Prop} {σ : jM} {p1 p2 : Int} (h : (inR p2) ∧ ((p2 < 0 → (Q 0 σ)) ∧ (0 ≤ p2 → ((inR p2) ∧ ((64 ≤ p2 → (Q 0 σ)) ∧ (p2 < 64 → (((0 : Int) ≤ p1 ∧ p1 < 24) ∧ ((inL (l_and (l_ushr (σ 277 p1) p2) 1)) ∧ ((¬ (l_and (l_ushr (σ 277 p1) p2) 1) = 1 → (Q 0 σ)) ∧ ((l_and (l_ushr (σ 277 p1) p2) 1) = 1 → (Q 1 σ))))))))))) : Ct mX0_isLink (d) 0 t [rv 275, iv p1, iv p2] σ Q := Ct_of (by decide +kernel) (Nat.le_of_ble_eq_true rfl) (b_X0_isLink_0 h)
set_option maxRecDepth 4000 in
theorem b_X0_leastNext_0 {d : Nat} {t : Int} {Q : Int → jM → Prop} {σ : jM} {p0 p1 : Int} (h : (inR (p1 - 1)) ∧ ((inR (max (p1 - 1) 0)) ∧ (((max (p1 - 1) 0) < 2 → ((inR ((p0 + (i_shl 1 (max (p1 - 1) 0))) - 1)) ∧ ((inR (i_shl 1 (max (p1 - 1) 0))) ∧ (((i_shl 1 (max (p1 - 1) 0)) ≠ 0) ∧ (Q (Int.tdiv ((p0 + (i_shl 1 (max (p1 - 1) 0))) - 1) (i_shl 1 (max (p1 - 1) 0))) σ))))) ∧ (2 ≤ (max (p1 - 1) 0) → ((inR p0) ∧ ((inR (Int.tmod p0 2)) ∧ ((¬ (Int.tmod p0 2) = 1 → ((inR ((p0 + (i_shl 1 (max (p1 - 1) 0))) - 1)) ∧ ((inR (i_shl 1 (max (p1 - 1) 0))) ∧ (((i_shl 1 (max (p1 - 1) 0)) ≠ 0) ∧ (Q (Int.tdiv ((p0 + (i_shl 1 (max (p1 - 1) 0))) - 1) (i_shl 1 (max (p1 - 1) 0))) σ))))) ∧ ((Int.tmod p0 2) = 1 → ((inR ((p0 + (i_shl 3 ((max (p1 - 1) 0) - 2))) - 1)) ∧ ((inR (i_shl 3 ((max (p1 - 1) 0) - 2))) ∧ (((i_shl 3 ((max (p1 - 1) 0) - 2)) ≠ 0) ∧ (Q (Int.tdiv ((p0 + (i_shl 3 ((max (p1 - 1) 0) - 2))) - 1) (i_shl 3 ((max (p1 - 1) 0) - 2))) σ)))))))))))) : Jt mX0_leastNext (d + 1) 0 t Q 0 [iv p0, iv p1, uv, uv] [] σ := by
  refine j_iload_n (i := 1) rfl (show decode cX0_leastNext 0 = .ok (.iload_n 1, 1) by decide +kernel) ?_
  refine j_iconst (show decode cX0_leastNext 1 = .ok (.iconst 1, 1) by decide +kernel) ?_
  refine j_isub (show decode cX0_leastNext 2 = .ok (.isub, 1) by decide +kernel) ?_
  refine j_iconst (show decode cX0_leastNext 3 = .ok (.iconst 0, 1) by decide +kernel) ?_
  have hr0 := h.1
  have h := h.2
  refine j_max (tt_in 886 (by decide +kernel) rfl) (by omega) (Nat.le_of_ble_eq_true rfl) hr0 (inl (by decide)) (show decode cX0_leastNext 4 = .ok (.invokestatic 90, 3) by decide +kernel) ?_
  refine s_ist_n (i := 2) (L' := [iv p0, iv p1, iv (max (p1 - 1) 0), uv]) rfl (by decide) (show decode cX0_leastNext 7 = .ok (.istore_n 2, 1) by decide +kernel) ?_
  refine j_iload_n (i := 2) rfl (show decode cX0_leastNext 8 = .ok (.iload_n 2, 1) by decide +kernel) ?_
  refine j_iconst (show decode cX0_leastNext 9 = .ok (.iconst 2, 1) by decide +kernel) ?_
  have hr1 := h.1
  have h := h.2
  refine j_icmp_lt (tgt := 28) hr1 (inl (by decide)) (show decode cX0_leastNext 10 = .ok (.if_icmp .lt 18, 3) by decide +kernel) (by decide) (fun c => ?_) (fun c => ?_)
  · have h := h.1 c
    refine j_iconst (show decode cX0_leastNext 28 = .ok (.iconst 1, 1) by decide +kernel) ?_
    refine j_iload_n (i := 2) rfl (show decode cX0_leastNext 29 = .ok (.iload_n 2, 1) by decide +kernel) ?_
    refine j_ishl (show decode cX0_leastNext 30 = .ok (.ishl, 1) by decide +kernel) ?_
    refine s_ist_n (i := 3) (L' := [iv p0, iv p1, iv (max (p1 - 1) 0), iv (i_shl 1 (max (p1 - 1) 0))]) rfl (by decide) (show decode cX0_leastNext 31 = .ok (.istore_n 3, 1) by decide +kernel) ?_
    refine j_iload_n (i := 0) rfl (show decode cX0_leastNext 32 = .ok (.iload_n 0, 1) by decide +kernel) ?_
    refine j_iload_n (i := 3) rfl (show decode cX0_leastNext 33 = .ok (.iload_n 3, 1) by decide +kernel) ?_
    refine j_iadd (show decode cX0_leastNext 34 = .ok (.iadd, 1) by decide +kernel) ?_
    refine j_iconst (show decode cX0_leastNext 35 = .ok (.iconst 1, 1) by decide +kernel) ?_
    refine j_isub (show decode cX0_leastNext 36 = .ok (.isub, 1) by decide +kernel) ?_
    refine j_iload_n (i := 3) rfl (show decode cX0_leastNext 37 = .ok (.iload_n 3, 1) by decide +kernel) ?_
    have hr2 := h.1
    have h := h.2
    have hr3 := h.1
    have h := h.2
    have hz4 := h.1
    have h := h.2
    refine j_idiv hr2 hr3 hz4 (show decode cX0_leastNext 38 = .ok (.idiv, 1) by decide +kernel) ?_
    exact j_ret (rokI (show decode cX0_leastNext 39 = .ok (.ireturn, 1) by decide +kernel) rfl) ⟨rfl, rfl, h⟩
  · have h := h.2 c
    refine j_iload_n (i := 0) rfl (show decode cX0_leastNext 13 = .ok (.iload_n 0, 1) by decide +kernel) ?_
    refine j_iconst (show decode cX0_leastNext 14 = .ok (.iconst 2, 1) by decide +kernel) ?_
    have hr5 := h.1
    have h := h.2
    refine j_irem hr5 (inl (by decide)) (by decide) (show decode cX0_leastNext 15 = .ok (.irem, 1) by decide +kernel) ?_
    refine j_iconst (show decode cX0_leastNext 16 = .ok (.iconst 1, 1) by decide +kernel) ?_
    have hr6 := h.1
    have h := h.2
    refine j_icmp_ne (tgt := 28) hr6 (inl (by decide)) (show decode cX0_leastNext 17 = .ok (.if_icmp .ne 11, 3) by decide +kernel) (by decide) (fun c => ?_) (fun c => ?_)
    · have h := h.1 c
      refine j_iconst (show decode cX0_leastNext 28 = .ok (.iconst 1, 1) by decide +kernel) ?_
      refine j_iload_n (i := 2) rfl (show decode cX0_leastNext 29 = .ok (.iload_n 2, 1) by decide +kernel) ?_
      refine j_ishl (show decode cX0_leastNext 30 = .ok (.ishl, 1) by decide +kernel) ?_
      refine s_ist_n (i := 3) (L' := [iv p0, iv p1, iv (max (p1 - 1) 0), iv (i_shl 1 (max (p1 - 1) 0))]) rfl (by decide) (show decode cX0_leastNext 31 = .ok (.istore_n 3, 1) by decide +kernel) ?_
      refine j_iload_n (i := 0) rfl (show decode cX0_leastNext 32 = .ok (.iload_n 0, 1) by decide +kernel) ?_
      refine j_iload_n (i := 3) rfl (show decode cX0_leastNext 33 = .ok (.iload_n 3, 1) by decide +kernel) ?_
      refine j_iadd (show decode cX0_leastNext 34 = .ok (.iadd, 1) by decide +kernel) ?_
      refine j_iconst (show decode cX0_leastNext 35 = .ok (.iconst 1, 1) by decide +kernel) ?_
      refine j_isub (show decode cX0_leastNext 36 = .ok (.isub, 1) by decide +kernel) ?_
      refine j_iload_n (i := 3) rfl (show decode cX0_leastNext 37 = .ok (.iload_n 3, 1) by decide +kernel) ?_
      have hr7 := h.1
      have h := h.2
      have hr8 := h.1
      have h := h.2
      have hz9 := h.1
      have h := h.2
      refine j_idiv hr7 hr8 hz9 (show decode cX0_leastNext 38 = .ok (.idiv, 1) by decide +kernel) ?_
      exact j_ret (rokI (show decode cX0_leastNext 39 = .ok (.ireturn, 1) by decide +kernel) rfl) ⟨rfl, rfl, h⟩
    · have h := h.2 c
      refine j_iconst (show decode cX0_leastNext 20 = .ok (.iconst 3, 1) by decide +kernel) ?_
      refine j_iload_n (i := 2) rfl (show decode cX0_leastNext 21 = .ok (.iload_n 2, 1) by decide +kernel) ?_
      refine j_iconst (show decode cX0_leastNext 22 = .ok (.iconst 2, 1) by decide +kernel) ?_
      refine j_isub (show decode cX0_leastNext 23 = .ok (.isub, 1) by decide +kernel) ?_
      refine j_ishl (show decode cX0_leastNext 24 = .ok (.ishl, 1) by decide +kernel) ?_
      refine j_goto (tgt := 31) (show decode cX0_leastNext 25 = .ok (.goto 6, 3) by decide +kernel) (by decide) ?_
      refine s_ist_n (i := 3) (L' := [iv p0, iv p1, iv (max (p1 - 1) 0), iv (i_shl 3 ((max (p1 - 1) 0) - 2))]) rfl (by decide) (show decode cX0_leastNext 31 = .ok (.istore_n 3, 1) by decide +kernel) ?_
      refine j_iload_n (i := 0) rfl (show decode cX0_leastNext 32 = .ok (.iload_n 0, 1) by decide +kernel) ?_
      refine j_iload_n (i := 3) rfl (show decode cX0_leastNext 33 = .ok (.iload_n 3, 1) by decide +kernel) ?_
      refine j_iadd (show decode cX0_leastNext 34 = .ok (.iadd, 1) by decide +kernel) ?_
      refine j_iconst (show decode cX0_leastNext 35 = .ok (.iconst 1, 1) by decide +kernel) ?_
      refine j_isub (show decode cX0_leastNext 36 = .ok (.isub, 1) by decide +kernel) ?_
      refine j_iload_n (i := 3) rfl (show decode cX0_leastNext 37 = .ok (.iload_n 3, 1) by decide +kernel) ?_
      have hr10 := h.1
      have h := h.2
      have hr11 := h.1
      have h := h.2
      have hz12 := h.1
      have h := h.2
      refine j_idiv hr10 hr11 hz12 (show decode cX0_leastNext 38 = .ok (.idiv, 1) by decide +kernel) ?_
      exact j_ret (rokI (show decode cX0_leastNext 39 = .ok (.ireturn, 1) by decide +kernel) rfl) ⟨rfl, rfl, h⟩
theorem c_X0_leastNext {d : Nat} {t : Int} {Q : Int → jM → Prop} {σ : jM} {p0 p1 : Int} (h : (inR (p1 - 1)) ∧ ((inR (max (p1 - 1) 0)) ∧ (((max (p1 - 1) 0) < 2 → ((inR ((p0 + (i_shl 1 (max (p1 - 1) 0))) - 1)) ∧ ((inR (i_shl 1 (max (p1 - 1) 0))) ∧ (((i_shl 1 (max (p1 - 1) 0)) ≠ 0) ∧ (Q (Int.tdiv ((p0 + (i_shl 1 (max (p1 - 1) 0))) - 1) (i_shl 1 (max (p1 - 1) 0))) σ))))) ∧ (2 ≤ (max (p1 - 1) 0) → ((inR p0) ∧ ((inR (Int.tmod p0 2)) ∧ ((¬ (Int.tmod p0 2) = 1 → ((inR ((p0 + (i_shl 1 (max (p1 - 1) 0))) - 1)) ∧ ((inR (i_shl 1 (max (p1 - 1) 0))) ∧ (((i_shl 1 (max (p1 - 1) 0)) ≠ 0) ∧ (Q (Int.tdiv ((p0 + (i_shl 1 (max (p1 - 1) 0))) - 1) (i_shl 1 (max (p1 - 1) 0))) σ))))) ∧ ((Int.tmod p0 2) = 1 → ((inR ((p0 + (i_shl 3 ((max (p1 - 1) 0) - 2))) - 1)) ∧ ((inR (i_shl 3 ((max (p1 - 1) 0) - 2))) ∧ (((i_shl 3 ((max (p1 - 1) 0) - 2)) ≠ 0) ∧ (Q (Int.tdiv ((p0 + (i_shl 3 ((max (p1 - 1) 0) - 2))) - 1) (i_shl 3 ((max (p1 - 1) 0) - 2))) σ)))))))))))) : Ct mX0_leastNext (d + 1) 0 t [iv p0, iv p1] σ Q := Ct_of (by decide +kernel) (Nat.le_of_ble_eq_true rfl) (b_X0_leastNext_0 h)
set_option maxRecDepth 4000 in
theorem b_X0_put_98 {d : Nat} {t : Int} {Q : Int → jM → Prop} {σ : jM} {p1 p2 v3 v5 v7 : Int} (h : ((0 : Int) ≤ p1 ∧ p1 < 24) ∧ (∀ σ2 : jM, σ2 = up σ 276 p1 p2 → (((0 : Int) ≤ p1 ∧ p1 < 24) ∧ (∀ σ4 : jM, σ4 = up σ2 277 p1 v3 → (((0 : Int) ≤ p1 ∧ p1 < 24) ∧ (∀ σ6 : jM, σ6 = up σ4 278 p1 v5 → (((0 : Int) ≤ p1 ∧ p1 < 24) ∧ (∀ σ8 : jM, σ8 = up σ6 279 p1 v7 → (Q 0 σ8))))))))) : Jt mX0_put (d) 9 t Q 98 [rv 275, iv p1, iv p2, jv v3, uv, jv v5, uv, jv v7, uv] [] σ := by
  refine s_aload_n (i := 0) rfl (show decode cX0_put 98 = .ok (.aload_n 0, 1) by decide +kernel) ?_
  refine gf_X0_11 (x := 276) rfl (show decode cX0_put 99 = .ok (.getfield 11, 3) by decide +kernel) okl_275 rfl ?_
  refine j_iload_n (i := 1) rfl (show decode cX0_put 102 = .ok (.iload_n 1, 1) by decide +kernel) ?_
  refine j_iload_n (i := 2) rfl (show decode cX0_put 103 = .ok (.iload_n 2, 1) by decide +kernel) ?_
  have hb0 := h.1
  have h := h.2
  refine s_iast (show decode cX0_put 104 = .ok (.iastore, 1) by decide +kernel) okl_276 hb0 ?_
  obtain ⟨σ2, eσ2⟩ : ∃ z : jM, z = up σ 276 p1 p2 := ⟨_, rfl⟩
  refine j_sig eσ2 ?_
  have h := h σ2 eσ2
  refine s_aload_n (i := 0) rfl (show decode cX0_put 105 = .ok (.aload_n 0, 1) by decide +kernel) ?_
  refine gf_X0_15 (x := 277) rfl (show decode cX0_put 106 = .ok (.getfield 15, 3) by decide +kernel) okl_275 rfl ?_
  refine j_iload_n (i := 1) rfl (show decode cX0_put 109 = .ok (.iload_n 1, 1) by decide +kernel) ?_
  refine j_lload_n (i := 3) rfl (show decode cX0_put 110 = .ok (.lload_n 3, 1) by decide +kernel) ?_
  have hb2 := h.1
  have h := h.2
  refine s_last (show decode cX0_put 111 = .ok (.lastore, 1) by decide +kernel) okl_277 hb2 ?_
  obtain ⟨σ4, eσ4⟩ : ∃ z : jM, z = up σ2 277 p1 v3 := ⟨_, rfl⟩
  refine j_sig eσ4 ?_
  have h := h σ4 eσ4
  refine s_aload_n (i := 0) rfl (show decode cX0_put 112 = .ok (.aload_n 0, 1) by decide +kernel) ?_
  refine gf_X0_19 (x := 278) rfl (show decode cX0_put 113 = .ok (.getfield 19, 3) by decide +kernel) okl_275 rfl ?_
  refine j_iload_n (i := 1) rfl (show decode cX0_put 116 = .ok (.iload_n 1, 1) by decide +kernel) ?_
  refine j_lload (i := 5) rfl (show decode cX0_put 117 = .ok (.lload 5, 2) by decide +kernel) ?_
  have hb4 := h.1
  have h := h.2
  refine s_last (show decode cX0_put 119 = .ok (.lastore, 1) by decide +kernel) okl_278 hb4 ?_
  obtain ⟨σ6, eσ6⟩ : ∃ z : jM, z = up σ4 278 p1 v5 := ⟨_, rfl⟩
  refine j_sig eσ6 ?_
  have h := h σ6 eσ6
  refine s_aload_n (i := 0) rfl (show decode cX0_put 120 = .ok (.aload_n 0, 1) by decide +kernel) ?_
  refine gf_X0_22 (x := 279) rfl (show decode cX0_put 121 = .ok (.getfield 22, 3) by decide +kernel) okl_275 rfl ?_
  refine j_iload_n (i := 1) rfl (show decode cX0_put 124 = .ok (.iload_n 1, 1) by decide +kernel) ?_
  refine j_lload (i := 7) rfl (show decode cX0_put 125 = .ok (.lload 7, 2) by decide +kernel) ?_
  have hb6 := h.1
  have h := h.2
  refine s_last (show decode cX0_put 127 = .ok (.lastore, 1) by decide +kernel) okl_279 hb6 ?_
  obtain ⟨σ8, eσ8⟩ : ∃ z : jM, z = up σ6 279 p1 v7 := ⟨_, rfl⟩
  refine j_sig eσ8 ?_
  have h := h σ8 eσ8
  exact j_ret (rokV (show decode cX0_put 128 = .ok (.return_, 1) by decide +kernel) rfl) ⟨rfl, rfl, h⟩
set_option maxRecDepth 4000 in
theorem b_X0_put_51 {d : Nat} {t : Int} {Q : Int → jM → Prop} {σ : jM} {p1 p2 v3 v5 u0 : Int} (h : (inR p2) ∧ ((64 ≤ p2 → (Jt mX0_put (d) 9 t Q 98 [rv 275, iv p1, iv p2, jv v3, uv, jv v5, uv, jv (l_or u0 (l_shl v3 (p2 - 64))), uv] [] σ)) ∧ (p2 < 64 → (Jt mX0_put (d) 9 t Q 98 [rv 275, iv p1, iv p2, jv (l_or v3 (l_shl 1 p2)), uv, jv (l_or v5 (l_shl (l_or v3 (l_shl 1 p2)) p2)), uv, jv (l_or u0 (l_ushr (l_or v3 (l_shl 1 p2)) (64 - p2))), uv] [] σ)))) : Jt mX0_put (d) 9 t Q 51 [rv 275, iv p1, iv p2, jv v3, uv, jv v5, uv, uv, uv] [jv u0] σ := by
  refine s_lst (i := 7) (L' := [rv 275, iv p1, iv p2, jv v3, uv, jv v5, uv, jv u0, uv]) rfl (by decide) (show decode cX0_put 51 = .ok (.lstore 7, 2) by decide +kernel) ?_
  refine j_iload_n (i := 2) rfl (show decode cX0_put 53 = .ok (.iload_n 2, 1) by decide +kernel) ?_
  refine j_bipush (n := 64) (by decide +kernel) (show decode cX0_put 54 = .ok (.bipush 64, 2) by decide +kernel) ?_
  have hr0 := h.1
  have h := h.2
  refine j_icmp_ge (tgt := 87) hr0 (inl (by decide)) (show decode cX0_put 56 = .ok (.if_icmp .ge 31, 3) by decide +kernel) (by decide) (fun c => ?_) (fun c => ?_)
  · have h := h.1 c
    refine j_lload (i := 7) rfl (show decode cX0_put 87 = .ok (.lload 7, 2) by decide +kernel) ?_
    refine j_lload_n (i := 3) rfl (show decode cX0_put 89 = .ok (.lload_n 3, 1) by decide +kernel) ?_
    refine j_iload_n (i := 2) rfl (show decode cX0_put 90 = .ok (.iload_n 2, 1) by decide +kernel) ?_
    refine j_bipush (n := 64) (by decide +kernel) (show decode cX0_put 91 = .ok (.bipush 64, 2) by decide +kernel) ?_
    refine j_isub (show decode cX0_put 93 = .ok (.isub, 1) by decide +kernel) ?_
    refine j_lshl (show decode cX0_put 94 = .ok (.lshl, 1) by decide +kernel) ?_
    refine j_lor (show decode cX0_put 95 = .ok (.lor, 1) by decide +kernel) ?_
    refine s_lst (i := 7) (L' := [rv 275, iv p1, iv p2, jv v3, uv, jv v5, uv, jv (l_or u0 (l_shl v3 (p2 - 64))), uv]) rfl (by decide) (show decode cX0_put 96 = .ok (.lstore 7, 2) by decide +kernel) ?_
    exact h
  · have h := h.2 c
    refine j_lload_n (i := 3) rfl (show decode cX0_put 59 = .ok (.lload_n 3, 1) by decide +kernel) ?_
    refine j_lconst (x := 1) (by decide +kernel) (show decode cX0_put 60 = .ok (.lconst 1, 1) by decide +kernel) ?_
    refine j_iload_n (i := 2) rfl (show decode cX0_put 61 = .ok (.iload_n 2, 1) by decide +kernel) ?_
    refine j_lshl (show decode cX0_put 62 = .ok (.lshl, 1) by decide +kernel) ?_
    refine j_lor (show decode cX0_put 63 = .ok (.lor, 1) by decide +kernel) ?_
    refine s_lst_n (i := 3) (L' := [rv 275, iv p1, iv p2, jv (l_or v3 (l_shl 1 p2)), uv, jv v5, uv, jv u0, uv]) rfl (by decide) (show decode cX0_put 64 = .ok (.lstore_n 3, 1) by decide +kernel) ?_
    refine j_lload (i := 5) rfl (show decode cX0_put 65 = .ok (.lload 5, 2) by decide +kernel) ?_
    refine j_lload_n (i := 3) rfl (show decode cX0_put 67 = .ok (.lload_n 3, 1) by decide +kernel) ?_
    refine j_iload_n (i := 2) rfl (show decode cX0_put 68 = .ok (.iload_n 2, 1) by decide +kernel) ?_
    refine j_lshl (show decode cX0_put 69 = .ok (.lshl, 1) by decide +kernel) ?_
    refine j_lor (show decode cX0_put 70 = .ok (.lor, 1) by decide +kernel) ?_
    refine s_lst (i := 5) (L' := [rv 275, iv p1, iv p2, jv (l_or v3 (l_shl 1 p2)), uv, jv (l_or v5 (l_shl (l_or v3 (l_shl 1 p2)) p2)), uv, jv u0, uv]) rfl (by decide) (show decode cX0_put 71 = .ok (.lstore 5, 2) by decide +kernel) ?_
    refine j_lload (i := 7) rfl (show decode cX0_put 73 = .ok (.lload 7, 2) by decide +kernel) ?_
    refine j_lload_n (i := 3) rfl (show decode cX0_put 75 = .ok (.lload_n 3, 1) by decide +kernel) ?_
    refine j_bipush (n := 64) (by decide +kernel) (show decode cX0_put 76 = .ok (.bipush 64, 2) by decide +kernel) ?_
    refine j_iload_n (i := 2) rfl (show decode cX0_put 78 = .ok (.iload_n 2, 1) by decide +kernel) ?_
    refine j_isub (show decode cX0_put 79 = .ok (.isub, 1) by decide +kernel) ?_
    refine j_lushr (show decode cX0_put 80 = .ok (.lushr, 1) by decide +kernel) ?_
    refine j_lor (show decode cX0_put 81 = .ok (.lor, 1) by decide +kernel) ?_
    refine s_lst (i := 7) (L' := [rv 275, iv p1, iv p2, jv (l_or v3 (l_shl 1 p2)), uv, jv (l_or v5 (l_shl (l_or v3 (l_shl 1 p2)) p2)), uv, jv (l_or u0 (l_ushr (l_or v3 (l_shl 1 p2)) (64 - p2))), uv]) rfl (by decide) (show decode cX0_put 82 = .ok (.lstore 7, 2) by decide +kernel) ?_
    refine j_goto (tgt := 98) (show decode cX0_put 84 = .ok (.goto 14, 3) by decide +kernel) (by decide) ?_
    exact h
set_option maxRecDepth 4000 in
theorem b_X0_put_0 {d : Nat} {t : Int} {Q : Int → jM → Prop} {σ : jM} {p1 p2 : Int} (h : (inR p1) ∧ ((p1 ≤ 0 → ((inR p1) ∧ ((p1 ≤ 0 → ((inR p1) ∧ ((p1 ≤ 0 → (Jt mX0_put (d) 9 t Q 51 [rv 275, iv p1, iv p2, jv 0, uv, jv 0, uv, uv, uv] [jv 0] σ)) ∧ (0 < p1 → (((0 : Int) ≤ (p1 - 1) ∧ (p1 - 1) < 24) ∧ (Jt mX0_put (d) 9 t Q 51 [rv 275, iv p1, iv p2, jv 0, uv, jv 0, uv, uv, uv] [jv (σ 279 (p1 - 1))] σ)))))) ∧ (0 < p1 → (((0 : Int) ≤ (p1 - 1) ∧ (p1 - 1) < 24) ∧ ((inR p1) ∧ ((p1 ≤ 0 → (Jt mX0_put (d) 9 t Q 51 [rv 275, iv p1, iv p2, jv 0, uv, jv (σ 278 (p1 - 1)), uv, uv, uv] [jv 0] σ)) ∧ (0 < p1 → (((0 : Int) ≤ (p1 - 1) ∧ (p1 - 1) < 24) ∧ (Jt mX0_put (d) 9 t Q 51 [rv 275, iv p1, iv p2, jv 0, uv, jv (σ 278 (p1 - 1)), uv, uv, uv] [jv (σ 279 (p1 - 1))] σ)))))))))) ∧ (0 < p1 → (((0 : Int) ≤ (p1 - 1) ∧ (p1 - 1) < 24) ∧ ((inR p1) ∧ ((p1 ≤ 0 → ((inR p1) ∧ ((p1 ≤ 0 → (Jt mX0_put (d) 9 t Q 51 [rv 275, iv p1, iv p2, jv (σ 277 (p1 - 1)), uv, jv 0, uv, uv, uv] [jv 0] σ)) ∧ (0 < p1 → (((0 : Int) ≤ (p1 - 1) ∧ (p1 - 1) < 24) ∧ (Jt mX0_put (d) 9 t Q 51 [rv 275, iv p1, iv p2, jv (σ 277 (p1 - 1)), uv, jv 0, uv, uv, uv] [jv (σ 279 (p1 - 1))] σ)))))) ∧ (0 < p1 → (((0 : Int) ≤ (p1 - 1) ∧ (p1 - 1) < 24) ∧ ((inR p1) ∧ ((p1 ≤ 0 → (Jt mX0_put (d) 9 t Q 51 [rv 275, iv p1, iv p2, jv (σ 277 (p1 - 1)), uv, jv (σ 278 (p1 - 1)), uv, uv, uv] [jv 0] σ)) ∧ (0 < p1 → (((0 : Int) ≤ (p1 - 1) ∧ (p1 - 1) < 24) ∧ (Jt mX0_put (d) 9 t Q 51 [rv 275, iv p1, iv p2, jv (σ 277 (p1 - 1)), uv, jv (σ 278 (p1 - 1)), uv, uv, uv] [jv (σ 279 (p1 - 1))] σ))))))))))))) : Jt mX0_put (d) 9 t Q 0 [rv 275, iv p1, iv p2, uv, uv, uv, uv, uv, uv] [] σ := by
  refine j_iload_n (i := 1) rfl (show decode cX0_put 0 = .ok (.iload_n 1, 1) by decide +kernel) ?_
  have hr0 := h.1
  have h := h.2
  refine j_if_le (tgt := 15) hr0 (show decode cX0_put 1 = .ok (.ifCond .le 14, 3) by decide +kernel) (by decide) (fun c => ?_) (fun c => ?_)
  · have h := h.1 c
    refine j_lconst (x := 0) (by decide +kernel) (show decode cX0_put 15 = .ok (.lconst 0, 1) by decide +kernel) ?_
    refine s_lst_n (i := 3) (L' := [rv 275, iv p1, iv p2, jv 0, uv, uv, uv, uv, uv]) rfl (by decide) (show decode cX0_put 16 = .ok (.lstore_n 3, 1) by decide +kernel) ?_
    refine j_iload_n (i := 1) rfl (show decode cX0_put 17 = .ok (.iload_n 1, 1) by decide +kernel) ?_
    have hr1 := h.1
    have h := h.2
    refine j_if_le (tgt := 32) hr1 (show decode cX0_put 18 = .ok (.ifCond .le 14, 3) by decide +kernel) (by decide) (fun c => ?_) (fun c => ?_)
    · have h := h.1 c
      refine j_lconst (x := 0) (by decide +kernel) (show decode cX0_put 32 = .ok (.lconst 0, 1) by decide +kernel) ?_
      refine s_lst (i := 5) (L' := [rv 275, iv p1, iv p2, jv 0, uv, jv 0, uv, uv, uv]) rfl (by decide) (show decode cX0_put 33 = .ok (.lstore 5, 2) by decide +kernel) ?_
      refine j_iload_n (i := 1) rfl (show decode cX0_put 35 = .ok (.iload_n 1, 1) by decide +kernel) ?_
      have hr2 := h.1
      have h := h.2
      refine j_if_le (tgt := 50) hr2 (show decode cX0_put 36 = .ok (.ifCond .le 14, 3) by decide +kernel) (by decide) (fun c => ?_) (fun c => ?_)
      · have h := h.1 c
        refine j_lconst (x := 0) (by decide +kernel) (show decode cX0_put 50 = .ok (.lconst 0, 1) by decide +kernel) ?_
        exact h
      · have h := h.2 c
        refine s_aload_n (i := 0) rfl (show decode cX0_put 39 = .ok (.aload_n 0, 1) by decide +kernel) ?_
        refine gf_X0_22 (x := 279) rfl (show decode cX0_put 40 = .ok (.getfield 22, 3) by decide +kernel) okl_275 rfl ?_
        refine j_iload_n (i := 1) rfl (show decode cX0_put 43 = .ok (.iload_n 1, 1) by decide +kernel) ?_
        refine j_iconst (show decode cX0_put 44 = .ok (.iconst 1, 1) by decide +kernel) ?_
        refine j_isub (show decode cX0_put 45 = .ok (.isub, 1) by decide +kernel) ?_
        refine s_lald (show decode cX0_put 46 = .ok (.laload, 1) by decide +kernel) okl_279 h.1 ?_
        have h := h.2
        refine j_goto (tgt := 51) (show decode cX0_put 47 = .ok (.goto 4, 3) by decide +kernel) (by decide) ?_
        exact h
    · have h := h.2 c
      refine s_aload_n (i := 0) rfl (show decode cX0_put 21 = .ok (.aload_n 0, 1) by decide +kernel) ?_
      refine gf_X0_19 (x := 278) rfl (show decode cX0_put 22 = .ok (.getfield 19, 3) by decide +kernel) okl_275 rfl ?_
      refine j_iload_n (i := 1) rfl (show decode cX0_put 25 = .ok (.iload_n 1, 1) by decide +kernel) ?_
      refine j_iconst (show decode cX0_put 26 = .ok (.iconst 1, 1) by decide +kernel) ?_
      refine j_isub (show decode cX0_put 27 = .ok (.isub, 1) by decide +kernel) ?_
      refine s_lald (show decode cX0_put 28 = .ok (.laload, 1) by decide +kernel) okl_278 h.1 ?_
      have h := h.2
      refine j_goto (tgt := 33) (show decode cX0_put 29 = .ok (.goto 4, 3) by decide +kernel) (by decide) ?_
      refine s_lst (i := 5) (L' := [rv 275, iv p1, iv p2, jv 0, uv, jv (σ 278 (p1 - 1)), uv, uv, uv]) rfl (by decide) (show decode cX0_put 33 = .ok (.lstore 5, 2) by decide +kernel) ?_
      refine j_iload_n (i := 1) rfl (show decode cX0_put 35 = .ok (.iload_n 1, 1) by decide +kernel) ?_
      have hr3 := h.1
      have h := h.2
      refine j_if_le (tgt := 50) hr3 (show decode cX0_put 36 = .ok (.ifCond .le 14, 3) by decide +kernel) (by decide) (fun c => ?_) (fun c => ?_)
      · have h := h.1 c
        refine j_lconst (x := 0) (by decide +kernel) (show decode cX0_put 50 = .ok (.lconst 0, 1) by decide +kernel) ?_
        exact h
      · have h := h.2 c
        refine s_aload_n (i := 0) rfl (show decode cX0_put 39 = .ok (.aload_n 0, 1) by decide +kernel) ?_
        refine gf_X0_22 (x := 279) rfl (show decode cX0_put 40 = .ok (.getfield 22, 3) by decide +kernel) okl_275 rfl ?_
        refine j_iload_n (i := 1) rfl (show decode cX0_put 43 = .ok (.iload_n 1, 1) by decide +kernel) ?_
        refine j_iconst (show decode cX0_put 44 = .ok (.iconst 1, 1) by decide +kernel) ?_
        refine j_isub (show decode cX0_put 45 = .ok (.isub, 1) by decide +kernel) ?_
        refine s_lald (show decode cX0_put 46 = .ok (.laload, 1) by decide +kernel) okl_279 h.1 ?_
        have h := h.2
        refine j_goto (tgt := 51) (show decode cX0_put 47 = .ok (.goto 4, 3) by decide +kernel) (by decide) ?_
        exact h
  · have h := h.2 c
    refine s_aload_n (i := 0) rfl (show decode cX0_put 4 = .ok (.aload_n 0, 1) by decide +kernel) ?_
    refine gf_X0_15 (x := 277) rfl (show decode cX0_put 5 = .ok (.getfield 15, 3) by decide +kernel) okl_275 rfl ?_
    refine j_iload_n (i := 1) rfl (show decode cX0_put 8 = .ok (.iload_n 1, 1) by decide +kernel) ?_
    refine j_iconst (show decode cX0_put 9 = .ok (.iconst 1, 1) by decide +kernel) ?_
    refine j_isub (show decode cX0_put 10 = .ok (.isub, 1) by decide +kernel) ?_
    refine s_lald (show decode cX0_put 11 = .ok (.laload, 1) by decide +kernel) okl_277 h.1 ?_
    have h := h.2
    refine j_goto (tgt := 16) (show decode cX0_put 12 = .ok (.goto 4, 3) by decide +kernel) (by decide) ?_
    refine s_lst_n (i := 3) (L' := [rv 275, iv p1, iv p2, jv (σ 277 (p1 - 1)), uv, uv, uv, uv, uv]) rfl (by decide) (show decode cX0_put 16 = .ok (.lstore_n 3, 1) by decide +kernel) ?_
    refine j_iload_n (i := 1) rfl (show decode cX0_put 17 = .ok (.iload_n 1, 1) by decide +kernel) ?_
    have hr4 := h.1
    have h := h.2
    refine j_if_le (tgt := 32) hr4 (show decode cX0_put 18 = .ok (.ifCond .le 14, 3) by decide +kernel) (by decide) (fun c => ?_) (fun c => ?_)
    · have h := h.1 c
      refine j_lconst (x := 0) (by decide +kernel) (show decode cX0_put 32 = .ok (.lconst 0, 1) by decide +kernel) ?_
      refine s_lst (i := 5) (L' := [rv 275, iv p1, iv p2, jv (σ 277 (p1 - 1)), uv, jv 0, uv, uv, uv]) rfl (by decide) (show decode cX0_put 33 = .ok (.lstore 5, 2) by decide +kernel) ?_
      refine j_iload_n (i := 1) rfl (show decode cX0_put 35 = .ok (.iload_n 1, 1) by decide +kernel) ?_
      have hr5 := h.1
      have h := h.2
      refine j_if_le (tgt := 50) hr5 (show decode cX0_put 36 = .ok (.ifCond .le 14, 3) by decide +kernel) (by decide) (fun c => ?_) (fun c => ?_)
      · have h := h.1 c
        refine j_lconst (x := 0) (by decide +kernel) (show decode cX0_put 50 = .ok (.lconst 0, 1) by decide +kernel) ?_
        exact h
      · have h := h.2 c
        refine s_aload_n (i := 0) rfl (show decode cX0_put 39 = .ok (.aload_n 0, 1) by decide +kernel) ?_
        refine gf_X0_22 (x := 279) rfl (show decode cX0_put 40 = .ok (.getfield 22, 3) by decide +kernel) okl_275 rfl ?_
        refine j_iload_n (i := 1) rfl (show decode cX0_put 43 = .ok (.iload_n 1, 1) by decide +kernel) ?_
        refine j_iconst (show decode cX0_put 44 = .ok (.iconst 1, 1) by decide +kernel) ?_
        refine j_isub (show decode cX0_put 45 = .ok (.isub, 1) by decide +kernel) ?_
        refine s_lald (show decode cX0_put 46 = .ok (.laload, 1) by decide +kernel) okl_279 h.1 ?_
        have h := h.2
        refine j_goto (tgt := 51) (show decode cX0_put 47 = .ok (.goto 4, 3) by decide +kernel) (by decide) ?_
        exact h
    · have h := h.2 c
      refine s_aload_n (i := 0) rfl (show decode cX0_put 21 = .ok (.aload_n 0, 1) by decide +kernel) ?_
      refine gf_X0_19 (x := 278) rfl (show decode cX0_put 22 = .ok (.getfield 19, 3) by decide +kernel) okl_275 rfl ?_
      refine j_iload_n (i := 1) rfl (show decode cX0_put 25 = .ok (.iload_n 1, 1) by decide +kernel) ?_
      refine j_iconst (show decode cX0_put 26 = .ok (.iconst 1, 1) by decide +kernel) ?_
      refine j_isub (show decode cX0_put 27 = .ok (.isub, 1) by decide +kernel) ?_
      refine s_lald (show decode cX0_put 28 = .ok (.laload, 1) by decide +kernel) okl_278 h.1 ?_
      have h := h.2
      refine j_goto (tgt := 33) (show decode cX0_put 29 = .ok (.goto 4, 3) by decide +kernel) (by decide) ?_
      refine s_lst (i := 5) (L' := [rv 275, iv p1, iv p2, jv (σ 277 (p1 - 1)), uv, jv (σ 278 (p1 - 1)), uv, uv, uv]) rfl (by decide) (show decode cX0_put 33 = .ok (.lstore 5, 2) by decide +kernel) ?_
      refine j_iload_n (i := 1) rfl (show decode cX0_put 35 = .ok (.iload_n 1, 1) by decide +kernel) ?_
      have hr6 := h.1
      have h := h.2
      refine j_if_le (tgt := 50) hr6 (show decode cX0_put 36 = .ok (.ifCond .le 14, 3) by decide +kernel) (by decide) (fun c => ?_) (fun c => ?_)
      · have h := h.1 c
        refine j_lconst (x := 0) (by decide +kernel) (show decode cX0_put 50 = .ok (.lconst 0, 1) by decide +kernel) ?_
        exact h
      · have h := h.2 c
        refine s_aload_n (i := 0) rfl (show decode cX0_put 39 = .ok (.aload_n 0, 1) by decide +kernel) ?_
        refine gf_X0_22 (x := 279) rfl (show decode cX0_put 40 = .ok (.getfield 22, 3) by decide +kernel) okl_275 rfl ?_
        refine j_iload_n (i := 1) rfl (show decode cX0_put 43 = .ok (.iload_n 1, 1) by decide +kernel) ?_
        refine j_iconst (show decode cX0_put 44 = .ok (.iconst 1, 1) by decide +kernel) ?_
        refine j_isub (show decode cX0_put 45 = .ok (.isub, 1) by decide +kernel) ?_
        refine s_lald (show decode cX0_put 46 = .ok (.laload, 1) by decide +kernel) okl_279 h.1 ?_
        have h := h.2
        refine j_goto (tgt := 51) (show decode cX0_put 47 = .ok (.goto 4, 3) by decide +kernel) (by decide) ?_
        exact h
theorem c_X0_put {d : Nat} {t : Int} {Q : Int → jM → Prop} {σ : jM} {p1 p2 : Int} (h : (inR p1) ∧ ((p1 ≤ 0 → ((inR p1) ∧ ((p1 ≤ 0 → ((inR p1) ∧ ((p1 ≤ 0 → (Jt mX0_put (d) 9 t Q 51 [rv 275, iv p1, iv p2, jv 0, uv, jv 0, uv, uv, uv] [jv 0] σ)) ∧ (0 < p1 → (((0 : Int) ≤ (p1 - 1) ∧ (p1 - 1) < 24) ∧ (Jt mX0_put (d) 9 t Q 51 [rv 275, iv p1, iv p2, jv 0, uv, jv 0, uv, uv, uv] [jv (σ 279 (p1 - 1))] σ)))))) ∧ (0 < p1 → (((0 : Int) ≤ (p1 - 1) ∧ (p1 - 1) < 24) ∧ ((inR p1) ∧ ((p1 ≤ 0 → (Jt mX0_put (d) 9 t Q 51 [rv 275, iv p1, iv p2, jv 0, uv, jv (σ 278 (p1 - 1)), uv, uv, uv] [jv 0] σ)) ∧ (0 < p1 → (((0 : Int) ≤ (p1 - 1) ∧ (p1 - 1) < 24) ∧ (Jt mX0_put (d) 9 t Q 51 [rv 275, iv p1, iv p2, jv 0, uv, jv (σ 278 (p1 - 1)), uv, uv, uv] [jv (σ 279 (p1 - 1))] σ)))))))))) ∧ (0 < p1 → (((0 : Int) ≤ (p1 - 1) ∧ (p1 - 1) < 24) ∧ ((inR p1) ∧ ((p1 ≤ 0 → ((inR p1) ∧ ((p1 ≤ 0 → (Jt mX0_put (d) 9 t Q 51 [rv 275, iv p1, iv p2, jv (σ 277 (p1 - 1)), uv, jv 0, uv, uv, uv] [jv 0] σ)) ∧ (0 < p1 → (((0 : Int) ≤ (p1 - 1) ∧ (p1 - 1) < 24) ∧ (Jt mX0_put (d) 9 t Q 51 [rv 275, iv p1, iv p2, jv (σ 277 (p1 - 1)), uv, jv 0, uv, uv, uv] [jv (σ 279 (p1 - 1))] σ)))))) ∧ (0 < p1 → (((0 : Int) ≤ (p1 - 1) ∧ (p1 - 1) < 24) ∧ ((inR p1) ∧ ((p1 ≤ 0 → (Jt mX0_put (d) 9 t Q 51 [rv 275, iv p1, iv p2, jv (σ 277 (p1 - 1)), uv, jv (σ 278 (p1 - 1)), uv, uv, uv] [jv 0] σ)) ∧ (0 < p1 → (((0 : Int) ≤ (p1 - 1) ∧ (p1 - 1) < 24) ∧ (Jt mX0_put (d) 9 t Q 51 [rv 275, iv p1, iv p2, jv (σ 277 (p1 - 1)), uv, jv (σ 278 (p1 - 1)), uv, uv, uv] [jv (σ 279 (p1 - 1))] σ))))))))))))) : Ct mX0_put (d) 9 t [rv 275, iv p1, iv p2] σ Q := Ct_of (by decide +kernel) (Nat.le_of_ble_eq_true rfl) (b_X0_put_0 h)
set_option maxRecDepth 4000 in
theorem b_X0_isSum_0 {d : Nat} {t : Int} {Q : Int → jM → Prop} {σ : jM} {p1 p2 : Int} (h : (inR p2) ∧ ((64 ≤ p2 → (((0 : Int) ≤ p1 ∧ p1 < 24) ∧ ((inL (l_and (l_ushr (σ 279 p1) (p2 - 64)) 1)) ∧ ((¬ (l_and (l_ushr (σ 279 p1) (p2 - 64)) 1) = 1 → (Q 0 σ)) ∧ ((l_and (l_ushr (σ 279 p1) (p2 - 64)) 1) = 1 → (Q 1 σ)))))) ∧ (p2 < 64 → (((0 : Int) ≤ p1 ∧ p1 < 24) ∧ ((inL (l_and (l_ushr (σ 278 p1) p2) 1)) ∧ ((¬ (l_and (l_ushr (σ 278 p1) p2) 1) = 1 → (Q 0 σ)) ∧ ((l_and (l_ushr (σ 278 p1) p2) 1) = 1 → (Q 1 σ)))))))) : Jt mX0_isSum (d) 0 t Q 0 [rv 275, iv p1, iv p2] [] σ := by
  refine j_iload_n (i := 2) rfl (show decode cX0_isSum 0 = .ok (.iload_n 2, 1) by decide +kernel) ?_
  refine j_bipush (n := 64) (by decide +kernel) (show decode cX0_isSum 1 = .ok (.bipush 64, 2) by decide +kernel) ?_
  have hr0 := h.1
  have h := h.2
  refine j_icmp_ge (tgt := 17) hr0 (inl (by decide)) (show decode cX0_isSum 3 = .ok (.if_icmp .ge 14, 3) by decide +kernel) (by decide) (fun c => ?_) (fun c => ?_)
  · have h := h.1 c
    refine s_aload_n (i := 0) rfl (show decode cX0_isSum 17 = .ok (.aload_n 0, 1) by decide +kernel) ?_
    refine gf_X0_22 (x := 279) rfl (show decode cX0_isSum 18 = .ok (.getfield 22, 3) by decide +kernel) okl_275 rfl ?_
    refine j_iload_n (i := 1) rfl (show decode cX0_isSum 21 = .ok (.iload_n 1, 1) by decide +kernel) ?_
    refine s_lald (show decode cX0_isSum 22 = .ok (.laload, 1) by decide +kernel) okl_279 h.1 ?_
    have h := h.2
    refine j_iload_n (i := 2) rfl (show decode cX0_isSum 23 = .ok (.iload_n 2, 1) by decide +kernel) ?_
    refine j_bipush (n := 64) (by decide +kernel) (show decode cX0_isSum 24 = .ok (.bipush 64, 2) by decide +kernel) ?_
    refine j_isub (show decode cX0_isSum 26 = .ok (.isub, 1) by decide +kernel) ?_
    refine j_lushr (show decode cX0_isSum 27 = .ok (.lushr, 1) by decide +kernel) ?_
    refine j_lconst (x := 1) (by decide +kernel) (show decode cX0_isSum 28 = .ok (.lconst 1, 1) by decide +kernel) ?_
    refine j_land (show decode cX0_isSum 29 = .ok (.land, 1) by decide +kernel) ?_
    refine j_lconst (x := 1) (by decide +kernel) (show decode cX0_isSum 30 = .ok (.lconst 1, 1) by decide +kernel) ?_
    have hr1 := h.1
    have h := h.2
    refine s_lif_ne (tgt := 39) hr1 (inll (by decide)) (show decode cX0_isSum 31 = .ok (.lcmp, 1) by decide +kernel) (show decode cX0_isSum 32 = .ok (.ifCond .ne 7, 3) by decide +kernel) (by decide) (fun c => ?_) (fun c => ?_)
    · have h := h.1 c
      refine j_iconst (show decode cX0_isSum 39 = .ok (.iconst 0, 1) by decide +kernel) ?_
      exact j_ret (rokZ (show decode cX0_isSum 40 = .ok (.ireturn, 1) by decide +kernel) rfl (Or.inl rfl)) ⟨rfl, rfl, h⟩
    · have h := h.2 c
      refine j_iconst (show decode cX0_isSum 35 = .ok (.iconst 1, 1) by decide +kernel) ?_
      refine j_goto (tgt := 40) (show decode cX0_isSum 36 = .ok (.goto 4, 3) by decide +kernel) (by decide) ?_
      exact j_ret (rokZ (show decode cX0_isSum 40 = .ok (.ireturn, 1) by decide +kernel) rfl (Or.inr rfl)) ⟨rfl, rfl, h⟩
  · have h := h.2 c
    refine s_aload_n (i := 0) rfl (show decode cX0_isSum 6 = .ok (.aload_n 0, 1) by decide +kernel) ?_
    refine gf_X0_19 (x := 278) rfl (show decode cX0_isSum 7 = .ok (.getfield 19, 3) by decide +kernel) okl_275 rfl ?_
    refine j_iload_n (i := 1) rfl (show decode cX0_isSum 10 = .ok (.iload_n 1, 1) by decide +kernel) ?_
    refine s_lald (show decode cX0_isSum 11 = .ok (.laload, 1) by decide +kernel) okl_278 h.1 ?_
    have h := h.2
    refine j_iload_n (i := 2) rfl (show decode cX0_isSum 12 = .ok (.iload_n 2, 1) by decide +kernel) ?_
    refine j_lushr (show decode cX0_isSum 13 = .ok (.lushr, 1) by decide +kernel) ?_
    refine j_goto (tgt := 28) (show decode cX0_isSum 14 = .ok (.goto 14, 3) by decide +kernel) (by decide) ?_
    refine j_lconst (x := 1) (by decide +kernel) (show decode cX0_isSum 28 = .ok (.lconst 1, 1) by decide +kernel) ?_
    refine j_land (show decode cX0_isSum 29 = .ok (.land, 1) by decide +kernel) ?_
    refine j_lconst (x := 1) (by decide +kernel) (show decode cX0_isSum 30 = .ok (.lconst 1, 1) by decide +kernel) ?_
    have hr2 := h.1
    have h := h.2
    refine s_lif_ne (tgt := 39) hr2 (inll (by decide)) (show decode cX0_isSum 31 = .ok (.lcmp, 1) by decide +kernel) (show decode cX0_isSum 32 = .ok (.ifCond .ne 7, 3) by decide +kernel) (by decide) (fun c => ?_) (fun c => ?_)
    · have h := h.1 c
      refine j_iconst (show decode cX0_isSum 39 = .ok (.iconst 0, 1) by decide +kernel) ?_
      exact j_ret (rokZ (show decode cX0_isSum 40 = .ok (.ireturn, 1) by decide +kernel) rfl (Or.inl rfl)) ⟨rfl, rfl, h⟩
    · have h := h.2 c
      refine j_iconst (show decode cX0_isSum 35 = .ok (.iconst 1, 1) by decide +kernel) ?_
      refine j_goto (tgt := 40) (show decode cX0_isSum 36 = .ok (.goto 4, 3) by decide +kernel) (by decide) ?_
      exact j_ret (rokZ (show decode cX0_isSum 40 = .ok (.ireturn, 1) by decide +kernel) rfl (Or.inr rfl)) ⟨rfl, rfl, h⟩
theorem c_X0_isSum {d : Nat} {t : Int} {Q : Int → jM → Prop} {σ : jM} {p1 p2 : Int} (h : (inR p2) ∧ ((64 ≤ p2 → (((0 : Int) ≤ p1 ∧ p1 < 24) ∧ ((inL (l_and (l_ushr (σ 279 p1) (p2 - 64)) 1)) ∧ ((¬ (l_and (l_ushr (σ 279 p1) (p2 - 64)) 1) = 1 → (Q 0 σ)) ∧ ((l_and (l_ushr (σ 279 p1) (p2 - 64)) 1) = 1 → (Q 1 σ)))))) ∧ (p2 < 64 → (((0 : Int) ≤ p1 ∧ p1 < 24) ∧ ((inL (l_and (l_ushr (σ 278 p1) p2) 1)) ∧ ((¬ (l_and (l_ushr (σ 278 p1) p2) 1) = 1 → (Q 0 σ)) ∧ ((l_and (l_ushr (σ 278 p1) p2) 1) = 1 → (Q 1 σ)))))))) : Ct mX0_isSum (d) 0 t [rv 275, iv p1, iv p2] σ Q := Ct_of (by decide +kernel) (Nat.le_of_ble_eq_true rfl) (b_X0_isSum_0 h)
set_option maxRecDepth 4000 in
theorem b_X0_sumFrom_0 {d : Nat} {t : Int} {Q : Int → jM → Prop} {σ : jM} {p1 p2 : Int} (h : (inR p2) ∧ ((64 ≤ p2 → ((inR p2) ∧ ((inR ((max p2 64) - 64)) ∧ ((64 ≤ ((max p2 64) - 64) → (Q 1000 σ)) ∧ (((max p2 64) - 64) < 64 → (((0 : Int) ≤ p1 ∧ p1 < 24) ∧ ((inL (l_ushr (σ 279 p1) ((max p2 64) - 64))) ∧ (((l_ushr (σ 279 p1) ((max p2 64) - 64)) = 0 → (Q 1000 σ)) ∧ (¬ (l_ushr (σ 279 p1) ((max p2 64) - 64)) = 0 → (((0 : Int) ≤ p1 ∧ p1 < 24) ∧ (Ct mJ13_numberOfTrailingZeros_95d88 d 0 t [jv (l_ushr (σ 279 p1) ((max p2 64) - 64))] σ (fun r5 σ5 => (Q ((64 + ((max p2 64) - 64)) + r5) σ5))))))))))))) ∧ (p2 < 64 → (((0 : Int) ≤ p1 ∧ p1 < 24) ∧ ((inL (l_ushr (σ 278 p1) p2)) ∧ (((l_ushr (σ 278 p1) p2) = 0 → ((inR p2) ∧ ((inR ((max p2 64) - 64)) ∧ ((64 ≤ ((max p2 64) - 64) → (Q 1000 σ)) ∧ (((max p2 64) - 64) < 64 → (((0 : Int) ≤ p1 ∧ p1 < 24) ∧ ((inL (l_ushr (σ 279 p1) ((max p2 64) - 64))) ∧ (((l_ushr (σ 279 p1) ((max p2 64) - 64)) = 0 → (Q 1000 σ)) ∧ (¬ (l_ushr (σ 279 p1) ((max p2 64) - 64)) = 0 → (((0 : Int) ≤ p1 ∧ p1 < 24) ∧ (Ct mJ13_numberOfTrailingZeros_95d88 d 0 t [jv (l_ushr (σ 279 p1) ((max p2 64) - 64))] σ (fun r10 σ10 => (Q ((64 + ((max p2 64) - 64)) + r10) σ10))))))))))))) ∧ (¬ (l_ushr (σ 278 p1) p2) = 0 → (((0 : Int) ≤ p1 ∧ p1 < 24) ∧ (Ct mJ13_numberOfTrailingZeros_95d88 d 0 t [jv (l_ushr (σ 278 p1) p2)] σ (fun r11 σ11 => (Q (p2 + r11) σ11))))))))))) : Jt mX0_sumFrom (d + 1) 0 t Q 0 [rv 275, iv p1, iv p2, uv] [] σ := by
  refine j_iload_n (i := 2) rfl (show decode cX0_sumFrom 0 = .ok (.iload_n 2, 1) by decide +kernel) ?_
  refine j_bipush (n := 64) (by decide +kernel) (show decode cX0_sumFrom 1 = .ok (.bipush 64, 2) by decide +kernel) ?_
  have hr0 := h.1
  have h := h.2
  refine j_icmp_ge (tgt := 33) hr0 (inl (by decide)) (show decode cX0_sumFrom 3 = .ok (.if_icmp .ge 30, 3) by decide +kernel) (by decide) (fun c => ?_) (fun c => ?_)
  · have h := h.1 c
    refine j_iload_n (i := 2) rfl (show decode cX0_sumFrom 33 = .ok (.iload_n 2, 1) by decide +kernel) ?_
    refine j_bipush (n := 64) (by decide +kernel) (show decode cX0_sumFrom 34 = .ok (.bipush 64, 2) by decide +kernel) ?_
    have hr1 := h.1
    have h := h.2
    refine j_max (tt_in 886 (by decide +kernel) rfl) (by omega) (Nat.le_of_ble_eq_true rfl) hr1 (inl (by decide)) (show decode cX0_sumFrom 36 = .ok (.invokestatic 90, 3) by decide +kernel) ?_
    refine j_bipush (n := 64) (by decide +kernel) (show decode cX0_sumFrom 39 = .ok (.bipush 64, 2) by decide +kernel) ?_
    refine j_isub (show decode cX0_sumFrom 41 = .ok (.isub, 1) by decide +kernel) ?_
    refine s_ist_n (i := 3) (L' := [rv 275, iv p1, iv p2, iv ((max p2 64) - 64)]) rfl (by decide) (show decode cX0_sumFrom 42 = .ok (.istore_n 3, 1) by decide +kernel) ?_
    refine j_iload_n (i := 3) rfl (show decode cX0_sumFrom 43 = .ok (.iload_n 3, 1) by decide +kernel) ?_
    refine j_bipush (n := 64) (by decide +kernel) (show decode cX0_sumFrom 44 = .ok (.bipush 64, 2) by decide +kernel) ?_
    have hr2 := h.1
    have h := h.2
    refine j_icmp_ge (tgt := 79) hr2 (inl (by decide)) (show decode cX0_sumFrom 46 = .ok (.if_icmp .ge 33, 3) by decide +kernel) (by decide) (fun c => ?_) (fun c => ?_)
    · have h := h.1 c
      refine j_sipush (n := 1000) (by decide +kernel) (show decode cX0_sumFrom 79 = .ok (.sipush 1000, 3) by decide +kernel) ?_
      exact j_ret (rokI (show decode cX0_sumFrom 82 = .ok (.ireturn, 1) by decide +kernel) rfl) ⟨rfl, rfl, h⟩
    · have h := h.2 c
      refine s_aload_n (i := 0) rfl (show decode cX0_sumFrom 49 = .ok (.aload_n 0, 1) by decide +kernel) ?_
      refine gf_X0_22 (x := 279) rfl (show decode cX0_sumFrom 50 = .ok (.getfield 22, 3) by decide +kernel) okl_275 rfl ?_
      refine j_iload_n (i := 1) rfl (show decode cX0_sumFrom 53 = .ok (.iload_n 1, 1) by decide +kernel) ?_
      refine s_lald (show decode cX0_sumFrom 54 = .ok (.laload, 1) by decide +kernel) okl_279 h.1 ?_
      have h := h.2
      refine j_iload_n (i := 3) rfl (show decode cX0_sumFrom 55 = .ok (.iload_n 3, 1) by decide +kernel) ?_
      refine j_lushr (show decode cX0_sumFrom 56 = .ok (.lushr, 1) by decide +kernel) ?_
      refine j_lconst (x := 0) (by decide +kernel) (show decode cX0_sumFrom 57 = .ok (.lconst 0, 1) by decide +kernel) ?_
      have hr3 := h.1
      have h := h.2
      refine s_lif_eq (tgt := 79) hr3 (inll (by decide)) (show decode cX0_sumFrom 58 = .ok (.lcmp, 1) by decide +kernel) (show decode cX0_sumFrom 59 = .ok (.ifCond .eq 20, 3) by decide +kernel) (by decide) (fun c => ?_) (fun c => ?_)
      · have h := h.1 c
        refine j_sipush (n := 1000) (by decide +kernel) (show decode cX0_sumFrom 79 = .ok (.sipush 1000, 3) by decide +kernel) ?_
        exact j_ret (rokI (show decode cX0_sumFrom 82 = .ok (.ireturn, 1) by decide +kernel) rfl) ⟨rfl, rfl, h⟩
      · have h := h.2 c
        refine j_bipush (n := 64) (by decide +kernel) (show decode cX0_sumFrom 62 = .ok (.bipush 64, 2) by decide +kernel) ?_
        refine j_iload_n (i := 3) rfl (show decode cX0_sumFrom 64 = .ok (.iload_n 3, 1) by decide +kernel) ?_
        refine j_iadd (show decode cX0_sumFrom 65 = .ok (.iadd, 1) by decide +kernel) ?_
        refine s_aload_n (i := 0) rfl (show decode cX0_sumFrom 66 = .ok (.aload_n 0, 1) by decide +kernel) ?_
        refine gf_X0_22 (x := 279) rfl (show decode cX0_sumFrom 67 = .ok (.getfield 22, 3) by decide +kernel) okl_275 rfl ?_
        refine j_iload_n (i := 1) rfl (show decode cX0_sumFrom 70 = .ok (.iload_n 1, 1) by decide +kernel) ?_
        refine s_lald (show decode cX0_sumFrom 71 = .ok (.laload, 1) by decide +kernel) okl_279 h.1 ?_
        have h := h.2
        refine j_iload_n (i := 3) rfl (show decode cX0_sumFrom 72 = .ok (.iload_n 3, 1) by decide +kernel) ?_
        refine j_lushr (show decode cX0_sumFrom 73 = .ok (.lushr, 1) by decide +kernel) ?_
        refine j_ctS (m' := mJ13_numberOfTrailingZeros_95d88) (As := [jv (l_ushr (σ 279 p1) ((max p2 64) - 64))]) (tag := 0) (cw_X0_99 rfl) (show decode cX0_sumFrom 74 = .ok (.invokestatic 99, 3) by decide +kernel) rfl (Nat.le_of_ble_eq_true rfl) (by decide) (Nat.le_refl _) h (fun r5 σ5 h => ?_)
        refine j_iadd (show decode cX0_sumFrom 77 = .ok (.iadd, 1) by decide +kernel) ?_
        exact j_ret (rokI (show decode cX0_sumFrom 78 = .ok (.ireturn, 1) by decide +kernel) rfl) ⟨rfl, rfl, h⟩
  · have h := h.2 c
    refine s_aload_n (i := 0) rfl (show decode cX0_sumFrom 6 = .ok (.aload_n 0, 1) by decide +kernel) ?_
    refine gf_X0_19 (x := 278) rfl (show decode cX0_sumFrom 7 = .ok (.getfield 19, 3) by decide +kernel) okl_275 rfl ?_
    refine j_iload_n (i := 1) rfl (show decode cX0_sumFrom 10 = .ok (.iload_n 1, 1) by decide +kernel) ?_
    refine s_lald (show decode cX0_sumFrom 11 = .ok (.laload, 1) by decide +kernel) okl_278 h.1 ?_
    have h := h.2
    refine j_iload_n (i := 2) rfl (show decode cX0_sumFrom 12 = .ok (.iload_n 2, 1) by decide +kernel) ?_
    refine j_lushr (show decode cX0_sumFrom 13 = .ok (.lushr, 1) by decide +kernel) ?_
    refine j_lconst (x := 0) (by decide +kernel) (show decode cX0_sumFrom 14 = .ok (.lconst 0, 1) by decide +kernel) ?_
    have hr5 := h.1
    have h := h.2
    refine s_lif_eq (tgt := 33) hr5 (inll (by decide)) (show decode cX0_sumFrom 15 = .ok (.lcmp, 1) by decide +kernel) (show decode cX0_sumFrom 16 = .ok (.ifCond .eq 17, 3) by decide +kernel) (by decide) (fun c => ?_) (fun c => ?_)
    · have h := h.1 c
      refine j_iload_n (i := 2) rfl (show decode cX0_sumFrom 33 = .ok (.iload_n 2, 1) by decide +kernel) ?_
      refine j_bipush (n := 64) (by decide +kernel) (show decode cX0_sumFrom 34 = .ok (.bipush 64, 2) by decide +kernel) ?_
      have hr6 := h.1
      have h := h.2
      refine j_max (tt_in 886 (by decide +kernel) rfl) (by omega) (Nat.le_of_ble_eq_true rfl) hr6 (inl (by decide)) (show decode cX0_sumFrom 36 = .ok (.invokestatic 90, 3) by decide +kernel) ?_
      refine j_bipush (n := 64) (by decide +kernel) (show decode cX0_sumFrom 39 = .ok (.bipush 64, 2) by decide +kernel) ?_
      refine j_isub (show decode cX0_sumFrom 41 = .ok (.isub, 1) by decide +kernel) ?_
      refine s_ist_n (i := 3) (L' := [rv 275, iv p1, iv p2, iv ((max p2 64) - 64)]) rfl (by decide) (show decode cX0_sumFrom 42 = .ok (.istore_n 3, 1) by decide +kernel) ?_
      refine j_iload_n (i := 3) rfl (show decode cX0_sumFrom 43 = .ok (.iload_n 3, 1) by decide +kernel) ?_
      refine j_bipush (n := 64) (by decide +kernel) (show decode cX0_sumFrom 44 = .ok (.bipush 64, 2) by decide +kernel) ?_
      have hr7 := h.1
      have h := h.2
      refine j_icmp_ge (tgt := 79) hr7 (inl (by decide)) (show decode cX0_sumFrom 46 = .ok (.if_icmp .ge 33, 3) by decide +kernel) (by decide) (fun c => ?_) (fun c => ?_)
      · have h := h.1 c
        refine j_sipush (n := 1000) (by decide +kernel) (show decode cX0_sumFrom 79 = .ok (.sipush 1000, 3) by decide +kernel) ?_
        exact j_ret (rokI (show decode cX0_sumFrom 82 = .ok (.ireturn, 1) by decide +kernel) rfl) ⟨rfl, rfl, h⟩
      · have h := h.2 c
        refine s_aload_n (i := 0) rfl (show decode cX0_sumFrom 49 = .ok (.aload_n 0, 1) by decide +kernel) ?_
        refine gf_X0_22 (x := 279) rfl (show decode cX0_sumFrom 50 = .ok (.getfield 22, 3) by decide +kernel) okl_275 rfl ?_
        refine j_iload_n (i := 1) rfl (show decode cX0_sumFrom 53 = .ok (.iload_n 1, 1) by decide +kernel) ?_
        refine s_lald (show decode cX0_sumFrom 54 = .ok (.laload, 1) by decide +kernel) okl_279 h.1 ?_
        have h := h.2
        refine j_iload_n (i := 3) rfl (show decode cX0_sumFrom 55 = .ok (.iload_n 3, 1) by decide +kernel) ?_
        refine j_lushr (show decode cX0_sumFrom 56 = .ok (.lushr, 1) by decide +kernel) ?_
        refine j_lconst (x := 0) (by decide +kernel) (show decode cX0_sumFrom 57 = .ok (.lconst 0, 1) by decide +kernel) ?_
        have hr8 := h.1
        have h := h.2
        refine s_lif_eq (tgt := 79) hr8 (inll (by decide)) (show decode cX0_sumFrom 58 = .ok (.lcmp, 1) by decide +kernel) (show decode cX0_sumFrom 59 = .ok (.ifCond .eq 20, 3) by decide +kernel) (by decide) (fun c => ?_) (fun c => ?_)
        · have h := h.1 c
          refine j_sipush (n := 1000) (by decide +kernel) (show decode cX0_sumFrom 79 = .ok (.sipush 1000, 3) by decide +kernel) ?_
          exact j_ret (rokI (show decode cX0_sumFrom 82 = .ok (.ireturn, 1) by decide +kernel) rfl) ⟨rfl, rfl, h⟩
        · have h := h.2 c
          refine j_bipush (n := 64) (by decide +kernel) (show decode cX0_sumFrom 62 = .ok (.bipush 64, 2) by decide +kernel) ?_
          refine j_iload_n (i := 3) rfl (show decode cX0_sumFrom 64 = .ok (.iload_n 3, 1) by decide +kernel) ?_
          refine j_iadd (show decode cX0_sumFrom 65 = .ok (.iadd, 1) by decide +kernel) ?_
          refine s_aload_n (i := 0) rfl (show decode cX0_sumFrom 66 = .ok (.aload_n 0, 1) by decide +kernel) ?_
          refine gf_X0_22 (x := 279) rfl (show decode cX0_sumFrom 67 = .ok (.getfield 22, 3) by decide +kernel) okl_275 rfl ?_
          refine j_iload_n (i := 1) rfl (show decode cX0_sumFrom 70 = .ok (.iload_n 1, 1) by decide +kernel) ?_
          refine s_lald (show decode cX0_sumFrom 71 = .ok (.laload, 1) by decide +kernel) okl_279 h.1 ?_
          have h := h.2
          refine j_iload_n (i := 3) rfl (show decode cX0_sumFrom 72 = .ok (.iload_n 3, 1) by decide +kernel) ?_
          refine j_lushr (show decode cX0_sumFrom 73 = .ok (.lushr, 1) by decide +kernel) ?_
          refine j_ctS (m' := mJ13_numberOfTrailingZeros_95d88) (As := [jv (l_ushr (σ 279 p1) ((max p2 64) - 64))]) (tag := 0) (cw_X0_99 rfl) (show decode cX0_sumFrom 74 = .ok (.invokestatic 99, 3) by decide +kernel) rfl (Nat.le_of_ble_eq_true rfl) (by decide) (Nat.le_refl _) h (fun r10 σ10 h => ?_)
          refine j_iadd (show decode cX0_sumFrom 77 = .ok (.iadd, 1) by decide +kernel) ?_
          exact j_ret (rokI (show decode cX0_sumFrom 78 = .ok (.ireturn, 1) by decide +kernel) rfl) ⟨rfl, rfl, h⟩
    · have h := h.2 c
      refine j_iload_n (i := 2) rfl (show decode cX0_sumFrom 19 = .ok (.iload_n 2, 1) by decide +kernel) ?_
      refine s_aload_n (i := 0) rfl (show decode cX0_sumFrom 20 = .ok (.aload_n 0, 1) by decide +kernel) ?_
      refine gf_X0_19 (x := 278) rfl (show decode cX0_sumFrom 21 = .ok (.getfield 19, 3) by decide +kernel) okl_275 rfl ?_
      refine j_iload_n (i := 1) rfl (show decode cX0_sumFrom 24 = .ok (.iload_n 1, 1) by decide +kernel) ?_
      refine s_lald (show decode cX0_sumFrom 25 = .ok (.laload, 1) by decide +kernel) okl_278 h.1 ?_
      have h := h.2
      refine j_iload_n (i := 2) rfl (show decode cX0_sumFrom 26 = .ok (.iload_n 2, 1) by decide +kernel) ?_
      refine j_lushr (show decode cX0_sumFrom 27 = .ok (.lushr, 1) by decide +kernel) ?_
      refine j_ctS (m' := mJ13_numberOfTrailingZeros_95d88) (As := [jv (l_ushr (σ 278 p1) p2)]) (tag := 0) (cw_X0_99 rfl) (show decode cX0_sumFrom 28 = .ok (.invokestatic 99, 3) by decide +kernel) rfl (Nat.le_of_ble_eq_true rfl) (by decide) (Nat.le_refl _) h (fun r11 σ11 h => ?_)
      refine j_iadd (show decode cX0_sumFrom 31 = .ok (.iadd, 1) by decide +kernel) ?_
      exact j_ret (rokI (show decode cX0_sumFrom 32 = .ok (.ireturn, 1) by decide +kernel) rfl) ⟨rfl, rfl, h⟩
theorem c_X0_sumFrom {d : Nat} {t : Int} {Q : Int → jM → Prop} {σ : jM} {p1 p2 : Int} (h : (inR p2) ∧ ((64 ≤ p2 → ((inR p2) ∧ ((inR ((max p2 64) - 64)) ∧ ((64 ≤ ((max p2 64) - 64) → (Q 1000 σ)) ∧ (((max p2 64) - 64) < 64 → (((0 : Int) ≤ p1 ∧ p1 < 24) ∧ ((inL (l_ushr (σ 279 p1) ((max p2 64) - 64))) ∧ (((l_ushr (σ 279 p1) ((max p2 64) - 64)) = 0 → (Q 1000 σ)) ∧ (¬ (l_ushr (σ 279 p1) ((max p2 64) - 64)) = 0 → (((0 : Int) ≤ p1 ∧ p1 < 24) ∧ (Ct mJ13_numberOfTrailingZeros_95d88 d 0 t [jv (l_ushr (σ 279 p1) ((max p2 64) - 64))] σ (fun r5 σ5 => (Q ((64 + ((max p2 64) - 64)) + r5) σ5))))))))))))) ∧ (p2 < 64 → (((0 : Int) ≤ p1 ∧ p1 < 24) ∧ ((inL (l_ushr (σ 278 p1) p2)) ∧ (((l_ushr (σ 278 p1) p2) = 0 → ((inR p2) ∧ ((inR ((max p2 64) - 64)) ∧ ((64 ≤ ((max p2 64) - 64) → (Q 1000 σ)) ∧ (((max p2 64) - 64) < 64 → (((0 : Int) ≤ p1 ∧ p1 < 24) ∧ ((inL (l_ushr (σ 279 p1) ((max p2 64) - 64))) ∧ (((l_ushr (σ 279 p1) ((max p2 64) - 64)) = 0 → (Q 1000 σ)) ∧ (¬ (l_ushr (σ 279 p1) ((max p2 64) - 64)) = 0 → (((0 : Int) ≤ p1 ∧ p1 < 24) ∧ (Ct mJ13_numberOfTrailingZeros_95d88 d 0 t [jv (l_ushr (σ 279 p1) ((max p2 64) - 64))] σ (fun r10 σ10 => (Q ((64 + ((max p2 64) - 64)) + r10) σ10))))))))))))) ∧ (¬ (l_ushr (σ 278 p1) p2) = 0 → (((0 : Int) ≤ p1 ∧ p1 < 24) ∧ (Ct mJ13_numberOfTrailingZeros_95d88 d 0 t [jv (l_ushr (σ 278 p1) p2)] σ (fun r11 σ11 => (Q (p2 + r11) σ11))))))))))) : Ct mX0_sumFrom (d + 1) 0 t [rv 275, iv p1, iv p2] σ Q := Ct_of (by decide +kernel) (Nat.le_of_ble_eq_true rfl) (b_X0_sumFrom_0 h)
set_option maxRecDepth 4000 in
theorem b_X0_waysOf_0 {d : Nat} {t : Int} {Q : Int → jM → Prop} {σ : jM} {p1 : Int} (h : (inR p1) ∧ ((p1 < 1 → (Q (-1) σ)) ∧ (1 ≤ p1 → ((inR p1) ∧ ((p1 ≤ 120 → (((0 : Int) ≤ p1 ∧ p1 < 121) ∧ ((inL (σ 283 p1)) ∧ ((¬ (σ 283 p1) = 0 → (((0 : Int) ≤ p1 ∧ p1 < 121) ∧ (Q (σ 283 p1) σ))) ∧ ((σ 283 p1) = 0 → (Ct mX0_joiningsOf d 0 t [rv 275, iv p1] σ (fun r4 σ4 => (∀ σ5 : jM, σ5 = up σ4 275 6 r4 → (Ct mX0_put d 9 t [rv 275, iv 0, iv 1] σ5 (fun r6 σ6 => ((inR (σ6 275 6)) ∧ ((2 ≤ (σ6 275 6) → (Ct mX0_tally d 1 t [rv 275, iv 0, iv p1] σ6 (fun r8 σ8 => (((0 : Int) ≤ p1 ∧ p1 < 121) ∧ (∀ σ10 : jM, σ10 = up σ8 283 p1 r8 → (((0 : Int) ≤ p1 ∧ p1 < 121) ∧ (Q (σ10 283 p1) σ10))))))) ∧ ((σ6 275 6) < 2 → (((0 : Int) ≤ p1 ∧ p1 < 121) ∧ (∀ σ12 : jM, σ12 = up σ6 283 p1 1 → (((0 : Int) ≤ p1 ∧ p1 < 121) ∧ (Q (σ12 283 p1) σ12))))))))))))))))) ∧ (120 < p1 → (Q (-1) σ))))))) : Jt mX0_waysOf (d + 1) 1 t Q 0 [rv 275, iv p1] [] σ := by
  refine j_iload_n (i := 1) rfl (show decode cX0_waysOf 0 = .ok (.iload_n 1, 1) by decide +kernel) ?_
  refine j_iconst (show decode cX0_waysOf 1 = .ok (.iconst 1, 1) by decide +kernel) ?_
  have hr0 := h.1
  have h := h.2
  refine j_icmp_lt (tgt := 11) hr0 (inl (by decide)) (show decode cX0_waysOf 2 = .ok (.if_icmp .lt 9, 3) by decide +kernel) (by decide) (fun c => ?_) (fun c => ?_)
  · have h := h.1 c
    refine j_ldc2 (x := -1) (tt_in 1003 (by decide +kernel) rfl) (show decode cX0_waysOf 11 = .ok (.ldc2_w 105, 3) by decide +kernel) ?_
    exact j_ret (rokL (show decode cX0_waysOf 14 = .ok (.lreturn, 1) by decide +kernel) rfl) ⟨rfl, rfl, h⟩
  · have h := h.2 c
    refine j_iload_n (i := 1) rfl (show decode cX0_waysOf 5 = .ok (.iload_n 1, 1) by decide +kernel) ?_
    refine j_bipush (n := 120) (by decide +kernel) (show decode cX0_waysOf 6 = .ok (.bipush 120, 2) by decide +kernel) ?_
    have hr1 := h.1
    have h := h.2
    refine j_icmp_le (tgt := 15) hr1 (inl (by decide)) (show decode cX0_waysOf 8 = .ok (.if_icmp .le 7, 3) by decide +kernel) (by decide) (fun c => ?_) (fun c => ?_)
    · have h := h.1 c
      refine s_aload_n (i := 0) rfl (show decode cX0_waysOf 15 = .ok (.aload_n 0, 1) by decide +kernel) ?_
      refine gf_X0_34 (x := 283) rfl (show decode cX0_waysOf 16 = .ok (.getfield 34, 3) by decide +kernel) okl_275 rfl ?_
      refine j_iload_n (i := 1) rfl (show decode cX0_waysOf 19 = .ok (.iload_n 1, 1) by decide +kernel) ?_
      refine s_lald (show decode cX0_waysOf 20 = .ok (.laload, 1) by decide +kernel) okl_283 h.1 ?_
      have h := h.2
      refine j_lconst (x := 0) (by decide +kernel) (show decode cX0_waysOf 21 = .ok (.lconst 0, 1) by decide +kernel) ?_
      have hr2 := h.1
      have h := h.2
      refine s_lif_ne (tgt := 65) hr2 (inll (by decide)) (show decode cX0_waysOf 22 = .ok (.lcmp, 1) by decide +kernel) (show decode cX0_waysOf 23 = .ok (.ifCond .ne 42, 3) by decide +kernel) (by decide) (fun c => ?_) (fun c => ?_)
      · have h := h.1 c
        refine s_aload_n (i := 0) rfl (show decode cX0_waysOf 65 = .ok (.aload_n 0, 1) by decide +kernel) ?_
        refine gf_X0_34 (x := 283) rfl (show decode cX0_waysOf 66 = .ok (.getfield 34, 3) by decide +kernel) okl_275 rfl ?_
        refine j_iload_n (i := 1) rfl (show decode cX0_waysOf 69 = .ok (.iload_n 1, 1) by decide +kernel) ?_
        refine s_lald (show decode cX0_waysOf 70 = .ok (.laload, 1) by decide +kernel) okl_283 h.1 ?_
        have h := h.2
        exact j_ret (rokL (show decode cX0_waysOf 71 = .ok (.lreturn, 1) by decide +kernel) rfl) ⟨rfl, rfl, h⟩
      · have h := h.2 c
        refine s_aload_n (i := 0) rfl (show decode cX0_waysOf 26 = .ok (.aload_n 0, 1) by decide +kernel) ?_
        refine s_aload_n (i := 0) rfl (show decode cX0_waysOf 27 = .ok (.aload_n 0, 1) by decide +kernel) ?_
        refine j_iload_n (i := 1) rfl (show decode cX0_waysOf 28 = .ok (.iload_n 1, 1) by decide +kernel) ?_
        refine j_ctV (m' := mX0_joiningsOf) (As := [iv p1]) (ci := 0) (tag := 0) (N := 0) (cw_X0_107 rfl) (show decode cX0_waysOf 29 = .ok (.invokevirtual 107, 3) by decide +kernel) rfl (Nat.le_of_ble_eq_true rfl) (by decide) okl_275 rfl rfl (Nat.le_refl _) h (fun r4 σ4 h => ?_)
        refine pf_X0_54 rfl (show decode cX0_waysOf 32 = .ok (.putfield 54, 3) by decide +kernel) okl_275 ?_
        obtain ⟨σ5, eσ5⟩ : ∃ z : jM, z = up σ4 275 6 r4 := ⟨_, rfl⟩
        refine j_sig eσ5 ?_
        have h := h σ5 eσ5
        refine s_aload_n (i := 0) rfl (show decode cX0_waysOf 35 = .ok (.aload_n 0, 1) by decide +kernel) ?_
        refine j_iconst (show decode cX0_waysOf 36 = .ok (.iconst 0, 1) by decide +kernel) ?_
        refine j_iconst (show decode cX0_waysOf 37 = .ok (.iconst 1, 1) by decide +kernel) ?_
        refine j_ctVv (m' := mX0_put) (As := [iv 0, iv 1]) (ci := 0) (N := 0) (cw_X0_79 rfl) (show decode cX0_waysOf 38 = .ok (.invokevirtual 79, 3) by decide +kernel) rfl (Nat.le_of_ble_eq_true rfl) okl_275 rfl rfl (Nat.le_refl _) h (fun r6 σ6 h => ?_)
        refine s_aload_n (i := 0) rfl (show decode cX0_waysOf 41 = .ok (.aload_n 0, 1) by decide +kernel) ?_
        refine gf_X0_34 (x := 283) rfl (show decode cX0_waysOf 42 = .ok (.getfield 34, 3) by decide +kernel) okl_275 rfl ?_
        refine j_iload_n (i := 1) rfl (show decode cX0_waysOf 45 = .ok (.iload_n 1, 1) by decide +kernel) ?_
        refine s_aload_n (i := 0) rfl (show decode cX0_waysOf 46 = .ok (.aload_n 0, 1) by decide +kernel) ?_
        refine gf_X0_54 rfl (show decode cX0_waysOf 47 = .ok (.getfield 54, 3) by decide +kernel) okl_275 ?_
        refine j_iconst (show decode cX0_waysOf 50 = .ok (.iconst 2, 1) by decide +kernel) ?_
        have hr6 := h.1
        have h := h.2
        refine j_icmp_ge (tgt := 58) hr6 (inl (by decide)) (show decode cX0_waysOf 51 = .ok (.if_icmp .ge 7, 3) by decide +kernel) (by decide) (fun c => ?_) (fun c => ?_)
        · have h := h.1 c
          refine s_aload_n (i := 0) rfl (show decode cX0_waysOf 58 = .ok (.aload_n 0, 1) by decide +kernel) ?_
          refine j_iconst (show decode cX0_waysOf 59 = .ok (.iconst 0, 1) by decide +kernel) ?_
          refine j_iload_n (i := 1) rfl (show decode cX0_waysOf 60 = .ok (.iload_n 1, 1) by decide +kernel) ?_
          refine j_ctV (m' := mX0_tally) (As := [iv 0, iv p1]) (ci := 0) (tag := 1) (N := 0) (cw_X0_111 rfl) (show decode cX0_waysOf 61 = .ok (.invokevirtual 111, 3) by decide +kernel) rfl (Nat.le_of_ble_eq_true rfl) (by decide) okl_275 rfl rfl (Nat.le_refl _) h (fun r8 σ8 h => ?_)
          have hb8 := h.1
          have h := h.2
          refine s_last (show decode cX0_waysOf 64 = .ok (.lastore, 1) by decide +kernel) okl_283 hb8 ?_
          obtain ⟨σ10, eσ10⟩ : ∃ z : jM, z = up σ8 283 p1 r8 := ⟨_, rfl⟩
          refine j_sig eσ10 ?_
          have h := h σ10 eσ10
          refine s_aload_n (i := 0) rfl (show decode cX0_waysOf 65 = .ok (.aload_n 0, 1) by decide +kernel) ?_
          refine gf_X0_34 (x := 283) rfl (show decode cX0_waysOf 66 = .ok (.getfield 34, 3) by decide +kernel) okl_275 rfl ?_
          refine j_iload_n (i := 1) rfl (show decode cX0_waysOf 69 = .ok (.iload_n 1, 1) by decide +kernel) ?_
          refine s_lald (show decode cX0_waysOf 70 = .ok (.laload, 1) by decide +kernel) okl_283 h.1 ?_
          have h := h.2
          exact j_ret (rokL (show decode cX0_waysOf 71 = .ok (.lreturn, 1) by decide +kernel) rfl) ⟨rfl, rfl, h⟩
        · have h := h.2 c
          refine j_lconst (x := 1) (by decide +kernel) (show decode cX0_waysOf 54 = .ok (.lconst 1, 1) by decide +kernel) ?_
          refine j_goto (tgt := 64) (show decode cX0_waysOf 55 = .ok (.goto 9, 3) by decide +kernel) (by decide) ?_
          have hb10 := h.1
          have h := h.2
          refine s_last (show decode cX0_waysOf 64 = .ok (.lastore, 1) by decide +kernel) okl_283 hb10 ?_
          obtain ⟨σ12, eσ12⟩ : ∃ z : jM, z = up σ6 283 p1 1 := ⟨_, rfl⟩
          refine j_sig eσ12 ?_
          have h := h σ12 eσ12
          refine s_aload_n (i := 0) rfl (show decode cX0_waysOf 65 = .ok (.aload_n 0, 1) by decide +kernel) ?_
          refine gf_X0_34 (x := 283) rfl (show decode cX0_waysOf 66 = .ok (.getfield 34, 3) by decide +kernel) okl_275 rfl ?_
          refine j_iload_n (i := 1) rfl (show decode cX0_waysOf 69 = .ok (.iload_n 1, 1) by decide +kernel) ?_
          refine s_lald (show decode cX0_waysOf 70 = .ok (.laload, 1) by decide +kernel) okl_283 h.1 ?_
          have h := h.2
          exact j_ret (rokL (show decode cX0_waysOf 71 = .ok (.lreturn, 1) by decide +kernel) rfl) ⟨rfl, rfl, h⟩
    · have h := h.2 c
      refine j_ldc2 (x := -1) (tt_in 1003 (by decide +kernel) rfl) (show decode cX0_waysOf 11 = .ok (.ldc2_w 105, 3) by decide +kernel) ?_
      exact j_ret (rokL (show decode cX0_waysOf 14 = .ok (.lreturn, 1) by decide +kernel) rfl) ⟨rfl, rfl, h⟩
theorem c_X0_waysOf {d : Nat} {t : Int} {Q : Int → jM → Prop} {σ : jM} {p1 : Int} (h : (inR p1) ∧ ((p1 < 1 → (Q (-1) σ)) ∧ (1 ≤ p1 → ((inR p1) ∧ ((p1 ≤ 120 → (((0 : Int) ≤ p1 ∧ p1 < 121) ∧ ((inL (σ 283 p1)) ∧ ((¬ (σ 283 p1) = 0 → (((0 : Int) ≤ p1 ∧ p1 < 121) ∧ (Q (σ 283 p1) σ))) ∧ ((σ 283 p1) = 0 → (Ct mX0_joiningsOf d 0 t [rv 275, iv p1] σ (fun r4 σ4 => (∀ σ5 : jM, σ5 = up σ4 275 6 r4 → (Ct mX0_put d 9 t [rv 275, iv 0, iv 1] σ5 (fun r6 σ6 => ((inR (σ6 275 6)) ∧ ((2 ≤ (σ6 275 6) → (Ct mX0_tally d 1 t [rv 275, iv 0, iv p1] σ6 (fun r8 σ8 => (((0 : Int) ≤ p1 ∧ p1 < 121) ∧ (∀ σ10 : jM, σ10 = up σ8 283 p1 r8 → (((0 : Int) ≤ p1 ∧ p1 < 121) ∧ (Q (σ10 283 p1) σ10))))))) ∧ ((σ6 275 6) < 2 → (((0 : Int) ≤ p1 ∧ p1 < 121) ∧ (∀ σ12 : jM, σ12 = up σ6 283 p1 1 → (((0 : Int) ≤ p1 ∧ p1 < 121) ∧ (Q (σ12 283 p1) σ12))))))))))))))))) ∧ (120 < p1 → (Q (-1) σ))))))) : Ct mX0_waysOf (d + 1) 1 t [rv 275, iv p1] σ Q := Ct_of (by decide +kernel) (Nat.le_of_ble_eq_true rfl) (b_X0_waysOf_0 h)
set_option maxRecDepth 4000 in
theorem b_X0_tally_44 {d : Nat} {t : Int} {Q : Int → jM → Prop} {σ : jM} {p1 p2 v3 v4 v6 v7 : Int} (h : (inR v7) ∧ ((inR p2) ∧ ((p2 ≤ v7 → (Q v4 σ)) ∧ (v7 < p2 → (Ct mX0_sumFrom d 0 t [rv 275, iv p1, iv v7] σ (fun r3 σ3 => ((inR v7) ∧ ((inR r3) ∧ ((inR (max v7 r3)) ∧ ((inR p2) ∧ ((p2 ≤ (max v7 r3) → (Jt mX0_tally (d + 1) 1 t Q 44 [rv 275, iv p1, iv p2, iv v3, jv v4, uv, iv v6, iv ((max v7 r3) + 1)] [] σ3)) ∧ ((max v7 r3) < p2 → (Ct mX0_put d 9 t [rv 275, iv (p1 + 1), iv (max v7 r3)] σ3 (fun r8 σ8 => (Ct mX0_tally d 1 t [rv 275, iv (p1 + 1), iv p2] σ8 (fun r9 σ9 => (Jt mX0_tally (d + 1) 1 t Q 44 [rv 275, iv p1, iv p2, iv v3, jv (v4 + r9), uv, iv v6, iv ((max v7 r3) + 1)] [] σ9))))))))))))))))) : Jt mX0_tally (d + 1) 1 t Q 44 [rv 275, iv p1, iv p2, iv v3, jv v4, uv, iv v6, iv v7] [] σ := by
  refine j_iload (i := 7) rfl (show decode cX0_tally 44 = .ok (.iload 7, 2) by decide +kernel) ?_
  refine j_iload_n (i := 2) rfl (show decode cX0_tally 46 = .ok (.iload_n 2, 1) by decide +kernel) ?_
  have hr0 := h.1
  have h := h.2
  have hr1 := h.1
  have h := h.2
  refine j_icmp_ge (tgt := 98) hr0 hr1 (show decode cX0_tally 47 = .ok (.if_icmp .ge 51, 3) by decide +kernel) (by decide) (fun c => ?_) (fun c => ?_)
  · have h := h.1 c
    refine j_lload (i := 4) rfl (show decode cX0_tally 98 = .ok (.lload 4, 2) by decide +kernel) ?_
    exact j_ret (rokL (show decode cX0_tally 100 = .ok (.lreturn, 1) by decide +kernel) rfl) ⟨rfl, rfl, h⟩
  · have h := h.2 c
    refine j_iload (i := 7) rfl (show decode cX0_tally 50 = .ok (.iload 7, 2) by decide +kernel) ?_
    refine s_aload_n (i := 0) rfl (show decode cX0_tally 52 = .ok (.aload_n 0, 1) by decide +kernel) ?_
    refine j_iload_n (i := 1) rfl (show decode cX0_tally 53 = .ok (.iload_n 1, 1) by decide +kernel) ?_
    refine j_iload (i := 7) rfl (show decode cX0_tally 54 = .ok (.iload 7, 2) by decide +kernel) ?_
    refine j_ctV (m' := mX0_sumFrom) (As := [iv p1, iv v7]) (ci := 0) (tag := 0) (N := 0) (cw_X0_93 rfl) (show decode cX0_tally 56 = .ok (.invokevirtual 93, 3) by decide +kernel) rfl (Nat.le_of_ble_eq_true rfl) (by decide) okl_275 rfl rfl (Nat.le_refl _) h (fun r3 σ3 h => ?_)
    have hr3 := h.1
    have h := h.2
    have hr4 := h.1
    have h := h.2
    refine j_max (tt_in 886 (by decide +kernel) rfl) (by omega) (Nat.le_of_ble_eq_true rfl) hr3 hr4 (show decode cX0_tally 59 = .ok (.invokestatic 90, 3) by decide +kernel) ?_
    refine s_ist (i := 7) (L' := [rv 275, iv p1, iv p2, iv v3, jv v4, uv, iv v6, iv (max v7 r3)]) rfl (by decide) (show decode cX0_tally 62 = .ok (.istore 7, 2) by decide +kernel) ?_
    refine j_iload (i := 7) rfl (show decode cX0_tally 64 = .ok (.iload 7, 2) by decide +kernel) ?_
    refine j_iload_n (i := 2) rfl (show decode cX0_tally 66 = .ok (.iload_n 2, 1) by decide +kernel) ?_
    have hr5 := h.1
    have h := h.2
    have hr6 := h.1
    have h := h.2
    refine j_icmp_ge (tgt := 92) hr5 hr6 (show decode cX0_tally 67 = .ok (.if_icmp .ge 25, 3) by decide +kernel) (by decide) (fun c => ?_) (fun c => ?_)
    · have h := h.1 c
      refine s_iinc (i := 7) rfl (L' := [rv 275, iv p1, iv p2, iv v3, jv v4, uv, iv v6, iv ((max v7 r3) + 1)]) rfl (show decode cX0_tally 92 = .ok (.iinc 7 1, 3) by decide +kernel) ?_
      refine j_goto (tgt := 44) (show decode cX0_tally 95 = .ok (.goto (-51), 3) by decide +kernel) (by decide) ?_
      exact h
    · have h := h.2 c
      refine s_aload_n (i := 0) rfl (show decode cX0_tally 70 = .ok (.aload_n 0, 1) by decide +kernel) ?_
      refine j_iload_n (i := 1) rfl (show decode cX0_tally 71 = .ok (.iload_n 1, 1) by decide +kernel) ?_
      refine j_iconst (show decode cX0_tally 72 = .ok (.iconst 1, 1) by decide +kernel) ?_
      refine j_iadd (show decode cX0_tally 73 = .ok (.iadd, 1) by decide +kernel) ?_
      refine j_iload (i := 7) rfl (show decode cX0_tally 74 = .ok (.iload 7, 2) by decide +kernel) ?_
      refine j_ctVv (m' := mX0_put) (As := [iv (p1 + 1), iv (max v7 r3)]) (ci := 0) (N := 0) (cw_X0_79 rfl) (show decode cX0_tally 76 = .ok (.invokevirtual 79, 3) by decide +kernel) rfl (Nat.le_of_ble_eq_true rfl) okl_275 rfl rfl (Nat.le_refl _) h (fun r8 σ8 h => ?_)
      refine j_lload (i := 4) rfl (show decode cX0_tally 79 = .ok (.lload 4, 2) by decide +kernel) ?_
      refine s_aload_n (i := 0) rfl (show decode cX0_tally 81 = .ok (.aload_n 0, 1) by decide +kernel) ?_
      refine j_iload_n (i := 1) rfl (show decode cX0_tally 82 = .ok (.iload_n 1, 1) by decide +kernel) ?_
      refine j_iconst (show decode cX0_tally 83 = .ok (.iconst 1, 1) by decide +kernel) ?_
      refine j_iadd (show decode cX0_tally 84 = .ok (.iadd, 1) by decide +kernel) ?_
      refine j_iload_n (i := 2) rfl (show decode cX0_tally 85 = .ok (.iload_n 2, 1) by decide +kernel) ?_
      refine j_ctV (m' := mX0_tally) (As := [iv (p1 + 1), iv p2]) (ci := 0) (tag := 1) (N := 0) (cw_X0_111 rfl) (show decode cX0_tally 86 = .ok (.invokevirtual 111, 3) by decide +kernel) rfl (Nat.le_of_ble_eq_true rfl) (by decide) okl_275 rfl rfl (Nat.le_refl _) h (fun r9 σ9 h => ?_)
      refine j_ladd (show decode cX0_tally 89 = .ok (.ladd, 1) by decide +kernel) ?_
      refine s_lst (i := 4) (L' := [rv 275, iv p1, iv p2, iv v3, jv (v4 + r9), uv, iv v6, iv (max v7 r3)]) rfl (by decide) (show decode cX0_tally 90 = .ok (.lstore 4, 2) by decide +kernel) ?_
      refine s_iinc (i := 7) rfl (L' := [rv 275, iv p1, iv p2, iv v3, jv (v4 + r9), uv, iv v6, iv ((max v7 r3) + 1)]) rfl (show decode cX0_tally 92 = .ok (.iinc 7 1, 3) by decide +kernel) ?_
      refine j_goto (tgt := 44) (show decode cX0_tally 95 = .ok (.goto (-51), 3) by decide +kernel) (by decide) ?_
      exact h
set_option maxRecDepth 4000 in
theorem b_X0_tally_0 {d : Nat} {t : Int} {Q : Int → jM → Prop} {σ : jM} {p1 p2 : Int} (h : (inR ((σ 275 6) - p1)) ∧ ((2 < ((σ 275 6) - p1) → (((0 : Int) ≤ p1 ∧ p1 < 24) ∧ (Ct mX0_leastNext d 0 t [iv p2, iv ((σ 275 6) - p1)] σ (fun r2 σ2 => ((inR ((σ 276 p1) + 1)) ∧ ((inR r2) ∧ (Jt mX0_tally (d + 1) 1 t Q 44 [rv 275, iv p1, iv p2, iv ((σ 275 6) - p1), jv 0, uv, iv (max ((σ 276 p1) + 1) r2), iv (max ((σ 276 p1) + 1) r2)] [] σ2))))))) ∧ (((σ 275 6) - p1) ≤ 2 → (Ct mX0_endings d 1 t [rv 275, iv p1, iv p2] σ (fun r5 σ5 => (Q r5 σ5)))))) : Jt mX0_tally (d + 1) 1 t Q 0 [rv 275, iv p1, iv p2, uv, uv, uv, uv, uv] [] σ := by
  refine s_aload_n (i := 0) rfl (show decode cX0_tally 0 = .ok (.aload_n 0, 1) by decide +kernel) ?_
  refine gf_X0_54 rfl (show decode cX0_tally 1 = .ok (.getfield 54, 3) by decide +kernel) okl_275 ?_
  refine j_iload_n (i := 1) rfl (show decode cX0_tally 4 = .ok (.iload_n 1, 1) by decide +kernel) ?_
  refine j_isub (show decode cX0_tally 5 = .ok (.isub, 1) by decide +kernel) ?_
  refine s_ist_n (i := 3) (L' := [rv 275, iv p1, iv p2, iv ((σ 275 6) - p1), uv, uv, uv, uv]) rfl (by decide) (show decode cX0_tally 6 = .ok (.istore_n 3, 1) by decide +kernel) ?_
  refine j_iload_n (i := 3) rfl (show decode cX0_tally 7 = .ok (.iload_n 3, 1) by decide +kernel) ?_
  refine j_iconst (show decode cX0_tally 8 = .ok (.iconst 2, 1) by decide +kernel) ?_
  have hr0 := h.1
  have h := h.2
  refine j_icmp_gt (tgt := 19) hr0 (inl (by decide)) (show decode cX0_tally 9 = .ok (.if_icmp .gt 10, 3) by decide +kernel) (by decide) (fun c => ?_) (fun c => ?_)
  · have h := h.1 c
    refine j_lconst (x := 0) (by decide +kernel) (show decode cX0_tally 19 = .ok (.lconst 0, 1) by decide +kernel) ?_
    refine s_lst (i := 4) (L' := [rv 275, iv p1, iv p2, iv ((σ 275 6) - p1), jv 0, uv, uv, uv]) rfl (by decide) (show decode cX0_tally 20 = .ok (.lstore 4, 2) by decide +kernel) ?_
    refine s_aload_n (i := 0) rfl (show decode cX0_tally 22 = .ok (.aload_n 0, 1) by decide +kernel) ?_
    refine gf_X0_11 (x := 276) rfl (show decode cX0_tally 23 = .ok (.getfield 11, 3) by decide +kernel) okl_275 rfl ?_
    refine j_iload_n (i := 1) rfl (show decode cX0_tally 26 = .ok (.iload_n 1, 1) by decide +kernel) ?_
    refine s_iald (show decode cX0_tally 27 = .ok (.iaload, 1) by decide +kernel) okl_276 h.1 ?_
    have h := h.2
    refine j_iconst (show decode cX0_tally 28 = .ok (.iconst 1, 1) by decide +kernel) ?_
    refine j_iadd (show decode cX0_tally 29 = .ok (.iadd, 1) by decide +kernel) ?_
    refine j_iload_n (i := 2) rfl (show decode cX0_tally 30 = .ok (.iload_n 2, 1) by decide +kernel) ?_
    refine j_iload_n (i := 3) rfl (show decode cX0_tally 31 = .ok (.iload_n 3, 1) by decide +kernel) ?_
    refine j_ctS (m' := mX0_leastNext) (As := [iv p2, iv ((σ 275 6) - p1)]) (tag := 0) (cw_X0_87 rfl) (show decode cX0_tally 32 = .ok (.invokestatic 87, 3) by decide +kernel) rfl (Nat.le_of_ble_eq_true rfl) (by decide) (Nat.le_refl _) h (fun r2 σ2 h => ?_)
    have hr2 := h.1
    have h := h.2
    have hr3 := h.1
    have h := h.2
    refine j_max (tt_in 886 (by decide +kernel) rfl) (by omega) (Nat.le_of_ble_eq_true rfl) hr2 hr3 (show decode cX0_tally 35 = .ok (.invokestatic 90, 3) by decide +kernel) ?_
    refine s_ist (i := 6) (L' := [rv 275, iv p1, iv p2, iv ((σ 275 6) - p1), jv 0, uv, iv (max ((σ 276 p1) + 1) r2), uv]) rfl (by decide) (show decode cX0_tally 38 = .ok (.istore 6, 2) by decide +kernel) ?_
    refine j_iload (i := 6) rfl (show decode cX0_tally 40 = .ok (.iload 6, 2) by decide +kernel) ?_
    refine s_ist (i := 7) (L' := [rv 275, iv p1, iv p2, iv ((σ 275 6) - p1), jv 0, uv, iv (max ((σ 276 p1) + 1) r2), iv (max ((σ 276 p1) + 1) r2)]) rfl (by decide) (show decode cX0_tally 42 = .ok (.istore 7, 2) by decide +kernel) ?_
    exact h
  · have h := h.2 c
    refine s_aload_n (i := 0) rfl (show decode cX0_tally 12 = .ok (.aload_n 0, 1) by decide +kernel) ?_
    refine j_iload_n (i := 1) rfl (show decode cX0_tally 13 = .ok (.iload_n 1, 1) by decide +kernel) ?_
    refine j_iload_n (i := 2) rfl (show decode cX0_tally 14 = .ok (.iload_n 2, 1) by decide +kernel) ?_
    refine j_ctV (m' := mX0_endings) (As := [iv p1, iv p2]) (ci := 0) (tag := 1) (N := 0) (cw_X0_115 rfl) (show decode cX0_tally 15 = .ok (.invokevirtual 115, 3) by decide +kernel) rfl (Nat.le_of_ble_eq_true rfl) (by decide) okl_275 rfl rfl (Nat.le_refl _) h (fun r5 σ5 h => ?_)
    exact j_ret (rokL (show decode cX0_tally 18 = .ok (.lreturn, 1) by decide +kernel) rfl) ⟨rfl, rfl, h⟩
theorem c_X0_tally {d : Nat} {t : Int} {Q : Int → jM → Prop} {σ : jM} {p1 p2 : Int} (h : (inR ((σ 275 6) - p1)) ∧ ((2 < ((σ 275 6) - p1) → (((0 : Int) ≤ p1 ∧ p1 < 24) ∧ (Ct mX0_leastNext d 0 t [iv p2, iv ((σ 275 6) - p1)] σ (fun r2 σ2 => ((inR ((σ 276 p1) + 1)) ∧ ((inR r2) ∧ (Jt mX0_tally (d + 1) 1 t Q 44 [rv 275, iv p1, iv p2, iv ((σ 275 6) - p1), jv 0, uv, iv (max ((σ 276 p1) + 1) r2), iv (max ((σ 276 p1) + 1) r2)] [] σ2))))))) ∧ (((σ 275 6) - p1) ≤ 2 → (Ct mX0_endings d 1 t [rv 275, iv p1, iv p2] σ (fun r5 σ5 => (Q r5 σ5)))))) : Ct mX0_tally (d + 1) 1 t [rv 275, iv p1, iv p2] σ Q := Ct_of (by decide +kernel) (Nat.le_of_ble_eq_true rfl) (b_X0_tally_0 h)
set_option maxRecDepth 4000 in
theorem b_X0_endings_38 {d : Nat} {t : Int} {Q : Int → jM → Prop} {σ : jM} {p1 p2 v3 v5 : Int} (h : (inR v5) ∧ ((inR p1) ∧ ((p1 < v5 → (Q v3 σ)) ∧ (v5 ≤ p1 → (((0 : Int) ≤ v5 ∧ v5 < 24) ∧ (((0 : Int) ≤ p1 ∧ p1 < 24) ∧ ((inR (p2 - (σ 276 v5))) ∧ ((inR (σ 276 p1)) ∧ (((p2 - (σ 276 v5)) ≤ (σ 276 p1) → (Jt mX0_endings (d + 1) 1 t Q 38 [rv 275, iv p1, iv p2, jv v3, uv, iv (v5 + 1)] [] σ)) ∧ ((σ 276 p1) < (p2 - (σ 276 v5)) → (((0 : Int) ≤ v5 ∧ v5 < 24) ∧ (Ct mX0_isSum d 0 t [rv 275, iv p1, iv (p2 - (σ 276 v5))] σ (fun r5 σ5 => ((inR r5) ∧ ((r5 = 0 → (Jt mX0_endings (d + 1) 1 t Q 38 [rv 275, iv p1, iv p2, jv v3, uv, iv (v5 + 1)] [] σ5)) ∧ (¬ r5 = 0 → (Jt mX0_endings (d + 1) 1 t Q 38 [rv 275, iv p1, iv p2, jv (v3 + 1), uv, iv (v5 + 1)] [] σ5))))))))))))))))) : Jt mX0_endings (d + 1) 1 t Q 38 [rv 275, iv p1, iv p2, jv v3, uv, iv v5] [] σ := by
  refine j_iload (i := 5) rfl (show decode cX0_endings 38 = .ok (.iload 5, 2) by decide +kernel) ?_
  refine j_iload_n (i := 1) rfl (show decode cX0_endings 40 = .ok (.iload_n 1, 1) by decide +kernel) ?_
  have hr0 := h.1
  have h := h.2
  have hr1 := h.1
  have h := h.2
  refine j_icmp_gt (tgt := 89) hr0 hr1 (show decode cX0_endings 41 = .ok (.if_icmp .gt 48, 3) by decide +kernel) (by decide) (fun c => ?_) (fun c => ?_)
  · have h := h.1 c
    refine j_lload_n (i := 3) rfl (show decode cX0_endings 89 = .ok (.lload_n 3, 1) by decide +kernel) ?_
    exact j_ret (rokL (show decode cX0_endings 90 = .ok (.lreturn, 1) by decide +kernel) rfl) ⟨rfl, rfl, h⟩
  · have h := h.2 c
    refine j_iload_n (i := 2) rfl (show decode cX0_endings 44 = .ok (.iload_n 2, 1) by decide +kernel) ?_
    refine s_aload_n (i := 0) rfl (show decode cX0_endings 45 = .ok (.aload_n 0, 1) by decide +kernel) ?_
    refine gf_X0_11 (x := 276) rfl (show decode cX0_endings 46 = .ok (.getfield 11, 3) by decide +kernel) okl_275 rfl ?_
    refine j_iload (i := 5) rfl (show decode cX0_endings 49 = .ok (.iload 5, 2) by decide +kernel) ?_
    refine s_iald (show decode cX0_endings 51 = .ok (.iaload, 1) by decide +kernel) okl_276 h.1 ?_
    have h := h.2
    refine j_isub (show decode cX0_endings 52 = .ok (.isub, 1) by decide +kernel) ?_
    refine s_aload_n (i := 0) rfl (show decode cX0_endings 53 = .ok (.aload_n 0, 1) by decide +kernel) ?_
    refine gf_X0_11 (x := 276) rfl (show decode cX0_endings 54 = .ok (.getfield 11, 3) by decide +kernel) okl_275 rfl ?_
    refine j_iload_n (i := 1) rfl (show decode cX0_endings 57 = .ok (.iload_n 1, 1) by decide +kernel) ?_
    refine s_iald (show decode cX0_endings 58 = .ok (.iaload, 1) by decide +kernel) okl_276 h.1 ?_
    have h := h.2
    have hr2 := h.1
    have h := h.2
    have hr3 := h.1
    have h := h.2
    refine j_icmp_le (tgt := 83) hr2 hr3 (show decode cX0_endings 59 = .ok (.if_icmp .le 24, 3) by decide +kernel) (by decide) (fun c => ?_) (fun c => ?_)
    · have h := h.1 c
      refine s_iinc (i := 5) rfl (L' := [rv 275, iv p1, iv p2, jv v3, uv, iv (v5 + 1)]) rfl (show decode cX0_endings 83 = .ok (.iinc 5 1, 3) by decide +kernel) ?_
      refine j_goto (tgt := 38) (show decode cX0_endings 86 = .ok (.goto (-48), 3) by decide +kernel) (by decide) ?_
      exact h
    · have h := h.2 c
      refine s_aload_n (i := 0) rfl (show decode cX0_endings 62 = .ok (.aload_n 0, 1) by decide +kernel) ?_
      refine j_iload_n (i := 1) rfl (show decode cX0_endings 63 = .ok (.iload_n 1, 1) by decide +kernel) ?_
      refine j_iload_n (i := 2) rfl (show decode cX0_endings 64 = .ok (.iload_n 2, 1) by decide +kernel) ?_
      refine s_aload_n (i := 0) rfl (show decode cX0_endings 65 = .ok (.aload_n 0, 1) by decide +kernel) ?_
      refine gf_X0_11 (x := 276) rfl (show decode cX0_endings 66 = .ok (.getfield 11, 3) by decide +kernel) okl_275 rfl ?_
      refine j_iload (i := 5) rfl (show decode cX0_endings 69 = .ok (.iload 5, 2) by decide +kernel) ?_
      refine s_iald (show decode cX0_endings 71 = .ok (.iaload, 1) by decide +kernel) okl_276 h.1 ?_
      have h := h.2
      refine j_isub (show decode cX0_endings 72 = .ok (.isub, 1) by decide +kernel) ?_
      refine j_ctV (m' := mX0_isSum) (As := [iv p1, iv (p2 - (σ 276 v5))]) (ci := 0) (tag := 0) (N := 0) (cw_X0_118 rfl) (show decode cX0_endings 73 = .ok (.invokevirtual 118, 3) by decide +kernel) rfl (Nat.le_of_ble_eq_true rfl) (by decide) okl_275 rfl rfl (Nat.le_refl _) h (fun r5 σ5 h => ?_)
      have hr5 := h.1
      have h := h.2
      refine j_if_eq (tgt := 83) hr5 (show decode cX0_endings 76 = .ok (.ifCond .eq 7, 3) by decide +kernel) (by decide) (fun c => ?_) (fun c => ?_)
      · have h := h.1 c
        refine s_iinc (i := 5) rfl (L' := [rv 275, iv p1, iv p2, jv v3, uv, iv (v5 + 1)]) rfl (show decode cX0_endings 83 = .ok (.iinc 5 1, 3) by decide +kernel) ?_
        refine j_goto (tgt := 38) (show decode cX0_endings 86 = .ok (.goto (-48), 3) by decide +kernel) (by decide) ?_
        exact h
      · have h := h.2 c
        refine j_lload_n (i := 3) rfl (show decode cX0_endings 79 = .ok (.lload_n 3, 1) by decide +kernel) ?_
        refine j_lconst (x := 1) (by decide +kernel) (show decode cX0_endings 80 = .ok (.lconst 1, 1) by decide +kernel) ?_
        refine j_ladd (show decode cX0_endings 81 = .ok (.ladd, 1) by decide +kernel) ?_
        refine s_lst_n (i := 3) (L' := [rv 275, iv p1, iv p2, jv (v3 + 1), uv, iv v5]) rfl (by decide) (show decode cX0_endings 82 = .ok (.lstore_n 3, 1) by decide +kernel) ?_
        refine s_iinc (i := 5) rfl (L' := [rv 275, iv p1, iv p2, jv (v3 + 1), uv, iv (v5 + 1)]) rfl (show decode cX0_endings 83 = .ok (.iinc 5 1, 3) by decide +kernel) ?_
        refine j_goto (tgt := 38) (show decode cX0_endings 86 = .ok (.goto (-48), 3) by decide +kernel) (by decide) ?_
        exact h
set_option maxRecDepth 4000 in
theorem b_X0_endings_0 {d : Nat} {t : Int} {Q : Int → jM → Prop} {σ : jM} {p1 p2 : Int} (h : (inR p2) ∧ ((inR (Int.tmod p2 2)) ∧ ((¬ (Int.tmod p2 2) = 0 → (Jt mX0_endings (d + 1) 1 t Q 38 [rv 275, iv p1, iv p2, jv 0, uv, iv 0] [] σ)) ∧ ((Int.tmod p2 2) = 0 → ((inR p2) ∧ (((0 : Int) ≤ p1 ∧ p1 < 24) ∧ ((inR (Int.tdiv p2 2)) ∧ ((inR (σ 276 p1)) ∧ (((Int.tdiv p2 2) ≤ (σ 276 p1) → (Jt mX0_endings (d + 1) 1 t Q 38 [rv 275, iv p1, iv p2, jv 0, uv, iv 0] [] σ)) ∧ ((σ 276 p1) < (Int.tdiv p2 2) → ((inR p2) ∧ (Ct mX0_isSum d 0 t [rv 275, iv p1, iv (Int.tdiv p2 2)] σ (fun r7 σ7 => ((inR r7) ∧ ((r7 = 0 → (Jt mX0_endings (d + 1) 1 t Q 38 [rv 275, iv p1, iv p2, jv 0, uv, iv 0] [] σ7)) ∧ (¬ r7 = 0 → (Jt mX0_endings (d + 1) 1 t Q 38 [rv 275, iv p1, iv p2, jv 1, uv, iv 0] [] σ7))))))))))))))))) : Jt mX0_endings (d + 1) 1 t Q 0 [rv 275, iv p1, iv p2, uv, uv, uv] [] σ := by
  refine j_iload_n (i := 2) rfl (show decode cX0_endings 0 = .ok (.iload_n 2, 1) by decide +kernel) ?_
  refine j_iconst (show decode cX0_endings 1 = .ok (.iconst 2, 1) by decide +kernel) ?_
  have hr0 := h.1
  have h := h.2
  refine j_irem hr0 (inl (by decide)) (by decide) (show decode cX0_endings 2 = .ok (.irem, 1) by decide +kernel) ?_
  have hr1 := h.1
  have h := h.2
  refine j_if_ne (tgt := 33) hr1 (show decode cX0_endings 3 = .ok (.ifCond .ne 30, 3) by decide +kernel) (by decide) (fun c => ?_) (fun c => ?_)
  · have h := h.1 c
    refine j_lconst (x := 0) (by decide +kernel) (show decode cX0_endings 33 = .ok (.lconst 0, 1) by decide +kernel) ?_
    refine s_lst_n (i := 3) (L' := [rv 275, iv p1, iv p2, jv 0, uv, uv]) rfl (by decide) (show decode cX0_endings 34 = .ok (.lstore_n 3, 1) by decide +kernel) ?_
    refine j_iconst (show decode cX0_endings 35 = .ok (.iconst 0, 1) by decide +kernel) ?_
    refine s_ist (i := 5) (L' := [rv 275, iv p1, iv p2, jv 0, uv, iv 0]) rfl (by decide) (show decode cX0_endings 36 = .ok (.istore 5, 2) by decide +kernel) ?_
    exact h
  · have h := h.2 c
    refine j_iload_n (i := 2) rfl (show decode cX0_endings 6 = .ok (.iload_n 2, 1) by decide +kernel) ?_
    refine j_iconst (show decode cX0_endings 7 = .ok (.iconst 2, 1) by decide +kernel) ?_
    have hr2 := h.1
    have h := h.2
    refine j_idiv hr2 (inl (by decide)) (by decide) (show decode cX0_endings 8 = .ok (.idiv, 1) by decide +kernel) ?_
    refine s_aload_n (i := 0) rfl (show decode cX0_endings 9 = .ok (.aload_n 0, 1) by decide +kernel) ?_
    refine gf_X0_11 (x := 276) rfl (show decode cX0_endings 10 = .ok (.getfield 11, 3) by decide +kernel) okl_275 rfl ?_
    refine j_iload_n (i := 1) rfl (show decode cX0_endings 13 = .ok (.iload_n 1, 1) by decide +kernel) ?_
    refine s_iald (show decode cX0_endings 14 = .ok (.iaload, 1) by decide +kernel) okl_276 h.1 ?_
    have h := h.2
    have hr3 := h.1
    have h := h.2
    have hr4 := h.1
    have h := h.2
    refine j_icmp_le (tgt := 33) hr3 hr4 (show decode cX0_endings 15 = .ok (.if_icmp .le 18, 3) by decide +kernel) (by decide) (fun c => ?_) (fun c => ?_)
    · have h := h.1 c
      refine j_lconst (x := 0) (by decide +kernel) (show decode cX0_endings 33 = .ok (.lconst 0, 1) by decide +kernel) ?_
      refine s_lst_n (i := 3) (L' := [rv 275, iv p1, iv p2, jv 0, uv, uv]) rfl (by decide) (show decode cX0_endings 34 = .ok (.lstore_n 3, 1) by decide +kernel) ?_
      refine j_iconst (show decode cX0_endings 35 = .ok (.iconst 0, 1) by decide +kernel) ?_
      refine s_ist (i := 5) (L' := [rv 275, iv p1, iv p2, jv 0, uv, iv 0]) rfl (by decide) (show decode cX0_endings 36 = .ok (.istore 5, 2) by decide +kernel) ?_
      exact h
    · have h := h.2 c
      refine s_aload_n (i := 0) rfl (show decode cX0_endings 18 = .ok (.aload_n 0, 1) by decide +kernel) ?_
      refine j_iload_n (i := 1) rfl (show decode cX0_endings 19 = .ok (.iload_n 1, 1) by decide +kernel) ?_
      refine j_iload_n (i := 2) rfl (show decode cX0_endings 20 = .ok (.iload_n 2, 1) by decide +kernel) ?_
      refine j_iconst (show decode cX0_endings 21 = .ok (.iconst 2, 1) by decide +kernel) ?_
      have hr5 := h.1
      have h := h.2
      refine j_idiv hr5 (inl (by decide)) (by decide) (show decode cX0_endings 22 = .ok (.idiv, 1) by decide +kernel) ?_
      refine j_ctV (m' := mX0_isSum) (As := [iv p1, iv (Int.tdiv p2 2)]) (ci := 0) (tag := 0) (N := 0) (cw_X0_118 rfl) (show decode cX0_endings 23 = .ok (.invokevirtual 118, 3) by decide +kernel) rfl (Nat.le_of_ble_eq_true rfl) (by decide) okl_275 rfl rfl (Nat.le_refl _) h (fun r7 σ7 h => ?_)
      have hr7 := h.1
      have h := h.2
      refine j_if_eq (tgt := 33) hr7 (show decode cX0_endings 26 = .ok (.ifCond .eq 7, 3) by decide +kernel) (by decide) (fun c => ?_) (fun c => ?_)
      · have h := h.1 c
        refine j_lconst (x := 0) (by decide +kernel) (show decode cX0_endings 33 = .ok (.lconst 0, 1) by decide +kernel) ?_
        refine s_lst_n (i := 3) (L' := [rv 275, iv p1, iv p2, jv 0, uv, uv]) rfl (by decide) (show decode cX0_endings 34 = .ok (.lstore_n 3, 1) by decide +kernel) ?_
        refine j_iconst (show decode cX0_endings 35 = .ok (.iconst 0, 1) by decide +kernel) ?_
        refine s_ist (i := 5) (L' := [rv 275, iv p1, iv p2, jv 0, uv, iv 0]) rfl (by decide) (show decode cX0_endings 36 = .ok (.istore 5, 2) by decide +kernel) ?_
        exact h
      · have h := h.2 c
        refine j_lconst (x := 1) (by decide +kernel) (show decode cX0_endings 29 = .ok (.lconst 1, 1) by decide +kernel) ?_
        refine j_goto (tgt := 34) (show decode cX0_endings 30 = .ok (.goto 4, 3) by decide +kernel) (by decide) ?_
        refine s_lst_n (i := 3) (L' := [rv 275, iv p1, iv p2, jv 1, uv, uv]) rfl (by decide) (show decode cX0_endings 34 = .ok (.lstore_n 3, 1) by decide +kernel) ?_
        refine j_iconst (show decode cX0_endings 35 = .ok (.iconst 0, 1) by decide +kernel) ?_
        refine s_ist (i := 5) (L' := [rv 275, iv p1, iv p2, jv 1, uv, iv 0]) rfl (by decide) (show decode cX0_endings 36 = .ok (.istore 5, 2) by decide +kernel) ?_
        exact h
theorem c_X0_endings {d : Nat} {t : Int} {Q : Int → jM → Prop} {σ : jM} {p1 p2 : Int} (h : (inR p2) ∧ ((inR (Int.tmod p2 2)) ∧ ((¬ (Int.tmod p2 2) = 0 → (Jt mX0_endings (d + 1) 1 t Q 38 [rv 275, iv p1, iv p2, jv 0, uv, iv 0] [] σ)) ∧ ((Int.tmod p2 2) = 0 → ((inR p2) ∧ (((0 : Int) ≤ p1 ∧ p1 < 24) ∧ ((inR (Int.tdiv p2 2)) ∧ ((inR (σ 276 p1)) ∧ (((Int.tdiv p2 2) ≤ (σ 276 p1) → (Jt mX0_endings (d + 1) 1 t Q 38 [rv 275, iv p1, iv p2, jv 0, uv, iv 0] [] σ)) ∧ ((σ 276 p1) < (Int.tdiv p2 2) → ((inR p2) ∧ (Ct mX0_isSum d 0 t [rv 275, iv p1, iv (Int.tdiv p2 2)] σ (fun r7 σ7 => ((inR r7) ∧ ((r7 = 0 → (Jt mX0_endings (d + 1) 1 t Q 38 [rv 275, iv p1, iv p2, jv 0, uv, iv 0] [] σ7)) ∧ (¬ r7 = 0 → (Jt mX0_endings (d + 1) 1 t Q 38 [rv 275, iv p1, iv p2, jv 1, uv, iv 0] [] σ7))))))))))))))))) : Ct mX0_endings (d + 1) 1 t [rv 275, iv p1, iv p2] σ Q := Ct_of (by decide +kernel) (Nat.le_of_ble_eq_true rfl) (b_X0_endings_0 h)
