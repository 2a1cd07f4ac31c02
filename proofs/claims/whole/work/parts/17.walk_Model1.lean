/-! ===== walks (printed by wip/whole/gen_blocks.py) ===== -/
set_option maxRecDepth 4000 in
theorem b_X12_copy_2 {d : Nat} {t : Int} {Q : Int → jM → Prop} {σ : jM} {p0 p1 v2 : Int} {n0 : Nat} (h0 : ar (GG t) p0 1 n0) {n1 : Nat} (h1 : ar (GG t) p1 1 n1) (h : (inR v2) ∧ ((2208 ≤ v2 → (Q 0 σ)) ∧ (v2 < 2208 → (((0 : Int) ≤ v2 ∧ v2 < (n0 : Int)) ∧ (((0 : Int) ≤ v2 ∧ v2 < (n1 : Int)) ∧ (∀ σ3 : jM, σ3 = up σ p1 v2 (σ p0 v2) → (Jt mX12_copy (d) 9 t Q 2 [rv p0, rv p1, iv (v2 + 1)] [] σ3))))))) : Jt mX12_copy (d) 9 t Q 2 [rv p0, rv p1, iv v2] [] σ := by
  refine j_iload_n (i := 2) rfl (show decode cX12_copy 2 = .ok (.iload_n 2, 1) by decide +kernel) ?_
  refine j_sipush (n := 2208) (by decide +kernel) (show decode cX12_copy 3 = .ok (.sipush 2208, 3) by decide +kernel) ?_
  have hr0 := h.1
  have h := h.2
  refine j_icmp_ge (tgt := 21) hr0 (inl (by decide)) (show decode cX12_copy 6 = .ok (.if_icmp .ge 15, 3) by decide +kernel) (by decide) (fun c => ?_) (fun c => ?_)
  · have h := h.1 c
    exact j_ret (rokV (show decode cX12_copy 21 = .ok (.return_, 1) by decide +kernel) rfl) ⟨rfl, rfl, h⟩
  · have h := h.2 c
    refine s_aload_n (i := 1) rfl (show decode cX12_copy 9 = .ok (.aload_n 1, 1) by decide +kernel) ?_
    refine j_iload_n (i := 2) rfl (show decode cX12_copy 10 = .ok (.iload_n 2, 1) by decide +kernel) ?_
    refine s_aload_n (i := 0) rfl (show decode cX12_copy 11 = .ok (.aload_n 0, 1) by decide +kernel) ?_
    refine j_iload_n (i := 2) rfl (show decode cX12_copy 12 = .ok (.iload_n 2, 1) by decide +kernel) ?_
    refine s_iald (show decode cX12_copy 13 = .ok (.iaload, 1) by decide +kernel) h0 h.1 ?_
    have h := h.2
    have hb1 := h.1
    have h := h.2
    refine s_iast (show decode cX12_copy 14 = .ok (.iastore, 1) by decide +kernel) h1 hb1 ?_
    obtain ⟨σ3, eσ3⟩ : ∃ z : jM, z = up σ p1 v2 (σ p0 v2) := ⟨_, rfl⟩
    refine j_sig eσ3 ?_
    have h := h σ3 eσ3
    refine s_iinc (i := 2) rfl (L' := [rv p0, rv p1, iv (v2 + 1)]) rfl (show decode cX12_copy 15 = .ok (.iinc 2 1, 3) by decide +kernel) ?_
    refine j_goto (tgt := 2) (show decode cX12_copy 18 = .ok (.goto (-16), 3) by decide +kernel) (by decide) ?_
    exact h
set_option maxRecDepth 4000 in
theorem b_X12_copy_0 {d : Nat} {t : Int} {Q : Int → jM → Prop} {σ : jM} {p0 p1 : Int} {n0 : Nat} (h0 : ar (GG t) p0 1 n0) {n1 : Nat} (h1 : ar (GG t) p1 1 n1) (h : Jt mX12_copy (d) 9 t Q 2 [rv p0, rv p1, iv 0] [] σ) : Jt mX12_copy (d) 9 t Q 0 [rv p0, rv p1, uv] [] σ := by
  refine j_iconst (show decode cX12_copy 0 = .ok (.iconst 0, 1) by decide +kernel) ?_
  refine s_ist_n (i := 2) (L' := [rv p0, rv p1, iv 0]) rfl (by decide) (show decode cX12_copy 1 = .ok (.istore_n 2, 1) by decide +kernel) ?_
  exact h
theorem c_X12_copy {d : Nat} {t : Int} {Q : Int → jM → Prop} {σ : jM} {p0 p1 : Int} {n0 : Nat} (h0 : ar (GG t) p0 1 n0) {n1 : Nat} (h1 : ar (GG t) p1 1 n1) (h : Jt mX12_copy (d) 9 t Q 2 [rv p0, rv p1, iv 0] [] σ) : Ct mX12_copy (d) 9 t [rv p0, rv p1] σ Q := Ct_of (by decide +kernel) (Nat.le_of_ble_eq_true rfl) (b_X12_copy_0 h0 h1 h)
set_option maxRecDepth 4000 in
theorem b_X12_isIn_0 {d : Nat} {t : Int} {Q : Int → jM → Prop} {σ : jM} {p0 p1 p2 : Int} (h : (inR p0) ∧ ((inR p1) ∧ ((p0 < p1 → (Q 0 σ)) ∧ (p1 ≤ p0 → ((inR p0) ∧ ((inR p2) ∧ ((p2 < p0 → (Q 0 σ)) ∧ (p0 ≤ p2 → (Q 1 σ))))))))) : Jt mX12_isIn (d) 0 t Q 0 [iv p0, iv p1, iv p2] [] σ := by
  refine j_iload_n (i := 0) rfl (show decode cX12_isIn 0 = .ok (.iload_n 0, 1) by decide +kernel) ?_
  refine j_iload_n (i := 1) rfl (show decode cX12_isIn 1 = .ok (.iload_n 1, 1) by decide +kernel) ?_
  have hr0 := h.1
  have h := h.2
  have hr1 := h.1
  have h := h.2
  refine j_icmp_lt (tgt := 14) hr0 hr1 (show decode cX12_isIn 2 = .ok (.if_icmp .lt 12, 3) by decide +kernel) (by decide) (fun c => ?_) (fun c => ?_)
  · have h := h.1 c
    refine j_iconst (show decode cX12_isIn 14 = .ok (.iconst 0, 1) by decide +kernel) ?_
    exact j_ret (rokZ (show decode cX12_isIn 15 = .ok (.ireturn, 1) by decide +kernel) rfl (Or.inl rfl)) ⟨rfl, rfl, h⟩
  · have h := h.2 c
    refine j_iload_n (i := 0) rfl (show decode cX12_isIn 5 = .ok (.iload_n 0, 1) by decide +kernel) ?_
    refine j_iload_n (i := 2) rfl (show decode cX12_isIn 6 = .ok (.iload_n 2, 1) by decide +kernel) ?_
    have hr2 := h.1
    have h := h.2
    have hr3 := h.1
    have h := h.2
    refine j_icmp_gt (tgt := 14) hr2 hr3 (show decode cX12_isIn 7 = .ok (.if_icmp .gt 7, 3) by decide +kernel) (by decide) (fun c => ?_) (fun c => ?_)
    · have h := h.1 c
      refine j_iconst (show decode cX12_isIn 14 = .ok (.iconst 0, 1) by decide +kernel) ?_
      exact j_ret (rokZ (show decode cX12_isIn 15 = .ok (.ireturn, 1) by decide +kernel) rfl (Or.inl rfl)) ⟨rfl, rfl, h⟩
    · have h := h.2 c
      refine j_iconst (show decode cX12_isIn 10 = .ok (.iconst 1, 1) by decide +kernel) ?_
      refine j_goto (tgt := 15) (show decode cX12_isIn 11 = .ok (.goto 4, 3) by decide +kernel) (by decide) ?_
      exact j_ret (rokZ (show decode cX12_isIn 15 = .ok (.ireturn, 1) by decide +kernel) rfl (Or.inr rfl)) ⟨rfl, rfl, h⟩
theorem c_X12_isIn {d : Nat} {t : Int} {Q : Int → jM → Prop} {σ : jM} {p0 p1 p2 : Int} (h : (inR p0) ∧ ((inR p1) ∧ ((p0 < p1 → (Q 0 σ)) ∧ (p1 ≤ p0 → ((inR p0) ∧ ((inR p2) ∧ ((p2 < p0 → (Q 0 σ)) ∧ (p0 ≤ p2 → (Q 1 σ))))))))) : Ct mX12_isIn (d) 0 t [iv p0, iv p1, iv p2] σ Q := Ct_of (by decide +kernel) (Nat.le_of_ble_eq_true rfl) (b_X12_isIn_0 h)
set_option maxRecDepth 4000 in
theorem b_X12_held_0 {d : Nat} {t : Int} {Q : Int → jM → Prop} {σ : jM} {p0 p2 p3 : Int} (h : (inR p2) ∧ ((inL p0) ∧ ((inL p2) ∧ ((p2 ≤ p0 → ((inR p3) ∧ ((inL p0) ∧ ((inL p3) ∧ ((p0 ≤ p3 → (Q p0 σ)) ∧ (p3 < p0 → (Q p3 σ))))))) ∧ (p0 < p2 → (Q p2 σ)))))) : Jt mX12_held (d) 0 t Q 0 [jv p0, uv, iv p2, iv p3] [] σ := by
  refine j_lload_n (i := 0) rfl (show decode cX12_held 0 = .ok (.lload_n 0, 1) by decide +kernel) ?_
  refine j_iload_n (i := 2) rfl (show decode cX12_held 1 = .ok (.iload_n 2, 1) by decide +kernel) ?_
  have hr0 := h.1
  have h := h.2
  refine j_i2l hr0 (show decode cX12_held 2 = .ok (.i2l, 1) by decide +kernel) ?_
  have hr1 := h.1
  have h := h.2
  have hr2 := h.1
  have h := h.2
  refine s_lif_ge (tgt := 11) hr1 hr2 (show decode cX12_held 3 = .ok (.lcmp, 1) by decide +kernel) (show decode cX12_held 4 = .ok (.ifCond .ge 7, 3) by decide +kernel) (by decide) (fun c => ?_) (fun c => ?_)
  · have h := h.1 c
    refine j_lload_n (i := 0) rfl (show decode cX12_held 11 = .ok (.lload_n 0, 1) by decide +kernel) ?_
    refine j_iload_n (i := 3) rfl (show decode cX12_held 12 = .ok (.iload_n 3, 1) by decide +kernel) ?_
    have hr3 := h.1
    have h := h.2
    refine j_i2l hr3 (show decode cX12_held 13 = .ok (.i2l, 1) by decide +kernel) ?_
    have hr4 := h.1
    have h := h.2
    have hr5 := h.1
    have h := h.2
    refine s_lif_le (tgt := 22) hr4 hr5 (show decode cX12_held 14 = .ok (.lcmp, 1) by decide +kernel) (show decode cX12_held 15 = .ok (.ifCond .le 7, 3) by decide +kernel) (by decide) (fun c => ?_) (fun c => ?_)
    · have h := h.1 c
      refine j_lload_n (i := 0) rfl (show decode cX12_held 22 = .ok (.lload_n 0, 1) by decide +kernel) ?_
      refine j_l2i (show decode cX12_held 23 = .ok (.l2i, 1) by decide +kernel) ?_
      exact j_ret (rokI (show decode cX12_held 24 = .ok (.ireturn, 1) by decide +kernel) rfl) ⟨rfl, rfl, h⟩
    · have h := h.2 c
      refine j_iload_n (i := 3) rfl (show decode cX12_held 18 = .ok (.iload_n 3, 1) by decide +kernel) ?_
      refine j_goto (tgt := 24) (show decode cX12_held 19 = .ok (.goto 5, 3) by decide +kernel) (by decide) ?_
      exact j_ret (rokI (show decode cX12_held 24 = .ok (.ireturn, 1) by decide +kernel) rfl) ⟨rfl, rfl, h⟩
  · have h := h.2 c
    refine j_iload_n (i := 2) rfl (show decode cX12_held 7 = .ok (.iload_n 2, 1) by decide +kernel) ?_
    refine j_goto (tgt := 24) (show decode cX12_held 8 = .ok (.goto 16, 3) by decide +kernel) (by decide) ?_
    exact j_ret (rokI (show decode cX12_held 24 = .ok (.ireturn, 1) by decide +kernel) rfl) ⟨rfl, rfl, h⟩
theorem c_X12_held {d : Nat} {t : Int} {Q : Int → jM → Prop} {σ : jM} {p0 p2 p3 : Int} (h : (inR p2) ∧ ((inL p0) ∧ ((inL p2) ∧ ((p2 ≤ p0 → ((inR p3) ∧ ((inL p0) ∧ ((inL p3) ∧ ((p0 ≤ p3 → (Q p0 σ)) ∧ (p3 < p0 → (Q p3 σ))))))) ∧ (p0 < p2 → (Q p2 σ)))))) : Ct mX12_held (d) 0 t [jv p0, iv p2, iv p3] σ Q := Ct_of (by decide +kernel) (Nat.le_of_ble_eq_true rfl) (b_X12_held_0 h)
set_option maxRecDepth 4000 in
theorem b_X12_has_0 {d : Nat} {t : Int} {Q : Int → jM → Prop} {σ : jM} {p0 p1 : Int} (h : (inR (i_and (i_shr p0 p1) 1)) ∧ ((¬ (i_and (i_shr p0 p1) 1) = 1 → (Q 0 σ)) ∧ ((i_and (i_shr p0 p1) 1) = 1 → (Q 1 σ)))) : Jt mX12_has (d) 0 t Q 0 [iv p0, iv p1] [] σ := by
  refine j_iload_n (i := 0) rfl (show decode cX12_has 0 = .ok (.iload_n 0, 1) by decide +kernel) ?_
  refine j_iload_n (i := 1) rfl (show decode cX12_has 1 = .ok (.iload_n 1, 1) by decide +kernel) ?_
  refine j_ishr (show decode cX12_has 2 = .ok (.ishr, 1) by decide +kernel) ?_
  refine j_iconst (show decode cX12_has 3 = .ok (.iconst 1, 1) by decide +kernel) ?_
  refine j_iand (show decode cX12_has 4 = .ok (.iand, 1) by decide +kernel) ?_
  refine j_iconst (show decode cX12_has 5 = .ok (.iconst 1, 1) by decide +kernel) ?_
  have hr0 := h.1
  have h := h.2
  refine j_icmp_ne (tgt := 13) hr0 (inl (by decide)) (show decode cX12_has 6 = .ok (.if_icmp .ne 7, 3) by decide +kernel) (by decide) (fun c => ?_) (fun c => ?_)
  · have h := h.1 c
    refine j_iconst (show decode cX12_has 13 = .ok (.iconst 0, 1) by decide +kernel) ?_
    exact j_ret (rokZ (show decode cX12_has 14 = .ok (.ireturn, 1) by decide +kernel) rfl (Or.inl rfl)) ⟨rfl, rfl, h⟩
  · have h := h.2 c
    refine j_iconst (show decode cX12_has 9 = .ok (.iconst 1, 1) by decide +kernel) ?_
    refine j_goto (tgt := 14) (show decode cX12_has 10 = .ok (.goto 4, 3) by decide +kernel) (by decide) ?_
    exact j_ret (rokZ (show decode cX12_has 14 = .ok (.ireturn, 1) by decide +kernel) rfl (Or.inr rfl)) ⟨rfl, rfl, h⟩
theorem c_X12_has {d : Nat} {t : Int} {Q : Int → jM → Prop} {σ : jM} {p0 p1 : Int} (h : (inR (i_and (i_shr p0 p1) 1)) ∧ ((¬ (i_and (i_shr p0 p1) 1) = 1 → (Q 0 σ)) ∧ ((i_and (i_shr p0 p1) 1) = 1 → (Q 1 σ)))) : Ct mX12_has (d) 0 t [iv p0, iv p1] σ Q := Ct_of (by decide +kernel) (Nat.le_of_ble_eq_true rfl) (b_X12_has_0 h)
set_option maxRecDepth 4000 in
theorem b_X12_isCrock_0 {d : Nat} {t : Int} {Q : Int → jM → Prop} {σ : jM} {p0 : Int} (h : Ct mX12_isIn d 0 t [iv p0, iv 0, iv 7] σ (fun r1 σ1 => ((r1 = 0 ∨ r1 = 1) ∧ (Q r1 σ1)))) : Jt mX12_isCrock (d + 1) 0 t Q 0 [iv p0] [] σ := by
  refine j_iload_n (i := 0) rfl (show decode cX12_isCrock 0 = .ok (.iload_n 0, 1) by decide +kernel) ?_
  refine j_iconst (show decode cX12_isCrock 1 = .ok (.iconst 0, 1) by decide +kernel) ?_
  refine j_bipush (n := 7) (by decide +kernel) (show decode cX12_isCrock 2 = .ok (.bipush 7, 2) by decide +kernel) ?_
  refine j_ctS (m' := mX12_isIn) (As := [iv p0, iv 0, iv 7]) (tag := 0) (cw_X12_85 rfl) (show decode cX12_isCrock 4 = .ok (.invokestatic 85, 3) by decide +kernel) rfl (Nat.le_of_ble_eq_true rfl) (by decide) (Nat.le_refl _) h (fun r1 σ1 h => ?_)
  have hz1 := h.1
  have h := h.2
  exact j_ret (rokZ (show decode cX12_isCrock 7 = .ok (.ireturn, 1) by decide +kernel) rfl hz1) ⟨rfl, rfl, h⟩
theorem c_X12_isCrock {d : Nat} {t : Int} {Q : Int → jM → Prop} {σ : jM} {p0 : Int} (h : Ct mX12_isIn d 0 t [iv p0, iv 0, iv 7] σ (fun r1 σ1 => ((r1 = 0 ∨ r1 = 1) ∧ (Q r1 σ1)))) : Ct mX12_isCrock (d + 1) 0 t [iv p0] σ Q := Ct_of (by decide +kernel) (Nat.le_of_ble_eq_true rfl) (b_X12_isCrock_0 h)
set_option maxRecDepth 4000 in
theorem b_X12_isFull_0 {d : Nat} {t : Int} {Q : Int → jM → Prop} {σ : jM} {p1 : Int} (h : Ct mX12_isCrock d 0 t [iv p1] σ (fun r1 σ1 => ((inR r1) ∧ ((r1 = 0 → (Q 0 σ1)) ∧ (¬ r1 = 0 → (((0 : Int) ≤ (10 + p1) ∧ (10 + p1) < 2208) ∧ ((inR (σ1 322 (10 + p1))) ∧ (((σ1 322 (10 + p1)) ≤ 0 → (Q 0 σ1)) ∧ (0 < (σ1 322 (10 + p1)) → (Q 1 σ1)))))))))) : Jt mX12_isFull (d + 1) 0 t Q 0 [rv 321, iv p1] [] σ := by
  refine j_iload_n (i := 1) rfl (show decode cX12_isFull 0 = .ok (.iload_n 1, 1) by decide +kernel) ?_
  refine j_ctS (m' := mX12_isCrock) (As := [iv p1]) (tag := 0) (cw_X12_89 rfl) (show decode cX12_isFull 1 = .ok (.invokestatic 89, 3) by decide +kernel) rfl (Nat.le_of_ble_eq_true rfl) (by decide) (Nat.le_refl _) h (fun r1 σ1 h => ?_)
  have hr1 := h.1
  have h := h.2
  refine j_if_eq (tgt := 23) hr1 (show decode cX12_isFull 4 = .ok (.ifCond .eq 19, 3) by decide +kernel) (by decide) (fun c => ?_) (fun c => ?_)
  · have h := h.1 c
    refine j_iconst (show decode cX12_isFull 23 = .ok (.iconst 0, 1) by decide +kernel) ?_
    exact j_ret (rokZ (show decode cX12_isFull 24 = .ok (.ireturn, 1) by decide +kernel) rfl (Or.inl rfl)) ⟨rfl, rfl, h⟩
  · have h := h.2 c
    refine s_aload_n (i := 0) rfl (show decode cX12_isFull 7 = .ok (.aload_n 0, 1) by decide +kernel) ?_
    refine gf_X12_7 (x := 322) rfl (show decode cX12_isFull 8 = .ok (.getfield 7, 3) by decide +kernel) okl_321 rfl ?_
    refine j_bipush (n := 10) (by decide +kernel) (show decode cX12_isFull 11 = .ok (.bipush 10, 2) by decide +kernel) ?_
    refine j_iload_n (i := 1) rfl (show decode cX12_isFull 13 = .ok (.iload_n 1, 1) by decide +kernel) ?_
    refine j_iadd (show decode cX12_isFull 14 = .ok (.iadd, 1) by decide +kernel) ?_
    refine s_iald (show decode cX12_isFull 15 = .ok (.iaload, 1) by decide +kernel) okl_322 h.1 ?_
    have h := h.2
    have hr2 := h.1
    have h := h.2
    refine j_if_le (tgt := 23) hr2 (show decode cX12_isFull 16 = .ok (.ifCond .le 7, 3) by decide +kernel) (by decide) (fun c => ?_) (fun c => ?_)
    · have h := h.1 c
      refine j_iconst (show decode cX12_isFull 23 = .ok (.iconst 0, 1) by decide +kernel) ?_
      exact j_ret (rokZ (show decode cX12_isFull 24 = .ok (.ireturn, 1) by decide +kernel) rfl (Or.inl rfl)) ⟨rfl, rfl, h⟩
    · have h := h.2 c
      refine j_iconst (show decode cX12_isFull 19 = .ok (.iconst 1, 1) by decide +kernel) ?_
      refine j_goto (tgt := 24) (show decode cX12_isFull 20 = .ok (.goto 4, 3) by decide +kernel) (by decide) ?_
      exact j_ret (rokZ (show decode cX12_isFull 24 = .ok (.ireturn, 1) by decide +kernel) rfl (Or.inr rfl)) ⟨rfl, rfl, h⟩
theorem c_X12_isFull {d : Nat} {t : Int} {Q : Int → jM → Prop} {σ : jM} {p1 : Int} (h : Ct mX12_isCrock d 0 t [iv p1] σ (fun r1 σ1 => ((inR r1) ∧ ((r1 = 0 → (Q 0 σ1)) ∧ (¬ r1 = 0 → (((0 : Int) ≤ (10 + p1) ∧ (10 + p1) < 2208) ∧ ((inR (σ1 322 (10 + p1))) ∧ (((σ1 322 (10 + p1)) ≤ 0 → (Q 0 σ1)) ∧ (0 < (σ1 322 (10 + p1)) → (Q 1 σ1)))))))))) : Ct mX12_isFull (d + 1) 0 t [rv 321, iv p1] σ Q := Ct_of (by decide +kernel) (Nat.le_of_ble_eq_true rfl) (b_X12_isFull_0 h)
set_option maxRecDepth 4000 in
theorem b_X12_fullNow_4 {d : Nat} {t : Int} {Q : Int → jM → Prop} {σ : jM} {v1 v2 : Int} (h : (inR v2) ∧ ((8 ≤ v2 → (Q v1 σ)) ∧ (v2 < 8 → (Ct mX12_isFull d 0 t [rv 321, iv v2] σ (fun r2 σ2 => ((inR r2) ∧ ((r2 = 0 → (Jt mX12_fullNow (d + 1) 0 t Q 4 [rv 321, iv (v1 + 0), iv (v2 + 1)] [] σ2)) ∧ (¬ r2 = 0 → (Jt mX12_fullNow (d + 1) 0 t Q 4 [rv 321, iv (v1 + 1), iv (v2 + 1)] [] σ2))))))))) : Jt mX12_fullNow (d + 1) 0 t Q 4 [rv 321, iv v1, iv v2] [] σ := by
  refine j_iload_n (i := 2) rfl (show decode cX12_fullNow 4 = .ok (.iload_n 2, 1) by decide +kernel) ?_
  refine j_bipush (n := 8) (by decide +kernel) (show decode cX12_fullNow 5 = .ok (.bipush 8, 2) by decide +kernel) ?_
  have hr0 := h.1
  have h := h.2
  refine j_icmp_ge (tgt := 32) hr0 (inl (by decide)) (show decode cX12_fullNow 7 = .ok (.if_icmp .ge 25, 3) by decide +kernel) (by decide) (fun c => ?_) (fun c => ?_)
  · have h := h.1 c
    refine j_iload_n (i := 1) rfl (show decode cX12_fullNow 32 = .ok (.iload_n 1, 1) by decide +kernel) ?_
    exact j_ret (rokI (show decode cX12_fullNow 33 = .ok (.ireturn, 1) by decide +kernel) rfl) ⟨rfl, rfl, h⟩
  · have h := h.2 c
    refine j_iload_n (i := 1) rfl (show decode cX12_fullNow 10 = .ok (.iload_n 1, 1) by decide +kernel) ?_
    refine s_aload_n (i := 0) rfl (show decode cX12_fullNow 11 = .ok (.aload_n 0, 1) by decide +kernel) ?_
    refine j_iload_n (i := 2) rfl (show decode cX12_fullNow 12 = .ok (.iload_n 2, 1) by decide +kernel) ?_
    refine j_ctV (m' := mX12_isFull) (As := [iv v2]) (ci := 12) (tag := 0) (N := 0) (cw_X12_93 rfl) (show decode cX12_fullNow 13 = .ok (.invokevirtual 93, 3) by decide +kernel) rfl (Nat.le_of_ble_eq_true rfl) (by decide) okl_321 rfl rfl (Nat.le_refl _) h (fun r2 σ2 h => ?_)
    have hr2 := h.1
    have h := h.2
    refine j_if_eq (tgt := 23) hr2 (show decode cX12_fullNow 16 = .ok (.ifCond .eq 7, 3) by decide +kernel) (by decide) (fun c => ?_) (fun c => ?_)
    · have h := h.1 c
      refine j_iconst (show decode cX12_fullNow 23 = .ok (.iconst 0, 1) by decide +kernel) ?_
      refine j_iadd (show decode cX12_fullNow 24 = .ok (.iadd, 1) by decide +kernel) ?_
      refine s_ist_n (i := 1) (L' := [rv 321, iv (v1 + 0), iv v2]) rfl (by decide) (show decode cX12_fullNow 25 = .ok (.istore_n 1, 1) by decide +kernel) ?_
      refine s_iinc (i := 2) rfl (L' := [rv 321, iv (v1 + 0), iv (v2 + 1)]) rfl (show decode cX12_fullNow 26 = .ok (.iinc 2 1, 3) by decide +kernel) ?_
      refine j_goto (tgt := 4) (show decode cX12_fullNow 29 = .ok (.goto (-25), 3) by decide +kernel) (by decide) ?_
      exact h
    · have h := h.2 c
      refine j_iconst (show decode cX12_fullNow 19 = .ok (.iconst 1, 1) by decide +kernel) ?_
      refine j_goto (tgt := 24) (show decode cX12_fullNow 20 = .ok (.goto 4, 3) by decide +kernel) (by decide) ?_
      refine j_iadd (show decode cX12_fullNow 24 = .ok (.iadd, 1) by decide +kernel) ?_
      refine s_ist_n (i := 1) (L' := [rv 321, iv (v1 + 1), iv v2]) rfl (by decide) (show decode cX12_fullNow 25 = .ok (.istore_n 1, 1) by decide +kernel) ?_
      refine s_iinc (i := 2) rfl (L' := [rv 321, iv (v1 + 1), iv (v2 + 1)]) rfl (show decode cX12_fullNow 26 = .ok (.iinc 2 1, 3) by decide +kernel) ?_
      refine j_goto (tgt := 4) (show decode cX12_fullNow 29 = .ok (.goto (-25), 3) by decide +kernel) (by decide) ?_
      exact h
set_option maxRecDepth 4000 in
theorem b_X12_fullNow_0 {d : Nat} {t : Int} {Q : Int → jM → Prop} {σ : jM} (h : Jt mX12_fullNow (d + 1) 0 t Q 4 [rv 321, iv 0, iv 0] [] σ) : Jt mX12_fullNow (d + 1) 0 t Q 0 [rv 321, uv, uv] [] σ := by
  refine j_iconst (show decode cX12_fullNow 0 = .ok (.iconst 0, 1) by decide +kernel) ?_
  refine s_ist_n (i := 1) (L' := [rv 321, iv 0, uv]) rfl (by decide) (show decode cX12_fullNow 1 = .ok (.istore_n 1, 1) by decide +kernel) ?_
  refine j_iconst (show decode cX12_fullNow 2 = .ok (.iconst 0, 1) by decide +kernel) ?_
  refine s_ist_n (i := 2) (L' := [rv 321, iv 0, iv 0]) rfl (by decide) (show decode cX12_fullNow 3 = .ok (.istore_n 2, 1) by decide +kernel) ?_
  exact h
theorem c_X12_fullNow {d : Nat} {t : Int} {Q : Int → jM → Prop} {σ : jM} (h : Jt mX12_fullNow (d + 1) 0 t Q 4 [rv 321, iv 0, iv 0] [] σ) : Ct mX12_fullNow (d + 1) 0 t [rv 321] σ Q := Ct_of (by decide +kernel) (Nat.le_of_ble_eq_true rfl) (b_X12_fullNow_0 h)
set_option maxRecDepth 4000 in
theorem b_X12_four_3 {d : Nat} {t : Int} {Q : Int → jM → Prop} {σ : jM} {p1 v2 : Int} (h : (inR v2) ∧ ((v2 < 0 → (Q 0 σ)) ∧ (0 ≤ v2 → (((0 : Int) ≤ (σ 321 4) ∧ (σ 321 4) < 300) ∧ (∀ σ3 : jM, σ3 = up σ 325 (σ 321 4) (i_and (i_shr p1 v2) 255) → (∀ σ4 : jM, σ4 = up σ3 321 4 ((σ3 321 4) + 1) → (Jt mX12_four (d) 9 t Q 3 [rv 321, iv p1, iv (v2 + (-8))] [] σ4))))))) : Jt mX12_four (d) 9 t Q 3 [rv 321, iv p1, iv v2] [] σ := by
  refine j_iload_n (i := 2) rfl (show decode cX12_four 3 = .ok (.iload_n 2, 1) by decide +kernel) ?_
  have hr0 := h.1
  have h := h.2
  refine j_if_lt (tgt := 39) hr0 (show decode cX12_four 4 = .ok (.ifCond .lt 35, 3) by decide +kernel) (by decide) (fun c => ?_) (fun c => ?_)
  · have h := h.1 c
    exact j_ret (rokV (show decode cX12_four 39 = .ok (.return_, 1) by decide +kernel) rfl) ⟨rfl, rfl, h⟩
  · have h := h.2 c
    refine s_aload_n (i := 0) rfl (show decode cX12_four 7 = .ok (.aload_n 0, 1) by decide +kernel) ?_
    refine gf_X12_19 (x := 325) rfl (show decode cX12_four 8 = .ok (.getfield 19, 3) by decide +kernel) okl_321 rfl ?_
    refine s_aload_n (i := 0) rfl (show decode cX12_four 11 = .ok (.aload_n 0, 1) by decide +kernel) ?_
    refine gf_X12_96 rfl (show decode cX12_four 12 = .ok (.getfield 96, 3) by decide +kernel) okl_321 ?_
    refine j_iload_n (i := 1) rfl (show decode cX12_four 15 = .ok (.iload_n 1, 1) by decide +kernel) ?_
    refine j_iload_n (i := 2) rfl (show decode cX12_four 16 = .ok (.iload_n 2, 1) by decide +kernel) ?_
    refine j_ishr (show decode cX12_four 17 = .ok (.ishr, 1) by decide +kernel) ?_
    refine j_sipush (n := 255) (by decide +kernel) (show decode cX12_four 18 = .ok (.sipush 255, 3) by decide +kernel) ?_
    refine j_iand (show decode cX12_four 21 = .ok (.iand, 1) by decide +kernel) ?_
    have hb1 := h.1
    have h := h.2
    refine s_iast (show decode cX12_four 22 = .ok (.iastore, 1) by decide +kernel) okl_325 hb1 ?_
    obtain ⟨σ3, eσ3⟩ : ∃ z : jM, z = up σ 325 (σ 321 4) (i_and (i_shr p1 v2) 255) := ⟨_, rfl⟩
    refine j_sig eσ3 ?_
    have h := h σ3 eσ3
    refine s_aload_n (i := 0) rfl (show decode cX12_four 23 = .ok (.aload_n 0, 1) by decide +kernel) ?_
    refine j_dup (show (2 : Nat) ≠ 1 by decide) (show decode cX12_four 24 = .ok (.dup, 1) by decide +kernel) ?_
    refine gf_X12_96 rfl (show decode cX12_four 25 = .ok (.getfield 96, 3) by decide +kernel) okl_321 ?_
    refine j_iconst (show decode cX12_four 28 = .ok (.iconst 1, 1) by decide +kernel) ?_
    refine j_iadd (show decode cX12_four 29 = .ok (.iadd, 1) by decide +kernel) ?_
    refine pf_X12_96 rfl (show decode cX12_four 30 = .ok (.putfield 96, 3) by decide +kernel) okl_321 ?_
    obtain ⟨σ4, eσ4⟩ : ∃ z : jM, z = up σ3 321 4 ((σ3 321 4) + 1) := ⟨_, rfl⟩
    refine j_sig eσ4 ?_
    have h := h σ4 eσ4
    refine s_iinc (i := 2) rfl (L' := [rv 321, iv p1, iv (v2 + (-8))]) rfl (show decode cX12_four 33 = .ok (.iinc 2 (-8), 3) by decide +kernel) ?_
    refine j_goto (tgt := 3) (show decode cX12_four 36 = .ok (.goto (-33), 3) by decide +kernel) (by decide) ?_
    exact h
set_option maxRecDepth 4000 in
theorem b_X12_four_0 {d : Nat} {t : Int} {Q : Int → jM → Prop} {σ : jM} {p1 : Int} (h : Jt mX12_four (d) 9 t Q 3 [rv 321, iv p1, iv 24] [] σ) : Jt mX12_four (d) 9 t Q 0 [rv 321, iv p1, uv] [] σ := by
  refine j_bipush (n := 24) (by decide +kernel) (show decode cX12_four 0 = .ok (.bipush 24, 2) by decide +kernel) ?_
  refine s_ist_n (i := 2) (L' := [rv 321, iv p1, iv 24]) rfl (by decide) (show decode cX12_four 2 = .ok (.istore_n 2, 1) by decide +kernel) ?_
  exact h
theorem c_X12_four {d : Nat} {t : Int} {Q : Int → jM → Prop} {σ : jM} {p1 : Int} (h : Jt mX12_four (d) 9 t Q 3 [rv 321, iv p1, iv 24] [] σ) : Ct mX12_four (d) 9 t [rv 321, iv p1] σ Q := Ct_of (by decide +kernel) (Nat.le_of_ble_eq_true rfl) (b_X12_four_0 h)
set_option maxRecDepth 4000 in
theorem b_X12_feed_0 {d : Nat} {t : Int} {Q : Int → jM → Prop} {σ : jM} {p1 p2 p3 p4 p5 : Int} (h : (inR ((σ 321 4) + 20)) ∧ ((((σ 321 4) + 20) ≤ 300 → (Ct mX12_four d 9 t [rv 321, iv p1] σ (fun r2 σ2 => (Ct mX12_four d 9 t [rv 321, iv p2] σ2 (fun r3 σ3 => (Ct mX12_four d 9 t [rv 321, iv p3] σ3 (fun r4 σ4 => (Ct mX12_four d 9 t [rv 321, iv p4] σ4 (fun r5 σ5 => (Ct mX12_four d 9 t [rv 321, iv p5] σ5 (fun r6 σ6 => (Q (σ6 321 4) σ6)))))))))))) ∧ (300 < ((σ 321 4) + 20) → (Q (-1) σ)))) : Jt mX12_feed (d + 1) 0 t Q 0 [rv 321, iv p1, iv p2, iv p3, iv p4, iv p5] [] σ := by
  refine s_aload_n (i := 0) rfl (show decode cX12_feed 0 = .ok (.aload_n 0, 1) by decide +kernel) ?_
  refine gf_X12_96 rfl (show decode cX12_feed 1 = .ok (.getfield 96, 3) by decide +kernel) okl_321 ?_
  refine j_bipush (n := 20) (by decide +kernel) (show decode cX12_feed 4 = .ok (.bipush 20, 2) by decide +kernel) ?_
  refine j_iadd (show decode cX12_feed 6 = .ok (.iadd, 1) by decide +kernel) ?_
  refine j_sipush (n := 300) (by decide +kernel) (show decode cX12_feed 7 = .ok (.sipush 300, 3) by decide +kernel) ?_
  have hr0 := h.1
  have h := h.2
  refine j_icmp_le (tgt := 15) hr0 (inl (by decide)) (show decode cX12_feed 10 = .ok (.if_icmp .le 5, 3) by decide +kernel) (by decide) (fun c => ?_) (fun c => ?_)
  · have h := h.1 c
    refine s_aload_n (i := 0) rfl (show decode cX12_feed 15 = .ok (.aload_n 0, 1) by decide +kernel) ?_
    refine j_iload_n (i := 1) rfl (show decode cX12_feed 16 = .ok (.iload_n 1, 1) by decide +kernel) ?_
    refine j_ctVv (m' := mX12_four) (As := [iv p1]) (ci := 12) (N := 0) (cw_X12_99 rfl) (show decode cX12_feed 17 = .ok (.invokevirtual 99, 3) by decide +kernel) rfl (Nat.le_of_ble_eq_true rfl) okl_321 rfl rfl (Nat.le_refl _) h (fun r2 σ2 h => ?_)
    refine s_aload_n (i := 0) rfl (show decode cX12_feed 20 = .ok (.aload_n 0, 1) by decide +kernel) ?_
    refine j_iload_n (i := 2) rfl (show decode cX12_feed 21 = .ok (.iload_n 2, 1) by decide +kernel) ?_
    refine j_ctVv (m' := mX12_four) (As := [iv p2]) (ci := 12) (N := 0) (cw_X12_99 rfl) (show decode cX12_feed 22 = .ok (.invokevirtual 99, 3) by decide +kernel) rfl (Nat.le_of_ble_eq_true rfl) okl_321 rfl rfl (Nat.le_refl _) h (fun r3 σ3 h => ?_)
    refine s_aload_n (i := 0) rfl (show decode cX12_feed 25 = .ok (.aload_n 0, 1) by decide +kernel) ?_
    refine j_iload_n (i := 3) rfl (show decode cX12_feed 26 = .ok (.iload_n 3, 1) by decide +kernel) ?_
    refine j_ctVv (m' := mX12_four) (As := [iv p3]) (ci := 12) (N := 0) (cw_X12_99 rfl) (show decode cX12_feed 27 = .ok (.invokevirtual 99, 3) by decide +kernel) rfl (Nat.le_of_ble_eq_true rfl) okl_321 rfl rfl (Nat.le_refl _) h (fun r4 σ4 h => ?_)
    refine s_aload_n (i := 0) rfl (show decode cX12_feed 30 = .ok (.aload_n 0, 1) by decide +kernel) ?_
    refine j_iload (i := 4) rfl (show decode cX12_feed 31 = .ok (.iload 4, 2) by decide +kernel) ?_
    refine j_ctVv (m' := mX12_four) (As := [iv p4]) (ci := 12) (N := 0) (cw_X12_99 rfl) (show decode cX12_feed 33 = .ok (.invokevirtual 99, 3) by decide +kernel) rfl (Nat.le_of_ble_eq_true rfl) okl_321 rfl rfl (Nat.le_refl _) h (fun r5 σ5 h => ?_)
    refine s_aload_n (i := 0) rfl (show decode cX12_feed 36 = .ok (.aload_n 0, 1) by decide +kernel) ?_
    refine j_iload (i := 5) rfl (show decode cX12_feed 37 = .ok (.iload 5, 2) by decide +kernel) ?_
    refine j_ctVv (m' := mX12_four) (As := [iv p5]) (ci := 12) (N := 0) (cw_X12_99 rfl) (show decode cX12_feed 39 = .ok (.invokevirtual 99, 3) by decide +kernel) rfl (Nat.le_of_ble_eq_true rfl) okl_321 rfl rfl (Nat.le_refl _) h (fun r6 σ6 h => ?_)
    refine s_aload_n (i := 0) rfl (show decode cX12_feed 42 = .ok (.aload_n 0, 1) by decide +kernel) ?_
    refine gf_X12_96 rfl (show decode cX12_feed 43 = .ok (.getfield 96, 3) by decide +kernel) okl_321 ?_
    exact j_ret (rokI (show decode cX12_feed 46 = .ok (.ireturn, 1) by decide +kernel) rfl) ⟨rfl, rfl, h⟩
  · have h := h.2 c
    refine j_iconst (show decode cX12_feed 13 = .ok (.iconst (-1), 1) by decide +kernel) ?_
    exact j_ret (rokI (show decode cX12_feed 14 = .ok (.ireturn, 1) by decide +kernel) rfl) ⟨rfl, rfl, h⟩
theorem c_X12_feed {d : Nat} {t : Int} {Q : Int → jM → Prop} {σ : jM} {p1 p2 p3 p4 p5 : Int} (h : (inR ((σ 321 4) + 20)) ∧ ((((σ 321 4) + 20) ≤ 300 → (Ct mX12_four d 9 t [rv 321, iv p1] σ (fun r2 σ2 => (Ct mX12_four d 9 t [rv 321, iv p2] σ2 (fun r3 σ3 => (Ct mX12_four d 9 t [rv 321, iv p3] σ3 (fun r4 σ4 => (Ct mX12_four d 9 t [rv 321, iv p4] σ4 (fun r5 σ5 => (Ct mX12_four d 9 t [rv 321, iv p5] σ5 (fun r6 σ6 => (Q (σ6 321 4) σ6)))))))))))) ∧ (300 < ((σ 321 4) + 20) → (Q (-1) σ)))) : Ct mX12_feed (d + 1) 0 t [rv 321, iv p1, iv p2, iv p3, iv p4, iv p5] σ Q := Ct_of (by decide +kernel) (Nat.le_of_ble_eq_true rfl) (b_X12_feed_0 h)
set_option maxRecDepth 4000 in
theorem b_X12_end_0 {d : Nat} {t : Int} {Q : Int → jM → Prop} {σ : jM} {p1 : Int} (h : Ct mX12_isIn d 0 t [iv p1, iv 0, iv (σ 321 4)] σ (fun r1 σ1 => ((inR r1) ∧ ((¬ r1 = 0 → (∀ σ3 : jM, σ3 = up σ1 321 4 p1 → (Q p1 σ3))) ∧ (r1 = 0 → (Q (-1) σ1)))))) : Jt mX12_end (d + 1) 0 t Q 0 [rv 321, iv p1] [] σ := by
  refine j_iload_n (i := 1) rfl (show decode cX12_end 0 = .ok (.iload_n 1, 1) by decide +kernel) ?_
  refine j_iconst (show decode cX12_end 1 = .ok (.iconst 0, 1) by decide +kernel) ?_
  refine s_aload_n (i := 0) rfl (show decode cX12_end 2 = .ok (.aload_n 0, 1) by decide +kernel) ?_
  refine gf_X12_96 rfl (show decode cX12_end 3 = .ok (.getfield 96, 3) by decide +kernel) okl_321 ?_
  refine j_ctS (m' := mX12_isIn) (As := [iv p1, iv 0, iv (σ 321 4)]) (tag := 0) (cw_X12_85 rfl) (show decode cX12_end 6 = .ok (.invokestatic 85, 3) by decide +kernel) rfl (Nat.le_of_ble_eq_true rfl) (by decide) (Nat.le_refl _) h (fun r1 σ1 h => ?_)
  have hr1 := h.1
  have h := h.2
  refine j_if_ne (tgt := 14) hr1 (show decode cX12_end 9 = .ok (.ifCond .ne 5, 3) by decide +kernel) (by decide) (fun c => ?_) (fun c => ?_)
  · have h := h.1 c
    refine s_aload_n (i := 0) rfl (show decode cX12_end 14 = .ok (.aload_n 0, 1) by decide +kernel) ?_
    refine j_iload_n (i := 1) rfl (show decode cX12_end 15 = .ok (.iload_n 1, 1) by decide +kernel) ?_
    refine pf_X12_96 rfl (show decode cX12_end 16 = .ok (.putfield 96, 3) by decide +kernel) okl_321 ?_
    obtain ⟨σ3, eσ3⟩ : ∃ z : jM, z = up σ1 321 4 p1 := ⟨_, rfl⟩
    refine j_sig eσ3 ?_
    have h := h σ3 eσ3
    refine j_iload_n (i := 1) rfl (show decode cX12_end 19 = .ok (.iload_n 1, 1) by decide +kernel) ?_
    exact j_ret (rokI (show decode cX12_end 20 = .ok (.ireturn, 1) by decide +kernel) rfl) ⟨rfl, rfl, h⟩
  · have h := h.2 c
    refine j_iconst (show decode cX12_end 12 = .ok (.iconst (-1), 1) by decide +kernel) ?_
    exact j_ret (rokI (show decode cX12_end 13 = .ok (.ireturn, 1) by decide +kernel) rfl) ⟨rfl, rfl, h⟩
theorem c_X12_end {d : Nat} {t : Int} {Q : Int → jM → Prop} {σ : jM} {p1 : Int} (h : Ct mX12_isIn d 0 t [iv p1, iv 0, iv (σ 321 4)] σ (fun r1 σ1 => ((inR r1) ∧ ((¬ r1 = 0 → (∀ σ3 : jM, σ3 = up σ1 321 4 p1 → (Q p1 σ3))) ∧ (r1 = 0 → (Q (-1) σ1)))))) : Ct mX12_end (d + 1) 0 t [rv 321, iv p1] σ Q := Ct_of (by decide +kernel) (Nat.le_of_ble_eq_true rfl) (b_X12_end_0 h)
set_option maxRecDepth 4000 in
theorem b_X12_byteAt_0 {d : Nat} {t : Int} {Q : Int → jM → Prop} {σ : jM} {p1 : Int} (h : (inR p1) ∧ ((inR (σ 321 4)) ∧ (((σ 321 4) ≤ p1 → (Q (-1) σ)) ∧ (p1 < (σ 321 4) → (((0 : Int) ≤ p1 ∧ p1 < 300) ∧ (Q (σ 325 p1) σ)))))) : Jt mX12_byteAt (d) 0 t Q 0 [rv 321, iv p1] [] σ := by
  refine j_iload_n (i := 1) rfl (show decode cX12_byteAt 0 = .ok (.iload_n 1, 1) by decide +kernel) ?_
  refine s_aload_n (i := 0) rfl (show decode cX12_byteAt 1 = .ok (.aload_n 0, 1) by decide +kernel) ?_
  refine gf_X12_96 rfl (show decode cX12_byteAt 2 = .ok (.getfield 96, 3) by decide +kernel) okl_321 ?_
  have hr0 := h.1
  have h := h.2
  have hr1 := h.1
  have h := h.2
  refine j_icmp_ge (tgt := 17) hr0 hr1 (show decode cX12_byteAt 5 = .ok (.if_icmp .ge 12, 3) by decide +kernel) (by decide) (fun c => ?_) (fun c => ?_)
  · have h := h.1 c
    refine j_iconst (show decode cX12_byteAt 17 = .ok (.iconst (-1), 1) by decide +kernel) ?_
    exact j_ret (rokI (show decode cX12_byteAt 18 = .ok (.ireturn, 1) by decide +kernel) rfl) ⟨rfl, rfl, h⟩
  · have h := h.2 c
    refine s_aload_n (i := 0) rfl (show decode cX12_byteAt 8 = .ok (.aload_n 0, 1) by decide +kernel) ?_
    refine gf_X12_19 (x := 325) rfl (show decode cX12_byteAt 9 = .ok (.getfield 19, 3) by decide +kernel) okl_321 rfl ?_
    refine j_iload_n (i := 1) rfl (show decode cX12_byteAt 12 = .ok (.iload_n 1, 1) by decide +kernel) ?_
    refine s_iald (show decode cX12_byteAt 13 = .ok (.iaload, 1) by decide +kernel) okl_325 h.1 ?_
    have h := h.2
    refine j_goto (tgt := 18) (show decode cX12_byteAt 14 = .ok (.goto 4, 3) by decide +kernel) (by decide) ?_
    exact j_ret (rokI (show decode cX12_byteAt 18 = .ok (.ireturn, 1) by decide +kernel) rfl) ⟨rfl, rfl, h⟩
theorem c_X12_byteAt {d : Nat} {t : Int} {Q : Int → jM → Prop} {σ : jM} {p1 : Int} (h : (inR p1) ∧ ((inR (σ 321 4)) ∧ (((σ 321 4) ≤ p1 → (Q (-1) σ)) ∧ (p1 < (σ 321 4) → (((0 : Int) ≤ p1 ∧ p1 < 300) ∧ (Q (σ 325 p1) σ)))))) : Ct mX12_byteAt (d) 0 t [rv 321, iv p1] σ Q := Ct_of (by decide +kernel) (Nat.le_of_ble_eq_true rfl) (b_X12_byteAt_0 h)
set_option maxRecDepth 4000 in
theorem b_X12_isLetterByte_0 {d : Nat} {t : Int} {Q : Int → jM → Prop} {σ : jM} {p0 : Int} (h : (inR p0) ∧ ((p0 < 97 → ((inR p0) ∧ ((p0 < 65 → (Q 0 σ)) ∧ (65 ≤ p0 → ((inR p0) ∧ ((90 < p0 → (Q 0 σ)) ∧ (p0 ≤ 90 → (Q 1 σ)))))))) ∧ (97 ≤ p0 → ((inR p0) ∧ ((p0 ≤ 122 → (Q 1 σ)) ∧ (122 < p0 → ((inR p0) ∧ ((p0 < 65 → (Q 0 σ)) ∧ (65 ≤ p0 → ((inR p0) ∧ ((90 < p0 → (Q 0 σ)) ∧ (p0 ≤ 90 → (Q 1 σ))))))))))))) : Jt mX12_isLetterByte (d) 0 t Q 0 [iv p0] [] σ := by
  refine j_iload_n (i := 0) rfl (show decode cX12_isLetterByte 0 = .ok (.iload_n 0, 1) by decide +kernel) ?_
  refine j_bipush (n := 97) (by decide +kernel) (show decode cX12_isLetterByte 1 = .ok (.bipush 97, 2) by decide +kernel) ?_
  have hr0 := h.1
  have h := h.2
  refine j_icmp_lt (tgt := 12) hr0 (inl (by decide)) (show decode cX12_isLetterByte 3 = .ok (.if_icmp .lt 9, 3) by decide +kernel) (by decide) (fun c => ?_) (fun c => ?_)
  · have h := h.1 c
    refine j_iload_n (i := 0) rfl (show decode cX12_isLetterByte 12 = .ok (.iload_n 0, 1) by decide +kernel) ?_
    refine j_bipush (n := 65) (by decide +kernel) (show decode cX12_isLetterByte 13 = .ok (.bipush 65, 2) by decide +kernel) ?_
    have hr1 := h.1
    have h := h.2
    refine j_icmp_lt (tgt := 28) hr1 (inl (by decide)) (show decode cX12_isLetterByte 15 = .ok (.if_icmp .lt 13, 3) by decide +kernel) (by decide) (fun c => ?_) (fun c => ?_)
    · have h := h.1 c
      refine j_iconst (show decode cX12_isLetterByte 28 = .ok (.iconst 0, 1) by decide +kernel) ?_
      exact j_ret (rokZ (show decode cX12_isLetterByte 29 = .ok (.ireturn, 1) by decide +kernel) rfl (Or.inl rfl)) ⟨rfl, rfl, h⟩
    · have h := h.2 c
      refine j_iload_n (i := 0) rfl (show decode cX12_isLetterByte 18 = .ok (.iload_n 0, 1) by decide +kernel) ?_
      refine j_bipush (n := 90) (by decide +kernel) (show decode cX12_isLetterByte 19 = .ok (.bipush 90, 2) by decide +kernel) ?_
      have hr2 := h.1
      have h := h.2
      refine j_icmp_gt (tgt := 28) hr2 (inl (by decide)) (show decode cX12_isLetterByte 21 = .ok (.if_icmp .gt 7, 3) by decide +kernel) (by decide) (fun c => ?_) (fun c => ?_)
      · have h := h.1 c
        refine j_iconst (show decode cX12_isLetterByte 28 = .ok (.iconst 0, 1) by decide +kernel) ?_
        exact j_ret (rokZ (show decode cX12_isLetterByte 29 = .ok (.ireturn, 1) by decide +kernel) rfl (Or.inl rfl)) ⟨rfl, rfl, h⟩
      · have h := h.2 c
        refine j_iconst (show decode cX12_isLetterByte 24 = .ok (.iconst 1, 1) by decide +kernel) ?_
        refine j_goto (tgt := 29) (show decode cX12_isLetterByte 25 = .ok (.goto 4, 3) by decide +kernel) (by decide) ?_
        exact j_ret (rokZ (show decode cX12_isLetterByte 29 = .ok (.ireturn, 1) by decide +kernel) rfl (Or.inr rfl)) ⟨rfl, rfl, h⟩
  · have h := h.2 c
    refine j_iload_n (i := 0) rfl (show decode cX12_isLetterByte 6 = .ok (.iload_n 0, 1) by decide +kernel) ?_
    refine j_bipush (n := 122) (by decide +kernel) (show decode cX12_isLetterByte 7 = .ok (.bipush 122, 2) by decide +kernel) ?_
    have hr3 := h.1
    have h := h.2
    refine j_icmp_le (tgt := 24) hr3 (inl (by decide)) (show decode cX12_isLetterByte 9 = .ok (.if_icmp .le 15, 3) by decide +kernel) (by decide) (fun c => ?_) (fun c => ?_)
    · have h := h.1 c
      refine j_iconst (show decode cX12_isLetterByte 24 = .ok (.iconst 1, 1) by decide +kernel) ?_
      refine j_goto (tgt := 29) (show decode cX12_isLetterByte 25 = .ok (.goto 4, 3) by decide +kernel) (by decide) ?_
      exact j_ret (rokZ (show decode cX12_isLetterByte 29 = .ok (.ireturn, 1) by decide +kernel) rfl (Or.inr rfl)) ⟨rfl, rfl, h⟩
    · have h := h.2 c
      refine j_iload_n (i := 0) rfl (show decode cX12_isLetterByte 12 = .ok (.iload_n 0, 1) by decide +kernel) ?_
      refine j_bipush (n := 65) (by decide +kernel) (show decode cX12_isLetterByte 13 = .ok (.bipush 65, 2) by decide +kernel) ?_
      have hr4 := h.1
      have h := h.2
      refine j_icmp_lt (tgt := 28) hr4 (inl (by decide)) (show decode cX12_isLetterByte 15 = .ok (.if_icmp .lt 13, 3) by decide +kernel) (by decide) (fun c => ?_) (fun c => ?_)
      · have h := h.1 c
        refine j_iconst (show decode cX12_isLetterByte 28 = .ok (.iconst 0, 1) by decide +kernel) ?_
        exact j_ret (rokZ (show decode cX12_isLetterByte 29 = .ok (.ireturn, 1) by decide +kernel) rfl (Or.inl rfl)) ⟨rfl, rfl, h⟩
      · have h := h.2 c
        refine j_iload_n (i := 0) rfl (show decode cX12_isLetterByte 18 = .ok (.iload_n 0, 1) by decide +kernel) ?_
        refine j_bipush (n := 90) (by decide +kernel) (show decode cX12_isLetterByte 19 = .ok (.bipush 90, 2) by decide +kernel) ?_
        have hr5 := h.1
        have h := h.2
        refine j_icmp_gt (tgt := 28) hr5 (inl (by decide)) (show decode cX12_isLetterByte 21 = .ok (.if_icmp .gt 7, 3) by decide +kernel) (by decide) (fun c => ?_) (fun c => ?_)
        · have h := h.1 c
          refine j_iconst (show decode cX12_isLetterByte 28 = .ok (.iconst 0, 1) by decide +kernel) ?_
          exact j_ret (rokZ (show decode cX12_isLetterByte 29 = .ok (.ireturn, 1) by decide +kernel) rfl (Or.inl rfl)) ⟨rfl, rfl, h⟩
        · have h := h.2 c
          refine j_iconst (show decode cX12_isLetterByte 24 = .ok (.iconst 1, 1) by decide +kernel) ?_
          refine j_goto (tgt := 29) (show decode cX12_isLetterByte 25 = .ok (.goto 4, 3) by decide +kernel) (by decide) ?_
          exact j_ret (rokZ (show decode cX12_isLetterByte 29 = .ok (.ireturn, 1) by decide +kernel) rfl (Or.inr rfl)) ⟨rfl, rfl, h⟩
theorem c_X12_isLetterByte {d : Nat} {t : Int} {Q : Int → jM → Prop} {σ : jM} {p0 : Int} (h : (inR p0) ∧ ((p0 < 97 → ((inR p0) ∧ ((p0 < 65 → (Q 0 σ)) ∧ (65 ≤ p0 → ((inR p0) ∧ ((90 < p0 → (Q 0 σ)) ∧ (p0 ≤ 90 → (Q 1 σ)))))))) ∧ (97 ≤ p0 → ((inR p0) ∧ ((p0 ≤ 122 → (Q 1 σ)) ∧ (122 < p0 → ((inR p0) ∧ ((p0 < 65 → (Q 0 σ)) ∧ (65 ≤ p0 → ((inR p0) ∧ ((90 < p0 → (Q 0 σ)) ∧ (p0 ≤ 90 → (Q 1 σ))))))))))))) : Ct mX12_isLetterByte (d) 0 t [iv p0] σ Q := Ct_of (by decide +kernel) (Nat.le_of_ble_eq_true rfl) (b_X12_isLetterByte_0 h)
set_option maxRecDepth 4000 in
theorem b_X12_isFigure_0 {d : Nat} {t : Int} {Q : Int → jM → Prop} {σ : jM} {p0 : Int} (h : (inR p0) ∧ ((p0 < 48 → (Q 0 σ)) ∧ (48 ≤ p0 → ((inR p0) ∧ ((57 < p0 → (Q 0 σ)) ∧ (p0 ≤ 57 → (Q 1 σ))))))) : Jt mX12_isFigure (d) 0 t Q 0 [iv p0] [] σ := by
  refine j_iload_n (i := 0) rfl (show decode cX12_isFigure 0 = .ok (.iload_n 0, 1) by decide +kernel) ?_
  refine j_bipush (n := 48) (by decide +kernel) (show decode cX12_isFigure 1 = .ok (.bipush 48, 2) by decide +kernel) ?_
  have hr0 := h.1
  have h := h.2
  refine j_icmp_lt (tgt := 16) hr0 (inl (by decide)) (show decode cX12_isFigure 3 = .ok (.if_icmp .lt 13, 3) by decide +kernel) (by decide) (fun c => ?_) (fun c => ?_)
  · have h := h.1 c
    refine j_iconst (show decode cX12_isFigure 16 = .ok (.iconst 0, 1) by decide +kernel) ?_
    exact j_ret (rokZ (show decode cX12_isFigure 17 = .ok (.ireturn, 1) by decide +kernel) rfl (Or.inl rfl)) ⟨rfl, rfl, h⟩
  · have h := h.2 c
    refine j_iload_n (i := 0) rfl (show decode cX12_isFigure 6 = .ok (.iload_n 0, 1) by decide +kernel) ?_
    refine j_bipush (n := 57) (by decide +kernel) (show decode cX12_isFigure 7 = .ok (.bipush 57, 2) by decide +kernel) ?_
    have hr1 := h.1
    have h := h.2
    refine j_icmp_gt (tgt := 16) hr1 (inl (by decide)) (show decode cX12_isFigure 9 = .ok (.if_icmp .gt 7, 3) by decide +kernel) (by decide) (fun c => ?_) (fun c => ?_)
    · have h := h.1 c
      refine j_iconst (show decode cX12_isFigure 16 = .ok (.iconst 0, 1) by decide +kernel) ?_
      exact j_ret (rokZ (show decode cX12_isFigure 17 = .ok (.ireturn, 1) by decide +kernel) rfl (Or.inl rfl)) ⟨rfl, rfl, h⟩
    · have h := h.2 c
      refine j_iconst (show decode cX12_isFigure 12 = .ok (.iconst 1, 1) by decide +kernel) ?_
      refine j_goto (tgt := 17) (show decode cX12_isFigure 13 = .ok (.goto 4, 3) by decide +kernel) (by decide) ?_
      exact j_ret (rokZ (show decode cX12_isFigure 17 = .ok (.ireturn, 1) by decide +kernel) rfl (Or.inr rfl)) ⟨rfl, rfl, h⟩
theorem c_X12_isFigure {d : Nat} {t : Int} {Q : Int → jM → Prop} {σ : jM} {p0 : Int} (h : (inR p0) ∧ ((p0 < 48 → (Q 0 σ)) ∧ (48 ≤ p0 → ((inR p0) ∧ ((57 < p0 → (Q 0 σ)) ∧ (p0 ≤ 57 → (Q 1 σ))))))) : Ct mX12_isFigure (d) 0 t [iv p0] σ Q := Ct_of (by decide +kernel) (Nat.le_of_ble_eq_true rfl) (b_X12_isFigure_0 h)
set_option maxRecDepth 4000 in
theorem b_X12_isSign_0 {d : Nat} {t : Int} {Q : Int → jM → Prop} {σ : jM} {p0 : Int} (h : (inR p0) ∧ ((p0 < 35 ∨ 62 < p0 → (Q 0 σ)) ∧ (p0 = 35 → (Q 1 σ)) ∧ (p0 = 36 → (Q 0 σ)) ∧ (p0 = 37 → (Q 0 σ)) ∧ (p0 = 38 → (Q 0 σ)) ∧ (p0 = 39 → (Q 0 σ)) ∧ (p0 = 40 → (Q 1 σ)) ∧ (p0 = 41 → (Q 1 σ)) ∧ (p0 = 42 → (Q 1 σ)) ∧ (p0 = 43 → (Q 1 σ)) ∧ (p0 = 44 → (Q 0 σ)) ∧ (p0 = 45 → (Q 1 σ)) ∧ (p0 = 46 → (Q 0 σ)) ∧ (p0 = 47 → (Q 1 σ)) ∧ (p0 = 48 → (Q 0 σ)) ∧ (p0 = 49 → (Q 0 σ)) ∧ (p0 = 50 → (Q 0 σ)) ∧ (p0 = 51 → (Q 0 σ)) ∧ (p0 = 52 → (Q 0 σ)) ∧ (p0 = 53 → (Q 0 σ)) ∧ (p0 = 54 → (Q 0 σ)) ∧ (p0 = 55 → (Q 0 σ)) ∧ (p0 = 56 → (Q 0 σ)) ∧ (p0 = 57 → (Q 0 σ)) ∧ (p0 = 58 → (Q 1 σ)) ∧ (p0 = 59 → (Q 1 σ)) ∧ (p0 = 60 → (Q 1 σ)) ∧ (p0 = 61 → (Q 1 σ)) ∧ (p0 = 62 → (Q 1 σ)))) : Jt mX12_isSign (d) 0 t Q 0 [iv p0] [] σ := by
  refine j_iload_n (i := 0) rfl (show decode cX12_isSign 0 = .ok (.iload_n 0, 1) by decide +kernel) ?_
  have hr0 := h.1
  have h := h.2
  rcases (show (p0 < 35 ∨ 62 < p0) ∨ p0 = 35 ∨ p0 = 36 ∨ p0 = 37 ∨ p0 = 38 ∨ p0 = 39 ∨ p0 = 40 ∨ p0 = 41 ∨ p0 = 42 ∨ p0 = 43 ∨ p0 = 44 ∨ p0 = 45 ∨ p0 = 46 ∨ p0 = 47 ∨ p0 = 48 ∨ p0 = 49 ∨ p0 = 50 ∨ p0 = 51 ∨ p0 = 52 ∨ p0 = 53 ∨ p0 = 54 ∨ p0 = 55 ∨ p0 = 56 ∨ p0 = 57 ∨ p0 = 58 ∨ p0 = 59 ∨ p0 = 60 ∨ p0 = 61 ∨ p0 = 62 by omega) with c | c | c | c | c | c | c | c | c | c | c | c | c | c | c | c | c | c | c | c | c | c | c | c | c | c | c | c | c
  · refine j_tableOut (tgt := 130) hr0 (show decode cX12_isSign 1 = .ok (.tableswitch 129 35 62 #[127, 129, 129, 129, 129, 127, 127, 127, 127, 129, 127, 129, 127, 129, 129, 129, 129, 129, 129, 129, 129, 129, 129, 127, 127, 127, 127, 127], 127) by decide +kernel) c (by decide) ?_
    have h := h.1 c
    refine j_iconst (show decode cX12_isSign 130 = .ok (.iconst 0, 1) by decide +kernel) ?_
    exact j_ret (rokZ (show decode cX12_isSign 131 = .ok (.ireturn, 1) by decide +kernel) rfl (Or.inl rfl)) ⟨rfl, rfl, h⟩
  · refine j_tableIn (tgt := 128) hr0 (show decode cX12_isSign 1 = .ok (.tableswitch 129 35 62 #[127, 129, 129, 129, 129, 127, 127, 127, 127, 129, 127, 129, 127, 129, 129, 129, 129, 129, 129, 129, 129, 129, 129, 127, 127, 127, 127, 127], 127) by decide +kernel) (by omega) (by omega) (by rw [c]; rfl) (by decide) ?_
    have h := h.2.1 c
    refine j_iconst (show decode cX12_isSign 128 = .ok (.iconst 1, 1) by decide +kernel) ?_
    exact j_ret (rokZ (show decode cX12_isSign 129 = .ok (.ireturn, 1) by decide +kernel) rfl (Or.inr rfl)) ⟨rfl, rfl, h⟩
  · refine j_tableIn (tgt := 130) hr0 (show decode cX12_isSign 1 = .ok (.tableswitch 129 35 62 #[127, 129, 129, 129, 129, 127, 127, 127, 127, 129, 127, 129, 127, 129, 129, 129, 129, 129, 129, 129, 129, 129, 129, 127, 127, 127, 127, 127], 127) by decide +kernel) (by omega) (by omega) (by rw [c]; rfl) (by decide) ?_
    have h := h.2.2.1 c
    refine j_iconst (show decode cX12_isSign 130 = .ok (.iconst 0, 1) by decide +kernel) ?_
    exact j_ret (rokZ (show decode cX12_isSign 131 = .ok (.ireturn, 1) by decide +kernel) rfl (Or.inl rfl)) ⟨rfl, rfl, h⟩
  · refine j_tableIn (tgt := 130) hr0 (show decode cX12_isSign 1 = .ok (.tableswitch 129 35 62 #[127, 129, 129, 129, 129, 127, 127, 127, 127, 129, 127, 129, 127, 129, 129, 129, 129, 129, 129, 129, 129, 129, 129, 127, 127, 127, 127, 127], 127) by decide +kernel) (by omega) (by omega) (by rw [c]; rfl) (by decide) ?_
    have h := h.2.2.2.1 c
    refine j_iconst (show decode cX12_isSign 130 = .ok (.iconst 0, 1) by decide +kernel) ?_
    exact j_ret (rokZ (show decode cX12_isSign 131 = .ok (.ireturn, 1) by decide +kernel) rfl (Or.inl rfl)) ⟨rfl, rfl, h⟩
  · refine j_tableIn (tgt := 130) hr0 (show decode cX12_isSign 1 = .ok (.tableswitch 129 35 62 #[127, 129, 129, 129, 129, 127, 127, 127, 127, 129, 127, 129, 127, 129, 129, 129, 129, 129, 129, 129, 129, 129, 129, 127, 127, 127, 127, 127], 127) by decide +kernel) (by omega) (by omega) (by rw [c]; rfl) (by decide) ?_
    have h := h.2.2.2.2.1 c
    refine j_iconst (show decode cX12_isSign 130 = .ok (.iconst 0, 1) by decide +kernel) ?_
    exact j_ret (rokZ (show decode cX12_isSign 131 = .ok (.ireturn, 1) by decide +kernel) rfl (Or.inl rfl)) ⟨rfl, rfl, h⟩
  · refine j_tableIn (tgt := 130) hr0 (show decode cX12_isSign 1 = .ok (.tableswitch 129 35 62 #[127, 129, 129, 129, 129, 127, 127, 127, 127, 129, 127, 129, 127, 129, 129, 129, 129, 129, 129, 129, 129, 129, 129, 127, 127, 127, 127, 127], 127) by decide +kernel) (by omega) (by omega) (by rw [c]; rfl) (by decide) ?_
    have h := h.2.2.2.2.2.1 c
    refine j_iconst (show decode cX12_isSign 130 = .ok (.iconst 0, 1) by decide +kernel) ?_
    exact j_ret (rokZ (show decode cX12_isSign 131 = .ok (.ireturn, 1) by decide +kernel) rfl (Or.inl rfl)) ⟨rfl, rfl, h⟩
  · refine j_tableIn (tgt := 128) hr0 (show decode cX12_isSign 1 = .ok (.tableswitch 129 35 62 #[127, 129, 129, 129, 129, 127, 127, 127, 127, 129, 127, 129, 127, 129, 129, 129, 129, 129, 129, 129, 129, 129, 129, 127, 127, 127, 127, 127], 127) by decide +kernel) (by omega) (by omega) (by rw [c]; rfl) (by decide) ?_
    have h := h.2.2.2.2.2.2.1 c
    refine j_iconst (show decode cX12_isSign 128 = .ok (.iconst 1, 1) by decide +kernel) ?_
    exact j_ret (rokZ (show decode cX12_isSign 129 = .ok (.ireturn, 1) by decide +kernel) rfl (Or.inr rfl)) ⟨rfl, rfl, h⟩
  · refine j_tableIn (tgt := 128) hr0 (show decode cX12_isSign 1 = .ok (.tableswitch 129 35 62 #[127, 129, 129, 129, 129, 127, 127, 127, 127, 129, 127, 129, 127, 129, 129, 129, 129, 129, 129, 129, 129, 129, 129, 127, 127, 127, 127, 127], 127) by decide +kernel) (by omega) (by omega) (by rw [c]; rfl) (by decide) ?_
    have h := h.2.2.2.2.2.2.2.1 c
    refine j_iconst (show decode cX12_isSign 128 = .ok (.iconst 1, 1) by decide +kernel) ?_
    exact j_ret (rokZ (show decode cX12_isSign 129 = .ok (.ireturn, 1) by decide +kernel) rfl (Or.inr rfl)) ⟨rfl, rfl, h⟩
  · refine j_tableIn (tgt := 128) hr0 (show decode cX12_isSign 1 = .ok (.tableswitch 129 35 62 #[127, 129, 129, 129, 129, 127, 127, 127, 127, 129, 127, 129, 127, 129, 129, 129, 129, 129, 129, 129, 129, 129, 129, 127, 127, 127, 127, 127], 127) by decide +kernel) (by omega) (by omega) (by rw [c]; rfl) (by decide) ?_
    have h := h.2.2.2.2.2.2.2.2.1 c
    refine j_iconst (show decode cX12_isSign 128 = .ok (.iconst 1, 1) by decide +kernel) ?_
    exact j_ret (rokZ (show decode cX12_isSign 129 = .ok (.ireturn, 1) by decide +kernel) rfl (Or.inr rfl)) ⟨rfl, rfl, h⟩
  · refine j_tableIn (tgt := 128) hr0 (show decode cX12_isSign 1 = .ok (.tableswitch 129 35 62 #[127, 129, 129, 129, 129, 127, 127, 127, 127, 129, 127, 129, 127, 129, 129, 129, 129, 129, 129, 129, 129, 129, 129, 127, 127, 127, 127, 127], 127) by decide +kernel) (by omega) (by omega) (by rw [c]; rfl) (by decide) ?_
    have h := h.2.2.2.2.2.2.2.2.2.1 c
    refine j_iconst (show decode cX12_isSign 128 = .ok (.iconst 1, 1) by decide +kernel) ?_
    exact j_ret (rokZ (show decode cX12_isSign 129 = .ok (.ireturn, 1) by decide +kernel) rfl (Or.inr rfl)) ⟨rfl, rfl, h⟩
  · refine j_tableIn (tgt := 130) hr0 (show decode cX12_isSign 1 = .ok (.tableswitch 129 35 62 #[127, 129, 129, 129, 129, 127, 127, 127, 127, 129, 127, 129, 127, 129, 129, 129, 129, 129, 129, 129, 129, 129, 129, 127, 127, 127, 127, 127], 127) by decide +kernel) (by omega) (by omega) (by rw [c]; rfl) (by decide) ?_
    have h := h.2.2.2.2.2.2.2.2.2.2.1 c
    refine j_iconst (show decode cX12_isSign 130 = .ok (.iconst 0, 1) by decide +kernel) ?_
    exact j_ret (rokZ (show decode cX12_isSign 131 = .ok (.ireturn, 1) by decide +kernel) rfl (Or.inl rfl)) ⟨rfl, rfl, h⟩
  · refine j_tableIn (tgt := 128) hr0 (show decode cX12_isSign 1 = .ok (.tableswitch 129 35 62 #[127, 129, 129, 129, 129, 127, 127, 127, 127, 129, 127, 129, 127, 129, 129, 129, 129, 129, 129, 129, 129, 129, 129, 127, 127, 127, 127, 127], 127) by decide +kernel) (by omega) (by omega) (by rw [c]; rfl) (by decide) ?_
    have h := h.2.2.2.2.2.2.2.2.2.2.2.1 c
    refine j_iconst (show decode cX12_isSign 128 = .ok (.iconst 1, 1) by decide +kernel) ?_
    exact j_ret (rokZ (show decode cX12_isSign 129 = .ok (.ireturn, 1) by decide +kernel) rfl (Or.inr rfl)) ⟨rfl, rfl, h⟩
  · refine j_tableIn (tgt := 130) hr0 (show decode cX12_isSign 1 = .ok (.tableswitch 129 35 62 #[127, 129, 129, 129, 129, 127, 127, 127, 127, 129, 127, 129, 127, 129, 129, 129, 129, 129, 129, 129, 129, 129, 129, 127, 127, 127, 127, 127], 127) by decide +kernel) (by omega) (by omega) (by rw [c]; rfl) (by decide) ?_
    have h := h.2.2.2.2.2.2.2.2.2.2.2.2.1 c
    refine j_iconst (show decode cX12_isSign 130 = .ok (.iconst 0, 1) by decide +kernel) ?_
    exact j_ret (rokZ (show decode cX12_isSign 131 = .ok (.ireturn, 1) by decide +kernel) rfl (Or.inl rfl)) ⟨rfl, rfl, h⟩
  · refine j_tableIn (tgt := 128) hr0 (show decode cX12_isSign 1 = .ok (.tableswitch 129 35 62 #[127, 129, 129, 129, 129, 127, 127, 127, 127, 129, 127, 129, 127, 129, 129, 129, 129, 129, 129, 129, 129, 129, 129, 127, 127, 127, 127, 127], 127) by decide +kernel) (by omega) (by omega) (by rw [c]; rfl) (by decide) ?_
    have h := h.2.2.2.2.2.2.2.2.2.2.2.2.2.1 c
    refine j_iconst (show decode cX12_isSign 128 = .ok (.iconst 1, 1) by decide +kernel) ?_
    exact j_ret (rokZ (show decode cX12_isSign 129 = .ok (.ireturn, 1) by decide +kernel) rfl (Or.inr rfl)) ⟨rfl, rfl, h⟩
  · refine j_tableIn (tgt := 130) hr0 (show decode cX12_isSign 1 = .ok (.tableswitch 129 35 62 #[127, 129, 129, 129, 129, 127, 127, 127, 127, 129, 127, 129, 127, 129, 129, 129, 129, 129, 129, 129, 129, 129, 129, 127, 127, 127, 127, 127], 127) by decide +kernel) (by omega) (by omega) (by rw [c]; rfl) (by decide) ?_
    have h := h.2.2.2.2.2.2.2.2.2.2.2.2.2.2.1 c
    refine j_iconst (show decode cX12_isSign 130 = .ok (.iconst 0, 1) by decide +kernel) ?_
    exact j_ret (rokZ (show decode cX12_isSign 131 = .ok (.ireturn, 1) by decide +kernel) rfl (Or.inl rfl)) ⟨rfl, rfl, h⟩
  · refine j_tableIn (tgt := 130) hr0 (show decode cX12_isSign 1 = .ok (.tableswitch 129 35 62 #[127, 129, 129, 129, 129, 127, 127, 127, 127, 129, 127, 129, 127, 129, 129, 129, 129, 129, 129, 129, 129, 129, 129, 127, 127, 127, 127, 127], 127) by decide +kernel) (by omega) (by omega) (by rw [c]; rfl) (by decide) ?_
    have h := h.2.2.2.2.2.2.2.2.2.2.2.2.2.2.2.1 c
    refine j_iconst (show decode cX12_isSign 130 = .ok (.iconst 0, 1) by decide +kernel) ?_
    exact j_ret (rokZ (show decode cX12_isSign 131 = .ok (.ireturn, 1) by decide +kernel) rfl (Or.inl rfl)) ⟨rfl, rfl, h⟩
  · refine j_tableIn (tgt := 130) hr0 (show decode cX12_isSign 1 = .ok (.tableswitch 129 35 62 #[127, 129, 129, 129, 129, 127, 127, 127, 127, 129, 127, 129, 127, 129, 129, 129, 129, 129, 129, 129, 129, 129, 129, 127, 127, 127, 127, 127], 127) by decide +kernel) (by omega) (by omega) (by rw [c]; rfl) (by decide) ?_
    have h := h.2.2.2.2.2.2.2.2.2.2.2.2.2.2.2.2.1 c
    refine j_iconst (show decode cX12_isSign 130 = .ok (.iconst 0, 1) by decide +kernel) ?_
    exact j_ret (rokZ (show decode cX12_isSign 131 = .ok (.ireturn, 1) by decide +kernel) rfl (Or.inl rfl)) ⟨rfl, rfl, h⟩
  · refine j_tableIn (tgt := 130) hr0 (show decode cX12_isSign 1 = .ok (.tableswitch 129 35 62 #[127, 129, 129, 129, 129, 127, 127, 127, 127, 129, 127, 129, 127, 129, 129, 129, 129, 129, 129, 129, 129, 129, 129, 127, 127, 127, 127, 127], 127) by decide +kernel) (by omega) (by omega) (by rw [c]; rfl) (by decide) ?_
    have h := h.2.2.2.2.2.2.2.2.2.2.2.2.2.2.2.2.2.1 c
    refine j_iconst (show decode cX12_isSign 130 = .ok (.iconst 0, 1) by decide +kernel) ?_
    exact j_ret (rokZ (show decode cX12_isSign 131 = .ok (.ireturn, 1) by decide +kernel) rfl (Or.inl rfl)) ⟨rfl, rfl, h⟩
  · refine j_tableIn (tgt := 130) hr0 (show decode cX12_isSign 1 = .ok (.tableswitch 129 35 62 #[127, 129, 129, 129, 129, 127, 127, 127, 127, 129, 127, 129, 127, 129, 129, 129, 129, 129, 129, 129, 129, 129, 129, 127, 127, 127, 127, 127], 127) by decide +kernel) (by omega) (by omega) (by rw [c]; rfl) (by decide) ?_
    have h := h.2.2.2.2.2.2.2.2.2.2.2.2.2.2.2.2.2.2.1 c
    refine j_iconst (show decode cX12_isSign 130 = .ok (.iconst 0, 1) by decide +kernel) ?_
    exact j_ret (rokZ (show decode cX12_isSign 131 = .ok (.ireturn, 1) by decide +kernel) rfl (Or.inl rfl)) ⟨rfl, rfl, h⟩
  · refine j_tableIn (tgt := 130) hr0 (show decode cX12_isSign 1 = .ok (.tableswitch 129 35 62 #[127, 129, 129, 129, 129, 127, 127, 127, 127, 129, 127, 129, 127, 129, 129, 129, 129, 129, 129, 129, 129, 129, 129, 127, 127, 127, 127, 127], 127) by decide +kernel) (by omega) (by omega) (by rw [c]; rfl) (by decide) ?_
    have h := h.2.2.2.2.2.2.2.2.2.2.2.2.2.2.2.2.2.2.2.1 c
    refine j_iconst (show decode cX12_isSign 130 = .ok (.iconst 0, 1) by decide +kernel) ?_
    exact j_ret (rokZ (show decode cX12_isSign 131 = .ok (.ireturn, 1) by decide +kernel) rfl (Or.inl rfl)) ⟨rfl, rfl, h⟩
  · refine j_tableIn (tgt := 130) hr0 (show decode cX12_isSign 1 = .ok (.tableswitch 129 35 62 #[127, 129, 129, 129, 129, 127, 127, 127, 127, 129, 127, 129, 127, 129, 129, 129, 129, 129, 129, 129, 129, 129, 129, 127, 127, 127, 127, 127], 127) by decide +kernel) (by omega) (by omega) (by rw [c]; rfl) (by decide) ?_
    have h := h.2.2.2.2.2.2.2.2.2.2.2.2.2.2.2.2.2.2.2.2.1 c
    refine j_iconst (show decode cX12_isSign 130 = .ok (.iconst 0, 1) by decide +kernel) ?_
    exact j_ret (rokZ (show decode cX12_isSign 131 = .ok (.ireturn, 1) by decide +kernel) rfl (Or.inl rfl)) ⟨rfl, rfl, h⟩
  · refine j_tableIn (tgt := 130) hr0 (show decode cX12_isSign 1 = .ok (.tableswitch 129 35 62 #[127, 129, 129, 129, 129, 127, 127, 127, 127, 129, 127, 129, 127, 129, 129, 129, 129, 129, 129, 129, 129, 129, 129, 127, 127, 127, 127, 127], 127) by decide +kernel) (by omega) (by omega) (by rw [c]; rfl) (by decide) ?_
    have h := h.2.2.2.2.2.2.2.2.2.2.2.2.2.2.2.2.2.2.2.2.2.1 c
    refine j_iconst (show decode cX12_isSign 130 = .ok (.iconst 0, 1) by decide +kernel) ?_
    exact j_ret (rokZ (show decode cX12_isSign 131 = .ok (.ireturn, 1) by decide +kernel) rfl (Or.inl rfl)) ⟨rfl, rfl, h⟩
  · refine j_tableIn (tgt := 130) hr0 (show decode cX12_isSign 1 = .ok (.tableswitch 129 35 62 #[127, 129, 129, 129, 129, 127, 127, 127, 127, 129, 127, 129, 127, 129, 129, 129, 129, 129, 129, 129, 129, 129, 129, 127, 127, 127, 127, 127], 127) by decide +kernel) (by omega) (by omega) (by rw [c]; rfl) (by decide) ?_
    have h := h.2.2.2.2.2.2.2.2.2.2.2.2.2.2.2.2.2.2.2.2.2.2.1 c
    refine j_iconst (show decode cX12_isSign 130 = .ok (.iconst 0, 1) by decide +kernel) ?_
    exact j_ret (rokZ (show decode cX12_isSign 131 = .ok (.ireturn, 1) by decide +kernel) rfl (Or.inl rfl)) ⟨rfl, rfl, h⟩
  · refine j_tableIn (tgt := 130) hr0 (show decode cX12_isSign 1 = .ok (.tableswitch 129 35 62 #[127, 129, 129, 129, 129, 127, 127, 127, 127, 129, 127, 129, 127, 129, 129, 129, 129, 129, 129, 129, 129, 129, 129, 127, 127, 127, 127, 127], 127) by decide +kernel) (by omega) (by omega) (by rw [c]; rfl) (by decide) ?_
    have h := h.2.2.2.2.2.2.2.2.2.2.2.2.2.2.2.2.2.2.2.2.2.2.2.1 c
    refine j_iconst (show decode cX12_isSign 130 = .ok (.iconst 0, 1) by decide +kernel) ?_
    exact j_ret (rokZ (show decode cX12_isSign 131 = .ok (.ireturn, 1) by decide +kernel) rfl (Or.inl rfl)) ⟨rfl, rfl, h⟩
  · refine j_tableIn (tgt := 128) hr0 (show decode cX12_isSign 1 = .ok (.tableswitch 129 35 62 #[127, 129, 129, 129, 129, 127, 127, 127, 127, 129, 127, 129, 127, 129, 129, 129, 129, 129, 129, 129, 129, 129, 129, 127, 127, 127, 127, 127], 127) by decide +kernel) (by omega) (by omega) (by rw [c]; rfl) (by decide) ?_
    have h := h.2.2.2.2.2.2.2.2.2.2.2.2.2.2.2.2.2.2.2.2.2.2.2.2.1 c
    refine j_iconst (show decode cX12_isSign 128 = .ok (.iconst 1, 1) by decide +kernel) ?_
    exact j_ret (rokZ (show decode cX12_isSign 129 = .ok (.ireturn, 1) by decide +kernel) rfl (Or.inr rfl)) ⟨rfl, rfl, h⟩
  · refine j_tableIn (tgt := 128) hr0 (show decode cX12_isSign 1 = .ok (.tableswitch 129 35 62 #[127, 129, 129, 129, 129, 127, 127, 127, 127, 129, 127, 129, 127, 129, 129, 129, 129, 129, 129, 129, 129, 129, 129, 127, 127, 127, 127, 127], 127) by decide +kernel) (by omega) (by omega) (by rw [c]; rfl) (by decide) ?_
    have h := h.2.2.2.2.2.2.2.2.2.2.2.2.2.2.2.2.2.2.2.2.2.2.2.2.2.1 c
    refine j_iconst (show decode cX12_isSign 128 = .ok (.iconst 1, 1) by decide +kernel) ?_
    exact j_ret (rokZ (show decode cX12_isSign 129 = .ok (.ireturn, 1) by decide +kernel) rfl (Or.inr rfl)) ⟨rfl, rfl, h⟩
  · refine j_tableIn (tgt := 128) hr0 (show decode cX12_isSign 1 = .ok (.tableswitch 129 35 62 #[127, 129, 129, 129, 129, 127, 127, 127, 127, 129, 127, 129, 127, 129, 129, 129, 129, 129, 129, 129, 129, 129, 129, 127, 127, 127, 127, 127], 127) by decide +kernel) (by omega) (by omega) (by rw [c]; rfl) (by decide) ?_
    have h := h.2.2.2.2.2.2.2.2.2.2.2.2.2.2.2.2.2.2.2.2.2.2.2.2.2.2.1 c
    refine j_iconst (show decode cX12_isSign 128 = .ok (.iconst 1, 1) by decide +kernel) ?_
    exact j_ret (rokZ (show decode cX12_isSign 129 = .ok (.ireturn, 1) by decide +kernel) rfl (Or.inr rfl)) ⟨rfl, rfl, h⟩
  · refine j_tableIn (tgt := 128) hr0 (show decode cX12_isSign 1 = .ok (.tableswitch 129 35 62 #[127, 129, 129, 129, 129, 127, 127, 127, 127, 129, 127, 129, 127, 129, 129, 129, 129, 129, 129, 129, 129, 129, 129, 127, 127, 127, 127, 127], 127) by decide +kernel) (by omega) (by omega) (by rw [c]; rfl) (by decide) ?_
    have h := h.2.2.2.2.2.2.2.2.2.2.2.2.2.2.2.2.2.2.2.2.2.2.2.2.2.2.2.1 c
    refine j_iconst (show decode cX12_isSign 128 = .ok (.iconst 1, 1) by decide +kernel) ?_
    exact j_ret (rokZ (show decode cX12_isSign 129 = .ok (.ireturn, 1) by decide +kernel) rfl (Or.inr rfl)) ⟨rfl, rfl, h⟩
  · refine j_tableIn (tgt := 128) hr0 (show decode cX12_isSign 1 = .ok (.tableswitch 129 35 62 #[127, 129, 129, 129, 129, 127, 127, 127, 127, 129, 127, 129, 127, 129, 129, 129, 129, 129, 129, 129, 129, 129, 129, 127, 127, 127, 127, 127], 127) by decide +kernel) (by omega) (by omega) (by rw [c]; rfl) (by decide) ?_
    have h := h.2.2.2.2.2.2.2.2.2.2.2.2.2.2.2.2.2.2.2.2.2.2.2.2.2.2.2.2 c
    refine j_iconst (show decode cX12_isSign 128 = .ok (.iconst 1, 1) by decide +kernel) ?_
    exact j_ret (rokZ (show decode cX12_isSign 129 = .ok (.ireturn, 1) by decide +kernel) rfl (Or.inr rfl)) ⟨rfl, rfl, h⟩
theorem c_X12_isSign {d : Nat} {t : Int} {Q : Int → jM → Prop} {σ : jM} {p0 : Int} (h : (inR p0) ∧ ((p0 < 35 ∨ 62 < p0 → (Q 0 σ)) ∧ (p0 = 35 → (Q 1 σ)) ∧ (p0 = 36 → (Q 0 σ)) ∧ (p0 = 37 → (Q 0 σ)) ∧ (p0 = 38 → (Q 0 σ)) ∧ (p0 = 39 → (Q 0 σ)) ∧ (p0 = 40 → (Q 1 σ)) ∧ (p0 = 41 → (Q 1 σ)) ∧ (p0 = 42 → (Q 1 σ)) ∧ (p0 = 43 → (Q 1 σ)) ∧ (p0 = 44 → (Q 0 σ)) ∧ (p0 = 45 → (Q 1 σ)) ∧ (p0 = 46 → (Q 0 σ)) ∧ (p0 = 47 → (Q 1 σ)) ∧ (p0 = 48 → (Q 0 σ)) ∧ (p0 = 49 → (Q 0 σ)) ∧ (p0 = 50 → (Q 0 σ)) ∧ (p0 = 51 → (Q 0 σ)) ∧ (p0 = 52 → (Q 0 σ)) ∧ (p0 = 53 → (Q 0 σ)) ∧ (p0 = 54 → (Q 0 σ)) ∧ (p0 = 55 → (Q 0 σ)) ∧ (p0 = 56 → (Q 0 σ)) ∧ (p0 = 57 → (Q 0 σ)) ∧ (p0 = 58 → (Q 1 σ)) ∧ (p0 = 59 → (Q 1 σ)) ∧ (p0 = 60 → (Q 1 σ)) ∧ (p0 = 61 → (Q 1 σ)) ∧ (p0 = 62 → (Q 1 σ)))) : Ct mX12_isSign (d) 0 t [iv p0] σ Q := Ct_of (by decide +kernel) (Nat.le_of_ble_eq_true rfl) (b_X12_isSign_0 h)
set_option maxRecDepth 4000 in
theorem b_X12_nextToken_310 {d : Nat} {t : Int} {Q : Int → jM → Prop} {σ : jM} {v1 : Int} (h : Q 0 σ) : Jt mX12_nextToken (d + 1) 9 t Q 310 [rv 321, iv v1] [] σ := by
  exact j_ret (rokV (show decode cX12_nextToken 310 = .ok (.return_, 1) by decide +kernel) rfl) ⟨rfl, rfl, h⟩
set_option maxRecDepth 4000 in
theorem b_X12_nextToken_297 {d : Nat} {t : Int} {Q : Int → jM → Prop} {σ : jM} {v1 u0 : Int} (h : ∀ σ1 : jM, σ1 = up σ 321 9 u0 → (∀ σ2 : jM, σ2 = up σ1 321 7 ((σ1 321 7) + 1) → (Jt mX12_nextToken (d + 1) 9 t Q 310 [rv 321, iv v1] [] σ2))) : Jt mX12_nextToken (d + 1) 9 t Q 297 [rv 321, iv v1] [iv u0, rv 321] σ := by
  refine pf_X12_113 rfl (show decode cX12_nextToken 297 = .ok (.putfield 113, 3) by decide +kernel) okl_321 ?_
  obtain ⟨σ1, eσ1⟩ : ∃ z : jM, z = up σ 321 9 u0 := ⟨_, rfl⟩
  refine j_sig eσ1 ?_
  have h := h σ1 eσ1
  refine s_aload_n (i := 0) rfl (show decode cX12_nextToken 300 = .ok (.aload_n 0, 1) by decide +kernel) ?_
  refine j_dup (show (2 : Nat) ≠ 1 by decide) (show decode cX12_nextToken 301 = .ok (.dup, 1) by decide +kernel) ?_
  refine gf_X12_103 rfl (show decode cX12_nextToken 302 = .ok (.getfield 103, 3) by decide +kernel) okl_321 ?_
  refine j_iconst (show decode cX12_nextToken 305 = .ok (.iconst 1, 1) by decide +kernel) ?_
  refine j_iadd (show decode cX12_nextToken 306 = .ok (.iadd, 1) by decide +kernel) ?_
  refine pf_X12_103 rfl (show decode cX12_nextToken 307 = .ok (.putfield 103, 3) by decide +kernel) okl_321 ?_
  obtain ⟨σ2, eσ2⟩ : ∃ z : jM, z = up σ1 321 7 ((σ1 321 7) + 1) := ⟨_, rfl⟩
  refine j_sig eσ2 ?_
  have h := h σ2 eσ2
  exact h
set_option maxRecDepth 4000 in
theorem b_X12_nextToken_272 {d : Nat} {t : Int} {Q : Int → jM → Prop} {σ : jM} {v1 : Int} (h : Ct mX12_byteAt d 0 t [rv 321, iv (σ 321 7)] σ (fun r1 σ1 => ((inR r1) ∧ ((¬ r1 = 61 → (Jt mX12_nextToken (d + 1) 9 t Q 310 [rv 321, iv v1] [] σ1)) ∧ (r1 = 61 → ((inR v1) ∧ ((¬ v1 = 60 → (Jt mX12_nextToken (d + 1) 9 t Q 297 [rv 321, iv v1] [iv 5, rv 321] σ1)) ∧ (v1 = 60 → (Jt mX12_nextToken (d + 1) 9 t Q 297 [rv 321, iv v1] [iv 4, rv 321] σ1))))))))) : Jt mX12_nextToken (d + 1) 9 t Q 272 [rv 321, iv v1] [] σ := by
  refine s_aload_n (i := 0) rfl (show decode cX12_nextToken 272 = .ok (.aload_n 0, 1) by decide +kernel) ?_
  refine s_aload_n (i := 0) rfl (show decode cX12_nextToken 273 = .ok (.aload_n 0, 1) by decide +kernel) ?_
  refine gf_X12_103 rfl (show decode cX12_nextToken 274 = .ok (.getfield 103, 3) by decide +kernel) okl_321 ?_
  refine j_ctV (m' := mX12_byteAt) (As := [iv (σ 321 7)]) (ci := 12) (tag := 0) (N := 0) (cw_X12_106 rfl) (show decode cX12_nextToken 277 = .ok (.invokevirtual 106, 3) by decide +kernel) rfl (Nat.le_of_ble_eq_true rfl) (by decide) okl_321 rfl rfl (Nat.le_refl _) h (fun r1 σ1 h => ?_)
  refine j_bipush (n := 61) (by decide +kernel) (show decode cX12_nextToken 280 = .ok (.bipush 61, 2) by decide +kernel) ?_
  have hr1 := h.1
  have h := h.2
  refine j_icmp_ne (tgt := 310) hr1 (inl (by decide)) (show decode cX12_nextToken 282 = .ok (.if_icmp .ne 28, 3) by decide +kernel) (by decide) (fun c => ?_) (fun c => ?_)
  · have h := h.1 c
    exact h
  · have h := h.2 c
    refine s_aload_n (i := 0) rfl (show decode cX12_nextToken 285 = .ok (.aload_n 0, 1) by decide +kernel) ?_
    refine j_iload_n (i := 1) rfl (show decode cX12_nextToken 286 = .ok (.iload_n 1, 1) by decide +kernel) ?_
    refine j_bipush (n := 60) (by decide +kernel) (show decode cX12_nextToken 287 = .ok (.bipush 60, 2) by decide +kernel) ?_
    have hr2 := h.1
    have h := h.2
    refine j_icmp_ne (tgt := 296) hr2 (inl (by decide)) (show decode cX12_nextToken 289 = .ok (.if_icmp .ne 7, 3) by decide +kernel) (by decide) (fun c => ?_) (fun c => ?_)
    · have h := h.1 c
      refine j_iconst (show decode cX12_nextToken 296 = .ok (.iconst 5, 1) by decide +kernel) ?_
      exact h
    · have h := h.2 c
      refine j_iconst (show decode cX12_nextToken 292 = .ok (.iconst 4, 1) by decide +kernel) ?_
      refine j_goto (tgt := 297) (show decode cX12_nextToken 293 = .ok (.goto 4, 3) by decide +kernel) (by decide) ?_
      exact h
set_option maxRecDepth 4000 in
theorem b_X12_nextToken_168 {d : Nat} {t : Int} {Q : Int → jM → Prop} {σ : jM} {v1 : Int} (h : Ct mX12_byteAt d 0 t [rv 321, iv (σ 321 7)] σ (fun r1 σ1 => (Ct mX12_isLetterByte d 0 t [iv r1] σ1 (fun r2 σ2 => ((inR r2) ∧ ((r2 = 0 → (Jt mX12_nextToken (d + 1) 9 t Q 310 [rv 321, iv v1] [] σ2)) ∧ (¬ r2 = 0 → ((inL (l_shr (σ2 321 11) 48)) ∧ (((l_shr (σ2 321 11) 48) = 0 → (Ct mX12_byteAt d 0 t [rv 321, iv (σ2 321 7)] σ2 (fun r5 σ5 => ((inR r5) ∧ (∀ σ7 : jM, σ7 = up σ5 321 11 (l_or (l_shl (σ2 321 11) 8) r5) → (∀ σ8 : jM, σ8 = up σ7 321 7 ((σ7 321 7) + 1) → (Jt mX12_nextToken (d + 1) 9 t Q 168 [rv 321, iv v1] [] σ8))))))) ∧ (¬ (l_shr (σ2 321 11) 48) = 0 → (∀ σ9 : jM, σ9 = up σ2 321 11 1152921504606846976 → (∀ σ10 : jM, σ10 = up σ9 321 7 ((σ9 321 7) + 1) → (Jt mX12_nextToken (d + 1) 9 t Q 168 [rv 321, iv v1] [] σ10))))))))))))) : Jt mX12_nextToken (d + 1) 9 t Q 168 [rv 321, iv v1] [] σ := by
  refine s_aload_n (i := 0) rfl (show decode cX12_nextToken 168 = .ok (.aload_n 0, 1) by decide +kernel) ?_
  refine s_aload_n (i := 0) rfl (show decode cX12_nextToken 169 = .ok (.aload_n 0, 1) by decide +kernel) ?_
  refine gf_X12_103 rfl (show decode cX12_nextToken 170 = .ok (.getfield 103, 3) by decide +kernel) okl_321 ?_
  refine j_ctV (m' := mX12_byteAt) (As := [iv (σ 321 7)]) (ci := 12) (tag := 0) (N := 0) (cw_X12_106 rfl) (show decode cX12_nextToken 173 = .ok (.invokevirtual 106, 3) by decide +kernel) rfl (Nat.le_of_ble_eq_true rfl) (by decide) okl_321 rfl rfl (Nat.le_refl _) h (fun r1 σ1 h => ?_)
  refine j_ctS (m' := mX12_isLetterByte) (As := [iv r1]) (tag := 0) (cw_X12_123 rfl) (show decode cX12_nextToken 176 = .ok (.invokestatic 123, 3) by decide +kernel) rfl (Nat.le_of_ble_eq_true rfl) (by decide) (Nat.le_refl _) h (fun r2 σ2 h => ?_)
  have hr2 := h.1
  have h := h.2
  refine j_if_eq (tgt := 310) hr2 (show decode cX12_nextToken 179 = .ok (.ifCond .eq 131, 3) by decide +kernel) (by decide) (fun c => ?_) (fun c => ?_)
  · have h := h.1 c
    exact h
  · have h := h.2 c
    refine s_aload_n (i := 0) rfl (show decode cX12_nextToken 182 = .ok (.aload_n 0, 1) by decide +kernel) ?_
    refine s_aload_n (i := 0) rfl (show decode cX12_nextToken 183 = .ok (.aload_n 0, 1) by decide +kernel) ?_
    refine gf_X12_126 rfl (show decode cX12_nextToken 184 = .ok (.getfield 126, 3) by decide +kernel) okl_321 ?_
    refine j_bipush (n := 48) (by decide +kernel) (show decode cX12_nextToken 187 = .ok (.bipush 48, 2) by decide +kernel) ?_
    refine j_lshr (show decode cX12_nextToken 189 = .ok (.lshr, 1) by decide +kernel) ?_
    refine j_lconst (x := 0) (by decide +kernel) (show decode cX12_nextToken 190 = .ok (.lconst 0, 1) by decide +kernel) ?_
    have hr3 := h.1
    have h := h.2
    refine s_lif_eq (tgt := 201) hr3 (inll (by decide)) (show decode cX12_nextToken 191 = .ok (.lcmp, 1) by decide +kernel) (show decode cX12_nextToken 192 = .ok (.ifCond .eq 9, 3) by decide +kernel) (by decide) (fun c => ?_) (fun c => ?_)
    · have h := h.1 c
      refine s_aload_n (i := 0) rfl (show decode cX12_nextToken 201 = .ok (.aload_n 0, 1) by decide +kernel) ?_
      refine gf_X12_126 rfl (show decode cX12_nextToken 202 = .ok (.getfield 126, 3) by decide +kernel) okl_321 ?_
      refine j_bipush (n := 8) (by decide +kernel) (show decode cX12_nextToken 205 = .ok (.bipush 8, 2) by decide +kernel) ?_
      refine j_lshl (show decode cX12_nextToken 207 = .ok (.lshl, 1) by decide +kernel) ?_
      refine s_aload_n (i := 0) rfl (show decode cX12_nextToken 208 = .ok (.aload_n 0, 1) by decide +kernel) ?_
      refine s_aload_n (i := 0) rfl (show decode cX12_nextToken 209 = .ok (.aload_n 0, 1) by decide +kernel) ?_
      refine gf_X12_103 rfl (show decode cX12_nextToken 210 = .ok (.getfield 103, 3) by decide +kernel) okl_321 ?_
      refine j_ctV (m' := mX12_byteAt) (As := [iv (σ2 321 7)]) (ci := 12) (tag := 0) (N := 0) (cw_X12_106 rfl) (show decode cX12_nextToken 213 = .ok (.invokevirtual 106, 3) by decide +kernel) rfl (Nat.le_of_ble_eq_true rfl) (by decide) okl_321 rfl rfl (Nat.le_refl _) h (fun r5 σ5 h => ?_)
      have hr5 := h.1
      have h := h.2
      refine j_i2l hr5 (show decode cX12_nextToken 216 = .ok (.i2l, 1) by decide +kernel) ?_
      refine j_lor (show decode cX12_nextToken 217 = .ok (.lor, 1) by decide +kernel) ?_
      refine pf_X12_126 rfl (show decode cX12_nextToken 218 = .ok (.putfield 126, 3) by decide +kernel) okl_321 ?_
      obtain ⟨σ7, eσ7⟩ : ∃ z : jM, z = up σ5 321 11 (l_or (l_shl (σ2 321 11) 8) r5) := ⟨_, rfl⟩
      refine j_sig eσ7 ?_
      have h := h σ7 eσ7
      refine s_aload_n (i := 0) rfl (show decode cX12_nextToken 221 = .ok (.aload_n 0, 1) by decide +kernel) ?_
      refine j_dup (show (2 : Nat) ≠ 1 by decide) (show decode cX12_nextToken 222 = .ok (.dup, 1) by decide +kernel) ?_
      refine gf_X12_103 rfl (show decode cX12_nextToken 223 = .ok (.getfield 103, 3) by decide +kernel) okl_321 ?_
      refine j_iconst (show decode cX12_nextToken 226 = .ok (.iconst 1, 1) by decide +kernel) ?_
      refine j_iadd (show decode cX12_nextToken 227 = .ok (.iadd, 1) by decide +kernel) ?_
      refine pf_X12_103 rfl (show decode cX12_nextToken 228 = .ok (.putfield 103, 3) by decide +kernel) okl_321 ?_
      obtain ⟨σ8, eσ8⟩ : ∃ z : jM, z = up σ7 321 7 ((σ7 321 7) + 1) := ⟨_, rfl⟩
      refine j_sig eσ8 ?_
      have h := h σ8 eσ8
      refine j_goto (tgt := 168) (show decode cX12_nextToken 231 = .ok (.goto (-63), 3) by decide +kernel) (by decide) ?_
      exact h
    · have h := h.2 c
      refine j_ldc2 (x := 1152921504606846976) (tt_in 1388 (by decide +kernel) rfl) (show decode cX12_nextToken 195 = .ok (.ldc2_w 130, 3) by decide +kernel) ?_
      refine j_goto (tgt := 218) (show decode cX12_nextToken 198 = .ok (.goto 20, 3) by decide +kernel) (by decide) ?_
      refine pf_X12_126 rfl (show decode cX12_nextToken 218 = .ok (.putfield 126, 3) by decide +kernel) okl_321 ?_
      obtain ⟨σ9, eσ9⟩ : ∃ z : jM, z = up σ2 321 11 1152921504606846976 := ⟨_, rfl⟩
      refine j_sig eσ9 ?_
      have h := h σ9 eσ9
      refine s_aload_n (i := 0) rfl (show decode cX12_nextToken 221 = .ok (.aload_n 0, 1) by decide +kernel) ?_
      refine j_dup (show (2 : Nat) ≠ 1 by decide) (show decode cX12_nextToken 222 = .ok (.dup, 1) by decide +kernel) ?_
      refine gf_X12_103 rfl (show decode cX12_nextToken 223 = .ok (.getfield 103, 3) by decide +kernel) okl_321 ?_
      refine j_iconst (show decode cX12_nextToken 226 = .ok (.iconst 1, 1) by decide +kernel) ?_
      refine j_iadd (show decode cX12_nextToken 227 = .ok (.iadd, 1) by decide +kernel) ?_
      refine pf_X12_103 rfl (show decode cX12_nextToken 228 = .ok (.putfield 103, 3) by decide +kernel) okl_321 ?_
      obtain ⟨σ10, eσ10⟩ : ∃ z : jM, z = up σ9 321 7 ((σ9 321 7) + 1) := ⟨_, rfl⟩
      refine j_sig eσ10 ?_
      have h := h σ10 eσ10
      refine j_goto (tgt := 168) (show decode cX12_nextToken 231 = .ok (.goto (-63), 3) by decide +kernel) (by decide) ?_
      exact h
set_option maxRecDepth 4000 in
theorem b_X12_nextToken_85 {d : Nat} {t : Int} {Q : Int → jM → Prop} {σ : jM} {v1 : Int} (h : Ct mX12_byteAt d 0 t [rv 321, iv (σ 321 7)] σ (fun r1 σ1 => (Ct mX12_isFigure d 0 t [iv r1] σ1 (fun r2 σ2 => ((inR r2) ∧ ((r2 = 0 → (Jt mX12_nextToken (d + 1) 9 t Q 310 [rv 321, iv v1] [] σ2)) ∧ (¬ r2 = 0 → ((inR (σ2 321 10)) ∧ (((σ2 321 10) ≤ 99999 → (Ct mX12_byteAt d 0 t [rv 321, iv (σ2 321 7)] σ2 (fun r5 σ5 => (∀ σ6 : jM, σ6 = up σ5 321 10 (((10 * (σ2 321 10)) + r5) - 48) → (∀ σ7 : jM, σ7 = up σ6 321 7 ((σ6 321 7) + 1) → (Jt mX12_nextToken (d + 1) 9 t Q 85 [rv 321, iv v1] [] σ7)))))) ∧ (99999 < (σ2 321 10) → (∀ σ8 : jM, σ8 = up σ2 321 10 (σ2 321 10) → (∀ σ9 : jM, σ9 = up σ8 321 7 ((σ8 321 7) + 1) → (Jt mX12_nextToken (d + 1) 9 t Q 85 [rv 321, iv v1] [] σ9))))))))))))) : Jt mX12_nextToken (d + 1) 9 t Q 85 [rv 321, iv v1] [] σ := by
  refine s_aload_n (i := 0) rfl (show decode cX12_nextToken 85 = .ok (.aload_n 0, 1) by decide +kernel) ?_
  refine s_aload_n (i := 0) rfl (show decode cX12_nextToken 86 = .ok (.aload_n 0, 1) by decide +kernel) ?_
  refine gf_X12_103 rfl (show decode cX12_nextToken 87 = .ok (.getfield 103, 3) by decide +kernel) okl_321 ?_
  refine j_ctV (m' := mX12_byteAt) (As := [iv (σ 321 7)]) (ci := 12) (tag := 0) (N := 0) (cw_X12_106 rfl) (show decode cX12_nextToken 90 = .ok (.invokevirtual 106, 3) by decide +kernel) rfl (Nat.le_of_ble_eq_true rfl) (by decide) okl_321 rfl rfl (Nat.le_refl _) h (fun r1 σ1 h => ?_)
  refine j_ctS (m' := mX12_isFigure) (As := [iv r1]) (tag := 0) (cw_X12_116 rfl) (show decode cX12_nextToken 93 = .ok (.invokestatic 116, 3) by decide +kernel) rfl (Nat.le_of_ble_eq_true rfl) (by decide) (Nat.le_refl _) h (fun r2 σ2 h => ?_)
  have hr2 := h.1
  have h := h.2
  refine j_if_eq (tgt := 310) hr2 (show decode cX12_nextToken 96 = .ok (.ifCond .eq 214, 3) by decide +kernel) (by decide) (fun c => ?_) (fun c => ?_)
  · have h := h.1 c
    exact h
  · have h := h.2 c
    refine s_aload_n (i := 0) rfl (show decode cX12_nextToken 99 = .ok (.aload_n 0, 1) by decide +kernel) ?_
    refine s_aload_n (i := 0) rfl (show decode cX12_nextToken 100 = .ok (.aload_n 0, 1) by decide +kernel) ?_
    refine gf_X12_119 rfl (show decode cX12_nextToken 101 = .ok (.getfield 119, 3) by decide +kernel) okl_321 ?_
    refine j_ldc (x := 99999) (tt_in 1384 (by decide +kernel) rfl) (show decode cX12_nextToken 104 = .ok (.ldc 122, 2) by decide +kernel) ?_
    have hr3 := h.1
    have h := h.2
    refine j_icmp_le (tgt := 116) hr3 (inl (by decide)) (show decode cX12_nextToken 106 = .ok (.if_icmp .le 10, 3) by decide +kernel) (by decide) (fun c => ?_) (fun c => ?_)
    · have h := h.1 c
      refine j_bipush (n := 10) (by decide +kernel) (show decode cX12_nextToken 116 = .ok (.bipush 10, 2) by decide +kernel) ?_
      refine s_aload_n (i := 0) rfl (show decode cX12_nextToken 118 = .ok (.aload_n 0, 1) by decide +kernel) ?_
      refine gf_X12_119 rfl (show decode cX12_nextToken 119 = .ok (.getfield 119, 3) by decide +kernel) okl_321 ?_
      refine j_imul (show decode cX12_nextToken 122 = .ok (.imul, 1) by decide +kernel) ?_
      refine s_aload_n (i := 0) rfl (show decode cX12_nextToken 123 = .ok (.aload_n 0, 1) by decide +kernel) ?_
      refine s_aload_n (i := 0) rfl (show decode cX12_nextToken 124 = .ok (.aload_n 0, 1) by decide +kernel) ?_
      refine gf_X12_103 rfl (show decode cX12_nextToken 125 = .ok (.getfield 103, 3) by decide +kernel) okl_321 ?_
      refine j_ctV (m' := mX12_byteAt) (As := [iv (σ2 321 7)]) (ci := 12) (tag := 0) (N := 0) (cw_X12_106 rfl) (show decode cX12_nextToken 128 = .ok (.invokevirtual 106, 3) by decide +kernel) rfl (Nat.le_of_ble_eq_true rfl) (by decide) okl_321 rfl rfl (Nat.le_refl _) h (fun r5 σ5 h => ?_)
      refine j_iadd (show decode cX12_nextToken 131 = .ok (.iadd, 1) by decide +kernel) ?_
      refine j_bipush (n := 48) (by decide +kernel) (show decode cX12_nextToken 132 = .ok (.bipush 48, 2) by decide +kernel) ?_
      refine j_isub (show decode cX12_nextToken 134 = .ok (.isub, 1) by decide +kernel) ?_
      refine pf_X12_119 rfl (show decode cX12_nextToken 135 = .ok (.putfield 119, 3) by decide +kernel) okl_321 ?_
      obtain ⟨σ6, eσ6⟩ : ∃ z : jM, z = up σ5 321 10 (((10 * (σ2 321 10)) + r5) - 48) := ⟨_, rfl⟩
      refine j_sig eσ6 ?_
      have h := h σ6 eσ6
      refine s_aload_n (i := 0) rfl (show decode cX12_nextToken 138 = .ok (.aload_n 0, 1) by decide +kernel) ?_
      refine j_dup (show (2 : Nat) ≠ 1 by decide) (show decode cX12_nextToken 139 = .ok (.dup, 1) by decide +kernel) ?_
      refine gf_X12_103 rfl (show decode cX12_nextToken 140 = .ok (.getfield 103, 3) by decide +kernel) okl_321 ?_
      refine j_iconst (show decode cX12_nextToken 143 = .ok (.iconst 1, 1) by decide +kernel) ?_
      refine j_iadd (show decode cX12_nextToken 144 = .ok (.iadd, 1) by decide +kernel) ?_
      refine pf_X12_103 rfl (show decode cX12_nextToken 145 = .ok (.putfield 103, 3) by decide +kernel) okl_321 ?_
      obtain ⟨σ7, eσ7⟩ : ∃ z : jM, z = up σ6 321 7 ((σ6 321 7) + 1) := ⟨_, rfl⟩
      refine j_sig eσ7 ?_
      have h := h σ7 eσ7
      refine j_goto (tgt := 85) (show decode cX12_nextToken 148 = .ok (.goto (-63), 3) by decide +kernel) (by decide) ?_
      exact h
    · have h := h.2 c
      refine s_aload_n (i := 0) rfl (show decode cX12_nextToken 109 = .ok (.aload_n 0, 1) by decide +kernel) ?_
      refine gf_X12_119 rfl (show decode cX12_nextToken 110 = .ok (.getfield 119, 3) by decide +kernel) okl_321 ?_
      refine j_goto (tgt := 135) (show decode cX12_nextToken 113 = .ok (.goto 22, 3) by decide +kernel) (by decide) ?_
      refine pf_X12_119 rfl (show decode cX12_nextToken 135 = .ok (.putfield 119, 3) by decide +kernel) okl_321 ?_
      obtain ⟨σ8, eσ8⟩ : ∃ z : jM, z = up σ2 321 10 (σ2 321 10) := ⟨_, rfl⟩
      refine j_sig eσ8 ?_
      have h := h σ8 eσ8
      refine s_aload_n (i := 0) rfl (show decode cX12_nextToken 138 = .ok (.aload_n 0, 1) by decide +kernel) ?_
      refine j_dup (show (2 : Nat) ≠ 1 by decide) (show decode cX12_nextToken 139 = .ok (.dup, 1) by decide +kernel) ?_
      refine gf_X12_103 rfl (show decode cX12_nextToken 140 = .ok (.getfield 103, 3) by decide +kernel) okl_321 ?_
      refine j_iconst (show decode cX12_nextToken 143 = .ok (.iconst 1, 1) by decide +kernel) ?_
      refine j_iadd (show decode cX12_nextToken 144 = .ok (.iadd, 1) by decide +kernel) ?_
      refine pf_X12_103 rfl (show decode cX12_nextToken 145 = .ok (.putfield 103, 3) by decide +kernel) okl_321 ?_
      obtain ⟨σ9, eσ9⟩ : ∃ z : jM, z = up σ8 321 7 ((σ8 321 7) + 1) := ⟨_, rfl⟩
      refine j_sig eσ9 ?_
      have h := h σ9 eσ9
      refine j_goto (tgt := 85) (show decode cX12_nextToken 148 = .ok (.goto (-63), 3) by decide +kernel) (by decide) ?_
      exact h
set_option maxRecDepth 4000 in
theorem b_X12_nextToken_0 {d : Nat} {t : Int} {Q : Int → jM → Prop} {σ : jM} (h : Ct mX12_byteAt d 0 t [rv 321, iv (σ 321 7)] σ (fun r1 σ1 => ((inR r1) ∧ ((r1 = 32 → (∀ σ3 : jM, σ3 = up σ1 321 7 ((σ1 321 7) + 1) → (Jt mX12_nextToken (d + 1) 9 t Q 0 [rv 321, uv] [] σ3))) ∧ (¬ r1 = 32 → (Ct mX12_byteAt d 0 t [rv 321, iv (σ1 321 7)] σ1 (fun r4 σ4 => ((inR r4) ∧ ((¬ r4 = 10 → (∀ σ6 : jM, σ6 = up σ4 321 8 (σ4 321 7) → (Ct mX12_byteAt d 0 t [rv 321, iv (σ6 321 7)] σ6 (fun r7 σ7 => ((inR r7) ∧ ((0 ≤ r7 → (Ct mX12_isFigure d 0 t [iv r7] σ7 (fun r9 σ9 => ((inR r9) ∧ ((r9 = 0 → (Ct mX12_isLetterByte d 0 t [iv r7] σ9 (fun r11 σ11 => ((inR r11) ∧ ((r11 = 0 → (Ct mX12_isSign d 0 t [iv r7] σ11 (fun r13 σ13 => ((inR r13) ∧ ((r13 = 0 → (∀ σ15 : jM, σ15 = up σ13 321 9 3 → (∀ σ16 : jM, σ16 = up σ15 321 7 ((σ15 321 7) + 1) → ((inR r7) ∧ ((r7 = 60 → (Jt mX12_nextToken (d + 1) 9 t Q 272 [rv 321, iv r7] [] σ16)) ∧ (¬ r7 = 60 → ((inR r7) ∧ ((¬ r7 = 62 → (Jt mX12_nextToken (d + 1) 9 t Q 310 [rv 321, iv r7] [] σ16)) ∧ (r7 = 62 → (Jt mX12_nextToken (d + 1) 9 t Q 272 [rv 321, iv r7] [] σ16)))))))))) ∧ (¬ r13 = 0 → (∀ σ19 : jM, σ19 = up σ13 321 9 r7 → (∀ σ20 : jM, σ20 = up σ19 321 7 ((σ19 321 7) + 1) → ((inR r7) ∧ ((r7 = 60 → (Jt mX12_nextToken (d + 1) 9 t Q 272 [rv 321, iv r7] [] σ20)) ∧ (¬ r7 = 60 → ((inR r7) ∧ ((¬ r7 = 62 → (Jt mX12_nextToken (d + 1) 9 t Q 310 [rv 321, iv r7] [] σ20)) ∧ (r7 = 62 → (Jt mX12_nextToken (d + 1) 9 t Q 272 [rv 321, iv r7] [] σ20))))))))))))))) ∧ (¬ r11 = 0 → (∀ σ23 : jM, σ23 = up σ11 321 9 2 → (∀ σ24 : jM, σ24 = up σ23 321 11 0 → (Jt mX12_nextToken (d + 1) 9 t Q 168 [rv 321, iv r7] [] σ24))))))))) ∧ (¬ r9 = 0 → (∀ σ25 : jM, σ25 = up σ9 321 9 1 → (∀ σ26 : jM, σ26 = up σ25 321 10 0 → (Jt mX12_nextToken (d + 1) 9 t Q 85 [rv 321, iv r7] [] σ26))))))))) ∧ (r7 < 0 → (∀ σ27 : jM, σ27 = up σ7 321 9 0 → (Jt mX12_nextToken (d + 1) 9 t Q 310 [rv 321, iv r7] [] σ27))))))))) ∧ (r4 = 10 → (∀ σ28 : jM, σ28 = up σ4 321 7 ((σ4 321 7) + 1) → (Jt mX12_nextToken (d + 1) 9 t Q 0 [rv 321, uv] [] σ28)))))))))))) : Jt mX12_nextToken (d + 1) 9 t Q 0 [rv 321, uv] [] σ := by
  refine s_aload_n (i := 0) rfl (show decode cX12_nextToken 0 = .ok (.aload_n 0, 1) by decide +kernel) ?_
  refine s_aload_n (i := 0) rfl (show decode cX12_nextToken 1 = .ok (.aload_n 0, 1) by decide +kernel) ?_
  refine gf_X12_103 rfl (show decode cX12_nextToken 2 = .ok (.getfield 103, 3) by decide +kernel) okl_321 ?_
  refine j_ctV (m' := mX12_byteAt) (As := [iv (σ 321 7)]) (ci := 12) (tag := 0) (N := 0) (cw_X12_106 rfl) (show decode cX12_nextToken 5 = .ok (.invokevirtual 106, 3) by decide +kernel) rfl (Nat.le_of_ble_eq_true rfl) (by decide) okl_321 rfl rfl (Nat.le_refl _) h (fun r1 σ1 h => ?_)
  refine j_bipush (n := 32) (by decide +kernel) (show decode cX12_nextToken 8 = .ok (.bipush 32, 2) by decide +kernel) ?_
  have hr1 := h.1
  have h := h.2
  refine j_icmp_eq (tgt := 26) hr1 (inl (by decide)) (show decode cX12_nextToken 10 = .ok (.if_icmp .eq 16, 3) by decide +kernel) (by decide) (fun c => ?_) (fun c => ?_)
  · have h := h.1 c
    refine s_aload_n (i := 0) rfl (show decode cX12_nextToken 26 = .ok (.aload_n 0, 1) by decide +kernel) ?_
    refine j_dup (show (2 : Nat) ≠ 1 by decide) (show decode cX12_nextToken 27 = .ok (.dup, 1) by decide +kernel) ?_
    refine gf_X12_103 rfl (show decode cX12_nextToken 28 = .ok (.getfield 103, 3) by decide +kernel) okl_321 ?_
    refine j_iconst (show decode cX12_nextToken 31 = .ok (.iconst 1, 1) by decide +kernel) ?_
    refine j_iadd (show decode cX12_nextToken 32 = .ok (.iadd, 1) by decide +kernel) ?_
    refine pf_X12_103 rfl (show decode cX12_nextToken 33 = .ok (.putfield 103, 3) by decide +kernel) okl_321 ?_
    obtain ⟨σ3, eσ3⟩ : ∃ z : jM, z = up σ1 321 7 ((σ1 321 7) + 1) := ⟨_, rfl⟩
    refine j_sig eσ3 ?_
    have h := h σ3 eσ3
    refine j_goto (tgt := 0) (show decode cX12_nextToken 36 = .ok (.goto (-36), 3) by decide +kernel) (by decide) ?_
    exact h
  · have h := h.2 c
    refine s_aload_n (i := 0) rfl (show decode cX12_nextToken 13 = .ok (.aload_n 0, 1) by decide +kernel) ?_
    refine s_aload_n (i := 0) rfl (show decode cX12_nextToken 14 = .ok (.aload_n 0, 1) by decide +kernel) ?_
    refine gf_X12_103 rfl (show decode cX12_nextToken 15 = .ok (.getfield 103, 3) by decide +kernel) okl_321 ?_
    refine j_ctV (m' := mX12_byteAt) (As := [iv (σ1 321 7)]) (ci := 12) (tag := 0) (N := 0) (cw_X12_106 rfl) (show decode cX12_nextToken 18 = .ok (.invokevirtual 106, 3) by decide +kernel) rfl (Nat.le_of_ble_eq_true rfl) (by decide) okl_321 rfl rfl (Nat.le_refl _) h (fun r4 σ4 h => ?_)
    refine j_bipush (n := 10) (by decide +kernel) (show decode cX12_nextToken 21 = .ok (.bipush 10, 2) by decide +kernel) ?_
    have hr4 := h.1
    have h := h.2
    refine j_icmp_ne (tgt := 39) hr4 (inl (by decide)) (show decode cX12_nextToken 23 = .ok (.if_icmp .ne 16, 3) by decide +kernel) (by decide) (fun c => ?_) (fun c => ?_)
    · have h := h.1 c
      refine s_aload_n (i := 0) rfl (show decode cX12_nextToken 39 = .ok (.aload_n 0, 1) by decide +kernel) ?_
      refine s_aload_n (i := 0) rfl (show decode cX12_nextToken 40 = .ok (.aload_n 0, 1) by decide +kernel) ?_
      refine gf_X12_103 rfl (show decode cX12_nextToken 41 = .ok (.getfield 103, 3) by decide +kernel) okl_321 ?_
      refine pf_X12_110 rfl (show decode cX12_nextToken 44 = .ok (.putfield 110, 3) by decide +kernel) okl_321 ?_
      obtain ⟨σ6, eσ6⟩ : ∃ z : jM, z = up σ4 321 8 (σ4 321 7) := ⟨_, rfl⟩
      refine j_sig eσ6 ?_
      have h := h σ6 eσ6
      refine s_aload_n (i := 0) rfl (show decode cX12_nextToken 47 = .ok (.aload_n 0, 1) by decide +kernel) ?_
      refine s_aload_n (i := 0) rfl (show decode cX12_nextToken 48 = .ok (.aload_n 0, 1) by decide +kernel) ?_
      refine gf_X12_103 rfl (show decode cX12_nextToken 49 = .ok (.getfield 103, 3) by decide +kernel) okl_321 ?_
      refine j_ctV (m' := mX12_byteAt) (As := [iv (σ6 321 7)]) (ci := 12) (tag := 0) (N := 0) (cw_X12_106 rfl) (show decode cX12_nextToken 52 = .ok (.invokevirtual 106, 3) by decide +kernel) rfl (Nat.le_of_ble_eq_true rfl) (by decide) okl_321 rfl rfl (Nat.le_refl _) h (fun r7 σ7 h => ?_)
      refine s_ist_n (i := 1) (L' := [rv 321, iv r7]) rfl (by decide) (show decode cX12_nextToken 55 = .ok (.istore_n 1, 1) by decide +kernel) ?_
      refine j_iload_n (i := 1) rfl (show decode cX12_nextToken 56 = .ok (.iload_n 1, 1) by decide +kernel) ?_
      have hr7 := h.1
      have h := h.2
      refine j_if_ge (tgt := 68) hr7 (show decode cX12_nextToken 57 = .ok (.ifCond .ge 11, 3) by decide +kernel) (by decide) (fun c => ?_) (fun c => ?_)
      · have h := h.1 c
        refine j_iload_n (i := 1) rfl (show decode cX12_nextToken 68 = .ok (.iload_n 1, 1) by decide +kernel) ?_
        refine j_ctS (m' := mX12_isFigure) (As := [iv r7]) (tag := 0) (cw_X12_116 rfl) (show decode cX12_nextToken 69 = .ok (.invokestatic 116, 3) by decide +kernel) rfl (Nat.le_of_ble_eq_true rfl) (by decide) (Nat.le_refl _) h (fun r9 σ9 h => ?_)
        have hr9 := h.1
        have h := h.2
        refine j_if_eq (tgt := 151) hr9 (show decode cX12_nextToken 72 = .ok (.ifCond .eq 79, 3) by decide +kernel) (by decide) (fun c => ?_) (fun c => ?_)
        · have h := h.1 c
          refine j_iload_n (i := 1) rfl (show decode cX12_nextToken 151 = .ok (.iload_n 1, 1) by decide +kernel) ?_
          refine j_ctS (m' := mX12_isLetterByte) (As := [iv r7]) (tag := 0) (cw_X12_123 rfl) (show decode cX12_nextToken 152 = .ok (.invokestatic 123, 3) by decide +kernel) rfl (Nat.le_of_ble_eq_true rfl) (by decide) (Nat.le_refl _) h (fun r11 σ11 h => ?_)
          have hr11 := h.1
          have h := h.2
          refine j_if_eq (tgt := 234) hr11 (show decode cX12_nextToken 155 = .ok (.ifCond .eq 79, 3) by decide +kernel) (by decide) (fun c => ?_) (fun c => ?_)
          · have h := h.1 c
            refine s_aload_n (i := 0) rfl (show decode cX12_nextToken 234 = .ok (.aload_n 0, 1) by decide +kernel) ?_
            refine j_iload_n (i := 1) rfl (show decode cX12_nextToken 235 = .ok (.iload_n 1, 1) by decide +kernel) ?_
            refine j_ctS (m' := mX12_isSign) (As := [iv r7]) (tag := 0) (cw_X12_132 rfl) (show decode cX12_nextToken 236 = .ok (.invokestatic 132, 3) by decide +kernel) rfl (Nat.le_of_ble_eq_true rfl) (by decide) (Nat.le_refl _) h (fun r13 σ13 h => ?_)
            have hr13 := h.1
            have h := h.2
            refine j_if_eq (tgt := 246) hr13 (show decode cX12_nextToken 239 = .ok (.ifCond .eq 7, 3) by decide +kernel) (by decide) (fun c => ?_) (fun c => ?_)
            · have h := h.1 c
              refine j_iconst (show decode cX12_nextToken 246 = .ok (.iconst 3, 1) by decide +kernel) ?_
              refine pf_X12_113 rfl (show decode cX12_nextToken 247 = .ok (.putfield 113, 3) by decide +kernel) okl_321 ?_
              obtain ⟨σ15, eσ15⟩ : ∃ z : jM, z = up σ13 321 9 3 := ⟨_, rfl⟩
              refine j_sig eσ15 ?_
              have h := h σ15 eσ15
              refine s_aload_n (i := 0) rfl (show decode cX12_nextToken 250 = .ok (.aload_n 0, 1) by decide +kernel) ?_
              refine j_dup (show (2 : Nat) ≠ 1 by decide) (show decode cX12_nextToken 251 = .ok (.dup, 1) by decide +kernel) ?_
              refine gf_X12_103 rfl (show decode cX12_nextToken 252 = .ok (.getfield 103, 3) by decide +kernel) okl_321 ?_
              refine j_iconst (show decode cX12_nextToken 255 = .ok (.iconst 1, 1) by decide +kernel) ?_
              refine j_iadd (show decode cX12_nextToken 256 = .ok (.iadd, 1) by decide +kernel) ?_
              refine pf_X12_103 rfl (show decode cX12_nextToken 257 = .ok (.putfield 103, 3) by decide +kernel) okl_321 ?_
              obtain ⟨σ16, eσ16⟩ : ∃ z : jM, z = up σ15 321 7 ((σ15 321 7) + 1) := ⟨_, rfl⟩
              refine j_sig eσ16 ?_
              have h := h σ16 eσ16
              refine j_iload_n (i := 1) rfl (show decode cX12_nextToken 260 = .ok (.iload_n 1, 1) by decide +kernel) ?_
              refine j_bipush (n := 60) (by decide +kernel) (show decode cX12_nextToken 261 = .ok (.bipush 60, 2) by decide +kernel) ?_
              have hr16 := h.1
              have h := h.2
              refine j_icmp_eq (tgt := 272) hr16 (inl (by decide)) (show decode cX12_nextToken 263 = .ok (.if_icmp .eq 9, 3) by decide +kernel) (by decide) (fun c => ?_) (fun c => ?_)
              · have h := h.1 c
                exact h
              · have h := h.2 c
                refine j_iload_n (i := 1) rfl (show decode cX12_nextToken 266 = .ok (.iload_n 1, 1) by decide +kernel) ?_
                refine j_bipush (n := 62) (by decide +kernel) (show decode cX12_nextToken 267 = .ok (.bipush 62, 2) by decide +kernel) ?_
                have hr17 := h.1
                have h := h.2
                refine j_icmp_ne (tgt := 310) hr17 (inl (by decide)) (show decode cX12_nextToken 269 = .ok (.if_icmp .ne 41, 3) by decide +kernel) (by decide) (fun c => ?_) (fun c => ?_)
                · have h := h.1 c
                  exact h
                · have h := h.2 c
                  exact h
            · have h := h.2 c
              refine j_iload_n (i := 1) rfl (show decode cX12_nextToken 242 = .ok (.iload_n 1, 1) by decide +kernel) ?_
              refine j_goto (tgt := 247) (show decode cX12_nextToken 243 = .ok (.goto 4, 3) by decide +kernel) (by decide) ?_
              refine pf_X12_113 rfl (show decode cX12_nextToken 247 = .ok (.putfield 113, 3) by decide +kernel) okl_321 ?_
              obtain ⟨σ19, eσ19⟩ : ∃ z : jM, z = up σ13 321 9 r7 := ⟨_, rfl⟩
              refine j_sig eσ19 ?_
              have h := h σ19 eσ19
              refine s_aload_n (i := 0) rfl (show decode cX12_nextToken 250 = .ok (.aload_n 0, 1) by decide +kernel) ?_
              refine j_dup (show (2 : Nat) ≠ 1 by decide) (show decode cX12_nextToken 251 = .ok (.dup, 1) by decide +kernel) ?_
              refine gf_X12_103 rfl (show decode cX12_nextToken 252 = .ok (.getfield 103, 3) by decide +kernel) okl_321 ?_
              refine j_iconst (show decode cX12_nextToken 255 = .ok (.iconst 1, 1) by decide +kernel) ?_
              refine j_iadd (show decode cX12_nextToken 256 = .ok (.iadd, 1) by decide +kernel) ?_
              refine pf_X12_103 rfl (show decode cX12_nextToken 257 = .ok (.putfield 103, 3) by decide +kernel) okl_321 ?_
              obtain ⟨σ20, eσ20⟩ : ∃ z : jM, z = up σ19 321 7 ((σ19 321 7) + 1) := ⟨_, rfl⟩
              refine j_sig eσ20 ?_
              have h := h σ20 eσ20
              refine j_iload_n (i := 1) rfl (show decode cX12_nextToken 260 = .ok (.iload_n 1, 1) by decide +kernel) ?_
              refine j_bipush (n := 60) (by decide +kernel) (show decode cX12_nextToken 261 = .ok (.bipush 60, 2) by decide +kernel) ?_
              have hr20 := h.1
              have h := h.2
              refine j_icmp_eq (tgt := 272) hr20 (inl (by decide)) (show decode cX12_nextToken 263 = .ok (.if_icmp .eq 9, 3) by decide +kernel) (by decide) (fun c => ?_) (fun c => ?_)
              · have h := h.1 c
                exact h
              · have h := h.2 c
                refine j_iload_n (i := 1) rfl (show decode cX12_nextToken 266 = .ok (.iload_n 1, 1) by decide +kernel) ?_
                refine j_bipush (n := 62) (by decide +kernel) (show decode cX12_nextToken 267 = .ok (.bipush 62, 2) by decide +kernel) ?_
                have hr21 := h.1
                have h := h.2
                refine j_icmp_ne (tgt := 310) hr21 (inl (by decide)) (show decode cX12_nextToken 269 = .ok (.if_icmp .ne 41, 3) by decide +kernel) (by decide) (fun c => ?_) (fun c => ?_)
                · have h := h.1 c
                  exact h
                · have h := h.2 c
                  exact h
          · have h := h.2 c
            refine s_aload_n (i := 0) rfl (show decode cX12_nextToken 158 = .ok (.aload_n 0, 1) by decide +kernel) ?_
            refine j_iconst (show decode cX12_nextToken 159 = .ok (.iconst 2, 1) by decide +kernel) ?_
            refine pf_X12_113 rfl (show decode cX12_nextToken 160 = .ok (.putfield 113, 3) by decide +kernel) okl_321 ?_
            obtain ⟨σ23, eσ23⟩ : ∃ z : jM, z = up σ11 321 9 2 := ⟨_, rfl⟩
            refine j_sig eσ23 ?_
            have h := h σ23 eσ23
            refine s_aload_n (i := 0) rfl (show decode cX12_nextToken 163 = .ok (.aload_n 0, 1) by decide +kernel) ?_
            refine j_lconst (x := 0) (by decide +kernel) (show decode cX12_nextToken 164 = .ok (.lconst 0, 1) by decide +kernel) ?_
            refine pf_X12_126 rfl (show decode cX12_nextToken 165 = .ok (.putfield 126, 3) by decide +kernel) okl_321 ?_
            obtain ⟨σ24, eσ24⟩ : ∃ z : jM, z = up σ23 321 11 0 := ⟨_, rfl⟩
            refine j_sig eσ24 ?_
            have h := h σ24 eσ24
            exact h
        · have h := h.2 c
          refine s_aload_n (i := 0) rfl (show decode cX12_nextToken 75 = .ok (.aload_n 0, 1) by decide +kernel) ?_
          refine j_iconst (show decode cX12_nextToken 76 = .ok (.iconst 1, 1) by decide +kernel) ?_
          refine pf_X12_113 rfl (show decode cX12_nextToken 77 = .ok (.putfield 113, 3) by decide +kernel) okl_321 ?_
          obtain ⟨σ25, eσ25⟩ : ∃ z : jM, z = up σ9 321 9 1 := ⟨_, rfl⟩
          refine j_sig eσ25 ?_
          have h := h σ25 eσ25
          refine s_aload_n (i := 0) rfl (show decode cX12_nextToken 80 = .ok (.aload_n 0, 1) by decide +kernel) ?_
          refine j_iconst (show decode cX12_nextToken 81 = .ok (.iconst 0, 1) by decide +kernel) ?_
          refine pf_X12_119 rfl (show decode cX12_nextToken 82 = .ok (.putfield 119, 3) by decide +kernel) okl_321 ?_
          obtain ⟨σ26, eσ26⟩ : ∃ z : jM, z = up σ25 321 10 0 := ⟨_, rfl⟩
          refine j_sig eσ26 ?_
          have h := h σ26 eσ26
          exact h
      · have h := h.2 c
        refine s_aload_n (i := 0) rfl (show decode cX12_nextToken 60 = .ok (.aload_n 0, 1) by decide +kernel) ?_
        refine j_iconst (show decode cX12_nextToken 61 = .ok (.iconst 0, 1) by decide +kernel) ?_
        refine pf_X12_113 rfl (show decode cX12_nextToken 62 = .ok (.putfield 113, 3) by decide +kernel) okl_321 ?_
        obtain ⟨σ27, eσ27⟩ : ∃ z : jM, z = up σ7 321 9 0 := ⟨_, rfl⟩
        refine j_sig eσ27 ?_
        have h := h σ27 eσ27
        refine j_goto (tgt := 310) (show decode cX12_nextToken 65 = .ok (.goto 245, 3) by decide +kernel) (by decide) ?_
        exact h
    · have h := h.2 c
      refine s_aload_n (i := 0) rfl (show decode cX12_nextToken 26 = .ok (.aload_n 0, 1) by decide +kernel) ?_
      refine j_dup (show (2 : Nat) ≠ 1 by decide) (show decode cX12_nextToken 27 = .ok (.dup, 1) by decide +kernel) ?_
      refine gf_X12_103 rfl (show decode cX12_nextToken 28 = .ok (.getfield 103, 3) by decide +kernel) okl_321 ?_
      refine j_iconst (show decode cX12_nextToken 31 = .ok (.iconst 1, 1) by decide +kernel) ?_
      refine j_iadd (show decode cX12_nextToken 32 = .ok (.iadd, 1) by decide +kernel) ?_
      refine pf_X12_103 rfl (show decode cX12_nextToken 33 = .ok (.putfield 103, 3) by decide +kernel) okl_321 ?_
      obtain ⟨σ28, eσ28⟩ : ∃ z : jM, z = up σ4 321 7 ((σ4 321 7) + 1) := ⟨_, rfl⟩
      refine j_sig eσ28 ?_
      have h := h σ28 eσ28
      refine j_goto (tgt := 0) (show decode cX12_nextToken 36 = .ok (.goto (-36), 3) by decide +kernel) (by decide) ?_
      exact h
theorem c_X12_nextToken {d : Nat} {t : Int} {Q : Int → jM → Prop} {σ : jM} (h : Ct mX12_byteAt d 0 t [rv 321, iv (σ 321 7)] σ (fun r1 σ1 => ((inR r1) ∧ ((r1 = 32 → (∀ σ3 : jM, σ3 = up σ1 321 7 ((σ1 321 7) + 1) → (Jt mX12_nextToken (d + 1) 9 t Q 0 [rv 321, uv] [] σ3))) ∧ (¬ r1 = 32 → (Ct mX12_byteAt d 0 t [rv 321, iv (σ1 321 7)] σ1 (fun r4 σ4 => ((inR r4) ∧ ((¬ r4 = 10 → (∀ σ6 : jM, σ6 = up σ4 321 8 (σ4 321 7) → (Ct mX12_byteAt d 0 t [rv 321, iv (σ6 321 7)] σ6 (fun r7 σ7 => ((inR r7) ∧ ((0 ≤ r7 → (Ct mX12_isFigure d 0 t [iv r7] σ7 (fun r9 σ9 => ((inR r9) ∧ ((r9 = 0 → (Ct mX12_isLetterByte d 0 t [iv r7] σ9 (fun r11 σ11 => ((inR r11) ∧ ((r11 = 0 → (Ct mX12_isSign d 0 t [iv r7] σ11 (fun r13 σ13 => ((inR r13) ∧ ((r13 = 0 → (∀ σ15 : jM, σ15 = up σ13 321 9 3 → (∀ σ16 : jM, σ16 = up σ15 321 7 ((σ15 321 7) + 1) → ((inR r7) ∧ ((r7 = 60 → (Jt mX12_nextToken (d + 1) 9 t Q 272 [rv 321, iv r7] [] σ16)) ∧ (¬ r7 = 60 → ((inR r7) ∧ ((¬ r7 = 62 → (Jt mX12_nextToken (d + 1) 9 t Q 310 [rv 321, iv r7] [] σ16)) ∧ (r7 = 62 → (Jt mX12_nextToken (d + 1) 9 t Q 272 [rv 321, iv r7] [] σ16)))))))))) ∧ (¬ r13 = 0 → (∀ σ19 : jM, σ19 = up σ13 321 9 r7 → (∀ σ20 : jM, σ20 = up σ19 321 7 ((σ19 321 7) + 1) → ((inR r7) ∧ ((r7 = 60 → (Jt mX12_nextToken (d + 1) 9 t Q 272 [rv 321, iv r7] [] σ20)) ∧ (¬ r7 = 60 → ((inR r7) ∧ ((¬ r7 = 62 → (Jt mX12_nextToken (d + 1) 9 t Q 310 [rv 321, iv r7] [] σ20)) ∧ (r7 = 62 → (Jt mX12_nextToken (d + 1) 9 t Q 272 [rv 321, iv r7] [] σ20))))))))))))))) ∧ (¬ r11 = 0 → (∀ σ23 : jM, σ23 = up σ11 321 9 2 → (∀ σ24 : jM, σ24 = up σ23 321 11 0 → (Jt mX12_nextToken (d + 1) 9 t Q 168 [rv 321, iv r7] [] σ24))))))))) ∧ (¬ r9 = 0 → (∀ σ25 : jM, σ25 = up σ9 321 9 1 → (∀ σ26 : jM, σ26 = up σ25 321 10 0 → (Jt mX12_nextToken (d + 1) 9 t Q 85 [rv 321, iv r7] [] σ26))))))))) ∧ (r7 < 0 → (∀ σ27 : jM, σ27 = up σ7 321 9 0 → (Jt mX12_nextToken (d + 1) 9 t Q 310 [rv 321, iv r7] [] σ27))))))))) ∧ (r4 = 10 → (∀ σ28 : jM, σ28 = up σ4 321 7 ((σ4 321 7) + 1) → (Jt mX12_nextToken (d + 1) 9 t Q 0 [rv 321, uv] [] σ28)))))))))))) : Ct mX12_nextToken (d + 1) 9 t [rv 321] σ Q := Ct_of (by decide +kernel) (Nat.le_of_ble_eq_true rfl) (b_X12_nextToken_0 h)
set_option maxRecDepth 4000 in
theorem b_X12_w2_0 {d : Nat} {t : Int} {Q : Int → jM → Prop} {σ : jM} {p0 p1 : Int} (h : (inR p0) ∧ ((inR p1) ∧ (Q (l_or (l_shl p0 8) p1) σ))) : Jt mX12_w2 (d) 1 t Q 0 [iv p0, iv p1] [] σ := by
  refine j_iload_n (i := 0) rfl (show decode cX12_w2 0 = .ok (.iload_n 0, 1) by decide +kernel) ?_
  have hr0 := h.1
  have h := h.2
  refine j_i2l hr0 (show decode cX12_w2 1 = .ok (.i2l, 1) by decide +kernel) ?_
  refine j_bipush (n := 8) (by decide +kernel) (show decode cX12_w2 2 = .ok (.bipush 8, 2) by decide +kernel) ?_
  refine j_lshl (show decode cX12_w2 4 = .ok (.lshl, 1) by decide +kernel) ?_
  refine j_iload_n (i := 1) rfl (show decode cX12_w2 5 = .ok (.iload_n 1, 1) by decide +kernel) ?_
  have hr1 := h.1
  have h := h.2
  refine j_i2l hr1 (show decode cX12_w2 6 = .ok (.i2l, 1) by decide +kernel) ?_
  refine j_lor (show decode cX12_w2 7 = .ok (.lor, 1) by decide +kernel) ?_
  exact j_ret (rokL (show decode cX12_w2 8 = .ok (.lreturn, 1) by decide +kernel) rfl) ⟨rfl, rfl, h⟩
theorem c_X12_w2 {d : Nat} {t : Int} {Q : Int → jM → Prop} {σ : jM} {p0 p1 : Int} (h : (inR p0) ∧ ((inR p1) ∧ (Q (l_or (l_shl p0 8) p1) σ))) : Ct mX12_w2 (d) 1 t [iv p0, iv p1] σ Q := Ct_of (by decide +kernel) (Nat.le_of_ble_eq_true rfl) (b_X12_w2_0 h)
set_option maxRecDepth 4000 in
theorem b_X12_w3_0 {d : Nat} {t : Int} {Q : Int → jM → Prop} {σ : jM} {p0 p1 p2 : Int} (h : Ct mX12_w2 d 1 t [iv p0, iv p1] σ (fun r1 σ1 => ((inR p2) ∧ (Q (l_or (l_shl r1 8) p2) σ1)))) : Jt mX12_w3 (d + 1) 1 t Q 0 [iv p0, iv p1, iv p2] [] σ := by
  refine j_iload_n (i := 0) rfl (show decode cX12_w3 0 = .ok (.iload_n 0, 1) by decide +kernel) ?_
  refine j_iload_n (i := 1) rfl (show decode cX12_w3 1 = .ok (.iload_n 1, 1) by decide +kernel) ?_
  refine j_ctS (m' := mX12_w2) (As := [iv p0, iv p1]) (tag := 1) (cw_X12_135 rfl) (show decode cX12_w3 2 = .ok (.invokestatic 135, 3) by decide +kernel) rfl (Nat.le_of_ble_eq_true rfl) (by decide) (Nat.le_refl _) h (fun r1 σ1 h => ?_)
  refine j_bipush (n := 8) (by decide +kernel) (show decode cX12_w3 5 = .ok (.bipush 8, 2) by decide +kernel) ?_
  refine j_lshl (show decode cX12_w3 7 = .ok (.lshl, 1) by decide +kernel) ?_
  refine j_iload_n (i := 2) rfl (show decode cX12_w3 8 = .ok (.iload_n 2, 1) by decide +kernel) ?_
  have hr1 := h.1
  have h := h.2
  refine j_i2l hr1 (show decode cX12_w3 9 = .ok (.i2l, 1) by decide +kernel) ?_
  refine j_lor (show decode cX12_w3 10 = .ok (.lor, 1) by decide +kernel) ?_
  exact j_ret (rokL (show decode cX12_w3 11 = .ok (.lreturn, 1) by decide +kernel) rfl) ⟨rfl, rfl, h⟩
theorem c_X12_w3 {d : Nat} {t : Int} {Q : Int → jM → Prop} {σ : jM} {p0 p1 p2 : Int} (h : Ct mX12_w2 d 1 t [iv p0, iv p1] σ (fun r1 σ1 => ((inR p2) ∧ (Q (l_or (l_shl r1 8) p2) σ1)))) : Ct mX12_w3 (d + 1) 1 t [iv p0, iv p1, iv p2] σ Q := Ct_of (by decide +kernel) (Nat.le_of_ble_eq_true rfl) (b_X12_w3_0 h)
set_option maxRecDepth 4000 in
theorem b_X12_w4_0 {d : Nat} {t : Int} {Q : Int → jM → Prop} {σ : jM} {p0 p1 p2 p3 : Int} (h : Ct mX12_w3 d 1 t [iv p0, iv p1, iv p2] σ (fun r1 σ1 => ((inR p3) ∧ (Q (l_or (l_shl r1 8) p3) σ1)))) : Jt mX12_w4 (d + 1) 1 t Q 0 [iv p0, iv p1, iv p2, iv p3] [] σ := by
  refine j_iload_n (i := 0) rfl (show decode cX12_w4 0 = .ok (.iload_n 0, 1) by decide +kernel) ?_
  refine j_iload_n (i := 1) rfl (show decode cX12_w4 1 = .ok (.iload_n 1, 1) by decide +kernel) ?_
  refine j_iload_n (i := 2) rfl (show decode cX12_w4 2 = .ok (.iload_n 2, 1) by decide +kernel) ?_
  refine j_ctS (m' := mX12_w3) (As := [iv p0, iv p1, iv p2]) (tag := 1) (cw_X12_139 rfl) (show decode cX12_w4 3 = .ok (.invokestatic 139, 3) by decide +kernel) rfl (Nat.le_of_ble_eq_true rfl) (by decide) (Nat.le_refl _) h (fun r1 σ1 h => ?_)
  refine j_bipush (n := 8) (by decide +kernel) (show decode cX12_w4 6 = .ok (.bipush 8, 2) by decide +kernel) ?_
  refine j_lshl (show decode cX12_w4 8 = .ok (.lshl, 1) by decide +kernel) ?_
  refine j_iload_n (i := 3) rfl (show decode cX12_w4 9 = .ok (.iload_n 3, 1) by decide +kernel) ?_
  have hr1 := h.1
  have h := h.2
  refine j_i2l hr1 (show decode cX12_w4 10 = .ok (.i2l, 1) by decide +kernel) ?_
  refine j_lor (show decode cX12_w4 11 = .ok (.lor, 1) by decide +kernel) ?_
  exact j_ret (rokL (show decode cX12_w4 12 = .ok (.lreturn, 1) by decide +kernel) rfl) ⟨rfl, rfl, h⟩
theorem c_X12_w4 {d : Nat} {t : Int} {Q : Int → jM → Prop} {σ : jM} {p0 p1 p2 p3 : Int} (h : Ct mX12_w3 d 1 t [iv p0, iv p1, iv p2] σ (fun r1 σ1 => ((inR p3) ∧ (Q (l_or (l_shl r1 8) p3) σ1)))) : Ct mX12_w4 (d + 1) 1 t [iv p0, iv p1, iv p2, iv p3] σ Q := Ct_of (by decide +kernel) (Nat.le_of_ble_eq_true rfl) (b_X12_w4_0 h)
set_option maxRecDepth 4000 in
theorem b_X12_w5_0 {d : Nat} {t : Int} {Q : Int → jM → Prop} {σ : jM} {p0 p1 p2 p3 p4 : Int} (h : Ct mX12_w4 d 1 t [iv p0, iv p1, iv p2, iv p3] σ (fun r1 σ1 => ((inR p4) ∧ (Q (l_or (l_shl r1 8) p4) σ1)))) : Jt mX12_w5 (d + 1) 1 t Q 0 [iv p0, iv p1, iv p2, iv p3, iv p4] [] σ := by
  refine j_iload_n (i := 0) rfl (show decode cX12_w5 0 = .ok (.iload_n 0, 1) by decide +kernel) ?_
  refine j_iload_n (i := 1) rfl (show decode cX12_w5 1 = .ok (.iload_n 1, 1) by decide +kernel) ?_
  refine j_iload_n (i := 2) rfl (show decode cX12_w5 2 = .ok (.iload_n 2, 1) by decide +kernel) ?_
  refine j_iload_n (i := 3) rfl (show decode cX12_w5 3 = .ok (.iload_n 3, 1) by decide +kernel) ?_
  refine j_ctS (m' := mX12_w4) (As := [iv p0, iv p1, iv p2, iv p3]) (tag := 1) (cw_X12_143 rfl) (show decode cX12_w5 4 = .ok (.invokestatic 143, 3) by decide +kernel) rfl (Nat.le_of_ble_eq_true rfl) (by decide) (Nat.le_refl _) h (fun r1 σ1 h => ?_)
  refine j_bipush (n := 8) (by decide +kernel) (show decode cX12_w5 7 = .ok (.bipush 8, 2) by decide +kernel) ?_
  refine j_lshl (show decode cX12_w5 9 = .ok (.lshl, 1) by decide +kernel) ?_
  refine j_iload (i := 4) rfl (show decode cX12_w5 10 = .ok (.iload 4, 2) by decide +kernel) ?_
  have hr1 := h.1
  have h := h.2
  refine j_i2l hr1 (show decode cX12_w5 12 = .ok (.i2l, 1) by decide +kernel) ?_
  refine j_lor (show decode cX12_w5 13 = .ok (.lor, 1) by decide +kernel) ?_
  exact j_ret (rokL (show decode cX12_w5 14 = .ok (.lreturn, 1) by decide +kernel) rfl) ⟨rfl, rfl, h⟩
theorem c_X12_w5 {d : Nat} {t : Int} {Q : Int → jM → Prop} {σ : jM} {p0 p1 p2 p3 p4 : Int} (h : Ct mX12_w4 d 1 t [iv p0, iv p1, iv p2, iv p3] σ (fun r1 σ1 => ((inR p4) ∧ (Q (l_or (l_shl r1 8) p4) σ1)))) : Ct mX12_w5 (d + 1) 1 t [iv p0, iv p1, iv p2, iv p3, iv p4] σ Q := Ct_of (by decide +kernel) (Nat.le_of_ble_eq_true rfl) (b_X12_w5_0 h)
set_option maxRecDepth 4000 in
theorem b_X12_w6_0 {d : Nat} {t : Int} {Q : Int → jM → Prop} {σ : jM} {p0 p1 p2 p3 p4 p5 : Int} (h : Ct mX12_w5 d 1 t [iv p0, iv p1, iv p2, iv p3, iv p4] σ (fun r1 σ1 => ((inR p5) ∧ (Q (l_or (l_shl r1 8) p5) σ1)))) : Jt mX12_w6 (d + 1) 1 t Q 0 [iv p0, iv p1, iv p2, iv p3, iv p4, iv p5] [] σ := by
  refine j_iload_n (i := 0) rfl (show decode cX12_w6 0 = .ok (.iload_n 0, 1) by decide +kernel) ?_
  refine j_iload_n (i := 1) rfl (show decode cX12_w6 1 = .ok (.iload_n 1, 1) by decide +kernel) ?_
  refine j_iload_n (i := 2) rfl (show decode cX12_w6 2 = .ok (.iload_n 2, 1) by decide +kernel) ?_
  refine j_iload_n (i := 3) rfl (show decode cX12_w6 3 = .ok (.iload_n 3, 1) by decide +kernel) ?_
  refine j_iload (i := 4) rfl (show decode cX12_w6 4 = .ok (.iload 4, 2) by decide +kernel) ?_
  refine j_ctS (m' := mX12_w5) (As := [iv p0, iv p1, iv p2, iv p3, iv p4]) (tag := 1) (cw_X12_147 rfl) (show decode cX12_w6 6 = .ok (.invokestatic 147, 3) by decide +kernel) rfl (Nat.le_of_ble_eq_true rfl) (by decide) (Nat.le_refl _) h (fun r1 σ1 h => ?_)
  refine j_bipush (n := 8) (by decide +kernel) (show decode cX12_w6 9 = .ok (.bipush 8, 2) by decide +kernel) ?_
  refine j_lshl (show decode cX12_w6 11 = .ok (.lshl, 1) by decide +kernel) ?_
  refine j_iload (i := 5) rfl (show decode cX12_w6 12 = .ok (.iload 5, 2) by decide +kernel) ?_
  have hr1 := h.1
  have h := h.2
  refine j_i2l hr1 (show decode cX12_w6 14 = .ok (.i2l, 1) by decide +kernel) ?_
  refine j_lor (show decode cX12_w6 15 = .ok (.lor, 1) by decide +kernel) ?_
  exact j_ret (rokL (show decode cX12_w6 16 = .ok (.lreturn, 1) by decide +kernel) rfl) ⟨rfl, rfl, h⟩
theorem c_X12_w6 {d : Nat} {t : Int} {Q : Int → jM → Prop} {σ : jM} {p0 p1 p2 p3 p4 p5 : Int} (h : Ct mX12_w5 d 1 t [iv p0, iv p1, iv p2, iv p3, iv p4] σ (fun r1 σ1 => ((inR p5) ∧ (Q (l_or (l_shl r1 8) p5) σ1)))) : Ct mX12_w6 (d + 1) 1 t [iv p0, iv p1, iv p2, iv p3, iv p4, iv p5] σ Q := Ct_of (by decide +kernel) (Nat.le_of_ble_eq_true rfl) (b_X12_w6_0 h)
set_option maxRecDepth 4000 in
theorem b_X12_isWord_0 {d : Nat} {t : Int} {Q : Int → jM → Prop} {σ : jM} {p1 : Int} (h : (inR (σ 321 9)) ∧ ((¬ (σ 321 9) = 2 → (Q 0 σ)) ∧ ((σ 321 9) = 2 → ((inL (σ 321 11)) ∧ ((inL p1) ∧ ((¬ (σ 321 11) = p1 → (Q 0 σ)) ∧ ((σ 321 11) = p1 → (Q 1 σ)))))))) : Jt mX12_isWord (d) 0 t Q 0 [rv 321, jv p1, uv] [] σ := by
  refine s_aload_n (i := 0) rfl (show decode cX12_isWord 0 = .ok (.aload_n 0, 1) by decide +kernel) ?_
  refine gf_X12_113 rfl (show decode cX12_isWord 1 = .ok (.getfield 113, 3) by decide +kernel) okl_321 ?_
  refine j_iconst (show decode cX12_isWord 4 = .ok (.iconst 2, 1) by decide +kernel) ?_
  have hr0 := h.1
  have h := h.2
  refine j_icmp_ne (tgt := 21) hr0 (inl (by decide)) (show decode cX12_isWord 5 = .ok (.if_icmp .ne 16, 3) by decide +kernel) (by decide) (fun c => ?_) (fun c => ?_)
  · have h := h.1 c
    refine j_iconst (show decode cX12_isWord 21 = .ok (.iconst 0, 1) by decide +kernel) ?_
    exact j_ret (rokZ (show decode cX12_isWord 22 = .ok (.ireturn, 1) by decide +kernel) rfl (Or.inl rfl)) ⟨rfl, rfl, h⟩
  · have h := h.2 c
    refine s_aload_n (i := 0) rfl (show decode cX12_isWord 8 = .ok (.aload_n 0, 1) by decide +kernel) ?_
    refine gf_X12_126 rfl (show decode cX12_isWord 9 = .ok (.getfield 126, 3) by decide +kernel) okl_321 ?_
    refine j_lload_n (i := 1) rfl (show decode cX12_isWord 12 = .ok (.lload_n 1, 1) by decide +kernel) ?_
    have hr1 := h.1
    have h := h.2
    have hr2 := h.1
    have h := h.2
    refine s_lif_ne (tgt := 21) hr1 hr2 (show decode cX12_isWord 13 = .ok (.lcmp, 1) by decide +kernel) (show decode cX12_isWord 14 = .ok (.ifCond .ne 7, 3) by decide +kernel) (by decide) (fun c => ?_) (fun c => ?_)
    · have h := h.1 c
      refine j_iconst (show decode cX12_isWord 21 = .ok (.iconst 0, 1) by decide +kernel) ?_
      exact j_ret (rokZ (show decode cX12_isWord 22 = .ok (.ireturn, 1) by decide +kernel) rfl (Or.inl rfl)) ⟨rfl, rfl, h⟩
    · have h := h.2 c
      refine j_iconst (show decode cX12_isWord 17 = .ok (.iconst 1, 1) by decide +kernel) ?_
      refine j_goto (tgt := 22) (show decode cX12_isWord 18 = .ok (.goto 4, 3) by decide +kernel) (by decide) ?_
      exact j_ret (rokZ (show decode cX12_isWord 22 = .ok (.ireturn, 1) by decide +kernel) rfl (Or.inr rfl)) ⟨rfl, rfl, h⟩
theorem c_X12_isWord {d : Nat} {t : Int} {Q : Int → jM → Prop} {σ : jM} {p1 : Int} (h : (inR (σ 321 9)) ∧ ((¬ (σ 321 9) = 2 → (Q 0 σ)) ∧ ((σ 321 9) = 2 → ((inL (σ 321 11)) ∧ ((inL p1) ∧ ((¬ (σ 321 11) = p1 → (Q 0 σ)) ∧ ((σ 321 11) = p1 → (Q 1 σ)))))))) : Ct mX12_isWord (d) 0 t [rv 321, jv p1] σ Q := Ct_of (by decide +kernel) (Nat.le_of_ble_eq_true rfl) (b_X12_isWord_0 h)
set_option maxRecDepth 4000 in
theorem b_X12_emit_0 {d : Nat} {t : Int} {Q : Int → jM → Prop} {σ : jM} {p1 p2 : Int} (h : ((0 : Int) ≤ (((σ 321 12) + 73) + (2 * (σ 321 13))) ∧ (((σ 321 12) + 73) + (2 * (σ 321 13))) < 2724) ∧ (∀ σ2 : jM, σ2 = up σ 324 (((σ 321 12) + 73) + (2 * (σ 321 13))) p1 → (((0 : Int) ≤ ((((σ2 321 12) + 73) + (2 * (σ2 321 13))) + 1) ∧ ((((σ2 321 12) + 73) + (2 * (σ2 321 13))) + 1) < 2724) ∧ (∀ σ4 : jM, σ4 = up σ2 324 ((((σ2 321 12) + 73) + (2 * (σ2 321 13))) + 1) p2 → (∀ σ5 : jM, σ5 = up σ4 321 13 ((σ4 321 13) + 1) → (Q 0 σ5)))))) : Jt mX12_emit (d) 9 t Q 0 [rv 321, iv p1, iv p2] [] σ := by
  refine s_aload_n (i := 0) rfl (show decode cX12_emit 0 = .ok (.aload_n 0, 1) by decide +kernel) ?_
  refine gf_X12_16 (x := 324) rfl (show decode cX12_emit 1 = .ok (.getfield 16, 3) by decide +kernel) okl_321 rfl ?_
  refine s_aload_n (i := 0) rfl (show decode cX12_emit 4 = .ok (.aload_n 0, 1) by decide +kernel) ?_
  refine gf_X12_151 rfl (show decode cX12_emit 5 = .ok (.getfield 151, 3) by decide +kernel) okl_321 ?_
  refine j_bipush (n := 73) (by decide +kernel) (show decode cX12_emit 8 = .ok (.bipush 73, 2) by decide +kernel) ?_
  refine j_iadd (show decode cX12_emit 10 = .ok (.iadd, 1) by decide +kernel) ?_
  refine j_iconst (show decode cX12_emit 11 = .ok (.iconst 2, 1) by decide +kernel) ?_
  refine s_aload_n (i := 0) rfl (show decode cX12_emit 12 = .ok (.aload_n 0, 1) by decide +kernel) ?_
  refine gf_X12_154 rfl (show decode cX12_emit 13 = .ok (.getfield 154, 3) by decide +kernel) okl_321 ?_
  refine j_imul (show decode cX12_emit 16 = .ok (.imul, 1) by decide +kernel) ?_
  refine j_iadd (show decode cX12_emit 17 = .ok (.iadd, 1) by decide +kernel) ?_
  refine j_iload_n (i := 1) rfl (show decode cX12_emit 18 = .ok (.iload_n 1, 1) by decide +kernel) ?_
  have hb0 := h.1
  have h := h.2
  refine s_iast (show decode cX12_emit 19 = .ok (.iastore, 1) by decide +kernel) okl_324 hb0 ?_
  obtain ⟨σ2, eσ2⟩ : ∃ z : jM, z = up σ 324 (((σ 321 12) + 73) + (2 * (σ 321 13))) p1 := ⟨_, rfl⟩
  refine j_sig eσ2 ?_
  have h := h σ2 eσ2
  refine s_aload_n (i := 0) rfl (show decode cX12_emit 20 = .ok (.aload_n 0, 1) by decide +kernel) ?_
  refine gf_X12_16 (x := 324) rfl (show decode cX12_emit 21 = .ok (.getfield 16, 3) by decide +kernel) okl_321 rfl ?_
  refine s_aload_n (i := 0) rfl (show decode cX12_emit 24 = .ok (.aload_n 0, 1) by decide +kernel) ?_
  refine gf_X12_151 rfl (show decode cX12_emit 25 = .ok (.getfield 151, 3) by decide +kernel) okl_321 ?_
  refine j_bipush (n := 73) (by decide +kernel) (show decode cX12_emit 28 = .ok (.bipush 73, 2) by decide +kernel) ?_
  refine j_iadd (show decode cX12_emit 30 = .ok (.iadd, 1) by decide +kernel) ?_
  refine j_iconst (show decode cX12_emit 31 = .ok (.iconst 2, 1) by decide +kernel) ?_
  refine s_aload_n (i := 0) rfl (show decode cX12_emit 32 = .ok (.aload_n 0, 1) by decide +kernel) ?_
  refine gf_X12_154 rfl (show decode cX12_emit 33 = .ok (.getfield 154, 3) by decide +kernel) okl_321 ?_
  refine j_imul (show decode cX12_emit 36 = .ok (.imul, 1) by decide +kernel) ?_
  refine j_iadd (show decode cX12_emit 37 = .ok (.iadd, 1) by decide +kernel) ?_
  refine j_iconst (show decode cX12_emit 38 = .ok (.iconst 1, 1) by decide +kernel) ?_
  refine j_iadd (show decode cX12_emit 39 = .ok (.iadd, 1) by decide +kernel) ?_
  refine j_iload_n (i := 2) rfl (show decode cX12_emit 40 = .ok (.iload_n 2, 1) by decide +kernel) ?_
  have hb2 := h.1
  have h := h.2
  refine s_iast (show decode cX12_emit 41 = .ok (.iastore, 1) by decide +kernel) okl_324 hb2 ?_
  obtain ⟨σ4, eσ4⟩ : ∃ z : jM, z = up σ2 324 ((((σ2 321 12) + 73) + (2 * (σ2 321 13))) + 1) p2 := ⟨_, rfl⟩
  refine j_sig eσ4 ?_
  have h := h σ4 eσ4
  refine s_aload_n (i := 0) rfl (show decode cX12_emit 42 = .ok (.aload_n 0, 1) by decide +kernel) ?_
  refine j_dup (show (2 : Nat) ≠ 1 by decide) (show decode cX12_emit 43 = .ok (.dup, 1) by decide +kernel) ?_
  refine gf_X12_154 rfl (show decode cX12_emit 44 = .ok (.getfield 154, 3) by decide +kernel) okl_321 ?_
  refine j_iconst (show decode cX12_emit 47 = .ok (.iconst 1, 1) by decide +kernel) ?_
  refine j_iadd (show decode cX12_emit 48 = .ok (.iadd, 1) by decide +kernel) ?_
  refine pf_X12_154 rfl (show decode cX12_emit 49 = .ok (.putfield 154, 3) by decide +kernel) okl_321 ?_
  obtain ⟨σ5, eσ5⟩ : ∃ z : jM, z = up σ4 321 13 ((σ4 321 13) + 1) := ⟨_, rfl⟩
  refine j_sig eσ5 ?_
  have h := h σ5 eσ5
  exact j_ret (rokV (show decode cX12_emit 52 = .ok (.return_, 1) by decide +kernel) rfl) ⟨rfl, rfl, h⟩
theorem c_X12_emit {d : Nat} {t : Int} {Q : Int → jM → Prop} {σ : jM} {p1 p2 : Int} (h : ((0 : Int) ≤ (((σ 321 12) + 73) + (2 * (σ 321 13))) ∧ (((σ 321 12) + 73) + (2 * (σ 321 13))) < 2724) ∧ (∀ σ2 : jM, σ2 = up σ 324 (((σ 321 12) + 73) + (2 * (σ 321 13))) p1 → (((0 : Int) ≤ ((((σ2 321 12) + 73) + (2 * (σ2 321 13))) + 1) ∧ ((((σ2 321 12) + 73) + (2 * (σ2 321 13))) + 1) < 2724) ∧ (∀ σ4 : jM, σ4 = up σ2 324 ((((σ2 321 12) + 73) + (2 * (σ2 321 13))) + 1) p2 → (∀ σ5 : jM, σ5 = up σ4 321 13 ((σ4 321 13) + 1) → (Q 0 σ5)))))) : Ct mX12_emit (d) 9 t [rv 321, iv p1, iv p2] σ Q := Ct_of (by decide +kernel) (Nat.le_of_ble_eq_true rfl) (b_X12_emit_0 h)
set_option maxRecDepth 4000 in
theorem b_X12_nameOf_0 {d : Nat} {t : Int} {Q : Int → jM → Prop} {σ : jM} (h : (inR (σ 321 9)) ∧ (((σ 321 9) = 2 → (Ct mX12_w3 d 1 t [iv 100, iv 97, iv 121] σ (fun r2 σ2 => ((inL (σ 321 11)) ∧ ((inL r2) ∧ ((¬ (σ 321 11) = r2 → (Ct mX12_w6 d 1 t [iv 110, iv 117, iv 109, iv 98, iv 101, iv 114] σ2 (fun r5 σ5 => ((inL (σ2 321 11)) ∧ ((inL r5) ∧ ((¬ (σ2 321 11) = r5 → (Ct mX12_w6 d 1 t [iv 112, iv 111, iv 117, iv 110, iv 100, iv 115] σ5 (fun r8 σ8 => ((inL (σ5 321 11)) ∧ ((inL r8) ∧ ((¬ (σ5 321 11) = r8 → (Ct mX12_w3 d 1 t [iv 97, iv 103, iv 101] σ8 (fun r11 σ11 => ((inL (σ8 321 11)) ∧ ((inL r11) ∧ ((¬ (σ8 321 11) = r11 → (Ct mX12_w4 d 1 t [iv 102, iv 117, iv 108, iv 108] σ11 (fun r14 σ14 => ((inL (σ11 321 11)) ∧ ((inL r14) ∧ ((¬ (σ11 321 11) = r14 → (Ct mX12_w3 d 1 t [iv 111, iv 100, iv 100] σ14 (fun r17 σ17 => ((inL (σ14 321 11)) ∧ ((inL r17) ∧ ((¬ (σ14 321 11) = r17 → (Ct mX12_w4 d 1 t [iv 102, iv 117, iv 110, iv 100] σ17 (fun r20 σ20 => ((inL (σ17 321 11)) ∧ ((inL r20) ∧ ((¬ (σ17 321 11) = r20 → (Q (-1) σ20)) ∧ ((σ17 321 11) = r20 → (Q 6 σ20)))))))) ∧ ((σ14 321 11) = r17 → (Q 5 σ17)))))))) ∧ ((σ11 321 11) = r14 → (Q 4 σ14)))))))) ∧ ((σ8 321 11) = r11 → (Q 3 σ11)))))))) ∧ ((σ5 321 11) = r8 → (Q 2 σ8)))))))) ∧ ((σ2 321 11) = r5 → (Q 1 σ5)))))))) ∧ ((σ 321 11) = r2 → (Q 0 σ2)))))))) ∧ (¬ (σ 321 9) = 2 → (Q (-1) σ)))) : Jt mX12_nameOf (d + 1) 0 t Q 0 [rv 321] [] σ := by
  refine s_aload_n (i := 0) rfl (show decode cX12_nameOf 0 = .ok (.aload_n 0, 1) by decide +kernel) ?_
  refine gf_X12_113 rfl (show decode cX12_nameOf 1 = .ok (.getfield 113, 3) by decide +kernel) okl_321 ?_
  refine j_iconst (show decode cX12_nameOf 4 = .ok (.iconst 2, 1) by decide +kernel) ?_
  have hr0 := h.1
  have h := h.2
  refine j_icmp_eq (tgt := 10) hr0 (inl (by decide)) (show decode cX12_nameOf 5 = .ok (.if_icmp .eq 5, 3) by decide +kernel) (by decide) (fun c => ?_) (fun c => ?_)
  · have h := h.1 c
    refine s_aload_n (i := 0) rfl (show decode cX12_nameOf 10 = .ok (.aload_n 0, 1) by decide +kernel) ?_
    refine gf_X12_126 rfl (show decode cX12_nameOf 11 = .ok (.getfield 126, 3) by decide +kernel) okl_321 ?_
    refine j_bipush (n := 100) (by decide +kernel) (show decode cX12_nameOf 14 = .ok (.bipush 100, 2) by decide +kernel) ?_
    refine j_bipush (n := 97) (by decide +kernel) (show decode cX12_nameOf 16 = .ok (.bipush 97, 2) by decide +kernel) ?_
    refine j_bipush (n := 121) (by decide +kernel) (show decode cX12_nameOf 18 = .ok (.bipush 121, 2) by decide +kernel) ?_
    refine j_ctS (m' := mX12_w3) (As := [iv 100, iv 97, iv 121]) (tag := 1) (cw_X12_139 rfl) (show decode cX12_nameOf 20 = .ok (.invokestatic 139, 3) by decide +kernel) rfl (Nat.le_of_ble_eq_true rfl) (by decide) (Nat.le_refl _) h (fun r2 σ2 h => ?_)
    have hr2 := h.1
    have h := h.2
    have hr3 := h.1
    have h := h.2
    refine s_lif_ne (tgt := 29) hr2 hr3 (show decode cX12_nameOf 23 = .ok (.lcmp, 1) by decide +kernel) (show decode cX12_nameOf 24 = .ok (.ifCond .ne 5, 3) by decide +kernel) (by decide) (fun c => ?_) (fun c => ?_)
    · have h := h.1 c
      refine s_aload_n (i := 0) rfl (show decode cX12_nameOf 29 = .ok (.aload_n 0, 1) by decide +kernel) ?_
      refine gf_X12_126 rfl (show decode cX12_nameOf 30 = .ok (.getfield 126, 3) by decide +kernel) okl_321 ?_
      refine j_bipush (n := 110) (by decide +kernel) (show decode cX12_nameOf 33 = .ok (.bipush 110, 2) by decide +kernel) ?_
      refine j_bipush (n := 117) (by decide +kernel) (show decode cX12_nameOf 35 = .ok (.bipush 117, 2) by decide +kernel) ?_
      refine j_bipush (n := 109) (by decide +kernel) (show decode cX12_nameOf 37 = .ok (.bipush 109, 2) by decide +kernel) ?_
      refine j_bipush (n := 98) (by decide +kernel) (show decode cX12_nameOf 39 = .ok (.bipush 98, 2) by decide +kernel) ?_
      refine j_bipush (n := 101) (by decide +kernel) (show decode cX12_nameOf 41 = .ok (.bipush 101, 2) by decide +kernel) ?_
      refine j_bipush (n := 114) (by decide +kernel) (show decode cX12_nameOf 43 = .ok (.bipush 114, 2) by decide +kernel) ?_
      refine j_ctS (m' := mX12_w6) (As := [iv 110, iv 117, iv 109, iv 98, iv 101, iv 114]) (tag := 1) (cw_X12_157 rfl) (show decode cX12_nameOf 45 = .ok (.invokestatic 157, 3) by decide +kernel) rfl (Nat.le_of_ble_eq_true rfl) (by decide) (Nat.le_refl _) h (fun r5 σ5 h => ?_)
      have hr5 := h.1
      have h := h.2
      have hr6 := h.1
      have h := h.2
      refine s_lif_ne (tgt := 54) hr5 hr6 (show decode cX12_nameOf 48 = .ok (.lcmp, 1) by decide +kernel) (show decode cX12_nameOf 49 = .ok (.ifCond .ne 5, 3) by decide +kernel) (by decide) (fun c => ?_) (fun c => ?_)
      · have h := h.1 c
        refine s_aload_n (i := 0) rfl (show decode cX12_nameOf 54 = .ok (.aload_n 0, 1) by decide +kernel) ?_
        refine gf_X12_126 rfl (show decode cX12_nameOf 55 = .ok (.getfield 126, 3) by decide +kernel) okl_321 ?_
        refine j_bipush (n := 112) (by decide +kernel) (show decode cX12_nameOf 58 = .ok (.bipush 112, 2) by decide +kernel) ?_
        refine j_bipush (n := 111) (by decide +kernel) (show decode cX12_nameOf 60 = .ok (.bipush 111, 2) by decide +kernel) ?_
        refine j_bipush (n := 117) (by decide +kernel) (show decode cX12_nameOf 62 = .ok (.bipush 117, 2) by decide +kernel) ?_
        refine j_bipush (n := 110) (by decide +kernel) (show decode cX12_nameOf 64 = .ok (.bipush 110, 2) by decide +kernel) ?_
        refine j_bipush (n := 100) (by decide +kernel) (show decode cX12_nameOf 66 = .ok (.bipush 100, 2) by decide +kernel) ?_
        refine j_bipush (n := 115) (by decide +kernel) (show decode cX12_nameOf 68 = .ok (.bipush 115, 2) by decide +kernel) ?_
        refine j_ctS (m' := mX12_w6) (As := [iv 112, iv 111, iv 117, iv 110, iv 100, iv 115]) (tag := 1) (cw_X12_157 rfl) (show decode cX12_nameOf 70 = .ok (.invokestatic 157, 3) by decide +kernel) rfl (Nat.le_of_ble_eq_true rfl) (by decide) (Nat.le_refl _) h (fun r8 σ8 h => ?_)
        have hr8 := h.1
        have h := h.2
        have hr9 := h.1
        have h := h.2
        refine s_lif_ne (tgt := 79) hr8 hr9 (show decode cX12_nameOf 73 = .ok (.lcmp, 1) by decide +kernel) (show decode cX12_nameOf 74 = .ok (.ifCond .ne 5, 3) by decide +kernel) (by decide) (fun c => ?_) (fun c => ?_)
        · have h := h.1 c
          refine s_aload_n (i := 0) rfl (show decode cX12_nameOf 79 = .ok (.aload_n 0, 1) by decide +kernel) ?_
          refine gf_X12_126 rfl (show decode cX12_nameOf 80 = .ok (.getfield 126, 3) by decide +kernel) okl_321 ?_
          refine j_bipush (n := 97) (by decide +kernel) (show decode cX12_nameOf 83 = .ok (.bipush 97, 2) by decide +kernel) ?_
          refine j_bipush (n := 103) (by decide +kernel) (show decode cX12_nameOf 85 = .ok (.bipush 103, 2) by decide +kernel) ?_
          refine j_bipush (n := 101) (by decide +kernel) (show decode cX12_nameOf 87 = .ok (.bipush 101, 2) by decide +kernel) ?_
          refine j_ctS (m' := mX12_w3) (As := [iv 97, iv 103, iv 101]) (tag := 1) (cw_X12_139 rfl) (show decode cX12_nameOf 89 = .ok (.invokestatic 139, 3) by decide +kernel) rfl (Nat.le_of_ble_eq_true rfl) (by decide) (Nat.le_refl _) h (fun r11 σ11 h => ?_)
          have hr11 := h.1
          have h := h.2
          have hr12 := h.1
          have h := h.2
          refine s_lif_ne (tgt := 98) hr11 hr12 (show decode cX12_nameOf 92 = .ok (.lcmp, 1) by decide +kernel) (show decode cX12_nameOf 93 = .ok (.ifCond .ne 5, 3) by decide +kernel) (by decide) (fun c => ?_) (fun c => ?_)
          · have h := h.1 c
            refine s_aload_n (i := 0) rfl (show decode cX12_nameOf 98 = .ok (.aload_n 0, 1) by decide +kernel) ?_
            refine gf_X12_126 rfl (show decode cX12_nameOf 99 = .ok (.getfield 126, 3) by decide +kernel) okl_321 ?_
            refine j_bipush (n := 102) (by decide +kernel) (show decode cX12_nameOf 102 = .ok (.bipush 102, 2) by decide +kernel) ?_
            refine j_bipush (n := 117) (by decide +kernel) (show decode cX12_nameOf 104 = .ok (.bipush 117, 2) by decide +kernel) ?_
            refine j_bipush (n := 108) (by decide +kernel) (show decode cX12_nameOf 106 = .ok (.bipush 108, 2) by decide +kernel) ?_
            refine j_bipush (n := 108) (by decide +kernel) (show decode cX12_nameOf 108 = .ok (.bipush 108, 2) by decide +kernel) ?_
            refine j_ctS (m' := mX12_w4) (As := [iv 102, iv 117, iv 108, iv 108]) (tag := 1) (cw_X12_143 rfl) (show decode cX12_nameOf 110 = .ok (.invokestatic 143, 3) by decide +kernel) rfl (Nat.le_of_ble_eq_true rfl) (by decide) (Nat.le_refl _) h (fun r14 σ14 h => ?_)
            have hr14 := h.1
            have h := h.2
            have hr15 := h.1
            have h := h.2
            refine s_lif_ne (tgt := 119) hr14 hr15 (show decode cX12_nameOf 113 = .ok (.lcmp, 1) by decide +kernel) (show decode cX12_nameOf 114 = .ok (.ifCond .ne 5, 3) by decide +kernel) (by decide) (fun c => ?_) (fun c => ?_)
            · have h := h.1 c
              refine s_aload_n (i := 0) rfl (show decode cX12_nameOf 119 = .ok (.aload_n 0, 1) by decide +kernel) ?_
              refine gf_X12_126 rfl (show decode cX12_nameOf 120 = .ok (.getfield 126, 3) by decide +kernel) okl_321 ?_
              refine j_bipush (n := 111) (by decide +kernel) (show decode cX12_nameOf 123 = .ok (.bipush 111, 2) by decide +kernel) ?_
              refine j_bipush (n := 100) (by decide +kernel) (show decode cX12_nameOf 125 = .ok (.bipush 100, 2) by decide +kernel) ?_
              refine j_bipush (n := 100) (by decide +kernel) (show decode cX12_nameOf 127 = .ok (.bipush 100, 2) by decide +kernel) ?_
              refine j_ctS (m' := mX12_w3) (As := [iv 111, iv 100, iv 100]) (tag := 1) (cw_X12_139 rfl) (show decode cX12_nameOf 129 = .ok (.invokestatic 139, 3) by decide +kernel) rfl (Nat.le_of_ble_eq_true rfl) (by decide) (Nat.le_refl _) h (fun r17 σ17 h => ?_)
              have hr17 := h.1
              have h := h.2
              have hr18 := h.1
              have h := h.2
              refine s_lif_ne (tgt := 140) hr17 hr18 (show decode cX12_nameOf 132 = .ok (.lcmp, 1) by decide +kernel) (show decode cX12_nameOf 133 = .ok (.ifCond .ne 7, 3) by decide +kernel) (by decide) (fun c => ?_) (fun c => ?_)
              · have h := h.1 c
                refine s_aload_n (i := 0) rfl (show decode cX12_nameOf 140 = .ok (.aload_n 0, 1) by decide +kernel) ?_
                refine gf_X12_126 rfl (show decode cX12_nameOf 141 = .ok (.getfield 126, 3) by decide +kernel) okl_321 ?_
                refine j_bipush (n := 102) (by decide +kernel) (show decode cX12_nameOf 144 = .ok (.bipush 102, 2) by decide +kernel) ?_
                refine j_bipush (n := 117) (by decide +kernel) (show decode cX12_nameOf 146 = .ok (.bipush 117, 2) by decide +kernel) ?_
                refine j_bipush (n := 110) (by decide +kernel) (show decode cX12_nameOf 148 = .ok (.bipush 110, 2) by decide +kernel) ?_
                refine j_bipush (n := 100) (by decide +kernel) (show decode cX12_nameOf 150 = .ok (.bipush 100, 2) by decide +kernel) ?_
                refine j_ctS (m' := mX12_w4) (As := [iv 102, iv 117, iv 110, iv 100]) (tag := 1) (cw_X12_143 rfl) (show decode cX12_nameOf 152 = .ok (.invokestatic 143, 3) by decide +kernel) rfl (Nat.le_of_ble_eq_true rfl) (by decide) (Nat.le_refl _) h (fun r20 σ20 h => ?_)
                have hr20 := h.1
                have h := h.2
                have hr21 := h.1
                have h := h.2
                refine s_lif_ne (tgt := 164) hr20 hr21 (show decode cX12_nameOf 155 = .ok (.lcmp, 1) by decide +kernel) (show decode cX12_nameOf 156 = .ok (.ifCond .ne 8, 3) by decide +kernel) (by decide) (fun c => ?_) (fun c => ?_)
                · have h := h.1 c
                  refine j_iconst (show decode cX12_nameOf 164 = .ok (.iconst (-1), 1) by decide +kernel) ?_
                  exact j_ret (rokI (show decode cX12_nameOf 165 = .ok (.ireturn, 1) by decide +kernel) rfl) ⟨rfl, rfl, h⟩
                · have h := h.2 c
                  refine j_bipush (n := 6) (by decide +kernel) (show decode cX12_nameOf 159 = .ok (.bipush 6, 2) by decide +kernel) ?_
                  refine j_goto (tgt := 165) (show decode cX12_nameOf 161 = .ok (.goto 4, 3) by decide +kernel) (by decide) ?_
                  exact j_ret (rokI (show decode cX12_nameOf 165 = .ok (.ireturn, 1) by decide +kernel) rfl) ⟨rfl, rfl, h⟩
              · have h := h.2 c
                refine j_iconst (show decode cX12_nameOf 136 = .ok (.iconst 5, 1) by decide +kernel) ?_
                refine j_goto (tgt := 165) (show decode cX12_nameOf 137 = .ok (.goto 28, 3) by decide +kernel) (by decide) ?_
                exact j_ret (rokI (show decode cX12_nameOf 165 = .ok (.ireturn, 1) by decide +kernel) rfl) ⟨rfl, rfl, h⟩
            · have h := h.2 c
              refine j_iconst (show decode cX12_nameOf 117 = .ok (.iconst 4, 1) by decide +kernel) ?_
              exact j_ret (rokI (show decode cX12_nameOf 118 = .ok (.ireturn, 1) by decide +kernel) rfl) ⟨rfl, rfl, h⟩
          · have h := h.2 c
            refine j_iconst (show decode cX12_nameOf 96 = .ok (.iconst 3, 1) by decide +kernel) ?_
            exact j_ret (rokI (show decode cX12_nameOf 97 = .ok (.ireturn, 1) by decide +kernel) rfl) ⟨rfl, rfl, h⟩
        · have h := h.2 c
          refine j_iconst (show decode cX12_nameOf 77 = .ok (.iconst 2, 1) by decide +kernel) ?_
          exact j_ret (rokI (show decode cX12_nameOf 78 = .ok (.ireturn, 1) by decide +kernel) rfl) ⟨rfl, rfl, h⟩
      · have h := h.2 c
        refine j_iconst (show decode cX12_nameOf 52 = .ok (.iconst 1, 1) by decide +kernel) ?_
        exact j_ret (rokI (show decode cX12_nameOf 53 = .ok (.ireturn, 1) by decide +kernel) rfl) ⟨rfl, rfl, h⟩
    · have h := h.2 c
      refine j_iconst (show decode cX12_nameOf 27 = .ok (.iconst 0, 1) by decide +kernel) ?_
      exact j_ret (rokI (show decode cX12_nameOf 28 = .ok (.ireturn, 1) by decide +kernel) rfl) ⟨rfl, rfl, h⟩
  · have h := h.2 c
    refine j_iconst (show decode cX12_nameOf 8 = .ok (.iconst (-1), 1) by decide +kernel) ?_
    exact j_ret (rokI (show decode cX12_nameOf 9 = .ok (.ireturn, 1) by decide +kernel) rfl) ⟨rfl, rfl, h⟩
theorem c_X12_nameOf {d : Nat} {t : Int} {Q : Int → jM → Prop} {σ : jM} (h : (inR (σ 321 9)) ∧ (((σ 321 9) = 2 → (Ct mX12_w3 d 1 t [iv 100, iv 97, iv 121] σ (fun r2 σ2 => ((inL (σ 321 11)) ∧ ((inL r2) ∧ ((¬ (σ 321 11) = r2 → (Ct mX12_w6 d 1 t [iv 110, iv 117, iv 109, iv 98, iv 101, iv 114] σ2 (fun r5 σ5 => ((inL (σ2 321 11)) ∧ ((inL r5) ∧ ((¬ (σ2 321 11) = r5 → (Ct mX12_w6 d 1 t [iv 112, iv 111, iv 117, iv 110, iv 100, iv 115] σ5 (fun r8 σ8 => ((inL (σ5 321 11)) ∧ ((inL r8) ∧ ((¬ (σ5 321 11) = r8 → (Ct mX12_w3 d 1 t [iv 97, iv 103, iv 101] σ8 (fun r11 σ11 => ((inL (σ8 321 11)) ∧ ((inL r11) ∧ ((¬ (σ8 321 11) = r11 → (Ct mX12_w4 d 1 t [iv 102, iv 117, iv 108, iv 108] σ11 (fun r14 σ14 => ((inL (σ11 321 11)) ∧ ((inL r14) ∧ ((¬ (σ11 321 11) = r14 → (Ct mX12_w3 d 1 t [iv 111, iv 100, iv 100] σ14 (fun r17 σ17 => ((inL (σ14 321 11)) ∧ ((inL r17) ∧ ((¬ (σ14 321 11) = r17 → (Ct mX12_w4 d 1 t [iv 102, iv 117, iv 110, iv 100] σ17 (fun r20 σ20 => ((inL (σ17 321 11)) ∧ ((inL r20) ∧ ((¬ (σ17 321 11) = r20 → (Q (-1) σ20)) ∧ ((σ17 321 11) = r20 → (Q 6 σ20)))))))) ∧ ((σ14 321 11) = r17 → (Q 5 σ17)))))))) ∧ ((σ11 321 11) = r14 → (Q 4 σ14)))))))) ∧ ((σ8 321 11) = r11 → (Q 3 σ11)))))))) ∧ ((σ5 321 11) = r8 → (Q 2 σ8)))))))) ∧ ((σ2 321 11) = r5 → (Q 1 σ5)))))))) ∧ ((σ 321 11) = r2 → (Q 0 σ2)))))))) ∧ (¬ (σ 321 9) = 2 → (Q (-1) σ)))) : Ct mX12_nameOf (d + 1) 0 t [rv 321] σ Q := Ct_of (by decide +kernel) (Nat.le_of_ble_eq_true rfl) (b_X12_nameOf_0 h)
set_option maxRecDepth 4000 in
theorem b_X12_isOf_0 {d : Nat} {t : Int} {Q : Int → jM → Prop} {σ : jM} {p1 : Int} (h : (inR p1) ∧ ((p1 < 5 → (Q 1 σ)) ∧ (5 ≤ p1 → ((inR p1) ∧ ((¬ p1 = 5 → ((inR (σ 321 14)) ∧ ((¬ (σ 321 14) = 1 → (Q 0 σ)) ∧ ((σ 321 14) = 1 → (Q 1 σ))))) ∧ (p1 = 5 → ((inR (σ 321 14)) ∧ ((¬ (σ 321 14) = 0 → (Q 0 σ)) ∧ ((σ 321 14) = 0 → (Q 1 σ)))))))))) : Jt mX12_isOf (d) 0 t Q 0 [rv 321, iv p1] [] σ := by
  refine j_iload_n (i := 1) rfl (show decode cX12_isOf 0 = .ok (.iload_n 1, 1) by decide +kernel) ?_
  refine j_iconst (show decode cX12_isOf 1 = .ok (.iconst 5, 1) by decide +kernel) ?_
  have hr0 := h.1
  have h := h.2
  refine j_icmp_lt (tgt := 28) hr0 (inl (by decide)) (show decode cX12_isOf 2 = .ok (.if_icmp .lt 26, 3) by decide +kernel) (by decide) (fun c => ?_) (fun c => ?_)
  · have h := h.1 c
    refine j_iconst (show decode cX12_isOf 28 = .ok (.iconst 1, 1) by decide +kernel) ?_
    refine j_goto (tgt := 33) (show decode cX12_isOf 29 = .ok (.goto 4, 3) by decide +kernel) (by decide) ?_
    exact j_ret (rokZ (show decode cX12_isOf 33 = .ok (.ireturn, 1) by decide +kernel) rfl (Or.inr rfl)) ⟨rfl, rfl, h⟩
  · have h := h.2 c
    refine j_iload_n (i := 1) rfl (show decode cX12_isOf 5 = .ok (.iload_n 1, 1) by decide +kernel) ?_
    refine j_iconst (show decode cX12_isOf 6 = .ok (.iconst 5, 1) by decide +kernel) ?_
    have hr1 := h.1
    have h := h.2
    refine j_icmp_ne (tgt := 20) hr1 (inl (by decide)) (show decode cX12_isOf 7 = .ok (.if_icmp .ne 13, 3) by decide +kernel) (by decide) (fun c => ?_) (fun c => ?_)
    · have h := h.1 c
      refine s_aload_n (i := 0) rfl (show decode cX12_isOf 20 = .ok (.aload_n 0, 1) by decide +kernel) ?_
      refine gf_X12_161 rfl (show decode cX12_isOf 21 = .ok (.getfield 161, 3) by decide +kernel) okl_321 ?_
      refine j_iconst (show decode cX12_isOf 24 = .ok (.iconst 1, 1) by decide +kernel) ?_
      have hr2 := h.1
      have h := h.2
      refine j_icmp_ne (tgt := 32) hr2 (inl (by decide)) (show decode cX12_isOf 25 = .ok (.if_icmp .ne 7, 3) by decide +kernel) (by decide) (fun c => ?_) (fun c => ?_)
      · have h := h.1 c
        refine j_iconst (show decode cX12_isOf 32 = .ok (.iconst 0, 1) by decide +kernel) ?_
        exact j_ret (rokZ (show decode cX12_isOf 33 = .ok (.ireturn, 1) by decide +kernel) rfl (Or.inl rfl)) ⟨rfl, rfl, h⟩
      · have h := h.2 c
        refine j_iconst (show decode cX12_isOf 28 = .ok (.iconst 1, 1) by decide +kernel) ?_
        refine j_goto (tgt := 33) (show decode cX12_isOf 29 = .ok (.goto 4, 3) by decide +kernel) (by decide) ?_
        exact j_ret (rokZ (show decode cX12_isOf 33 = .ok (.ireturn, 1) by decide +kernel) rfl (Or.inr rfl)) ⟨rfl, rfl, h⟩
    · have h := h.2 c
      refine s_aload_n (i := 0) rfl (show decode cX12_isOf 10 = .ok (.aload_n 0, 1) by decide +kernel) ?_
      refine gf_X12_161 rfl (show decode cX12_isOf 11 = .ok (.getfield 161, 3) by decide +kernel) okl_321 ?_
      have hr3 := h.1
      have h := h.2
      refine j_if_ne (tgt := 32) hr3 (show decode cX12_isOf 14 = .ok (.ifCond .ne 18, 3) by decide +kernel) (by decide) (fun c => ?_) (fun c => ?_)
      · have h := h.1 c
        refine j_iconst (show decode cX12_isOf 32 = .ok (.iconst 0, 1) by decide +kernel) ?_
        exact j_ret (rokZ (show decode cX12_isOf 33 = .ok (.ireturn, 1) by decide +kernel) rfl (Or.inl rfl)) ⟨rfl, rfl, h⟩
      · have h := h.2 c
        refine j_goto (tgt := 28) (show decode cX12_isOf 17 = .ok (.goto 11, 3) by decide +kernel) (by decide) ?_
        refine j_iconst (show decode cX12_isOf 28 = .ok (.iconst 1, 1) by decide +kernel) ?_
        refine j_goto (tgt := 33) (show decode cX12_isOf 29 = .ok (.goto 4, 3) by decide +kernel) (by decide) ?_
        exact j_ret (rokZ (show decode cX12_isOf 33 = .ok (.ireturn, 1) by decide +kernel) rfl (Or.inr rfl)) ⟨rfl, rfl, h⟩
theorem c_X12_isOf {d : Nat} {t : Int} {Q : Int → jM → Prop} {σ : jM} {p1 : Int} (h : (inR p1) ∧ ((p1 < 5 → (Q 1 σ)) ∧ (5 ≤ p1 → ((inR p1) ∧ ((¬ p1 = 5 → ((inR (σ 321 14)) ∧ ((¬ (σ 321 14) = 1 → (Q 0 σ)) ∧ ((σ 321 14) = 1 → (Q 1 σ))))) ∧ (p1 = 5 → ((inR (σ 321 14)) ∧ ((¬ (σ 321 14) = 0 → (Q 0 σ)) ∧ ((σ 321 14) = 0 → (Q 1 σ)))))))))) : Ct mX12_isOf (d) 0 t [rv 321, iv p1] σ Q := Ct_of (by decide +kernel) (Nat.le_of_ble_eq_true rfl) (b_X12_isOf_0 h)
set_option maxRecDepth 4000 in
theorem b_X12_rank_0 {d : Nat} {t : Int} {Q : Int → jM → Prop} {σ : jM} {p0 : Int} (h : (inR p0) ∧ ((p0 < 40 → ((inR p0) ∧ ((¬ p0 = 22 → ((inR p0) ∧ ((¬ p0 = 21 → ((inR p0) ∧ ((¬ p0 = 20 → ((inR p0) ∧ ((p0 < 10 → ((inR p0) ∧ ((p0 < 8 → ((inR p0) ∧ ((p0 < 6 → (Q 7 σ)) ∧ (6 ≤ p0 → (Q 5 σ))))) ∧ (8 ≤ p0 → (Q 6 σ))))) ∧ (10 ≤ p0 → (Q 4 σ))))) ∧ (p0 = 20 → (Q 3 σ))))) ∧ (p0 = 21 → (Q 2 σ))))) ∧ (p0 = 22 → (Q 1 σ))))) ∧ (40 ≤ p0 → (Q 0 σ)))) : Jt mX12_rank (d) 0 t Q 0 [iv p0] [] σ := by
  refine j_iload_n (i := 0) rfl (show decode cX12_rank 0 = .ok (.iload_n 0, 1) by decide +kernel) ?_
  refine j_bipush (n := 40) (by decide +kernel) (show decode cX12_rank 1 = .ok (.bipush 40, 2) by decide +kernel) ?_
  have hr0 := h.1
  have h := h.2
  refine j_icmp_lt (tgt := 10) hr0 (inl (by decide)) (show decode cX12_rank 3 = .ok (.if_icmp .lt 7, 3) by decide +kernel) (by decide) (fun c => ?_) (fun c => ?_)
  · have h := h.1 c
    refine j_iload_n (i := 0) rfl (show decode cX12_rank 10 = .ok (.iload_n 0, 1) by decide +kernel) ?_
    refine j_bipush (n := 22) (by decide +kernel) (show decode cX12_rank 11 = .ok (.bipush 22, 2) by decide +kernel) ?_
    have hr1 := h.1
    have h := h.2
    refine j_icmp_ne (tgt := 20) hr1 (inl (by decide)) (show decode cX12_rank 13 = .ok (.if_icmp .ne 7, 3) by decide +kernel) (by decide) (fun c => ?_) (fun c => ?_)
    · have h := h.1 c
      refine j_iload_n (i := 0) rfl (show decode cX12_rank 20 = .ok (.iload_n 0, 1) by decide +kernel) ?_
      refine j_bipush (n := 21) (by decide +kernel) (show decode cX12_rank 21 = .ok (.bipush 21, 2) by decide +kernel) ?_
      have hr2 := h.1
      have h := h.2
      refine j_icmp_ne (tgt := 30) hr2 (inl (by decide)) (show decode cX12_rank 23 = .ok (.if_icmp .ne 7, 3) by decide +kernel) (by decide) (fun c => ?_) (fun c => ?_)
      · have h := h.1 c
        refine j_iload_n (i := 0) rfl (show decode cX12_rank 30 = .ok (.iload_n 0, 1) by decide +kernel) ?_
        refine j_bipush (n := 20) (by decide +kernel) (show decode cX12_rank 31 = .ok (.bipush 20, 2) by decide +kernel) ?_
        have hr3 := h.1
        have h := h.2
        refine j_icmp_ne (tgt := 40) hr3 (inl (by decide)) (show decode cX12_rank 33 = .ok (.if_icmp .ne 7, 3) by decide +kernel) (by decide) (fun c => ?_) (fun c => ?_)
        · have h := h.1 c
          refine j_iload_n (i := 0) rfl (show decode cX12_rank 40 = .ok (.iload_n 0, 1) by decide +kernel) ?_
          refine j_bipush (n := 10) (by decide +kernel) (show decode cX12_rank 41 = .ok (.bipush 10, 2) by decide +kernel) ?_
          have hr4 := h.1
          have h := h.2
          refine j_icmp_lt (tgt := 50) hr4 (inl (by decide)) (show decode cX12_rank 43 = .ok (.if_icmp .lt 7, 3) by decide +kernel) (by decide) (fun c => ?_) (fun c => ?_)
          · have h := h.1 c
            refine j_iload_n (i := 0) rfl (show decode cX12_rank 50 = .ok (.iload_n 0, 1) by decide +kernel) ?_
            refine j_bipush (n := 8) (by decide +kernel) (show decode cX12_rank 51 = .ok (.bipush 8, 2) by decide +kernel) ?_
            have hr5 := h.1
            have h := h.2
            refine j_icmp_lt (tgt := 61) hr5 (inl (by decide)) (show decode cX12_rank 53 = .ok (.if_icmp .lt 8, 3) by decide +kernel) (by decide) (fun c => ?_) (fun c => ?_)
            · have h := h.1 c
              refine j_iload_n (i := 0) rfl (show decode cX12_rank 61 = .ok (.iload_n 0, 1) by decide +kernel) ?_
              refine j_bipush (n := 6) (by decide +kernel) (show decode cX12_rank 62 = .ok (.bipush 6, 2) by decide +kernel) ?_
              have hr6 := h.1
              have h := h.2
              refine j_icmp_lt (tgt := 71) hr6 (inl (by decide)) (show decode cX12_rank 64 = .ok (.if_icmp .lt 7, 3) by decide +kernel) (by decide) (fun c => ?_) (fun c => ?_)
              · have h := h.1 c
                refine j_bipush (n := 7) (by decide +kernel) (show decode cX12_rank 71 = .ok (.bipush 7, 2) by decide +kernel) ?_
                exact j_ret (rokI (show decode cX12_rank 73 = .ok (.ireturn, 1) by decide +kernel) rfl) ⟨rfl, rfl, h⟩
              · have h := h.2 c
                refine j_iconst (show decode cX12_rank 67 = .ok (.iconst 5, 1) by decide +kernel) ?_
                refine j_goto (tgt := 73) (show decode cX12_rank 68 = .ok (.goto 5, 3) by decide +kernel) (by decide) ?_
                exact j_ret (rokI (show decode cX12_rank 73 = .ok (.ireturn, 1) by decide +kernel) rfl) ⟨rfl, rfl, h⟩
            · have h := h.2 c
              refine j_bipush (n := 6) (by decide +kernel) (show decode cX12_rank 56 = .ok (.bipush 6, 2) by decide +kernel) ?_
              refine j_goto (tgt := 73) (show decode cX12_rank 58 = .ok (.goto 15, 3) by decide +kernel) (by decide) ?_
              exact j_ret (rokI (show decode cX12_rank 73 = .ok (.ireturn, 1) by decide +kernel) rfl) ⟨rfl, rfl, h⟩
          · have h := h.2 c
            refine j_iconst (show decode cX12_rank 46 = .ok (.iconst 4, 1) by decide +kernel) ?_
            refine j_goto (tgt := 73) (show decode cX12_rank 47 = .ok (.goto 26, 3) by decide +kernel) (by decide) ?_
            exact j_ret (rokI (show decode cX12_rank 73 = .ok (.ireturn, 1) by decide +kernel) rfl) ⟨rfl, rfl, h⟩
        · have h := h.2 c
          refine j_iconst (show decode cX12_rank 36 = .ok (.iconst 3, 1) by decide +kernel) ?_
          refine j_goto (tgt := 73) (show decode cX12_rank 37 = .ok (.goto 36, 3) by decide +kernel) (by decide) ?_
          exact j_ret (rokI (show decode cX12_rank 73 = .ok (.ireturn, 1) by decide +kernel) rfl) ⟨rfl, rfl, h⟩
      · have h := h.2 c
        refine j_iconst (show decode cX12_rank 26 = .ok (.iconst 2, 1) by decide +kernel) ?_
        refine j_goto (tgt := 73) (show decode cX12_rank 27 = .ok (.goto 46, 3) by decide +kernel) (by decide) ?_
        exact j_ret (rokI (show decode cX12_rank 73 = .ok (.ireturn, 1) by decide +kernel) rfl) ⟨rfl, rfl, h⟩
    · have h := h.2 c
      refine j_iconst (show decode cX12_rank 16 = .ok (.iconst 1, 1) by decide +kernel) ?_
      refine j_goto (tgt := 73) (show decode cX12_rank 17 = .ok (.goto 56, 3) by decide +kernel) (by decide) ?_
      exact j_ret (rokI (show decode cX12_rank 73 = .ok (.ireturn, 1) by decide +kernel) rfl) ⟨rfl, rfl, h⟩
  · have h := h.2 c
    refine j_iconst (show decode cX12_rank 6 = .ok (.iconst 0, 1) by decide +kernel) ?_
    refine j_goto (tgt := 73) (show decode cX12_rank 7 = .ok (.goto 66, 3) by decide +kernel) (by decide) ?_
    exact j_ret (rokI (show decode cX12_rank 73 = .ok (.ireturn, 1) by decide +kernel) rfl) ⟨rfl, rfl, h⟩
theorem c_X12_rank {d : Nat} {t : Int} {Q : Int → jM → Prop} {σ : jM} {p0 : Int} (h : (inR p0) ∧ ((p0 < 40 → ((inR p0) ∧ ((¬ p0 = 22 → ((inR p0) ∧ ((¬ p0 = 21 → ((inR p0) ∧ ((¬ p0 = 20 → ((inR p0) ∧ ((p0 < 10 → ((inR p0) ∧ ((p0 < 8 → ((inR p0) ∧ ((p0 < 6 → (Q 7 σ)) ∧ (6 ≤ p0 → (Q 5 σ))))) ∧ (8 ≤ p0 → (Q 6 σ))))) ∧ (10 ≤ p0 → (Q 4 σ))))) ∧ (p0 = 20 → (Q 3 σ))))) ∧ (p0 = 21 → (Q 2 σ))))) ∧ (p0 = 22 → (Q 1 σ))))) ∧ (40 ≤ p0 → (Q 0 σ)))) : Ct mX12_rank (d) 0 t [iv p0] σ Q := Ct_of (by decide +kernel) (Nat.le_of_ble_eq_true rfl) (b_X12_rank_0 h)
set_option maxRecDepth 4000 in
theorem b_X12_settle_0 {d : Nat} {t : Int} {Q : Int → jM → Prop} {σ : jM} {p1 : Int} (h : (inR (σ 321 16)) ∧ (((σ 321 16) ≤ 0 → (Q 0 σ)) ∧ (0 < (σ 321 16) → (((0 : Int) ≤ ((σ 321 16) - 1) ∧ ((σ 321 16) - 1) < 160) ∧ (Ct mX12_rank d 0 t [iv (σ 326 ((σ 321 16) - 1))] σ (fun r2 σ2 => ((inR r2) ∧ ((inR p1) ∧ ((r2 < p1 → (Q 0 σ2)) ∧ (p1 ≤ r2 → (∀ σ5 : jM, σ5 = up σ2 321 16 ((σ2 321 16) - 1) → (((0 : Int) ≤ (σ5 321 16) ∧ (σ5 321 16) < 160) ∧ (Ct mX12_emit d 9 t [rv 321, iv (σ5 326 (σ5 321 16)), iv 0] σ5 (fun r6 σ6 => (((0 : Int) ≤ (σ6 321 16) ∧ (σ6 321 16) < 160) ∧ (Ct mX12_rank d 0 t [iv (σ6 326 (σ6 321 16))] σ6 (fun r7 σ7 => ((inR r7) ∧ ((r7 = 7 → (∀ σ9 : jM, σ9 = up σ7 321 17 ((σ7 321 17) - 1) → (Jt mX12_settle (d + 1) 9 t Q 0 [rv 321, iv p1] [] σ9))) ∧ (¬ r7 = 7 → (((0 : Int) ≤ (σ7 321 16) ∧ (σ7 321 16) < 160) ∧ ((inR (σ7 326 (σ7 321 16))) ∧ ((¬ (σ7 326 (σ7 321 16)) = 20 → (Jt mX12_settle (d + 1) 9 t Q 0 [rv 321, iv p1] [] σ7)) ∧ ((σ7 326 (σ7 321 16)) = 20 → (∀ σ11 : jM, σ11 = up σ7 321 17 ((σ7 321 17) - 1) → (Jt mX12_settle (d + 1) 9 t Q 0 [rv 321, iv p1] [] σ11)))))))))))))))))))))))))) : Jt mX12_settle (d + 1) 9 t Q 0 [rv 321, iv p1] [] σ := by
  refine s_aload_n (i := 0) rfl (show decode cX12_settle 0 = .ok (.aload_n 0, 1) by decide +kernel) ?_
  refine gf_X12_164 rfl (show decode cX12_settle 1 = .ok (.getfield 164, 3) by decide +kernel) okl_321 ?_
  have hr0 := h.1
  have h := h.2
  refine j_if_le (tgt := 93) hr0 (show decode cX12_settle 4 = .ok (.ifCond .le 89, 3) by decide +kernel) (by decide) (fun c => ?_) (fun c => ?_)
  · have h := h.1 c
    exact j_ret (rokV (show decode cX12_settle 93 = .ok (.return_, 1) by decide +kernel) rfl) ⟨rfl, rfl, h⟩
  · have h := h.2 c
    refine s_aload_n (i := 0) rfl (show decode cX12_settle 7 = .ok (.aload_n 0, 1) by decide +kernel) ?_
    refine gf_X12_29 (x := 326) rfl (show decode cX12_settle 8 = .ok (.getfield 29, 3) by decide +kernel) okl_321 rfl ?_
    refine s_aload_n (i := 0) rfl (show decode cX12_settle 11 = .ok (.aload_n 0, 1) by decide +kernel) ?_
    refine gf_X12_164 rfl (show decode cX12_settle 12 = .ok (.getfield 164, 3) by decide +kernel) okl_321 ?_
    refine j_iconst (show decode cX12_settle 15 = .ok (.iconst 1, 1) by decide +kernel) ?_
    refine j_isub (show decode cX12_settle 16 = .ok (.isub, 1) by decide +kernel) ?_
    refine s_iald (show decode cX12_settle 17 = .ok (.iaload, 1) by decide +kernel) okl_326 h.1 ?_
    have h := h.2
    refine j_ctS (m' := mX12_rank) (As := [iv (σ 326 ((σ 321 16) - 1))]) (tag := 0) (cw_X12_167 rfl) (show decode cX12_settle 18 = .ok (.invokestatic 167, 3) by decide +kernel) rfl (Nat.le_of_ble_eq_true rfl) (by decide) (Nat.le_refl _) h (fun r2 σ2 h => ?_)
    refine j_iload_n (i := 1) rfl (show decode cX12_settle 21 = .ok (.iload_n 1, 1) by decide +kernel) ?_
    have hr2 := h.1
    have h := h.2
    have hr3 := h.1
    have h := h.2
    refine j_icmp_lt (tgt := 93) hr2 hr3 (show decode cX12_settle 22 = .ok (.if_icmp .lt 71, 3) by decide +kernel) (by decide) (fun c => ?_) (fun c => ?_)
    · have h := h.1 c
      exact j_ret (rokV (show decode cX12_settle 93 = .ok (.return_, 1) by decide +kernel) rfl) ⟨rfl, rfl, h⟩
    · have h := h.2 c
      refine s_aload_n (i := 0) rfl (show decode cX12_settle 25 = .ok (.aload_n 0, 1) by decide +kernel) ?_
      refine j_dup (show (2 : Nat) ≠ 1 by decide) (show decode cX12_settle 26 = .ok (.dup, 1) by decide +kernel) ?_
      refine gf_X12_164 rfl (show decode cX12_settle 27 = .ok (.getfield 164, 3) by decide +kernel) okl_321 ?_
      refine j_iconst (show decode cX12_settle 30 = .ok (.iconst 1, 1) by decide +kernel) ?_
      refine j_isub (show decode cX12_settle 31 = .ok (.isub, 1) by decide +kernel) ?_
      refine pf_X12_164 rfl (show decode cX12_settle 32 = .ok (.putfield 164, 3) by decide +kernel) okl_321 ?_
      obtain ⟨σ5, eσ5⟩ : ∃ z : jM, z = up σ2 321 16 ((σ2 321 16) - 1) := ⟨_, rfl⟩
      refine j_sig eσ5 ?_
      have h := h σ5 eσ5
      refine s_aload_n (i := 0) rfl (show decode cX12_settle 35 = .ok (.aload_n 0, 1) by decide +kernel) ?_
      refine s_aload_n (i := 0) rfl (show decode cX12_settle 36 = .ok (.aload_n 0, 1) by decide +kernel) ?_
      refine gf_X12_29 (x := 326) rfl (show decode cX12_settle 37 = .ok (.getfield 29, 3) by decide +kernel) okl_321 rfl ?_
      refine s_aload_n (i := 0) rfl (show decode cX12_settle 40 = .ok (.aload_n 0, 1) by decide +kernel) ?_
      refine gf_X12_164 rfl (show decode cX12_settle 41 = .ok (.getfield 164, 3) by decide +kernel) okl_321 ?_
      refine s_iald (show decode cX12_settle 44 = .ok (.iaload, 1) by decide +kernel) okl_326 h.1 ?_
      have h := h.2
      refine j_iconst (show decode cX12_settle 45 = .ok (.iconst 0, 1) by decide +kernel) ?_
      refine j_ctVv (m' := mX12_emit) (As := [iv (σ5 326 (σ5 321 16)), iv 0]) (ci := 12) (N := 0) (cw_X12_170 rfl) (show decode cX12_settle 46 = .ok (.invokevirtual 170, 3) by decide +kernel) rfl (Nat.le_of_ble_eq_true rfl) okl_321 rfl rfl (Nat.le_refl _) h (fun r6 σ6 h => ?_)
      refine s_aload_n (i := 0) rfl (show decode cX12_settle 49 = .ok (.aload_n 0, 1) by decide +kernel) ?_
      refine gf_X12_29 (x := 326) rfl (show decode cX12_settle 50 = .ok (.getfield 29, 3) by decide +kernel) okl_321 rfl ?_
      refine s_aload_n (i := 0) rfl (show decode cX12_settle 53 = .ok (.aload_n 0, 1) by decide +kernel) ?_
      refine gf_X12_164 rfl (show decode cX12_settle 54 = .ok (.getfield 164, 3) by decide +kernel) okl_321 ?_
      refine s_iald (show decode cX12_settle 57 = .ok (.iaload, 1) by decide +kernel) okl_326 h.1 ?_
      have h := h.2
      refine j_ctS (m' := mX12_rank) (As := [iv (σ6 326 (σ6 321 16))]) (tag := 0) (cw_X12_167 rfl) (show decode cX12_settle 58 = .ok (.invokestatic 167, 3) by decide +kernel) rfl (Nat.le_of_ble_eq_true rfl) (by decide) (Nat.le_refl _) h (fun r7 σ7 h => ?_)
      refine j_bipush (n := 7) (by decide +kernel) (show decode cX12_settle 61 = .ok (.bipush 7, 2) by decide +kernel) ?_
      have hr7 := h.1
      have h := h.2
      refine j_icmp_eq (tgt := 80) hr7 (inl (by decide)) (show decode cX12_settle 63 = .ok (.if_icmp .eq 17, 3) by decide +kernel) (by decide) (fun c => ?_) (fun c => ?_)
      · have h := h.1 c
        refine s_aload_n (i := 0) rfl (show decode cX12_settle 80 = .ok (.aload_n 0, 1) by decide +kernel) ?_
        refine j_dup (show (2 : Nat) ≠ 1 by decide) (show decode cX12_settle 81 = .ok (.dup, 1) by decide +kernel) ?_
        refine gf_X12_174 rfl (show decode cX12_settle 82 = .ok (.getfield 174, 3) by decide +kernel) okl_321 ?_
        refine j_iconst (show decode cX12_settle 85 = .ok (.iconst 1, 1) by decide +kernel) ?_
        refine j_isub (show decode cX12_settle 86 = .ok (.isub, 1) by decide +kernel) ?_
        refine pf_X12_174 rfl (show decode cX12_settle 87 = .ok (.putfield 174, 3) by decide +kernel) okl_321 ?_
        obtain ⟨σ9, eσ9⟩ : ∃ z : jM, z = up σ7 321 17 ((σ7 321 17) - 1) := ⟨_, rfl⟩
        refine j_sig eσ9 ?_
        have h := h σ9 eσ9
        refine j_goto (tgt := 0) (show decode cX12_settle 90 = .ok (.goto (-90), 3) by decide +kernel) (by decide) ?_
        exact h
      · have h := h.2 c
        refine s_aload_n (i := 0) rfl (show decode cX12_settle 66 = .ok (.aload_n 0, 1) by decide +kernel) ?_
        refine gf_X12_29 (x := 326) rfl (show decode cX12_settle 67 = .ok (.getfield 29, 3) by decide +kernel) okl_321 rfl ?_
        refine s_aload_n (i := 0) rfl (show decode cX12_settle 70 = .ok (.aload_n 0, 1) by decide +kernel) ?_
        refine gf_X12_164 rfl (show decode cX12_settle 71 = .ok (.getfield 164, 3) by decide +kernel) okl_321 ?_
        refine s_iald (show decode cX12_settle 74 = .ok (.iaload, 1) by decide +kernel) okl_326 h.1 ?_
        have h := h.2
        refine j_bipush (n := 20) (by decide +kernel) (show decode cX12_settle 75 = .ok (.bipush 20, 2) by decide +kernel) ?_
        have hr9 := h.1
        have h := h.2
        refine j_icmp_ne (tgt := 0) hr9 (inl (by decide)) (show decode cX12_settle 77 = .ok (.if_icmp .ne (-77), 3) by decide +kernel) (by decide) (fun c => ?_) (fun c => ?_)
        · have h := h.1 c
          exact h
        · have h := h.2 c
          refine s_aload_n (i := 0) rfl (show decode cX12_settle 80 = .ok (.aload_n 0, 1) by decide +kernel) ?_
          refine j_dup (show (2 : Nat) ≠ 1 by decide) (show decode cX12_settle 81 = .ok (.dup, 1) by decide +kernel) ?_
          refine gf_X12_174 rfl (show decode cX12_settle 82 = .ok (.getfield 174, 3) by decide +kernel) okl_321 ?_
          refine j_iconst (show decode cX12_settle 85 = .ok (.iconst 1, 1) by decide +kernel) ?_
          refine j_isub (show decode cX12_settle 86 = .ok (.isub, 1) by decide +kernel) ?_
          refine pf_X12_174 rfl (show decode cX12_settle 87 = .ok (.putfield 174, 3) by decide +kernel) okl_321 ?_
          obtain ⟨σ11, eσ11⟩ : ∃ z : jM, z = up σ7 321 17 ((σ7 321 17) - 1) := ⟨_, rfl⟩
          refine j_sig eσ11 ?_
          have h := h σ11 eσ11
          refine j_goto (tgt := 0) (show decode cX12_settle 90 = .ok (.goto (-90), 3) by decide +kernel) (by decide) ?_
          exact h
theorem c_X12_settle {d : Nat} {t : Int} {Q : Int → jM → Prop} {σ : jM} {p1 : Int} (h : (inR (σ 321 16)) ∧ (((σ 321 16) ≤ 0 → (Q 0 σ)) ∧ (0 < (σ 321 16) → (((0 : Int) ≤ ((σ 321 16) - 1) ∧ ((σ 321 16) - 1) < 160) ∧ (Ct mX12_rank d 0 t [iv (σ 326 ((σ 321 16) - 1))] σ (fun r2 σ2 => ((inR r2) ∧ ((inR p1) ∧ ((r2 < p1 → (Q 0 σ2)) ∧ (p1 ≤ r2 → (∀ σ5 : jM, σ5 = up σ2 321 16 ((σ2 321 16) - 1) → (((0 : Int) ≤ (σ5 321 16) ∧ (σ5 321 16) < 160) ∧ (Ct mX12_emit d 9 t [rv 321, iv (σ5 326 (σ5 321 16)), iv 0] σ5 (fun r6 σ6 => (((0 : Int) ≤ (σ6 321 16) ∧ (σ6 321 16) < 160) ∧ (Ct mX12_rank d 0 t [iv (σ6 326 (σ6 321 16))] σ6 (fun r7 σ7 => ((inR r7) ∧ ((r7 = 7 → (∀ σ9 : jM, σ9 = up σ7 321 17 ((σ7 321 17) - 1) → (Jt mX12_settle (d + 1) 9 t Q 0 [rv 321, iv p1] [] σ9))) ∧ (¬ r7 = 7 → (((0 : Int) ≤ (σ7 321 16) ∧ (σ7 321 16) < 160) ∧ ((inR (σ7 326 (σ7 321 16))) ∧ ((¬ (σ7 326 (σ7 321 16)) = 20 → (Jt mX12_settle (d + 1) 9 t Q 0 [rv 321, iv p1] [] σ7)) ∧ ((σ7 326 (σ7 321 16)) = 20 → (∀ σ11 : jM, σ11 = up σ7 321 17 ((σ7 321 17) - 1) → (Jt mX12_settle (d + 1) 9 t Q 0 [rv 321, iv p1] [] σ11)))))))))))))))))))))))))) : Ct mX12_settle (d + 1) 9 t [rv 321, iv p1] σ Q := Ct_of (by decide +kernel) (Nat.le_of_ble_eq_true rfl) (b_X12_settle_0 h)
set_option maxRecDepth 4000 in
theorem b_X12_openAt_7 {d : Nat} {t : Int} {Q : Int → jM → Prop} {σ : jM} {v1 : Int} (h : (inR v1) ∧ ((v1 < 0 → (Q v1 σ)) ∧ (0 ≤ v1 → (((0 : Int) ≤ v1 ∧ v1 < 160) ∧ ((inR (σ 326 v1)) ∧ ((40 ≤ (σ 326 v1) → (Q v1 σ)) ∧ ((σ 326 v1) < 40 → (Jt mX12_openAt (d) 0 t Q 7 [rv 321, iv (v1 + (-1))] [] σ)))))))) : Jt mX12_openAt (d) 0 t Q 7 [rv 321, iv v1] [] σ := by
  refine j_iload_n (i := 1) rfl (show decode cX12_openAt 7 = .ok (.iload_n 1, 1) by decide +kernel) ?_
  have hr0 := h.1
  have h := h.2
  refine j_if_lt (tgt := 28) hr0 (show decode cX12_openAt 8 = .ok (.ifCond .lt 20, 3) by decide +kernel) (by decide) (fun c => ?_) (fun c => ?_)
  · have h := h.1 c
    refine j_iload_n (i := 1) rfl (show decode cX12_openAt 28 = .ok (.iload_n 1, 1) by decide +kernel) ?_
    exact j_ret (rokI (show decode cX12_openAt 29 = .ok (.ireturn, 1) by decide +kernel) rfl) ⟨rfl, rfl, h⟩
  · have h := h.2 c
    refine s_aload_n (i := 0) rfl (show decode cX12_openAt 11 = .ok (.aload_n 0, 1) by decide +kernel) ?_
    refine gf_X12_29 (x := 326) rfl (show decode cX12_openAt 12 = .ok (.getfield 29, 3) by decide +kernel) okl_321 rfl ?_
    refine j_iload_n (i := 1) rfl (show decode cX12_openAt 15 = .ok (.iload_n 1, 1) by decide +kernel) ?_
    refine s_iald (show decode cX12_openAt 16 = .ok (.iaload, 1) by decide +kernel) okl_326 h.1 ?_
    have h := h.2
    refine j_bipush (n := 40) (by decide +kernel) (show decode cX12_openAt 17 = .ok (.bipush 40, 2) by decide +kernel) ?_
    have hr1 := h.1
    have h := h.2
    refine j_icmp_ge (tgt := 28) hr1 (inl (by decide)) (show decode cX12_openAt 19 = .ok (.if_icmp .ge 9, 3) by decide +kernel) (by decide) (fun c => ?_) (fun c => ?_)
    · have h := h.1 c
      refine j_iload_n (i := 1) rfl (show decode cX12_openAt 28 = .ok (.iload_n 1, 1) by decide +kernel) ?_
      exact j_ret (rokI (show decode cX12_openAt 29 = .ok (.ireturn, 1) by decide +kernel) rfl) ⟨rfl, rfl, h⟩
    · have h := h.2 c
      refine s_iinc (i := 1) rfl (L' := [rv 321, iv (v1 + (-1))]) rfl (show decode cX12_openAt 22 = .ok (.iinc 1 (-1), 3) by decide +kernel) ?_
      refine j_goto (tgt := 7) (show decode cX12_openAt 25 = .ok (.goto (-18), 3) by decide +kernel) (by decide) ?_
      exact h
set_option maxRecDepth 4000 in
theorem b_X12_openAt_0 {d : Nat} {t : Int} {Q : Int → jM → Prop} {σ : jM} (h : Jt mX12_openAt (d) 0 t Q 7 [rv 321, iv ((σ 321 16) - 1)] [] σ) : Jt mX12_openAt (d) 0 t Q 0 [rv 321, uv] [] σ := by
  refine s_aload_n (i := 0) rfl (show decode cX12_openAt 0 = .ok (.aload_n 0, 1) by decide +kernel) ?_
  refine gf_X12_164 rfl (show decode cX12_openAt 1 = .ok (.getfield 164, 3) by decide +kernel) okl_321 ?_
  refine j_iconst (show decode cX12_openAt 4 = .ok (.iconst 1, 1) by decide +kernel) ?_
  refine j_isub (show decode cX12_openAt 5 = .ok (.isub, 1) by decide +kernel) ?_
  refine s_ist_n (i := 1) (L' := [rv 321, iv ((σ 321 16) - 1)]) rfl (by decide) (show decode cX12_openAt 6 = .ok (.istore_n 1, 1) by decide +kernel) ?_
  exact h
theorem c_X12_openAt {d : Nat} {t : Int} {Q : Int → jM → Prop} {σ : jM} (h : Jt mX12_openAt (d) 0 t Q 7 [rv 321, iv ((σ 321 16) - 1)] [] σ) : Ct mX12_openAt (d) 0 t [rv 321] σ Q := Ct_of (by decide +kernel) (Nat.le_of_ble_eq_true rfl) (b_X12_openAt_0 h)
set_option maxRecDepth 4000 in
theorem b_X12_openNow_0 {d : Nat} {t : Int} {Q : Int → jM → Prop} {σ : jM} (h : Ct mX12_openAt d 0 t [rv 321] σ (fun r1 σ1 => ((inR r1) ∧ ((0 ≤ r1 → (Ct mX12_openAt d 0 t [rv 321] σ1 (fun r3 σ3 => (((0 : Int) ≤ r3 ∧ r3 < 160) ∧ (Q (σ3 326 r3) σ3))))) ∧ (r1 < 0 → (Q (-1) σ1)))))) : Jt mX12_openNow (d + 1) 0 t Q 0 [rv 321] [] σ := by
  refine s_aload_n (i := 0) rfl (show decode cX12_openNow 0 = .ok (.aload_n 0, 1) by decide +kernel) ?_
  refine j_ctV (m' := mX12_openAt) (As := []) (ci := 12) (tag := 0) (N := 0) (cw_X12_177 rfl) (show decode cX12_openNow 1 = .ok (.invokevirtual 177, 3) by decide +kernel) rfl (Nat.le_of_ble_eq_true rfl) (by decide) okl_321 rfl rfl (Nat.le_refl _) h (fun r1 σ1 h => ?_)
  have hr1 := h.1
  have h := h.2
  refine j_if_ge (tgt := 11) hr1 (show decode cX12_openNow 4 = .ok (.ifCond .ge 7, 3) by decide +kernel) (by decide) (fun c => ?_) (fun c => ?_)
  · have h := h.1 c
    refine s_aload_n (i := 0) rfl (show decode cX12_openNow 11 = .ok (.aload_n 0, 1) by decide +kernel) ?_
    refine gf_X12_29 (x := 326) rfl (show decode cX12_openNow 12 = .ok (.getfield 29, 3) by decide +kernel) okl_321 rfl ?_
    refine s_aload_n (i := 0) rfl (show decode cX12_openNow 15 = .ok (.aload_n 0, 1) by decide +kernel) ?_
    refine j_ctV (m' := mX12_openAt) (As := []) (ci := 12) (tag := 0) (N := 0) (cw_X12_177 rfl) (show decode cX12_openNow 16 = .ok (.invokevirtual 177, 3) by decide +kernel) rfl (Nat.le_of_ble_eq_true rfl) (by decide) okl_321 rfl rfl (Nat.le_refl _) h (fun r3 σ3 h => ?_)
    refine s_iald (show decode cX12_openNow 19 = .ok (.iaload, 1) by decide +kernel) okl_326 h.1 ?_
    have h := h.2
    exact j_ret (rokI (show decode cX12_openNow 20 = .ok (.ireturn, 1) by decide +kernel) rfl) ⟨rfl, rfl, h⟩
  · have h := h.2 c
    refine j_iconst (show decode cX12_openNow 7 = .ok (.iconst (-1), 1) by decide +kernel) ?_
    refine j_goto (tgt := 20) (show decode cX12_openNow 8 = .ok (.goto 12, 3) by decide +kernel) (by decide) ?_
    exact j_ret (rokI (show decode cX12_openNow 20 = .ok (.ireturn, 1) by decide +kernel) rfl) ⟨rfl, rfl, h⟩
theorem c_X12_openNow {d : Nat} {t : Int} {Q : Int → jM → Prop} {σ : jM} (h : Ct mX12_openAt d 0 t [rv 321] σ (fun r1 σ1 => ((inR r1) ∧ ((0 ≤ r1 → (Ct mX12_openAt d 0 t [rv 321] σ1 (fun r3 σ3 => (((0 : Int) ≤ r3 ∧ r3 < 160) ∧ (Q (σ3 326 r3) σ3))))) ∧ (r1 < 0 → (Q (-1) σ1)))))) : Ct mX12_openNow (d + 1) 0 t [rv 321] σ Q := Ct_of (by decide +kernel) (Nat.le_of_ble_eq_true rfl) (b_X12_openNow_0 h)
set_option maxRecDepth 4000 in
theorem b_X12_isCompared_7 {d : Nat} {t : Int} {Q : Int → jM → Prop} {σ : jM} {v1 : Int} (h : (inR v1) ∧ ((v1 < 0 → ((inR v1) ∧ ((v1 < 0 → (Q 0 σ)) ∧ (0 ≤ v1 → (((0 : Int) ≤ v1 ∧ v1 < 160) ∧ (Ct mX12_rank d 0 t [iv (σ 326 v1)] σ (fun r3 σ3 => ((inR r3) ∧ ((¬ r3 = 4 → (Q 0 σ3)) ∧ (r3 = 4 → (Q 1 σ3))))))))))) ∧ (0 ≤ v1 → (((0 : Int) ≤ v1 ∧ v1 < 160) ∧ (Ct mX12_rank d 0 t [iv (σ 326 v1)] σ (fun r5 σ5 => ((inR r5) ∧ ((r5 ≤ 4 → ((inR v1) ∧ ((v1 < 0 → (Q 0 σ5)) ∧ (0 ≤ v1 → (((0 : Int) ≤ v1 ∧ v1 < 160) ∧ (Ct mX12_rank d 0 t [iv (σ5 326 v1)] σ5 (fun r8 σ8 => ((inR r8) ∧ ((¬ r8 = 4 → (Q 0 σ8)) ∧ (r8 = 4 → (Q 1 σ8))))))))))) ∧ (4 < r5 → (Jt mX12_isCompared (d + 1) 0 t Q 7 [rv 321, iv (v1 + (-1))] [] σ5)))))))))) : Jt mX12_isCompared (d + 1) 0 t Q 7 [rv 321, iv v1] [] σ := by
  refine j_iload_n (i := 1) rfl (show decode cX12_isCompared 7 = .ok (.iload_n 1, 1) by decide +kernel) ?_
  have hr0 := h.1
  have h := h.2
  refine j_if_lt (tgt := 30) hr0 (show decode cX12_isCompared 8 = .ok (.ifCond .lt 22, 3) by decide +kernel) (by decide) (fun c => ?_) (fun c => ?_)
  · have h := h.1 c
    refine j_iload_n (i := 1) rfl (show decode cX12_isCompared 30 = .ok (.iload_n 1, 1) by decide +kernel) ?_
    have hr1 := h.1
    have h := h.2
    refine j_if_lt (tgt := 51) hr1 (show decode cX12_isCompared 31 = .ok (.ifCond .lt 20, 3) by decide +kernel) (by decide) (fun c => ?_) (fun c => ?_)
    · have h := h.1 c
      refine j_iconst (show decode cX12_isCompared 51 = .ok (.iconst 0, 1) by decide +kernel) ?_
      exact j_ret (rokZ (show decode cX12_isCompared 52 = .ok (.ireturn, 1) by decide +kernel) rfl (Or.inl rfl)) ⟨rfl, rfl, h⟩
    · have h := h.2 c
      refine s_aload_n (i := 0) rfl (show decode cX12_isCompared 34 = .ok (.aload_n 0, 1) by decide +kernel) ?_
      refine gf_X12_29 (x := 326) rfl (show decode cX12_isCompared 35 = .ok (.getfield 29, 3) by decide +kernel) okl_321 rfl ?_
      refine j_iload_n (i := 1) rfl (show decode cX12_isCompared 38 = .ok (.iload_n 1, 1) by decide +kernel) ?_
      refine s_iald (show decode cX12_isCompared 39 = .ok (.iaload, 1) by decide +kernel) okl_326 h.1 ?_
      have h := h.2
      refine j_ctS (m' := mX12_rank) (As := [iv (σ 326 v1)]) (tag := 0) (cw_X12_167 rfl) (show decode cX12_isCompared 40 = .ok (.invokestatic 167, 3) by decide +kernel) rfl (Nat.le_of_ble_eq_true rfl) (by decide) (Nat.le_refl _) h (fun r3 σ3 h => ?_)
      refine j_iconst (show decode cX12_isCompared 43 = .ok (.iconst 4, 1) by decide +kernel) ?_
      have hr3 := h.1
      have h := h.2
      refine j_icmp_ne (tgt := 51) hr3 (inl (by decide)) (show decode cX12_isCompared 44 = .ok (.if_icmp .ne 7, 3) by decide +kernel) (by decide) (fun c => ?_) (fun c => ?_)
      · have h := h.1 c
        refine j_iconst (show decode cX12_isCompared 51 = .ok (.iconst 0, 1) by decide +kernel) ?_
        exact j_ret (rokZ (show decode cX12_isCompared 52 = .ok (.ireturn, 1) by decide +kernel) rfl (Or.inl rfl)) ⟨rfl, rfl, h⟩
      · have h := h.2 c
        refine j_iconst (show decode cX12_isCompared 47 = .ok (.iconst 1, 1) by decide +kernel) ?_
        refine j_goto (tgt := 52) (show decode cX12_isCompared 48 = .ok (.goto 4, 3) by decide +kernel) (by decide) ?_
        exact j_ret (rokZ (show decode cX12_isCompared 52 = .ok (.ireturn, 1) by decide +kernel) rfl (Or.inr rfl)) ⟨rfl, rfl, h⟩
  · have h := h.2 c
    refine s_aload_n (i := 0) rfl (show decode cX12_isCompared 11 = .ok (.aload_n 0, 1) by decide +kernel) ?_
    refine gf_X12_29 (x := 326) rfl (show decode cX12_isCompared 12 = .ok (.getfield 29, 3) by decide +kernel) okl_321 rfl ?_
    refine j_iload_n (i := 1) rfl (show decode cX12_isCompared 15 = .ok (.iload_n 1, 1) by decide +kernel) ?_
    refine s_iald (show decode cX12_isCompared 16 = .ok (.iaload, 1) by decide +kernel) okl_326 h.1 ?_
    have h := h.2
    refine j_ctS (m' := mX12_rank) (As := [iv (σ 326 v1)]) (tag := 0) (cw_X12_167 rfl) (show decode cX12_isCompared 17 = .ok (.invokestatic 167, 3) by decide +kernel) rfl (Nat.le_of_ble_eq_true rfl) (by decide) (Nat.le_refl _) h (fun r5 σ5 h => ?_)
    refine j_iconst (show decode cX12_isCompared 20 = .ok (.iconst 4, 1) by decide +kernel) ?_
    have hr5 := h.1
    have h := h.2
    refine j_icmp_le (tgt := 30) hr5 (inl (by decide)) (show decode cX12_isCompared 21 = .ok (.if_icmp .le 9, 3) by decide +kernel) (by decide) (fun c => ?_) (fun c => ?_)
    · have h := h.1 c
      refine j_iload_n (i := 1) rfl (show decode cX12_isCompared 30 = .ok (.iload_n 1, 1) by decide +kernel) ?_
      have hr6 := h.1
      have h := h.2
      refine j_if_lt (tgt := 51) hr6 (show decode cX12_isCompared 31 = .ok (.ifCond .lt 20, 3) by decide +kernel) (by decide) (fun c => ?_) (fun c => ?_)
      · have h := h.1 c
        refine j_iconst (show decode cX12_isCompared 51 = .ok (.iconst 0, 1) by decide +kernel) ?_
        exact j_ret (rokZ (show decode cX12_isCompared 52 = .ok (.ireturn, 1) by decide +kernel) rfl (Or.inl rfl)) ⟨rfl, rfl, h⟩
      · have h := h.2 c
        refine s_aload_n (i := 0) rfl (show decode cX12_isCompared 34 = .ok (.aload_n 0, 1) by decide +kernel) ?_
        refine gf_X12_29 (x := 326) rfl (show decode cX12_isCompared 35 = .ok (.getfield 29, 3) by decide +kernel) okl_321 rfl ?_
        refine j_iload_n (i := 1) rfl (show decode cX12_isCompared 38 = .ok (.iload_n 1, 1) by decide +kernel) ?_
        refine s_iald (show decode cX12_isCompared 39 = .ok (.iaload, 1) by decide +kernel) okl_326 h.1 ?_
        have h := h.2
        refine j_ctS (m' := mX12_rank) (As := [iv (σ5 326 v1)]) (tag := 0) (cw_X12_167 rfl) (show decode cX12_isCompared 40 = .ok (.invokestatic 167, 3) by decide +kernel) rfl (Nat.le_of_ble_eq_true rfl) (by decide) (Nat.le_refl _) h (fun r8 σ8 h => ?_)
        refine j_iconst (show decode cX12_isCompared 43 = .ok (.iconst 4, 1) by decide +kernel) ?_
        have hr8 := h.1
        have h := h.2
        refine j_icmp_ne (tgt := 51) hr8 (inl (by decide)) (show decode cX12_isCompared 44 = .ok (.if_icmp .ne 7, 3) by decide +kernel) (by decide) (fun c => ?_) (fun c => ?_)
        · have h := h.1 c
          refine j_iconst (show decode cX12_isCompared 51 = .ok (.iconst 0, 1) by decide +kernel) ?_
          exact j_ret (rokZ (show decode cX12_isCompared 52 = .ok (.ireturn, 1) by decide +kernel) rfl (Or.inl rfl)) ⟨rfl, rfl, h⟩
        · have h := h.2 c
          refine j_iconst (show decode cX12_isCompared 47 = .ok (.iconst 1, 1) by decide +kernel) ?_
          refine j_goto (tgt := 52) (show decode cX12_isCompared 48 = .ok (.goto 4, 3) by decide +kernel) (by decide) ?_
          exact j_ret (rokZ (show decode cX12_isCompared 52 = .ok (.ireturn, 1) by decide +kernel) rfl (Or.inr rfl)) ⟨rfl, rfl, h⟩
    · have h := h.2 c
      refine s_iinc (i := 1) rfl (L' := [rv 321, iv (v1 + (-1))]) rfl (show decode cX12_isCompared 24 = .ok (.iinc 1 (-1), 3) by decide +kernel) ?_
      refine j_goto (tgt := 7) (show decode cX12_isCompared 27 = .ok (.goto (-20), 3) by decide +kernel) (by decide) ?_
      exact h
set_option maxRecDepth 4000 in
theorem b_X12_isCompared_0 {d : Nat} {t : Int} {Q : Int → jM → Prop} {σ : jM} (h : Jt mX12_isCompared (d + 1) 0 t Q 7 [rv 321, iv ((σ 321 16) - 1)] [] σ) : Jt mX12_isCompared (d + 1) 0 t Q 0 [rv 321, uv] [] σ := by
  refine s_aload_n (i := 0) rfl (show decode cX12_isCompared 0 = .ok (.aload_n 0, 1) by decide +kernel) ?_
  refine gf_X12_164 rfl (show decode cX12_isCompared 1 = .ok (.getfield 164, 3) by decide +kernel) okl_321 ?_
  refine j_iconst (show decode cX12_isCompared 4 = .ok (.iconst 1, 1) by decide +kernel) ?_
  refine j_isub (show decode cX12_isCompared 5 = .ok (.isub, 1) by decide +kernel) ?_
  refine s_ist_n (i := 1) (L' := [rv 321, iv ((σ 321 16) - 1)]) rfl (by decide) (show decode cX12_isCompared 6 = .ok (.istore_n 1, 1) by decide +kernel) ?_
  exact h
theorem c_X12_isCompared {d : Nat} {t : Int} {Q : Int → jM → Prop} {σ : jM} (h : Jt mX12_isCompared (d + 1) 0 t Q 7 [rv 321, iv ((σ 321 16) - 1)] [] σ) : Ct mX12_isCompared (d + 1) 0 t [rv 321] σ Q := Ct_of (by decide +kernel) (Nat.le_of_ble_eq_true rfl) (b_X12_isCompared_0 h)
set_option maxRecDepth 4000 in
theorem b_X12_isAskAhead_0 {d : Nat} {t : Int} {Q : Int → jM → Prop} {σ : jM} (h : Ct mX12_openNow d 0 t [rv 321] σ (fun r1 σ1 => ((inR r1) ∧ ((¬ r1 = 41 → (Q 0 σ1)) ∧ (r1 = 41 → (((0 : Int) ≤ ((σ1 321 16) - 1) ∧ ((σ1 321 16) - 1) < 160) ∧ ((inR (σ1 326 ((σ1 321 16) - 1))) ∧ ((40 ≤ (σ1 326 ((σ1 321 16) - 1)) → (Q 1 σ1)) ∧ ((σ1 326 ((σ1 321 16) - 1)) < 40 → (((0 : Int) ≤ ((σ1 321 16) - 1) ∧ ((σ1 321 16) - 1) < 160) ∧ (Ct mX12_rank d 0 t [iv (σ1 326 ((σ1 321 16) - 1))] σ1 (fun r4 σ4 => (Ct mX12_isIn d 0 t [iv r4, iv 1, iv 3] σ4 (fun r5 σ5 => ((inR r5) ∧ ((r5 = 0 → (Q 0 σ5)) ∧ (¬ r5 = 0 → (Q 1 σ5)))))))))))))))))) : Jt mX12_isAskAhead (d + 1) 0 t Q 0 [rv 321] [] σ := by
  refine s_aload_n (i := 0) rfl (show decode cX12_isAskAhead 0 = .ok (.aload_n 0, 1) by decide +kernel) ?_
  refine j_ctV (m' := mX12_openNow) (As := []) (ci := 12) (tag := 0) (N := 0) (cw_X12_181 rfl) (show decode cX12_isAskAhead 1 = .ok (.invokevirtual 181, 3) by decide +kernel) rfl (Nat.le_of_ble_eq_true rfl) (by decide) okl_321 rfl rfl (Nat.le_refl _) h (fun r1 σ1 h => ?_)
  refine j_bipush (n := 41) (by decide +kernel) (show decode cX12_isAskAhead 4 = .ok (.bipush 41, 2) by decide +kernel) ?_
  have hr1 := h.1
  have h := h.2
  refine j_icmp_ne (tgt := 51) hr1 (inl (by decide)) (show decode cX12_isAskAhead 6 = .ok (.if_icmp .ne 45, 3) by decide +kernel) (by decide) (fun c => ?_) (fun c => ?_)
  · have h := h.1 c
    refine j_iconst (show decode cX12_isAskAhead 51 = .ok (.iconst 0, 1) by decide +kernel) ?_
    exact j_ret (rokZ (show decode cX12_isAskAhead 52 = .ok (.ireturn, 1) by decide +kernel) rfl (Or.inl rfl)) ⟨rfl, rfl, h⟩
  · have h := h.2 c
    refine s_aload_n (i := 0) rfl (show decode cX12_isAskAhead 9 = .ok (.aload_n 0, 1) by decide +kernel) ?_
    refine gf_X12_29 (x := 326) rfl (show decode cX12_isAskAhead 10 = .ok (.getfield 29, 3) by decide +kernel) okl_321 rfl ?_
    refine s_aload_n (i := 0) rfl (show decode cX12_isAskAhead 13 = .ok (.aload_n 0, 1) by decide +kernel) ?_
    refine gf_X12_164 rfl (show decode cX12_isAskAhead 14 = .ok (.getfield 164, 3) by decide +kernel) okl_321 ?_
    refine j_iconst (show decode cX12_isAskAhead 17 = .ok (.iconst 1, 1) by decide +kernel) ?_
    refine j_isub (show decode cX12_isAskAhead 18 = .ok (.isub, 1) by decide +kernel) ?_
    refine s_iald (show decode cX12_isAskAhead 19 = .ok (.iaload, 1) by decide +kernel) okl_326 h.1 ?_
    have h := h.2
    refine j_bipush (n := 40) (by decide +kernel) (show decode cX12_isAskAhead 20 = .ok (.bipush 40, 2) by decide +kernel) ?_
    have hr2 := h.1
    have h := h.2
    refine j_icmp_ge (tgt := 47) hr2 (inl (by decide)) (show decode cX12_isAskAhead 22 = .ok (.if_icmp .ge 25, 3) by decide +kernel) (by decide) (fun c => ?_) (fun c => ?_)
    · have h := h.1 c
      refine j_iconst (show decode cX12_isAskAhead 47 = .ok (.iconst 1, 1) by decide +kernel) ?_
      refine j_goto (tgt := 52) (show decode cX12_isAskAhead 48 = .ok (.goto 4, 3) by decide +kernel) (by decide) ?_
      exact j_ret (rokZ (show decode cX12_isAskAhead 52 = .ok (.ireturn, 1) by decide +kernel) rfl (Or.inr rfl)) ⟨rfl, rfl, h⟩
    · have h := h.2 c
      refine s_aload_n (i := 0) rfl (show decode cX12_isAskAhead 25 = .ok (.aload_n 0, 1) by decide +kernel) ?_
      refine gf_X12_29 (x := 326) rfl (show decode cX12_isAskAhead 26 = .ok (.getfield 29, 3) by decide +kernel) okl_321 rfl ?_
      refine s_aload_n (i := 0) rfl (show decode cX12_isAskAhead 29 = .ok (.aload_n 0, 1) by decide +kernel) ?_
      refine gf_X12_164 rfl (show decode cX12_isAskAhead 30 = .ok (.getfield 164, 3) by decide +kernel) okl_321 ?_
      refine j_iconst (show decode cX12_isAskAhead 33 = .ok (.iconst 1, 1) by decide +kernel) ?_
      refine j_isub (show decode cX12_isAskAhead 34 = .ok (.isub, 1) by decide +kernel) ?_
      refine s_iald (show decode cX12_isAskAhead 35 = .ok (.iaload, 1) by decide +kernel) okl_326 h.1 ?_
      have h := h.2
      refine j_ctS (m' := mX12_rank) (As := [iv (σ1 326 ((σ1 321 16) - 1))]) (tag := 0) (cw_X12_167 rfl) (show decode cX12_isAskAhead 36 = .ok (.invokestatic 167, 3) by decide +kernel) rfl (Nat.le_of_ble_eq_true rfl) (by decide) (Nat.le_refl _) h (fun r4 σ4 h => ?_)
      refine j_iconst (show decode cX12_isAskAhead 39 = .ok (.iconst 1, 1) by decide +kernel) ?_
      refine j_iconst (show decode cX12_isAskAhead 40 = .ok (.iconst 3, 1) by decide +kernel) ?_
      refine j_ctS (m' := mX12_isIn) (As := [iv r4, iv 1, iv 3]) (tag := 0) (cw_X12_85 rfl) (show decode cX12_isAskAhead 41 = .ok (.invokestatic 85, 3) by decide +kernel) rfl (Nat.le_of_ble_eq_true rfl) (by decide) (Nat.le_refl _) h (fun r5 σ5 h => ?_)
      have hr5 := h.1
      have h := h.2
      refine j_if_eq (tgt := 51) hr5 (show decode cX12_isAskAhead 44 = .ok (.ifCond .eq 7, 3) by decide +kernel) (by decide) (fun c => ?_) (fun c => ?_)
      · have h := h.1 c
        refine j_iconst (show decode cX12_isAskAhead 51 = .ok (.iconst 0, 1) by decide +kernel) ?_
        exact j_ret (rokZ (show decode cX12_isAskAhead 52 = .ok (.ireturn, 1) by decide +kernel) rfl (Or.inl rfl)) ⟨rfl, rfl, h⟩
      · have h := h.2 c
        refine j_iconst (show decode cX12_isAskAhead 47 = .ok (.iconst 1, 1) by decide +kernel) ?_
        refine j_goto (tgt := 52) (show decode cX12_isAskAhead 48 = .ok (.goto 4, 3) by decide +kernel) (by decide) ?_
        exact j_ret (rokZ (show decode cX12_isAskAhead 52 = .ok (.ireturn, 1) by decide +kernel) rfl (Or.inr rfl)) ⟨rfl, rfl, h⟩
theorem c_X12_isAskAhead {d : Nat} {t : Int} {Q : Int → jM → Prop} {σ : jM} (h : Ct mX12_openNow d 0 t [rv 321] σ (fun r1 σ1 => ((inR r1) ∧ ((¬ r1 = 41 → (Q 0 σ1)) ∧ (r1 = 41 → (((0 : Int) ≤ ((σ1 321 16) - 1) ∧ ((σ1 321 16) - 1) < 160) ∧ ((inR (σ1 326 ((σ1 321 16) - 1))) ∧ ((40 ≤ (σ1 326 ((σ1 321 16) - 1)) → (Q 1 σ1)) ∧ ((σ1 326 ((σ1 321 16) - 1)) < 40 → (((0 : Int) ≤ ((σ1 321 16) - 1) ∧ ((σ1 321 16) - 1) < 160) ∧ (Ct mX12_rank d 0 t [iv (σ1 326 ((σ1 321 16) - 1))] σ1 (fun r4 σ4 => (Ct mX12_isIn d 0 t [iv r4, iv 1, iv 3] σ4 (fun r5 σ5 => ((inR r5) ∧ ((r5 = 0 → (Q 0 σ5)) ∧ (¬ r5 = 0 → (Q 1 σ5)))))))))))))))))) : Ct mX12_isAskAhead (d + 1) 0 t [rv 321] σ Q := Ct_of (by decide +kernel) (Nat.le_of_ble_eq_true rfl) (b_X12_isAskAhead_0 h)
set_option maxRecDepth 4000 in
theorem b_X12_opened_0 {d : Nat} {t : Int} {Q : Int → jM → Prop} {σ : jM} {p1 : Int} (h : (inR (σ 321 17)) ∧ ((¬ (σ 321 17) = 8 → (∀ σ2 : jM, σ2 = up σ 321 17 ((σ 321 17) + 1) → (((0 : Int) ≤ (σ2 321 16) ∧ (σ2 321 16) < 160) ∧ (∀ σ4 : jM, σ4 = up σ2 326 (σ2 321 16) p1 → (∀ σ5 : jM, σ5 = up σ4 321 16 ((σ4 321 16) + 1) → (Ct mX12_nextToken d 9 t [rv 321] σ5 (fun r6 σ6 => (Q 0 σ6)))))))) ∧ ((σ 321 17) = 8 → (Q 3 σ)))) : Jt mX12_opened (d + 1) 0 t Q 0 [rv 321, iv p1] [] σ := by
  refine s_aload_n (i := 0) rfl (show decode cX12_opened 0 = .ok (.aload_n 0, 1) by decide +kernel) ?_
  refine gf_X12_174 rfl (show decode cX12_opened 1 = .ok (.getfield 174, 3) by decide +kernel) okl_321 ?_
  refine j_bipush (n := 8) (by decide +kernel) (show decode cX12_opened 4 = .ok (.bipush 8, 2) by decide +kernel) ?_
  have hr0 := h.1
  have h := h.2
  refine j_icmp_ne (tgt := 11) hr0 (inl (by decide)) (show decode cX12_opened 6 = .ok (.if_icmp .ne 5, 3) by decide +kernel) (by decide) (fun c => ?_) (fun c => ?_)
  · have h := h.1 c
    refine s_aload_n (i := 0) rfl (show decode cX12_opened 11 = .ok (.aload_n 0, 1) by decide +kernel) ?_
    refine j_dup (show (2 : Nat) ≠ 1 by decide) (show decode cX12_opened 12 = .ok (.dup, 1) by decide +kernel) ?_
    refine gf_X12_174 rfl (show decode cX12_opened 13 = .ok (.getfield 174, 3) by decide +kernel) okl_321 ?_
    refine j_iconst (show decode cX12_opened 16 = .ok (.iconst 1, 1) by decide +kernel) ?_
    refine j_iadd (show decode cX12_opened 17 = .ok (.iadd, 1) by decide +kernel) ?_
    refine pf_X12_174 rfl (show decode cX12_opened 18 = .ok (.putfield 174, 3) by decide +kernel) okl_321 ?_
    obtain ⟨σ2, eσ2⟩ : ∃ z : jM, z = up σ 321 17 ((σ 321 17) + 1) := ⟨_, rfl⟩
    refine j_sig eσ2 ?_
    have h := h σ2 eσ2
    refine s_aload_n (i := 0) rfl (show decode cX12_opened 21 = .ok (.aload_n 0, 1) by decide +kernel) ?_
    refine gf_X12_29 (x := 326) rfl (show decode cX12_opened 22 = .ok (.getfield 29, 3) by decide +kernel) okl_321 rfl ?_
    refine s_aload_n (i := 0) rfl (show decode cX12_opened 25 = .ok (.aload_n 0, 1) by decide +kernel) ?_
    refine gf_X12_164 rfl (show decode cX12_opened 26 = .ok (.getfield 164, 3) by decide +kernel) okl_321 ?_
    refine j_iload_n (i := 1) rfl (show decode cX12_opened 29 = .ok (.iload_n 1, 1) by decide +kernel) ?_
    have hb2 := h.1
    have h := h.2
    refine s_iast (show decode cX12_opened 30 = .ok (.iastore, 1) by decide +kernel) okl_326 hb2 ?_
    obtain ⟨σ4, eσ4⟩ : ∃ z : jM, z = up σ2 326 (σ2 321 16) p1 := ⟨_, rfl⟩
    refine j_sig eσ4 ?_
    have h := h σ4 eσ4
    refine s_aload_n (i := 0) rfl (show decode cX12_opened 31 = .ok (.aload_n 0, 1) by decide +kernel) ?_
    refine j_dup (show (2 : Nat) ≠ 1 by decide) (show decode cX12_opened 32 = .ok (.dup, 1) by decide +kernel) ?_
    refine gf_X12_164 rfl (show decode cX12_opened 33 = .ok (.getfield 164, 3) by decide +kernel) okl_321 ?_
    refine j_iconst (show decode cX12_opened 36 = .ok (.iconst 1, 1) by decide +kernel) ?_
    refine j_iadd (show decode cX12_opened 37 = .ok (.iadd, 1) by decide +kernel) ?_
    refine pf_X12_164 rfl (show decode cX12_opened 38 = .ok (.putfield 164, 3) by decide +kernel) okl_321 ?_
    obtain ⟨σ5, eσ5⟩ : ∃ z : jM, z = up σ4 321 16 ((σ4 321 16) + 1) := ⟨_, rfl⟩
    refine j_sig eσ5 ?_
    have h := h σ5 eσ5
    refine s_aload_n (i := 0) rfl (show decode cX12_opened 41 = .ok (.aload_n 0, 1) by decide +kernel) ?_
    refine j_ctVv (m' := mX12_nextToken) (As := []) (ci := 12) (N := 0) (cw_X12_184 rfl) (show decode cX12_opened 42 = .ok (.invokevirtual 184, 3) by decide +kernel) rfl (Nat.le_of_ble_eq_true rfl) okl_321 rfl rfl (Nat.le_refl _) h (fun r6 σ6 h => ?_)
    refine j_iconst (show decode cX12_opened 45 = .ok (.iconst 0, 1) by decide +kernel) ?_
    exact j_ret (rokI (show decode cX12_opened 46 = .ok (.ireturn, 1) by decide +kernel) rfl) ⟨rfl, rfl, h⟩
  · have h := h.2 c
    refine j_iconst (show decode cX12_opened 9 = .ok (.iconst 3, 1) by decide +kernel) ?_
    exact j_ret (rokI (show decode cX12_opened 10 = .ok (.ireturn, 1) by decide +kernel) rfl) ⟨rfl, rfl, h⟩
theorem c_X12_opened {d : Nat} {t : Int} {Q : Int → jM → Prop} {σ : jM} {p1 : Int} (h : (inR (σ 321 17)) ∧ ((¬ (σ 321 17) = 8 → (∀ σ2 : jM, σ2 = up σ 321 17 ((σ 321 17) + 1) → (((0 : Int) ≤ (σ2 321 16) ∧ (σ2 321 16) < 160) ∧ (∀ σ4 : jM, σ4 = up σ2 326 (σ2 321 16) p1 → (∀ σ5 : jM, σ5 = up σ4 321 16 ((σ4 321 16) + 1) → (Ct mX12_nextToken d 9 t [rv 321] σ5 (fun r6 σ6 => (Q 0 σ6)))))))) ∧ ((σ 321 17) = 8 → (Q 3 σ)))) : Ct mX12_opened (d + 1) 0 t [rv 321, iv p1] σ Q := Ct_of (by decide +kernel) (Nat.le_of_ble_eq_true rfl) (b_X12_opened_0 h)
set_option maxRecDepth 4000 in
theorem b_X12_beginOne_240 {d : Nat} {t : Int} {Q : Int → jM → Prop} {σ : jM} {v1 u0 : Int} (h : Q u0 σ) : Jt mX12_beginOne (d + 1) 0 t Q 240 [rv 321, iv v1] [iv u0] σ := by
  exact j_ret (rokI (show decode cX12_beginOne 240 = .ok (.ireturn, 1) by decide +kernel) rfl) ⟨rfl, rfl, h⟩
set_option maxRecDepth 4000 in
theorem b_X12_beginOne_239 {d : Nat} {t : Int} {Q : Int → jM → Prop} {σ : jM} {v1 : Int} (h : Jt mX12_beginOne (d + 1) 0 t Q 240 [rv 321, iv v1] [iv 1] σ) : Jt mX12_beginOne (d + 1) 0 t Q 239 [rv 321, iv v1] [] σ := by
  refine j_iconst (show decode cX12_beginOne 239 = .ok (.iconst 1, 1) by decide +kernel) ?_
  exact h
set_option maxRecDepth 4000 in
theorem b_X12_beginOne_81 {d : Nat} {t : Int} {Q : Int → jM → Prop} {σ : jM} {v1 u0 u1 : Int} (h : Ct mX12_emit d 9 t [rv 321, iv u1, iv u0] σ (fun r1 σ1 => (Ct mX12_nextToken d 9 t [rv 321] σ1 (fun r2 σ2 => (∀ σ3 : jM, σ3 = up σ2 321 18 1 → (Ct mX12_settle d 9 t [rv 321, iv 7] σ3 (fun r4 σ4 => (Q 0 σ4)))))))) : Jt mX12_beginOne (d + 1) 0 t Q 81 [rv 321, iv v1] [iv u0, iv u1, rv 321] σ := by
  refine j_ctVv (m' := mX12_emit) (As := [iv u1, iv u0]) (ci := 12) (N := 0) (cw_X12_170 rfl) (show decode cX12_beginOne 81 = .ok (.invokevirtual 170, 3) by decide +kernel) rfl (Nat.le_of_ble_eq_true rfl) okl_321 rfl rfl (Nat.le_refl _) h (fun r1 σ1 h => ?_)
  refine s_aload_n (i := 0) rfl (show decode cX12_beginOne 84 = .ok (.aload_n 0, 1) by decide +kernel) ?_
  refine j_ctVv (m' := mX12_nextToken) (As := []) (ci := 12) (N := 0) (cw_X12_184 rfl) (show decode cX12_beginOne 85 = .ok (.invokevirtual 184, 3) by decide +kernel) rfl (Nat.le_of_ble_eq_true rfl) okl_321 rfl rfl (Nat.le_refl _) h (fun r2 σ2 h => ?_)
  refine s_aload_n (i := 0) rfl (show decode cX12_beginOne 88 = .ok (.aload_n 0, 1) by decide +kernel) ?_
  refine j_iconst (show decode cX12_beginOne 89 = .ok (.iconst 1, 1) by decide +kernel) ?_
  refine pf_X12_193 rfl (by decide) (show decode cX12_beginOne 90 = .ok (.putfield 193, 3) by decide +kernel) okl_321 ?_
  obtain ⟨σ3, eσ3⟩ : ∃ z : jM, z = up σ2 321 18 1 := ⟨_, rfl⟩
  refine j_sig eσ3 ?_
  have h := h σ3 eσ3
  refine s_aload_n (i := 0) rfl (show decode cX12_beginOne 93 = .ok (.aload_n 0, 1) by decide +kernel) ?_
  refine j_bipush (n := 7) (by decide +kernel) (show decode cX12_beginOne 94 = .ok (.bipush 7, 2) by decide +kernel) ?_
  refine j_ctVv (m' := mX12_settle) (As := [iv 7]) (ci := 12) (N := 0) (cw_X12_196 rfl) (show decode cX12_beginOne 96 = .ok (.invokevirtual 196, 3) by decide +kernel) rfl (Nat.le_of_ble_eq_true rfl) okl_321 rfl rfl (Nat.le_refl _) h (fun r4 σ4 h => ?_)
  refine j_iconst (show decode cX12_beginOne 99 = .ok (.iconst 0, 1) by decide +kernel) ?_
  exact j_ret (rokI (show decode cX12_beginOne 100 = .ok (.ireturn, 1) by decide +kernel) rfl) ⟨rfl, rfl, h⟩
set_option maxRecDepth 4000 in
theorem b_X12_beginOne_65 {d : Nat} {t : Int} {Q : Int → jM → Prop} {σ : jM} {v1 u0 : Int} (h : (inR (σ 321 9)) ∧ ((¬ (σ 321 9) = 1 → (Jt mX12_beginOne (d + 1) 0 t Q 81 [rv 321, iv v1] [iv v1, iv u0, rv 321] σ)) ∧ ((σ 321 9) = 1 → (Jt mX12_beginOne (d + 1) 0 t Q 81 [rv 321, iv v1] [iv (σ 321 10), iv u0, rv 321] σ)))) : Jt mX12_beginOne (d + 1) 0 t Q 65 [rv 321, iv v1] [iv u0, rv 321] σ := by
  refine s_aload_n (i := 0) rfl (show decode cX12_beginOne 65 = .ok (.aload_n 0, 1) by decide +kernel) ?_
  refine gf_X12_113 rfl (show decode cX12_beginOne 66 = .ok (.getfield 113, 3) by decide +kernel) okl_321 ?_
  refine j_iconst (show decode cX12_beginOne 69 = .ok (.iconst 1, 1) by decide +kernel) ?_
  have hr0 := h.1
  have h := h.2
  refine j_icmp_ne (tgt := 80) hr0 (inl (by decide)) (show decode cX12_beginOne 70 = .ok (.if_icmp .ne 10, 3) by decide +kernel) (by decide) (fun c => ?_) (fun c => ?_)
  · have h := h.1 c
    refine j_iload_n (i := 1) rfl (show decode cX12_beginOne 80 = .ok (.iload_n 1, 1) by decide +kernel) ?_
    exact h
  · have h := h.2 c
    refine s_aload_n (i := 0) rfl (show decode cX12_beginOne 73 = .ok (.aload_n 0, 1) by decide +kernel) ?_
    refine gf_X12_119 rfl (show decode cX12_beginOne 74 = .ok (.getfield 119, 3) by decide +kernel) okl_321 ?_
    refine j_goto (tgt := 81) (show decode cX12_beginOne 77 = .ok (.goto 4, 3) by decide +kernel) (by decide) ?_
    exact h
set_option maxRecDepth 4000 in
theorem b_X12_beginOne_51 {d : Nat} {t : Int} {Q : Int → jM → Prop} {σ : jM} {v1 : Int} (h : (inR (σ 321 9)) ∧ ((¬ (σ 321 9) = 1 → (Jt mX12_beginOne (d + 1) 0 t Q 65 [rv 321, iv v1] [iv 1, rv 321] σ)) ∧ ((σ 321 9) = 1 → (Jt mX12_beginOne (d + 1) 0 t Q 65 [rv 321, iv v1] [iv 0, rv 321] σ)))) : Jt mX12_beginOne (d + 1) 0 t Q 51 [rv 321, iv v1] [] σ := by
  refine s_aload_n (i := 0) rfl (show decode cX12_beginOne 51 = .ok (.aload_n 0, 1) by decide +kernel) ?_
  refine s_aload_n (i := 0) rfl (show decode cX12_beginOne 52 = .ok (.aload_n 0, 1) by decide +kernel) ?_
  refine gf_X12_113 rfl (show decode cX12_beginOne 53 = .ok (.getfield 113, 3) by decide +kernel) okl_321 ?_
  refine j_iconst (show decode cX12_beginOne 56 = .ok (.iconst 1, 1) by decide +kernel) ?_
  have hr0 := h.1
  have h := h.2
  refine j_icmp_ne (tgt := 64) hr0 (inl (by decide)) (show decode cX12_beginOne 57 = .ok (.if_icmp .ne 7, 3) by decide +kernel) (by decide) (fun c => ?_) (fun c => ?_)
  · have h := h.1 c
    refine j_iconst (show decode cX12_beginOne 64 = .ok (.iconst 1, 1) by decide +kernel) ?_
    exact h
  · have h := h.2 c
    refine j_iconst (show decode cX12_beginOne 60 = .ok (.iconst 0, 1) by decide +kernel) ?_
    refine j_goto (tgt := 65) (show decode cX12_beginOne 61 = .ok (.goto 4, 3) by decide +kernel) (by decide) ?_
    exact h
set_option maxRecDepth 4000 in
theorem b_X12_beginOne_39 {d : Nat} {t : Int} {Q : Int → jM → Prop} {σ : jM} {v1 : Int} (h : (inR (σ 321 9)) ∧ (((σ 321 9) = 1 → (Jt mX12_beginOne (d + 1) 0 t Q 51 [rv 321, iv v1] [] σ)) ∧ (¬ (σ 321 9) = 1 → ((inR v1) ∧ ((v1 < 0 → ((inR (σ 321 9)) ∧ ((¬ (σ 321 9) = 40 → ((inR (σ 321 9)) ∧ ((¬ (σ 321 9) = 45 → (Ct mX12_w6 d 1 t [iv 100, iv 111, iv 117, iv 98, iv 108, iv 101] σ (fun r5 σ5 => (Ct mX12_isWord d 0 t [rv 321, jv r5] σ5 (fun r6 σ6 => ((inR r6) ∧ ((r6 = 0 → (Ct mX12_w5 d 1 t [iv 99, iv 114, iv 111, iv 99, iv 107] σ6 (fun r8 σ8 => (Ct mX12_isWord d 0 t [rv 321, jv r8] σ8 (fun r9 σ9 => ((inR r9) ∧ ((r9 = 0 → (Ct mX12_w2 d 1 t [iv 105, iv 102] σ9 (fun r11 σ11 => (Ct mX12_isWord d 0 t [rv 321, jv r11] σ11 (fun r12 σ12 => ((inR r12) ∧ ((r12 = 0 → (Ct mX12_w3 d 1 t [iv 110, iv 111, iv 116] σ12 (fun r14 σ14 => (Ct mX12_isWord d 0 t [rv 321, jv r14] σ14 (fun r15 σ15 => ((inR r15) ∧ ((r15 = 0 → (Jt mX12_beginOne (d + 1) 0 t Q 239 [rv 321, iv v1] [] σ15)) ∧ (¬ r15 = 0 → (Ct mX12_isAskAhead d 0 t [rv 321] σ15 (fun r17 σ17 => ((inR r17) ∧ ((r17 = 0 → (Jt mX12_beginOne (d + 1) 0 t Q 239 [rv 321, iv v1] [] σ17)) ∧ (¬ r17 = 0 → (Ct mX12_opened d 0 t [rv 321, iv 20] σ17 (fun r19 σ19 => (Jt mX12_beginOne (d + 1) 0 t Q 240 [rv 321, iv v1] [iv r19] σ19)))))))))))))))) ∧ (¬ r12 = 0 → (Ct mX12_opened d 0 t [rv 321, iv 41] σ12 (fun r20 σ20 => (Q r20 σ20))))))))))) ∧ (¬ r9 = 0 → (Ct mX12_opened d 0 t [rv 321, iv 4] σ9 (fun r21 σ21 => (Q r21 σ21))))))))))) ∧ (¬ r6 = 0 → (Ct mX12_opened d 0 t [rv 321, iv 2] σ6 (fun r22 σ22 => (Q r22 σ22))))))))))) ∧ ((σ 321 9) = 45 → (Ct mX12_opened d 0 t [rv 321, iv 5] σ (fun r23 σ23 => (Q r23 σ23))))))) ∧ ((σ 321 9) = 40 → (Ct mX12_opened d 0 t [rv 321, iv 40] σ (fun r24 σ24 => (Q r24 σ24))))))) ∧ (0 ≤ v1 → (Jt mX12_beginOne (d + 1) 0 t Q 51 [rv 321, iv v1] [] σ))))))) : Jt mX12_beginOne (d + 1) 0 t Q 39 [rv 321, iv v1] [] σ := by
  refine s_aload_n (i := 0) rfl (show decode cX12_beginOne 39 = .ok (.aload_n 0, 1) by decide +kernel) ?_
  refine gf_X12_113 rfl (show decode cX12_beginOne 40 = .ok (.getfield 113, 3) by decide +kernel) okl_321 ?_
  refine j_iconst (show decode cX12_beginOne 43 = .ok (.iconst 1, 1) by decide +kernel) ?_
  have hr0 := h.1
  have h := h.2
  refine j_icmp_eq (tgt := 51) hr0 (inl (by decide)) (show decode cX12_beginOne 44 = .ok (.if_icmp .eq 7, 3) by decide +kernel) (by decide) (fun c => ?_) (fun c => ?_)
  · have h := h.1 c
    exact h
  · have h := h.2 c
    refine j_iload_n (i := 1) rfl (show decode cX12_beginOne 47 = .ok (.iload_n 1, 1) by decide +kernel) ?_
    have hr1 := h.1
    have h := h.2
    refine j_if_lt (tgt := 101) hr1 (show decode cX12_beginOne 48 = .ok (.ifCond .lt 53, 3) by decide +kernel) (by decide) (fun c => ?_) (fun c => ?_)
    · have h := h.1 c
      refine s_aload_n (i := 0) rfl (show decode cX12_beginOne 101 = .ok (.aload_n 0, 1) by decide +kernel) ?_
      refine gf_X12_113 rfl (show decode cX12_beginOne 102 = .ok (.getfield 113, 3) by decide +kernel) okl_321 ?_
      refine j_bipush (n := 40) (by decide +kernel) (show decode cX12_beginOne 105 = .ok (.bipush 40, 2) by decide +kernel) ?_
      have hr2 := h.1
      have h := h.2
      refine j_icmp_ne (tgt := 117) hr2 (inl (by decide)) (show decode cX12_beginOne 107 = .ok (.if_icmp .ne 10, 3) by decide +kernel) (by decide) (fun c => ?_) (fun c => ?_)
      · have h := h.1 c
        refine s_aload_n (i := 0) rfl (show decode cX12_beginOne 117 = .ok (.aload_n 0, 1) by decide +kernel) ?_
        refine gf_X12_113 rfl (show decode cX12_beginOne 118 = .ok (.getfield 113, 3) by decide +kernel) okl_321 ?_
        refine j_bipush (n := 45) (by decide +kernel) (show decode cX12_beginOne 121 = .ok (.bipush 45, 2) by decide +kernel) ?_
        have hr3 := h.1
        have h := h.2
        refine j_icmp_ne (tgt := 132) hr3 (inl (by decide)) (show decode cX12_beginOne 123 = .ok (.if_icmp .ne 9, 3) by decide +kernel) (by decide) (fun c => ?_) (fun c => ?_)
        · have h := h.1 c
          refine s_aload_n (i := 0) rfl (show decode cX12_beginOne 132 = .ok (.aload_n 0, 1) by decide +kernel) ?_
          refine j_bipush (n := 100) (by decide +kernel) (show decode cX12_beginOne 133 = .ok (.bipush 100, 2) by decide +kernel) ?_
          refine j_bipush (n := 111) (by decide +kernel) (show decode cX12_beginOne 135 = .ok (.bipush 111, 2) by decide +kernel) ?_
          refine j_bipush (n := 117) (by decide +kernel) (show decode cX12_beginOne 137 = .ok (.bipush 117, 2) by decide +kernel) ?_
          refine j_bipush (n := 98) (by decide +kernel) (show decode cX12_beginOne 139 = .ok (.bipush 98, 2) by decide +kernel) ?_
          refine j_bipush (n := 108) (by decide +kernel) (show decode cX12_beginOne 141 = .ok (.bipush 108, 2) by decide +kernel) ?_
          refine j_bipush (n := 101) (by decide +kernel) (show decode cX12_beginOne 143 = .ok (.bipush 101, 2) by decide +kernel) ?_
          refine j_ctS (m' := mX12_w6) (As := [iv 100, iv 111, iv 117, iv 98, iv 108, iv 101]) (tag := 1) (cw_X12_157 rfl) (show decode cX12_beginOne 145 = .ok (.invokestatic 157, 3) by decide +kernel) rfl (Nat.le_of_ble_eq_true rfl) (by decide) (Nat.le_refl _) h (fun r5 σ5 h => ?_)
          refine j_ctV (m' := mX12_isWord) (As := [jv r5]) (ci := 12) (tag := 0) (N := 0) (cw_X12_202 rfl) (show decode cX12_beginOne 148 = .ok (.invokevirtual 202, 3) by decide +kernel) rfl (Nat.le_of_ble_eq_true rfl) (by decide) okl_321 rfl rfl (Nat.le_refl _) h (fun r6 σ6 h => ?_)
          have hr6 := h.1
          have h := h.2
          refine j_if_eq (tgt := 160) hr6 (show decode cX12_beginOne 151 = .ok (.ifCond .eq 9, 3) by decide +kernel) (by decide) (fun c => ?_) (fun c => ?_)
          · have h := h.1 c
            refine s_aload_n (i := 0) rfl (show decode cX12_beginOne 160 = .ok (.aload_n 0, 1) by decide +kernel) ?_
            refine j_bipush (n := 99) (by decide +kernel) (show decode cX12_beginOne 161 = .ok (.bipush 99, 2) by decide +kernel) ?_
            refine j_bipush (n := 114) (by decide +kernel) (show decode cX12_beginOne 163 = .ok (.bipush 114, 2) by decide +kernel) ?_
            refine j_bipush (n := 111) (by decide +kernel) (show decode cX12_beginOne 165 = .ok (.bipush 111, 2) by decide +kernel) ?_
            refine j_bipush (n := 99) (by decide +kernel) (show decode cX12_beginOne 167 = .ok (.bipush 99, 2) by decide +kernel) ?_
            refine j_bipush (n := 107) (by decide +kernel) (show decode cX12_beginOne 169 = .ok (.bipush 107, 2) by decide +kernel) ?_
            refine j_ctS (m' := mX12_w5) (As := [iv 99, iv 114, iv 111, iv 99, iv 107]) (tag := 1) (cw_X12_147 rfl) (show decode cX12_beginOne 171 = .ok (.invokestatic 147, 3) by decide +kernel) rfl (Nat.le_of_ble_eq_true rfl) (by decide) (Nat.le_refl _) h (fun r8 σ8 h => ?_)
            refine j_ctV (m' := mX12_isWord) (As := [jv r8]) (ci := 12) (tag := 0) (N := 0) (cw_X12_202 rfl) (show decode cX12_beginOne 174 = .ok (.invokevirtual 202, 3) by decide +kernel) rfl (Nat.le_of_ble_eq_true rfl) (by decide) okl_321 rfl rfl (Nat.le_refl _) h (fun r9 σ9 h => ?_)
            have hr9 := h.1
            have h := h.2
            refine j_if_eq (tgt := 186) hr9 (show decode cX12_beginOne 177 = .ok (.ifCond .eq 9, 3) by decide +kernel) (by decide) (fun c => ?_) (fun c => ?_)
            · have h := h.1 c
              refine s_aload_n (i := 0) rfl (show decode cX12_beginOne 186 = .ok (.aload_n 0, 1) by decide +kernel) ?_
              refine j_bipush (n := 105) (by decide +kernel) (show decode cX12_beginOne 187 = .ok (.bipush 105, 2) by decide +kernel) ?_
              refine j_bipush (n := 102) (by decide +kernel) (show decode cX12_beginOne 189 = .ok (.bipush 102, 2) by decide +kernel) ?_
              refine j_ctS (m' := mX12_w2) (As := [iv 105, iv 102]) (tag := 1) (cw_X12_135 rfl) (show decode cX12_beginOne 191 = .ok (.invokestatic 135, 3) by decide +kernel) rfl (Nat.le_of_ble_eq_true rfl) (by decide) (Nat.le_refl _) h (fun r11 σ11 h => ?_)
              refine j_ctV (m' := mX12_isWord) (As := [jv r11]) (ci := 12) (tag := 0) (N := 0) (cw_X12_202 rfl) (show decode cX12_beginOne 194 = .ok (.invokevirtual 202, 3) by decide +kernel) rfl (Nat.le_of_ble_eq_true rfl) (by decide) okl_321 rfl rfl (Nat.le_refl _) h (fun r12 σ12 h => ?_)
              have hr12 := h.1
              have h := h.2
              refine j_if_eq (tgt := 207) hr12 (show decode cX12_beginOne 197 = .ok (.ifCond .eq 10, 3) by decide +kernel) (by decide) (fun c => ?_) (fun c => ?_)
              · have h := h.1 c
                refine s_aload_n (i := 0) rfl (show decode cX12_beginOne 207 = .ok (.aload_n 0, 1) by decide +kernel) ?_
                refine j_bipush (n := 110) (by decide +kernel) (show decode cX12_beginOne 208 = .ok (.bipush 110, 2) by decide +kernel) ?_
                refine j_bipush (n := 111) (by decide +kernel) (show decode cX12_beginOne 210 = .ok (.bipush 111, 2) by decide +kernel) ?_
                refine j_bipush (n := 116) (by decide +kernel) (show decode cX12_beginOne 212 = .ok (.bipush 116, 2) by decide +kernel) ?_
                refine j_ctS (m' := mX12_w3) (As := [iv 110, iv 111, iv 116]) (tag := 1) (cw_X12_139 rfl) (show decode cX12_beginOne 214 = .ok (.invokestatic 139, 3) by decide +kernel) rfl (Nat.le_of_ble_eq_true rfl) (by decide) (Nat.le_refl _) h (fun r14 σ14 h => ?_)
                refine j_ctV (m' := mX12_isWord) (As := [jv r14]) (ci := 12) (tag := 0) (N := 0) (cw_X12_202 rfl) (show decode cX12_beginOne 217 = .ok (.invokevirtual 202, 3) by decide +kernel) rfl (Nat.le_of_ble_eq_true rfl) (by decide) okl_321 rfl rfl (Nat.le_refl _) h (fun r15 σ15 h => ?_)
                have hr15 := h.1
                have h := h.2
                refine j_if_eq (tgt := 239) hr15 (show decode cX12_beginOne 220 = .ok (.ifCond .eq 19, 3) by decide +kernel) (by decide) (fun c => ?_) (fun c => ?_)
                · have h := h.1 c
                  exact h
                · have h := h.2 c
                  refine s_aload_n (i := 0) rfl (show decode cX12_beginOne 223 = .ok (.aload_n 0, 1) by decide +kernel) ?_
                  refine j_ctV (m' := mX12_isAskAhead) (As := []) (ci := 12) (tag := 0) (N := 0) (cw_X12_206 rfl) (show decode cX12_beginOne 224 = .ok (.invokevirtual 206, 3) by decide +kernel) rfl (Nat.le_of_ble_eq_true rfl) (by decide) okl_321 rfl rfl (Nat.le_refl _) h (fun r17 σ17 h => ?_)
                  have hr17 := h.1
                  have h := h.2
                  refine j_if_eq (tgt := 239) hr17 (show decode cX12_beginOne 227 = .ok (.ifCond .eq 12, 3) by decide +kernel) (by decide) (fun c => ?_) (fun c => ?_)
                  · have h := h.1 c
                    exact h
                  · have h := h.2 c
                    refine s_aload_n (i := 0) rfl (show decode cX12_beginOne 230 = .ok (.aload_n 0, 1) by decide +kernel) ?_
                    refine j_bipush (n := 20) (by decide +kernel) (show decode cX12_beginOne 231 = .ok (.bipush 20, 2) by decide +kernel) ?_
                    refine j_ctV (m' := mX12_opened) (As := [iv 20]) (ci := 12) (tag := 0) (N := 0) (cw_X12_199 rfl) (show decode cX12_beginOne 233 = .ok (.invokevirtual 199, 3) by decide +kernel) rfl (Nat.le_of_ble_eq_true rfl) (by decide) okl_321 rfl rfl (Nat.le_refl _) h (fun r19 σ19 h => ?_)
                    refine j_goto (tgt := 240) (show decode cX12_beginOne 236 = .ok (.goto 4, 3) by decide +kernel) (by decide) ?_
                    exact h
              · have h := h.2 c
                refine s_aload_n (i := 0) rfl (show decode cX12_beginOne 200 = .ok (.aload_n 0, 1) by decide +kernel) ?_
                refine j_bipush (n := 41) (by decide +kernel) (show decode cX12_beginOne 201 = .ok (.bipush 41, 2) by decide +kernel) ?_
                refine j_ctV (m' := mX12_opened) (As := [iv 41]) (ci := 12) (tag := 0) (N := 0) (cw_X12_199 rfl) (show decode cX12_beginOne 203 = .ok (.invokevirtual 199, 3) by decide +kernel) rfl (Nat.le_of_ble_eq_true rfl) (by decide) okl_321 rfl rfl (Nat.le_refl _) h (fun r20 σ20 h => ?_)
                exact j_ret (rokI (show decode cX12_beginOne 206 = .ok (.ireturn, 1) by decide +kernel) rfl) ⟨rfl, rfl, h⟩
            · have h := h.2 c
              refine s_aload_n (i := 0) rfl (show decode cX12_beginOne 180 = .ok (.aload_n 0, 1) by decide +kernel) ?_
              refine j_iconst (show decode cX12_beginOne 181 = .ok (.iconst 4, 1) by decide +kernel) ?_
              refine j_ctV (m' := mX12_opened) (As := [iv 4]) (ci := 12) (tag := 0) (N := 0) (cw_X12_199 rfl) (show decode cX12_beginOne 182 = .ok (.invokevirtual 199, 3) by decide +kernel) rfl (Nat.le_of_ble_eq_true rfl) (by decide) okl_321 rfl rfl (Nat.le_refl _) h (fun r21 σ21 h => ?_)
              exact j_ret (rokI (show decode cX12_beginOne 185 = .ok (.ireturn, 1) by decide +kernel) rfl) ⟨rfl, rfl, h⟩
          · have h := h.2 c
            refine s_aload_n (i := 0) rfl (show decode cX12_beginOne 154 = .ok (.aload_n 0, 1) by decide +kernel) ?_
            refine j_iconst (show decode cX12_beginOne 155 = .ok (.iconst 2, 1) by decide +kernel) ?_
            refine j_ctV (m' := mX12_opened) (As := [iv 2]) (ci := 12) (tag := 0) (N := 0) (cw_X12_199 rfl) (show decode cX12_beginOne 156 = .ok (.invokevirtual 199, 3) by decide +kernel) rfl (Nat.le_of_ble_eq_true rfl) (by decide) okl_321 rfl rfl (Nat.le_refl _) h (fun r22 σ22 h => ?_)
            exact j_ret (rokI (show decode cX12_beginOne 159 = .ok (.ireturn, 1) by decide +kernel) rfl) ⟨rfl, rfl, h⟩
        · have h := h.2 c
          refine s_aload_n (i := 0) rfl (show decode cX12_beginOne 126 = .ok (.aload_n 0, 1) by decide +kernel) ?_
          refine j_iconst (show decode cX12_beginOne 127 = .ok (.iconst 5, 1) by decide +kernel) ?_
          refine j_ctV (m' := mX12_opened) (As := [iv 5]) (ci := 12) (tag := 0) (N := 0) (cw_X12_199 rfl) (show decode cX12_beginOne 128 = .ok (.invokevirtual 199, 3) by decide +kernel) rfl (Nat.le_of_ble_eq_true rfl) (by decide) okl_321 rfl rfl (Nat.le_refl _) h (fun r23 σ23 h => ?_)
          exact j_ret (rokI (show decode cX12_beginOne 131 = .ok (.ireturn, 1) by decide +kernel) rfl) ⟨rfl, rfl, h⟩
      · have h := h.2 c
        refine s_aload_n (i := 0) rfl (show decode cX12_beginOne 110 = .ok (.aload_n 0, 1) by decide +kernel) ?_
        refine j_bipush (n := 40) (by decide +kernel) (show decode cX12_beginOne 111 = .ok (.bipush 40, 2) by decide +kernel) ?_
        refine j_ctV (m' := mX12_opened) (As := [iv 40]) (ci := 12) (tag := 0) (N := 0) (cw_X12_199 rfl) (show decode cX12_beginOne 113 = .ok (.invokevirtual 199, 3) by decide +kernel) rfl (Nat.le_of_ble_eq_true rfl) (by decide) okl_321 rfl rfl (Nat.le_refl _) h (fun r24 σ24 h => ?_)
        exact j_ret (rokI (show decode cX12_beginOne 116 = .ok (.ireturn, 1) by decide +kernel) rfl) ⟨rfl, rfl, h⟩
    · have h := h.2 c
      exact h
set_option maxRecDepth 4000 in
theorem b_X12_beginOne_0 {d : Nat} {t : Int} {Q : Int → jM → Prop} {σ : jM} (h : (inR (σ 321 9)) ∧ ((¬ (σ 321 9) = 1 → (Ct mX12_nameOf d 0 t [rv 321] σ (fun r2 σ2 => ((inR r2) ∧ ((r2 < 0 → (Jt mX12_beginOne (d + 1) 0 t Q 39 [rv 321, iv r2] [] σ2)) ∧ (0 ≤ r2 → (Ct mX12_isOf d 0 t [rv 321, iv r2] σ2 (fun r4 σ4 => ((inR r4) ∧ ((¬ r4 = 0 → (Jt mX12_beginOne (d + 1) 0 t Q 39 [rv 321, iv r2] [] σ4)) ∧ (r4 = 0 → (Q 5 σ4)))))))))))) ∧ ((σ 321 9) = 1 → ((inR (σ 321 10)) ∧ (((σ 321 10) ≤ 9999 → (Ct mX12_nameOf d 0 t [rv 321] σ (fun r7 σ7 => ((inR r7) ∧ ((r7 < 0 → (Jt mX12_beginOne (d + 1) 0 t Q 39 [rv 321, iv r7] [] σ7)) ∧ (0 ≤ r7 → (Ct mX12_isOf d 0 t [rv 321, iv r7] σ7 (fun r9 σ9 => ((inR r9) ∧ ((¬ r9 = 0 → (Jt mX12_beginOne (d + 1) 0 t Q 39 [rv 321, iv r7] [] σ9)) ∧ (r9 = 0 → (Q 5 σ9)))))))))))) ∧ (9999 < (σ 321 10) → (Q 2 σ))))))) : Jt mX12_beginOne (d + 1) 0 t Q 0 [rv 321, uv] [] σ := by
  refine s_aload_n (i := 0) rfl (show decode cX12_beginOne 0 = .ok (.aload_n 0, 1) by decide +kernel) ?_
  refine gf_X12_113 rfl (show decode cX12_beginOne 1 = .ok (.getfield 113, 3) by decide +kernel) okl_321 ?_
  refine j_iconst (show decode cX12_beginOne 4 = .ok (.iconst 1, 1) by decide +kernel) ?_
  have hr0 := h.1
  have h := h.2
  refine j_icmp_ne (tgt := 20) hr0 (inl (by decide)) (show decode cX12_beginOne 5 = .ok (.if_icmp .ne 15, 3) by decide +kernel) (by decide) (fun c => ?_) (fun c => ?_)
  · have h := h.1 c
    refine s_aload_n (i := 0) rfl (show decode cX12_beginOne 20 = .ok (.aload_n 0, 1) by decide +kernel) ?_
    refine j_ctV (m' := mX12_nameOf) (As := []) (ci := 12) (tag := 0) (N := 0) (cw_X12_187 rfl) (show decode cX12_beginOne 21 = .ok (.invokevirtual 187, 3) by decide +kernel) rfl (Nat.le_of_ble_eq_true rfl) (by decide) okl_321 rfl rfl (Nat.le_refl _) h (fun r2 σ2 h => ?_)
    refine s_ist_n (i := 1) (L' := [rv 321, iv r2]) rfl (by decide) (show decode cX12_beginOne 24 = .ok (.istore_n 1, 1) by decide +kernel) ?_
    refine j_iload_n (i := 1) rfl (show decode cX12_beginOne 25 = .ok (.iload_n 1, 1) by decide +kernel) ?_
    have hr2 := h.1
    have h := h.2
    refine j_if_lt (tgt := 39) hr2 (show decode cX12_beginOne 26 = .ok (.ifCond .lt 13, 3) by decide +kernel) (by decide) (fun c => ?_) (fun c => ?_)
    · have h := h.1 c
      exact h
    · have h := h.2 c
      refine s_aload_n (i := 0) rfl (show decode cX12_beginOne 29 = .ok (.aload_n 0, 1) by decide +kernel) ?_
      refine j_iload_n (i := 1) rfl (show decode cX12_beginOne 30 = .ok (.iload_n 1, 1) by decide +kernel) ?_
      refine j_ctV (m' := mX12_isOf) (As := [iv r2]) (ci := 12) (tag := 0) (N := 0) (cw_X12_190 rfl) (show decode cX12_beginOne 31 = .ok (.invokevirtual 190, 3) by decide +kernel) rfl (Nat.le_of_ble_eq_true rfl) (by decide) okl_321 rfl rfl (Nat.le_refl _) h (fun r4 σ4 h => ?_)
      have hr4 := h.1
      have h := h.2
      refine j_if_ne (tgt := 39) hr4 (show decode cX12_beginOne 34 = .ok (.ifCond .ne 5, 3) by decide +kernel) (by decide) (fun c => ?_) (fun c => ?_)
      · have h := h.1 c
        exact h
      · have h := h.2 c
        refine j_iconst (show decode cX12_beginOne 37 = .ok (.iconst 5, 1) by decide +kernel) ?_
        exact j_ret (rokI (show decode cX12_beginOne 38 = .ok (.ireturn, 1) by decide +kernel) rfl) ⟨rfl, rfl, h⟩
  · have h := h.2 c
    refine s_aload_n (i := 0) rfl (show decode cX12_beginOne 8 = .ok (.aload_n 0, 1) by decide +kernel) ?_
    refine gf_X12_119 rfl (show decode cX12_beginOne 9 = .ok (.getfield 119, 3) by decide +kernel) okl_321 ?_
    refine j_sipush (n := 9999) (by decide +kernel) (show decode cX12_beginOne 12 = .ok (.sipush 9999, 3) by decide +kernel) ?_
    have hr5 := h.1
    have h := h.2
    refine j_icmp_le (tgt := 20) hr5 (inl (by decide)) (show decode cX12_beginOne 15 = .ok (.if_icmp .le 5, 3) by decide +kernel) (by decide) (fun c => ?_) (fun c => ?_)
    · have h := h.1 c
      refine s_aload_n (i := 0) rfl (show decode cX12_beginOne 20 = .ok (.aload_n 0, 1) by decide +kernel) ?_
      refine j_ctV (m' := mX12_nameOf) (As := []) (ci := 12) (tag := 0) (N := 0) (cw_X12_187 rfl) (show decode cX12_beginOne 21 = .ok (.invokevirtual 187, 3) by decide +kernel) rfl (Nat.le_of_ble_eq_true rfl) (by decide) okl_321 rfl rfl (Nat.le_refl _) h (fun r7 σ7 h => ?_)
      refine s_ist_n (i := 1) (L' := [rv 321, iv r7]) rfl (by decide) (show decode cX12_beginOne 24 = .ok (.istore_n 1, 1) by decide +kernel) ?_
      refine j_iload_n (i := 1) rfl (show decode cX12_beginOne 25 = .ok (.iload_n 1, 1) by decide +kernel) ?_
      have hr7 := h.1
      have h := h.2
      refine j_if_lt (tgt := 39) hr7 (show decode cX12_beginOne 26 = .ok (.ifCond .lt 13, 3) by decide +kernel) (by decide) (fun c => ?_) (fun c => ?_)
      · have h := h.1 c
        exact h
      · have h := h.2 c
        refine s_aload_n (i := 0) rfl (show decode cX12_beginOne 29 = .ok (.aload_n 0, 1) by decide +kernel) ?_
        refine j_iload_n (i := 1) rfl (show decode cX12_beginOne 30 = .ok (.iload_n 1, 1) by decide +kernel) ?_
        refine j_ctV (m' := mX12_isOf) (As := [iv r7]) (ci := 12) (tag := 0) (N := 0) (cw_X12_190 rfl) (show decode cX12_beginOne 31 = .ok (.invokevirtual 190, 3) by decide +kernel) rfl (Nat.le_of_ble_eq_true rfl) (by decide) okl_321 rfl rfl (Nat.le_refl _) h (fun r9 σ9 h => ?_)
        have hr9 := h.1
        have h := h.2
        refine j_if_ne (tgt := 39) hr9 (show decode cX12_beginOne 34 = .ok (.ifCond .ne 5, 3) by decide +kernel) (by decide) (fun c => ?_) (fun c => ?_)
        · have h := h.1 c
          exact h
        · have h := h.2 c
          refine j_iconst (show decode cX12_beginOne 37 = .ok (.iconst 5, 1) by decide +kernel) ?_
          exact j_ret (rokI (show decode cX12_beginOne 38 = .ok (.ireturn, 1) by decide +kernel) rfl) ⟨rfl, rfl, h⟩
    · have h := h.2 c
      refine j_iconst (show decode cX12_beginOne 18 = .ok (.iconst 2, 1) by decide +kernel) ?_
      exact j_ret (rokI (show decode cX12_beginOne 19 = .ok (.ireturn, 1) by decide +kernel) rfl) ⟨rfl, rfl, h⟩
theorem c_X12_beginOne {d : Nat} {t : Int} {Q : Int → jM → Prop} {σ : jM} (h : (inR (σ 321 9)) ∧ ((¬ (σ 321 9) = 1 → (Ct mX12_nameOf d 0 t [rv 321] σ (fun r2 σ2 => ((inR r2) ∧ ((r2 < 0 → (Jt mX12_beginOne (d + 1) 0 t Q 39 [rv 321, iv r2] [] σ2)) ∧ (0 ≤ r2 → (Ct mX12_isOf d 0 t [rv 321, iv r2] σ2 (fun r4 σ4 => ((inR r4) ∧ ((¬ r4 = 0 → (Jt mX12_beginOne (d + 1) 0 t Q 39 [rv 321, iv r2] [] σ4)) ∧ (r4 = 0 → (Q 5 σ4)))))))))))) ∧ ((σ 321 9) = 1 → ((inR (σ 321 10)) ∧ (((σ 321 10) ≤ 9999 → (Ct mX12_nameOf d 0 t [rv 321] σ (fun r7 σ7 => ((inR r7) ∧ ((r7 < 0 → (Jt mX12_beginOne (d + 1) 0 t Q 39 [rv 321, iv r7] [] σ7)) ∧ (0 ≤ r7 → (Ct mX12_isOf d 0 t [rv 321, iv r7] σ7 (fun r9 σ9 => ((inR r9) ∧ ((¬ r9 = 0 → (Jt mX12_beginOne (d + 1) 0 t Q 39 [rv 321, iv r7] [] σ9)) ∧ (r9 = 0 → (Q 5 σ9)))))))))))) ∧ (9999 < (σ 321 10) → (Q 2 σ))))))) : Ct mX12_beginOne (d + 1) 0 t [rv 321] σ Q := Ct_of (by decide +kernel) (Nat.le_of_ble_eq_true rfl) (b_X12_beginOne_0 h)
set_option maxRecDepth 4000 in
theorem b_X12_compareOf_0 {d : Nat} {t : Int} {Q : Int → jM → Prop} {σ : jM} (h : (inR (σ 321 9)) ∧ ((¬ (σ 321 9) = 60 → ((inR (σ 321 9)) ∧ ((¬ (σ 321 9) = 4 → ((inR (σ 321 9)) ∧ ((¬ (σ 321 9) = 62 → ((inR (σ 321 9)) ∧ ((¬ (σ 321 9) = 5 → ((inR (σ 321 9)) ∧ ((¬ (σ 321 9) = 61 → ((inR (σ 321 9)) ∧ ((¬ (σ 321 9) = 35 → (Q (-1) σ)) ∧ ((σ 321 9) = 35 → (Q 15 σ))))) ∧ ((σ 321 9) = 61 → (Q 14 σ))))) ∧ ((σ 321 9) = 5 → (Q 13 σ))))) ∧ ((σ 321 9) = 62 → (Q 12 σ))))) ∧ ((σ 321 9) = 4 → (Q 11 σ))))) ∧ ((σ 321 9) = 60 → (Q 10 σ)))) : Jt mX12_compareOf (d) 0 t Q 0 [rv 321] [] σ := by
  refine s_aload_n (i := 0) rfl (show decode cX12_compareOf 0 = .ok (.aload_n 0, 1) by decide +kernel) ?_
  refine gf_X12_113 rfl (show decode cX12_compareOf 1 = .ok (.getfield 113, 3) by decide +kernel) okl_321 ?_
  refine j_bipush (n := 60) (by decide +kernel) (show decode cX12_compareOf 4 = .ok (.bipush 60, 2) by decide +kernel) ?_
  have hr0 := h.1
  have h := h.2
  refine j_icmp_ne (tgt := 14) hr0 (inl (by decide)) (show decode cX12_compareOf 6 = .ok (.if_icmp .ne 8, 3) by decide +kernel) (by decide) (fun c => ?_) (fun c => ?_)
  · have h := h.1 c
    refine s_aload_n (i := 0) rfl (show decode cX12_compareOf 14 = .ok (.aload_n 0, 1) by decide +kernel) ?_
    refine gf_X12_113 rfl (show decode cX12_compareOf 15 = .ok (.getfield 113, 3) by decide +kernel) okl_321 ?_
    refine j_iconst (show decode cX12_compareOf 18 = .ok (.iconst 4, 1) by decide +kernel) ?_
    have hr1 := h.1
    have h := h.2
    refine j_icmp_ne (tgt := 27) hr1 (inl (by decide)) (show decode cX12_compareOf 19 = .ok (.if_icmp .ne 8, 3) by decide +kernel) (by decide) (fun c => ?_) (fun c => ?_)
    · have h := h.1 c
      refine s_aload_n (i := 0) rfl (show decode cX12_compareOf 27 = .ok (.aload_n 0, 1) by decide +kernel) ?_
      refine gf_X12_113 rfl (show decode cX12_compareOf 28 = .ok (.getfield 113, 3) by decide +kernel) okl_321 ?_
      refine j_bipush (n := 62) (by decide +kernel) (show decode cX12_compareOf 31 = .ok (.bipush 62, 2) by decide +kernel) ?_
      have hr2 := h.1
      have h := h.2
      refine j_icmp_ne (tgt := 41) hr2 (inl (by decide)) (show decode cX12_compareOf 33 = .ok (.if_icmp .ne 8, 3) by decide +kernel) (by decide) (fun c => ?_) (fun c => ?_)
      · have h := h.1 c
        refine s_aload_n (i := 0) rfl (show decode cX12_compareOf 41 = .ok (.aload_n 0, 1) by decide +kernel) ?_
        refine gf_X12_113 rfl (show decode cX12_compareOf 42 = .ok (.getfield 113, 3) by decide +kernel) okl_321 ?_
        refine j_iconst (show decode cX12_compareOf 45 = .ok (.iconst 5, 1) by decide +kernel) ?_
        have hr3 := h.1
        have h := h.2
        refine j_icmp_ne (tgt := 54) hr3 (inl (by decide)) (show decode cX12_compareOf 46 = .ok (.if_icmp .ne 8, 3) by decide +kernel) (by decide) (fun c => ?_) (fun c => ?_)
        · have h := h.1 c
          refine s_aload_n (i := 0) rfl (show decode cX12_compareOf 54 = .ok (.aload_n 0, 1) by decide +kernel) ?_
          refine gf_X12_113 rfl (show decode cX12_compareOf 55 = .ok (.getfield 113, 3) by decide +kernel) okl_321 ?_
          refine j_bipush (n := 61) (by decide +kernel) (show decode cX12_compareOf 58 = .ok (.bipush 61, 2) by decide +kernel) ?_
          have hr4 := h.1
          have h := h.2
          refine j_icmp_ne (tgt := 68) hr4 (inl (by decide)) (show decode cX12_compareOf 60 = .ok (.if_icmp .ne 8, 3) by decide +kernel) (by decide) (fun c => ?_) (fun c => ?_)
          · have h := h.1 c
            refine s_aload_n (i := 0) rfl (show decode cX12_compareOf 68 = .ok (.aload_n 0, 1) by decide +kernel) ?_
            refine gf_X12_113 rfl (show decode cX12_compareOf 69 = .ok (.getfield 113, 3) by decide +kernel) okl_321 ?_
            refine j_bipush (n := 35) (by decide +kernel) (show decode cX12_compareOf 72 = .ok (.bipush 35, 2) by decide +kernel) ?_
            have hr5 := h.1
            have h := h.2
            refine j_icmp_ne (tgt := 82) hr5 (inl (by decide)) (show decode cX12_compareOf 74 = .ok (.if_icmp .ne 8, 3) by decide +kernel) (by decide) (fun c => ?_) (fun c => ?_)
            · have h := h.1 c
              refine j_iconst (show decode cX12_compareOf 82 = .ok (.iconst (-1), 1) by decide +kernel) ?_
              exact j_ret (rokI (show decode cX12_compareOf 83 = .ok (.ireturn, 1) by decide +kernel) rfl) ⟨rfl, rfl, h⟩
            · have h := h.2 c
              refine j_bipush (n := 15) (by decide +kernel) (show decode cX12_compareOf 77 = .ok (.bipush 15, 2) by decide +kernel) ?_
              refine j_goto (tgt := 83) (show decode cX12_compareOf 79 = .ok (.goto 4, 3) by decide +kernel) (by decide) ?_
              exact j_ret (rokI (show decode cX12_compareOf 83 = .ok (.ireturn, 1) by decide +kernel) rfl) ⟨rfl, rfl, h⟩
          · have h := h.2 c
            refine j_bipush (n := 14) (by decide +kernel) (show decode cX12_compareOf 63 = .ok (.bipush 14, 2) by decide +kernel) ?_
            refine j_goto (tgt := 83) (show decode cX12_compareOf 65 = .ok (.goto 18, 3) by decide +kernel) (by decide) ?_
            exact j_ret (rokI (show decode cX12_compareOf 83 = .ok (.ireturn, 1) by decide +kernel) rfl) ⟨rfl, rfl, h⟩
        · have h := h.2 c
          refine j_bipush (n := 13) (by decide +kernel) (show decode cX12_compareOf 49 = .ok (.bipush 13, 2) by decide +kernel) ?_
          refine j_goto (tgt := 83) (show decode cX12_compareOf 51 = .ok (.goto 32, 3) by decide +kernel) (by decide) ?_
          exact j_ret (rokI (show decode cX12_compareOf 83 = .ok (.ireturn, 1) by decide +kernel) rfl) ⟨rfl, rfl, h⟩
      · have h := h.2 c
        refine j_bipush (n := 12) (by decide +kernel) (show decode cX12_compareOf 36 = .ok (.bipush 12, 2) by decide +kernel) ?_
        refine j_goto (tgt := 83) (show decode cX12_compareOf 38 = .ok (.goto 45, 3) by decide +kernel) (by decide) ?_
        exact j_ret (rokI (show decode cX12_compareOf 83 = .ok (.ireturn, 1) by decide +kernel) rfl) ⟨rfl, rfl, h⟩
    · have h := h.2 c
      refine j_bipush (n := 11) (by decide +kernel) (show decode cX12_compareOf 22 = .ok (.bipush 11, 2) by decide +kernel) ?_
      refine j_goto (tgt := 83) (show decode cX12_compareOf 24 = .ok (.goto 59, 3) by decide +kernel) (by decide) ?_
      exact j_ret (rokI (show decode cX12_compareOf 83 = .ok (.ireturn, 1) by decide +kernel) rfl) ⟨rfl, rfl, h⟩
  · have h := h.2 c
    refine j_bipush (n := 10) (by decide +kernel) (show decode cX12_compareOf 9 = .ok (.bipush 10, 2) by decide +kernel) ?_
    refine j_goto (tgt := 83) (show decode cX12_compareOf 11 = .ok (.goto 72, 3) by decide +kernel) (by decide) ?_
    exact j_ret (rokI (show decode cX12_compareOf 83 = .ok (.ireturn, 1) by decide +kernel) rfl) ⟨rfl, rfl, h⟩
theorem c_X12_compareOf {d : Nat} {t : Int} {Q : Int → jM → Prop} {σ : jM} (h : (inR (σ 321 9)) ∧ ((¬ (σ 321 9) = 60 → ((inR (σ 321 9)) ∧ ((¬ (σ 321 9) = 4 → ((inR (σ 321 9)) ∧ ((¬ (σ 321 9) = 62 → ((inR (σ 321 9)) ∧ ((¬ (σ 321 9) = 5 → ((inR (σ 321 9)) ∧ ((¬ (σ 321 9) = 61 → ((inR (σ 321 9)) ∧ ((¬ (σ 321 9) = 35 → (Q (-1) σ)) ∧ ((σ 321 9) = 35 → (Q 15 σ))))) ∧ ((σ 321 9) = 61 → (Q 14 σ))))) ∧ ((σ 321 9) = 5 → (Q 13 σ))))) ∧ ((σ 321 9) = 62 → (Q 12 σ))))) ∧ ((σ 321 9) = 4 → (Q 11 σ))))) ∧ ((σ 321 9) = 60 → (Q 10 σ)))) : Ct mX12_compareOf (d) 0 t [rv 321] σ Q := Ct_of (by decide +kernel) (Nat.le_of_ble_eq_true rfl) (b_X12_compareOf_0 h)
set_option maxRecDepth 4000 in
theorem b_X12_betweenOf_0 {d : Nat} {t : Int} {Q : Int → jM → Prop} {σ : jM} (h : (inR (σ 321 9)) ∧ ((¬ (σ 321 9) = 43 → ((inR (σ 321 9)) ∧ ((¬ (σ 321 9) = 45 → ((inR (σ 321 9)) ∧ ((¬ (σ 321 9) = 42 → ((inR (σ 321 9)) ∧ ((¬ (σ 321 9) = 47 → (Ct mX12_openNow d 0 t [rv 321] σ (fun r5 σ5 => ((inR r5) ∧ ((r5 = 41 → (Ct mX12_isCompared d 0 t [rv 321] σ5 (fun r7 σ7 => ((inR r7) ∧ ((¬ r7 = 0 → (Ct mX12_w3 d 1 t [iv 97, iv 110, iv 100] σ7 (fun r9 σ9 => (Ct mX12_isWord d 0 t [rv 321, jv r9] σ9 (fun r10 σ10 => ((inR r10) ∧ ((r10 = 0 → (Ct mX12_w2 d 1 t [iv 111, iv 114] σ10 (fun r12 σ12 => (Ct mX12_isWord d 0 t [rv 321, jv r12] σ12 (fun r13 σ13 => ((inR r13) ∧ ((r13 = 0 → (Q (-1) σ13)) ∧ (¬ r13 = 0 → (Q 22 σ13))))))))) ∧ (¬ r10 = 0 → (Q 21 σ10))))))))) ∧ (r7 = 0 → (Ct mX12_compareOf d 0 t [rv 321] σ7 (fun r15 σ15 => (Q r15 σ15))))))))) ∧ (¬ r5 = 41 → (Q (-1) σ5))))))) ∧ ((σ 321 9) = 47 → (Q 9 σ))))) ∧ ((σ 321 9) = 42 → (Q 8 σ))))) ∧ ((σ 321 9) = 45 → (Q 7 σ))))) ∧ ((σ 321 9) = 43 → (Q 6 σ)))) : Jt mX12_betweenOf (d + 1) 0 t Q 0 [rv 321] [] σ := by
  refine s_aload_n (i := 0) rfl (show decode cX12_betweenOf 0 = .ok (.aload_n 0, 1) by decide +kernel) ?_
  refine gf_X12_113 rfl (show decode cX12_betweenOf 1 = .ok (.getfield 113, 3) by decide +kernel) okl_321 ?_
  refine j_bipush (n := 43) (by decide +kernel) (show decode cX12_betweenOf 4 = .ok (.bipush 43, 2) by decide +kernel) ?_
  have hr0 := h.1
  have h := h.2
  refine j_icmp_ne (tgt := 12) hr0 (inl (by decide)) (show decode cX12_betweenOf 6 = .ok (.if_icmp .ne 6, 3) by decide +kernel) (by decide) (fun c => ?_) (fun c => ?_)
  · have h := h.1 c
    refine s_aload_n (i := 0) rfl (show decode cX12_betweenOf 12 = .ok (.aload_n 0, 1) by decide +kernel) ?_
    refine gf_X12_113 rfl (show decode cX12_betweenOf 13 = .ok (.getfield 113, 3) by decide +kernel) okl_321 ?_
    refine j_bipush (n := 45) (by decide +kernel) (show decode cX12_betweenOf 16 = .ok (.bipush 45, 2) by decide +kernel) ?_
    have hr1 := h.1
    have h := h.2
    refine j_icmp_ne (tgt := 24) hr1 (inl (by decide)) (show decode cX12_betweenOf 18 = .ok (.if_icmp .ne 6, 3) by decide +kernel) (by decide) (fun c => ?_) (fun c => ?_)
    · have h := h.1 c
      refine s_aload_n (i := 0) rfl (show decode cX12_betweenOf 24 = .ok (.aload_n 0, 1) by decide +kernel) ?_
      refine gf_X12_113 rfl (show decode cX12_betweenOf 25 = .ok (.getfield 113, 3) by decide +kernel) okl_321 ?_
      refine j_bipush (n := 42) (by decide +kernel) (show decode cX12_betweenOf 28 = .ok (.bipush 42, 2) by decide +kernel) ?_
      have hr2 := h.1
      have h := h.2
      refine j_icmp_ne (tgt := 36) hr2 (inl (by decide)) (show decode cX12_betweenOf 30 = .ok (.if_icmp .ne 6, 3) by decide +kernel) (by decide) (fun c => ?_) (fun c => ?_)
      · have h := h.1 c
        refine s_aload_n (i := 0) rfl (show decode cX12_betweenOf 36 = .ok (.aload_n 0, 1) by decide +kernel) ?_
        refine gf_X12_113 rfl (show decode cX12_betweenOf 37 = .ok (.getfield 113, 3) by decide +kernel) okl_321 ?_
        refine j_bipush (n := 47) (by decide +kernel) (show decode cX12_betweenOf 40 = .ok (.bipush 47, 2) by decide +kernel) ?_
        have hr3 := h.1
        have h := h.2
        refine j_icmp_ne (tgt := 48) hr3 (inl (by decide)) (show decode cX12_betweenOf 42 = .ok (.if_icmp .ne 6, 3) by decide +kernel) (by decide) (fun c => ?_) (fun c => ?_)
        · have h := h.1 c
          refine s_aload_n (i := 0) rfl (show decode cX12_betweenOf 48 = .ok (.aload_n 0, 1) by decide +kernel) ?_
          refine j_ctV (m' := mX12_openNow) (As := []) (ci := 12) (tag := 0) (N := 0) (cw_X12_181 rfl) (show decode cX12_betweenOf 49 = .ok (.invokevirtual 181, 3) by decide +kernel) rfl (Nat.le_of_ble_eq_true rfl) (by decide) okl_321 rfl rfl (Nat.le_refl _) h (fun r5 σ5 h => ?_)
          refine j_bipush (n := 41) (by decide +kernel) (show decode cX12_betweenOf 52 = .ok (.bipush 41, 2) by decide +kernel) ?_
          have hr5 := h.1
          have h := h.2
          refine j_icmp_eq (tgt := 59) hr5 (inl (by decide)) (show decode cX12_betweenOf 54 = .ok (.if_icmp .eq 5, 3) by decide +kernel) (by decide) (fun c => ?_) (fun c => ?_)
          · have h := h.1 c
            refine s_aload_n (i := 0) rfl (show decode cX12_betweenOf 59 = .ok (.aload_n 0, 1) by decide +kernel) ?_
            refine j_ctV (m' := mX12_isCompared) (As := []) (ci := 12) (tag := 0) (N := 0) (cw_X12_210 rfl) (show decode cX12_betweenOf 60 = .ok (.invokevirtual 210, 3) by decide +kernel) rfl (Nat.le_of_ble_eq_true rfl) (by decide) okl_321 rfl rfl (Nat.le_refl _) h (fun r7 σ7 h => ?_)
            have hr7 := h.1
            have h := h.2
            refine j_if_ne (tgt := 71) hr7 (show decode cX12_betweenOf 63 = .ok (.ifCond .ne 8, 3) by decide +kernel) (by decide) (fun c => ?_) (fun c => ?_)
            · have h := h.1 c
              refine s_aload_n (i := 0) rfl (show decode cX12_betweenOf 71 = .ok (.aload_n 0, 1) by decide +kernel) ?_
              refine j_bipush (n := 97) (by decide +kernel) (show decode cX12_betweenOf 72 = .ok (.bipush 97, 2) by decide +kernel) ?_
              refine j_bipush (n := 110) (by decide +kernel) (show decode cX12_betweenOf 74 = .ok (.bipush 110, 2) by decide +kernel) ?_
              refine j_bipush (n := 100) (by decide +kernel) (show decode cX12_betweenOf 76 = .ok (.bipush 100, 2) by decide +kernel) ?_
              refine j_ctS (m' := mX12_w3) (As := [iv 97, iv 110, iv 100]) (tag := 1) (cw_X12_139 rfl) (show decode cX12_betweenOf 78 = .ok (.invokestatic 139, 3) by decide +kernel) rfl (Nat.le_of_ble_eq_true rfl) (by decide) (Nat.le_refl _) h (fun r9 σ9 h => ?_)
              refine j_ctV (m' := mX12_isWord) (As := [jv r9]) (ci := 12) (tag := 0) (N := 0) (cw_X12_202 rfl) (show decode cX12_betweenOf 81 = .ok (.invokevirtual 202, 3) by decide +kernel) rfl (Nat.le_of_ble_eq_true rfl) (by decide) okl_321 rfl rfl (Nat.le_refl _) h (fun r10 σ10 h => ?_)
              have hr10 := h.1
              have h := h.2
              refine j_if_eq (tgt := 92) hr10 (show decode cX12_betweenOf 84 = .ok (.ifCond .eq 8, 3) by decide +kernel) (by decide) (fun c => ?_) (fun c => ?_)
              · have h := h.1 c
                refine s_aload_n (i := 0) rfl (show decode cX12_betweenOf 92 = .ok (.aload_n 0, 1) by decide +kernel) ?_
                refine j_bipush (n := 111) (by decide +kernel) (show decode cX12_betweenOf 93 = .ok (.bipush 111, 2) by decide +kernel) ?_
                refine j_bipush (n := 114) (by decide +kernel) (show decode cX12_betweenOf 95 = .ok (.bipush 114, 2) by decide +kernel) ?_
                refine j_ctS (m' := mX12_w2) (As := [iv 111, iv 114]) (tag := 1) (cw_X12_135 rfl) (show decode cX12_betweenOf 97 = .ok (.invokestatic 135, 3) by decide +kernel) rfl (Nat.le_of_ble_eq_true rfl) (by decide) (Nat.le_refl _) h (fun r12 σ12 h => ?_)
                refine j_ctV (m' := mX12_isWord) (As := [jv r12]) (ci := 12) (tag := 0) (N := 0) (cw_X12_202 rfl) (show decode cX12_betweenOf 100 = .ok (.invokevirtual 202, 3) by decide +kernel) rfl (Nat.le_of_ble_eq_true rfl) (by decide) okl_321 rfl rfl (Nat.le_refl _) h (fun r13 σ13 h => ?_)
                have hr13 := h.1
                have h := h.2
                refine j_if_eq (tgt := 111) hr13 (show decode cX12_betweenOf 103 = .ok (.ifCond .eq 8, 3) by decide +kernel) (by decide) (fun c => ?_) (fun c => ?_)
                · have h := h.1 c
                  refine j_iconst (show decode cX12_betweenOf 111 = .ok (.iconst (-1), 1) by decide +kernel) ?_
                  exact j_ret (rokI (show decode cX12_betweenOf 112 = .ok (.ireturn, 1) by decide +kernel) rfl) ⟨rfl, rfl, h⟩
                · have h := h.2 c
                  refine j_bipush (n := 22) (by decide +kernel) (show decode cX12_betweenOf 106 = .ok (.bipush 22, 2) by decide +kernel) ?_
                  refine j_goto (tgt := 112) (show decode cX12_betweenOf 108 = .ok (.goto 4, 3) by decide +kernel) (by decide) ?_
                  exact j_ret (rokI (show decode cX12_betweenOf 112 = .ok (.ireturn, 1) by decide +kernel) rfl) ⟨rfl, rfl, h⟩
              · have h := h.2 c
                refine j_bipush (n := 21) (by decide +kernel) (show decode cX12_betweenOf 87 = .ok (.bipush 21, 2) by decide +kernel) ?_
                refine j_goto (tgt := 112) (show decode cX12_betweenOf 89 = .ok (.goto 23, 3) by decide +kernel) (by decide) ?_
                exact j_ret (rokI (show decode cX12_betweenOf 112 = .ok (.ireturn, 1) by decide +kernel) rfl) ⟨rfl, rfl, h⟩
            · have h := h.2 c
              refine s_aload_n (i := 0) rfl (show decode cX12_betweenOf 66 = .ok (.aload_n 0, 1) by decide +kernel) ?_
              refine j_ctV (m' := mX12_compareOf) (As := []) (ci := 12) (tag := 0) (N := 0) (cw_X12_213 rfl) (show decode cX12_betweenOf 67 = .ok (.invokevirtual 213, 3) by decide +kernel) rfl (Nat.le_of_ble_eq_true rfl) (by decide) okl_321 rfl rfl (Nat.le_refl _) h (fun r15 σ15 h => ?_)
              exact j_ret (rokI (show decode cX12_betweenOf 70 = .ok (.ireturn, 1) by decide +kernel) rfl) ⟨rfl, rfl, h⟩
          · have h := h.2 c
            refine j_iconst (show decode cX12_betweenOf 57 = .ok (.iconst (-1), 1) by decide +kernel) ?_
            exact j_ret (rokI (show decode cX12_betweenOf 58 = .ok (.ireturn, 1) by decide +kernel) rfl) ⟨rfl, rfl, h⟩
        · have h := h.2 c
          refine j_bipush (n := 9) (by decide +kernel) (show decode cX12_betweenOf 45 = .ok (.bipush 9, 2) by decide +kernel) ?_
          exact j_ret (rokI (show decode cX12_betweenOf 47 = .ok (.ireturn, 1) by decide +kernel) rfl) ⟨rfl, rfl, h⟩
      · have h := h.2 c
        refine j_bipush (n := 8) (by decide +kernel) (show decode cX12_betweenOf 33 = .ok (.bipush 8, 2) by decide +kernel) ?_
        exact j_ret (rokI (show decode cX12_betweenOf 35 = .ok (.ireturn, 1) by decide +kernel) rfl) ⟨rfl, rfl, h⟩
    · have h := h.2 c
      refine j_bipush (n := 7) (by decide +kernel) (show decode cX12_betweenOf 21 = .ok (.bipush 7, 2) by decide +kernel) ?_
      exact j_ret (rokI (show decode cX12_betweenOf 23 = .ok (.ireturn, 1) by decide +kernel) rfl) ⟨rfl, rfl, h⟩
  · have h := h.2 c
    refine j_bipush (n := 6) (by decide +kernel) (show decode cX12_betweenOf 9 = .ok (.bipush 6, 2) by decide +kernel) ?_
    exact j_ret (rokI (show decode cX12_betweenOf 11 = .ok (.ireturn, 1) by decide +kernel) rfl) ⟨rfl, rfl, h⟩
theorem c_X12_betweenOf {d : Nat} {t : Int} {Q : Int → jM → Prop} {σ : jM} (h : (inR (σ 321 9)) ∧ ((¬ (σ 321 9) = 43 → ((inR (σ 321 9)) ∧ ((¬ (σ 321 9) = 45 → ((inR (σ 321 9)) ∧ ((¬ (σ 321 9) = 42 → ((inR (σ 321 9)) ∧ ((¬ (σ 321 9) = 47 → (Ct mX12_openNow d 0 t [rv 321] σ (fun r5 σ5 => ((inR r5) ∧ ((r5 = 41 → (Ct mX12_isCompared d 0 t [rv 321] σ5 (fun r7 σ7 => ((inR r7) ∧ ((¬ r7 = 0 → (Ct mX12_w3 d 1 t [iv 97, iv 110, iv 100] σ7 (fun r9 σ9 => (Ct mX12_isWord d 0 t [rv 321, jv r9] σ9 (fun r10 σ10 => ((inR r10) ∧ ((r10 = 0 → (Ct mX12_w2 d 1 t [iv 111, iv 114] σ10 (fun r12 σ12 => (Ct mX12_isWord d 0 t [rv 321, jv r12] σ12 (fun r13 σ13 => ((inR r13) ∧ ((r13 = 0 → (Q (-1) σ13)) ∧ (¬ r13 = 0 → (Q 22 σ13))))))))) ∧ (¬ r10 = 0 → (Q 21 σ10))))))))) ∧ (r7 = 0 → (Ct mX12_compareOf d 0 t [rv 321] σ7 (fun r15 σ15 => (Q r15 σ15))))))))) ∧ (¬ r5 = 41 → (Q (-1) σ5))))))) ∧ ((σ 321 9) = 47 → (Q 9 σ))))) ∧ ((σ 321 9) = 42 → (Q 8 σ))))) ∧ ((σ 321 9) = 45 → (Q 7 σ))))) ∧ ((σ 321 9) = 43 → (Q 6 σ)))) : Ct mX12_betweenOf (d + 1) 0 t [rv 321] σ Q := Ct_of (by decide +kernel) (Nat.le_of_ble_eq_true rfl) (b_X12_betweenOf_0 h)
set_option maxRecDepth 4000 in
theorem b_X12_partOf_0 {d : Nat} {t : Int} {Q : Int → jM → Prop} {σ : jM} {p1 : Int} (h : (inR p1) ∧ ((p1 < 40 ∨ 43 < p1 → (Q (-1) σ)) ∧ (p1 = 40 → ((inR (σ 321 9)) ∧ ((¬ (σ 321 9) = 41 → (Q (-1) σ)) ∧ ((σ 321 9) = 41 → (Q 0 σ))))) ∧ (p1 = 41 → (Ct mX12_w4 d 1 t [iv 116, iv 104, iv 101, iv 110] σ (fun r3 σ3 => (Ct mX12_isWord d 0 t [rv 321, jv r3] σ3 (fun r4 σ4 => ((inR r4) ∧ ((r4 = 0 → (Q (-1) σ4)) ∧ (¬ r4 = 0 → (Ct mX12_isCompared d 0 t [rv 321] σ4 (fun r6 σ6 => ((inR r6) ∧ ((r6 = 0 → (Q (-1) σ6)) ∧ (¬ r6 = 0 → (Q 42 σ6)))))))))))))) ∧ (p1 = 42 → (Ct mX12_w4 d 1 t [iv 101, iv 108, iv 115, iv 101] σ (fun r8 σ8 => (Ct mX12_isWord d 0 t [rv 321, jv r8] σ8 (fun r9 σ9 => ((inR r9) ∧ ((r9 = 0 → (Q (-1) σ9)) ∧ (¬ r9 = 0 → (Q 43 σ9))))))))) ∧ (p1 = 43 → (Ct mX12_w3 d 1 t [iv 101, iv 110, iv 100] σ (fun r11 σ11 => (Ct mX12_isWord d 0 t [rv 321, jv r11] σ11 (fun r12 σ12 => ((inR r12) ∧ ((r12 = 0 → (Q (-1) σ12)) ∧ (¬ r12 = 0 → (Q 0 σ12))))))))))) : Jt mX12_partOf (d + 1) 0 t Q 0 [rv 321, iv p1] [] σ := by
  refine j_iload_n (i := 1) rfl (show decode cX12_partOf 0 = .ok (.iload_n 1, 1) by decide +kernel) ?_
  have hr0 := h.1
  have h := h.2
  rcases (show (p1 < 40 ∨ 43 < p1) ∨ p1 = 40 ∨ p1 = 41 ∨ p1 = 42 ∨ p1 = 43 by omega) with c | c | c | c | c
  · refine j_tableOut (tgt := 126) hr0 (show decode cX12_partOf 1 = .ok (.tableswitch 125 40 43 #[31, 46, 78, 103], 31) by decide +kernel) c (by decide) ?_
    have h := h.1 c
    refine j_iconst (show decode cX12_partOf 126 = .ok (.iconst (-1), 1) by decide +kernel) ?_
    exact j_ret (rokI (show decode cX12_partOf 127 = .ok (.ireturn, 1) by decide +kernel) rfl) ⟨rfl, rfl, h⟩
  · refine j_tableIn (tgt := 32) hr0 (show decode cX12_partOf 1 = .ok (.tableswitch 125 40 43 #[31, 46, 78, 103], 31) by decide +kernel) (by omega) (by omega) (by rw [c]; rfl) (by decide) ?_
    have h := h.2.1 c
    refine s_aload_n (i := 0) rfl (show decode cX12_partOf 32 = .ok (.aload_n 0, 1) by decide +kernel) ?_
    refine gf_X12_113 rfl (show decode cX12_partOf 33 = .ok (.getfield 113, 3) by decide +kernel) okl_321 ?_
    refine j_bipush (n := 41) (by decide +kernel) (show decode cX12_partOf 36 = .ok (.bipush 41, 2) by decide +kernel) ?_
    have hr1 := h.1
    have h := h.2
    refine j_icmp_ne (tgt := 45) hr1 (inl (by decide)) (show decode cX12_partOf 38 = .ok (.if_icmp .ne 7, 3) by decide +kernel) (by decide) (fun c => ?_) (fun c => ?_)
    · have h := h.1 c
      refine j_iconst (show decode cX12_partOf 45 = .ok (.iconst (-1), 1) by decide +kernel) ?_
      exact j_ret (rokI (show decode cX12_partOf 46 = .ok (.ireturn, 1) by decide +kernel) rfl) ⟨rfl, rfl, h⟩
    · have h := h.2 c
      refine j_iconst (show decode cX12_partOf 41 = .ok (.iconst 0, 1) by decide +kernel) ?_
      refine j_goto (tgt := 46) (show decode cX12_partOf 42 = .ok (.goto 4, 3) by decide +kernel) (by decide) ?_
      exact j_ret (rokI (show decode cX12_partOf 46 = .ok (.ireturn, 1) by decide +kernel) rfl) ⟨rfl, rfl, h⟩
  · refine j_tableIn (tgt := 47) hr0 (show decode cX12_partOf 1 = .ok (.tableswitch 125 40 43 #[31, 46, 78, 103], 31) by decide +kernel) (by omega) (by omega) (by rw [c]; rfl) (by decide) ?_
    have h := h.2.2.1 c
    refine s_aload_n (i := 0) rfl (show decode cX12_partOf 47 = .ok (.aload_n 0, 1) by decide +kernel) ?_
    refine j_bipush (n := 116) (by decide +kernel) (show decode cX12_partOf 48 = .ok (.bipush 116, 2) by decide +kernel) ?_
    refine j_bipush (n := 104) (by decide +kernel) (show decode cX12_partOf 50 = .ok (.bipush 104, 2) by decide +kernel) ?_
    refine j_bipush (n := 101) (by decide +kernel) (show decode cX12_partOf 52 = .ok (.bipush 101, 2) by decide +kernel) ?_
    refine j_bipush (n := 110) (by decide +kernel) (show decode cX12_partOf 54 = .ok (.bipush 110, 2) by decide +kernel) ?_
    refine j_ctS (m' := mX12_w4) (As := [iv 116, iv 104, iv 101, iv 110]) (tag := 1) (cw_X12_143 rfl) (show decode cX12_partOf 56 = .ok (.invokestatic 143, 3) by decide +kernel) rfl (Nat.le_of_ble_eq_true rfl) (by decide) (Nat.le_refl _) h (fun r3 σ3 h => ?_)
    refine j_ctV (m' := mX12_isWord) (As := [jv r3]) (ci := 12) (tag := 0) (N := 0) (cw_X12_202 rfl) (show decode cX12_partOf 59 = .ok (.invokevirtual 202, 3) by decide +kernel) rfl (Nat.le_of_ble_eq_true rfl) (by decide) okl_321 rfl rfl (Nat.le_refl _) h (fun r4 σ4 h => ?_)
    have hr4 := h.1
    have h := h.2
    refine j_if_eq (tgt := 77) hr4 (show decode cX12_partOf 62 = .ok (.ifCond .eq 15, 3) by decide +kernel) (by decide) (fun c => ?_) (fun c => ?_)
    · have h := h.1 c
      refine j_iconst (show decode cX12_partOf 77 = .ok (.iconst (-1), 1) by decide +kernel) ?_
      exact j_ret (rokI (show decode cX12_partOf 78 = .ok (.ireturn, 1) by decide +kernel) rfl) ⟨rfl, rfl, h⟩
    · have h := h.2 c
      refine s_aload_n (i := 0) rfl (show decode cX12_partOf 65 = .ok (.aload_n 0, 1) by decide +kernel) ?_
      refine j_ctV (m' := mX12_isCompared) (As := []) (ci := 12) (tag := 0) (N := 0) (cw_X12_210 rfl) (show decode cX12_partOf 66 = .ok (.invokevirtual 210, 3) by decide +kernel) rfl (Nat.le_of_ble_eq_true rfl) (by decide) okl_321 rfl rfl (Nat.le_refl _) h (fun r6 σ6 h => ?_)
      have hr6 := h.1
      have h := h.2
      refine j_if_eq (tgt := 77) hr6 (show decode cX12_partOf 69 = .ok (.ifCond .eq 8, 3) by decide +kernel) (by decide) (fun c => ?_) (fun c => ?_)
      · have h := h.1 c
        refine j_iconst (show decode cX12_partOf 77 = .ok (.iconst (-1), 1) by decide +kernel) ?_
        exact j_ret (rokI (show decode cX12_partOf 78 = .ok (.ireturn, 1) by decide +kernel) rfl) ⟨rfl, rfl, h⟩
      · have h := h.2 c
        refine j_bipush (n := 42) (by decide +kernel) (show decode cX12_partOf 72 = .ok (.bipush 42, 2) by decide +kernel) ?_
        refine j_goto (tgt := 78) (show decode cX12_partOf 74 = .ok (.goto 4, 3) by decide +kernel) (by decide) ?_
        exact j_ret (rokI (show decode cX12_partOf 78 = .ok (.ireturn, 1) by decide +kernel) rfl) ⟨rfl, rfl, h⟩
  · refine j_tableIn (tgt := 79) hr0 (show decode cX12_partOf 1 = .ok (.tableswitch 125 40 43 #[31, 46, 78, 103], 31) by decide +kernel) (by omega) (by omega) (by rw [c]; rfl) (by decide) ?_
    have h := h.2.2.2.1 c
    refine s_aload_n (i := 0) rfl (show decode cX12_partOf 79 = .ok (.aload_n 0, 1) by decide +kernel) ?_
    refine j_bipush (n := 101) (by decide +kernel) (show decode cX12_partOf 80 = .ok (.bipush 101, 2) by decide +kernel) ?_
    refine j_bipush (n := 108) (by decide +kernel) (show decode cX12_partOf 82 = .ok (.bipush 108, 2) by decide +kernel) ?_
    refine j_bipush (n := 115) (by decide +kernel) (show decode cX12_partOf 84 = .ok (.bipush 115, 2) by decide +kernel) ?_
    refine j_bipush (n := 101) (by decide +kernel) (show decode cX12_partOf 86 = .ok (.bipush 101, 2) by decide +kernel) ?_
    refine j_ctS (m' := mX12_w4) (As := [iv 101, iv 108, iv 115, iv 101]) (tag := 1) (cw_X12_143 rfl) (show decode cX12_partOf 88 = .ok (.invokestatic 143, 3) by decide +kernel) rfl (Nat.le_of_ble_eq_true rfl) (by decide) (Nat.le_refl _) h (fun r8 σ8 h => ?_)
    refine j_ctV (m' := mX12_isWord) (As := [jv r8]) (ci := 12) (tag := 0) (N := 0) (cw_X12_202 rfl) (show decode cX12_partOf 91 = .ok (.invokevirtual 202, 3) by decide +kernel) rfl (Nat.le_of_ble_eq_true rfl) (by decide) okl_321 rfl rfl (Nat.le_refl _) h (fun r9 σ9 h => ?_)
    have hr9 := h.1
    have h := h.2
    refine j_if_eq (tgt := 102) hr9 (show decode cX12_partOf 94 = .ok (.ifCond .eq 8, 3) by decide +kernel) (by decide) (fun c => ?_) (fun c => ?_)
    · have h := h.1 c
      refine j_iconst (show decode cX12_partOf 102 = .ok (.iconst (-1), 1) by decide +kernel) ?_
      exact j_ret (rokI (show decode cX12_partOf 103 = .ok (.ireturn, 1) by decide +kernel) rfl) ⟨rfl, rfl, h⟩
    · have h := h.2 c
      refine j_bipush (n := 43) (by decide +kernel) (show decode cX12_partOf 97 = .ok (.bipush 43, 2) by decide +kernel) ?_
      refine j_goto (tgt := 103) (show decode cX12_partOf 99 = .ok (.goto 4, 3) by decide +kernel) (by decide) ?_
      exact j_ret (rokI (show decode cX12_partOf 103 = .ok (.ireturn, 1) by decide +kernel) rfl) ⟨rfl, rfl, h⟩
  · refine j_tableIn (tgt := 104) hr0 (show decode cX12_partOf 1 = .ok (.tableswitch 125 40 43 #[31, 46, 78, 103], 31) by decide +kernel) (by omega) (by omega) (by rw [c]; rfl) (by decide) ?_
    have h := h.2.2.2.2 c
    refine s_aload_n (i := 0) rfl (show decode cX12_partOf 104 = .ok (.aload_n 0, 1) by decide +kernel) ?_
    refine j_bipush (n := 101) (by decide +kernel) (show decode cX12_partOf 105 = .ok (.bipush 101, 2) by decide +kernel) ?_
    refine j_bipush (n := 110) (by decide +kernel) (show decode cX12_partOf 107 = .ok (.bipush 110, 2) by decide +kernel) ?_
    refine j_bipush (n := 100) (by decide +kernel) (show decode cX12_partOf 109 = .ok (.bipush 100, 2) by decide +kernel) ?_
    refine j_ctS (m' := mX12_w3) (As := [iv 101, iv 110, iv 100]) (tag := 1) (cw_X12_139 rfl) (show decode cX12_partOf 111 = .ok (.invokestatic 139, 3) by decide +kernel) rfl (Nat.le_of_ble_eq_true rfl) (by decide) (Nat.le_refl _) h (fun r11 σ11 h => ?_)
    refine j_ctV (m' := mX12_isWord) (As := [jv r11]) (ci := 12) (tag := 0) (N := 0) (cw_X12_202 rfl) (show decode cX12_partOf 114 = .ok (.invokevirtual 202, 3) by decide +kernel) rfl (Nat.le_of_ble_eq_true rfl) (by decide) okl_321 rfl rfl (Nat.le_refl _) h (fun r12 σ12 h => ?_)
    have hr12 := h.1
    have h := h.2
    refine j_if_eq (tgt := 124) hr12 (show decode cX12_partOf 117 = .ok (.ifCond .eq 7, 3) by decide +kernel) (by decide) (fun c => ?_) (fun c => ?_)
    · have h := h.1 c
      refine j_iconst (show decode cX12_partOf 124 = .ok (.iconst (-1), 1) by decide +kernel) ?_
      exact j_ret (rokI (show decode cX12_partOf 125 = .ok (.ireturn, 1) by decide +kernel) rfl) ⟨rfl, rfl, h⟩
    · have h := h.2 c
      refine j_iconst (show decode cX12_partOf 120 = .ok (.iconst 0, 1) by decide +kernel) ?_
      refine j_goto (tgt := 125) (show decode cX12_partOf 121 = .ok (.goto 4, 3) by decide +kernel) (by decide) ?_
      exact j_ret (rokI (show decode cX12_partOf 125 = .ok (.ireturn, 1) by decide +kernel) rfl) ⟨rfl, rfl, h⟩
theorem c_X12_partOf {d : Nat} {t : Int} {Q : Int → jM → Prop} {σ : jM} {p1 : Int} (h : (inR p1) ∧ ((p1 < 40 ∨ 43 < p1 → (Q (-1) σ)) ∧ (p1 = 40 → ((inR (σ 321 9)) ∧ ((¬ (σ 321 9) = 41 → (Q (-1) σ)) ∧ ((σ 321 9) = 41 → (Q 0 σ))))) ∧ (p1 = 41 → (Ct mX12_w4 d 1 t [iv 116, iv 104, iv 101, iv 110] σ (fun r3 σ3 => (Ct mX12_isWord d 0 t [rv 321, jv r3] σ3 (fun r4 σ4 => ((inR r4) ∧ ((r4 = 0 → (Q (-1) σ4)) ∧ (¬ r4 = 0 → (Ct mX12_isCompared d 0 t [rv 321] σ4 (fun r6 σ6 => ((inR r6) ∧ ((r6 = 0 → (Q (-1) σ6)) ∧ (¬ r6 = 0 → (Q 42 σ6)))))))))))))) ∧ (p1 = 42 → (Ct mX12_w4 d 1 t [iv 101, iv 108, iv 115, iv 101] σ (fun r8 σ8 => (Ct mX12_isWord d 0 t [rv 321, jv r8] σ8 (fun r9 σ9 => ((inR r9) ∧ ((r9 = 0 → (Q (-1) σ9)) ∧ (¬ r9 = 0 → (Q 43 σ9))))))))) ∧ (p1 = 43 → (Ct mX12_w3 d 1 t [iv 101, iv 110, iv 100] σ (fun r11 σ11 => (Ct mX12_isWord d 0 t [rv 321, jv r11] σ11 (fun r12 σ12 => ((inR r12) ∧ ((r12 = 0 → (Q (-1) σ12)) ∧ (¬ r12 = 0 → (Q 0 σ12))))))))))) : Ct mX12_partOf (d + 1) 0 t [rv 321, iv p1] σ Q := Ct_of (by decide +kernel) (Nat.le_of_ble_eq_true rfl) (b_X12_partOf_0 h)
set_option maxRecDepth 4000 in
theorem b_X12_behindOne_0 {d : Nat} {t : Int} {Q : Int → jM → Prop} {σ : jM} (h : Ct mX12_betweenOf d 0 t [rv 321] σ (fun r1 σ1 => ((inR r1) ∧ ((r1 < 0 → (Ct mX12_openNow d 0 t [rv 321] σ1 (fun r3 σ3 => (Ct mX12_partOf d 0 t [rv 321, iv r3] σ3 (fun r4 σ4 => ((inR r4) ∧ ((0 ≤ r4 → (Ct mX12_settle d 9 t [rv 321, iv 1] σ4 (fun r6 σ6 => (Ct mX12_nextToken d 9 t [rv 321] σ6 (fun r7 σ7 => ((inR r4) ∧ ((r4 ≤ 0 → (∀ σ9 : jM, σ9 = up σ7 321 17 ((σ7 321 17) - 1) → (∀ σ10 : jM, σ10 = up σ9 321 16 ((σ9 321 16) - 1) → ((inR r3) ∧ ((¬ r3 = 43 → (Ct mX12_settle d 9 t [rv 321, iv 7] σ10 (fun r12 σ12 => (Q 1 σ12)))) ∧ (r3 = 43 → (Ct mX12_emit d 9 t [rv 321, iv 3, iv 0] σ10 (fun r13 σ13 => (Ct mX12_settle d 9 t [rv 321, iv 7] σ13 (fun r14 σ14 => (Q 1 σ14))))))))))) ∧ (0 < r4 → (Ct mX12_openAt d 0 t [rv 321] σ7 (fun r15 σ15 => (((0 : Int) ≤ r15 ∧ r15 < 160) ∧ (∀ σ17 : jM, σ17 = up σ15 326 r15 r4 → (∀ σ18 : jM, σ18 = up σ17 321 18 0 → (Q 1 σ18)))))))))))))) ∧ (r4 < 0 → (Q 0 σ4))))))))) ∧ (0 ≤ r1 → (Ct mX12_rank d 0 t [iv r1] σ1 (fun r19 σ19 => ((inR r19) ∧ ((¬ r19 = 4 → (Ct mX12_rank d 0 t [iv r1] σ19 (fun r21 σ21 => (Ct mX12_settle d 9 t [rv 321, iv r21] σ21 (fun r22 σ22 => (((0 : Int) ≤ (σ22 321 16) ∧ (σ22 321 16) < 160) ∧ (∀ σ24 : jM, σ24 = up σ22 326 (σ22 321 16) r1 → (∀ σ25 : jM, σ25 = up σ24 321 16 ((σ24 321 16) + 1) → (∀ σ26 : jM, σ26 = up σ25 321 18 0 → (Ct mX12_nextToken d 9 t [rv 321] σ26 (fun r27 σ27 => (Q 1 σ27)))))))))))) ∧ (r19 = 4 → (Ct mX12_settle d 9 t [rv 321, iv 5] σ19 (fun r28 σ28 => (((0 : Int) ≤ (σ28 321 16) ∧ (σ28 321 16) < 160) ∧ (∀ σ30 : jM, σ30 = up σ28 326 (σ28 321 16) r1 → (∀ σ31 : jM, σ31 = up σ30 321 16 ((σ30 321 16) + 1) → (∀ σ32 : jM, σ32 = up σ31 321 18 0 → (Ct mX12_nextToken d 9 t [rv 321] σ32 (fun r33 σ33 => (Q 1 σ33))))))))))))))))))) : Jt mX12_behindOne (d + 1) 0 t Q 0 [rv 321, uv, uv, uv] [] σ := by
  refine s_aload_n (i := 0) rfl (show decode cX12_behindOne 0 = .ok (.aload_n 0, 1) by decide +kernel) ?_
  refine j_ctV (m' := mX12_betweenOf) (As := []) (ci := 12) (tag := 0) (N := 0) (cw_X12_216 rfl) (show decode cX12_behindOne 1 = .ok (.invokevirtual 216, 3) by decide +kernel) rfl (Nat.le_of_ble_eq_true rfl) (by decide) okl_321 rfl rfl (Nat.le_refl _) h (fun r1 σ1 h => ?_)
  refine s_ist_n (i := 1) (L' := [rv 321, iv r1, uv, uv]) rfl (by decide) (show decode cX12_behindOne 4 = .ok (.istore_n 1, 1) by decide +kernel) ?_
  refine j_iload_n (i := 1) rfl (show decode cX12_behindOne 5 = .ok (.iload_n 1, 1) by decide +kernel) ?_
  have hr1 := h.1
  have h := h.2
  refine j_if_lt (tgt := 60) hr1 (show decode cX12_behindOne 6 = .ok (.ifCond .lt 54, 3) by decide +kernel) (by decide) (fun c => ?_) (fun c => ?_)
  · have h := h.1 c
    refine s_aload_n (i := 0) rfl (show decode cX12_behindOne 60 = .ok (.aload_n 0, 1) by decide +kernel) ?_
    refine j_ctV (m' := mX12_openNow) (As := []) (ci := 12) (tag := 0) (N := 0) (cw_X12_181 rfl) (show decode cX12_behindOne 61 = .ok (.invokevirtual 181, 3) by decide +kernel) rfl (Nat.le_of_ble_eq_true rfl) (by decide) okl_321 rfl rfl (Nat.le_refl _) h (fun r3 σ3 h => ?_)
    refine s_ist_n (i := 2) (L' := [rv 321, iv r1, iv r3, uv]) rfl (by decide) (show decode cX12_behindOne 64 = .ok (.istore_n 2, 1) by decide +kernel) ?_
    refine s_aload_n (i := 0) rfl (show decode cX12_behindOne 65 = .ok (.aload_n 0, 1) by decide +kernel) ?_
    refine j_iload_n (i := 2) rfl (show decode cX12_behindOne 66 = .ok (.iload_n 2, 1) by decide +kernel) ?_
    refine j_ctV (m' := mX12_partOf) (As := [iv r3]) (ci := 12) (tag := 0) (N := 0) (cw_X12_219 rfl) (show decode cX12_behindOne 67 = .ok (.invokevirtual 219, 3) by decide +kernel) rfl (Nat.le_of_ble_eq_true rfl) (by decide) okl_321 rfl rfl (Nat.le_refl _) h (fun r4 σ4 h => ?_)
    refine s_ist_n (i := 3) (L' := [rv 321, iv r1, iv r3, iv r4]) rfl (by decide) (show decode cX12_behindOne 70 = .ok (.istore_n 3, 1) by decide +kernel) ?_
    refine j_iload_n (i := 3) rfl (show decode cX12_behindOne 71 = .ok (.iload_n 3, 1) by decide +kernel) ?_
    have hr4 := h.1
    have h := h.2
    refine j_if_ge (tgt := 77) hr4 (show decode cX12_behindOne 72 = .ok (.ifCond .ge 5, 3) by decide +kernel) (by decide) (fun c => ?_) (fun c => ?_)
    · have h := h.1 c
      refine s_aload_n (i := 0) rfl (show decode cX12_behindOne 77 = .ok (.aload_n 0, 1) by decide +kernel) ?_
      refine j_iconst (show decode cX12_behindOne 78 = .ok (.iconst 1, 1) by decide +kernel) ?_
      refine j_ctVv (m' := mX12_settle) (As := [iv 1]) (ci := 12) (N := 0) (cw_X12_196 rfl) (show decode cX12_behindOne 79 = .ok (.invokevirtual 196, 3) by decide +kernel) rfl (Nat.le_of_ble_eq_true rfl) okl_321 rfl rfl (Nat.le_refl _) h (fun r6 σ6 h => ?_)
      refine s_aload_n (i := 0) rfl (show decode cX12_behindOne 82 = .ok (.aload_n 0, 1) by decide +kernel) ?_
      refine j_ctVv (m' := mX12_nextToken) (As := []) (ci := 12) (N := 0) (cw_X12_184 rfl) (show decode cX12_behindOne 83 = .ok (.invokevirtual 184, 3) by decide +kernel) rfl (Nat.le_of_ble_eq_true rfl) okl_321 rfl rfl (Nat.le_refl _) h (fun r7 σ7 h => ?_)
      refine j_iload_n (i := 3) rfl (show decode cX12_behindOne 86 = .ok (.iload_n 3, 1) by decide +kernel) ?_
      have hr7 := h.1
      have h := h.2
      refine j_if_le (tgt := 107) hr7 (show decode cX12_behindOne 87 = .ok (.ifCond .le 20, 3) by decide +kernel) (by decide) (fun c => ?_) (fun c => ?_)
      · have h := h.1 c
        refine s_aload_n (i := 0) rfl (show decode cX12_behindOne 107 = .ok (.aload_n 0, 1) by decide +kernel) ?_
        refine j_dup (show (2 : Nat) ≠ 1 by decide) (show decode cX12_behindOne 108 = .ok (.dup, 1) by decide +kernel) ?_
        refine gf_X12_174 rfl (show decode cX12_behindOne 109 = .ok (.getfield 174, 3) by decide +kernel) okl_321 ?_
        refine j_iconst (show decode cX12_behindOne 112 = .ok (.iconst 1, 1) by decide +kernel) ?_
        refine j_isub (show decode cX12_behindOne 113 = .ok (.isub, 1) by decide +kernel) ?_
        refine pf_X12_174 rfl (show decode cX12_behindOne 114 = .ok (.putfield 174, 3) by decide +kernel) okl_321 ?_
        obtain ⟨σ9, eσ9⟩ : ∃ z : jM, z = up σ7 321 17 ((σ7 321 17) - 1) := ⟨_, rfl⟩
        refine j_sig eσ9 ?_
        have h := h σ9 eσ9
        refine s_aload_n (i := 0) rfl (show decode cX12_behindOne 117 = .ok (.aload_n 0, 1) by decide +kernel) ?_
        refine j_dup (show (2 : Nat) ≠ 1 by decide) (show decode cX12_behindOne 118 = .ok (.dup, 1) by decide +kernel) ?_
        refine gf_X12_164 rfl (show decode cX12_behindOne 119 = .ok (.getfield 164, 3) by decide +kernel) okl_321 ?_
        refine j_iconst (show decode cX12_behindOne 122 = .ok (.iconst 1, 1) by decide +kernel) ?_
        refine j_isub (show decode cX12_behindOne 123 = .ok (.isub, 1) by decide +kernel) ?_
        refine pf_X12_164 rfl (show decode cX12_behindOne 124 = .ok (.putfield 164, 3) by decide +kernel) okl_321 ?_
        obtain ⟨σ10, eσ10⟩ : ∃ z : jM, z = up σ9 321 16 ((σ9 321 16) - 1) := ⟨_, rfl⟩
        refine j_sig eσ10 ?_
        have h := h σ10 eσ10
        refine j_iload_n (i := 2) rfl (show decode cX12_behindOne 127 = .ok (.iload_n 2, 1) by decide +kernel) ?_
        refine j_bipush (n := 43) (by decide +kernel) (show decode cX12_behindOne 128 = .ok (.bipush 43, 2) by decide +kernel) ?_
        have hr10 := h.1
        have h := h.2
        refine j_icmp_ne (tgt := 139) hr10 (inl (by decide)) (show decode cX12_behindOne 130 = .ok (.if_icmp .ne 9, 3) by decide +kernel) (by decide) (fun c => ?_) (fun c => ?_)
        · have h := h.1 c
          refine s_aload_n (i := 0) rfl (show decode cX12_behindOne 139 = .ok (.aload_n 0, 1) by decide +kernel) ?_
          refine j_bipush (n := 7) (by decide +kernel) (show decode cX12_behindOne 140 = .ok (.bipush 7, 2) by decide +kernel) ?_
          refine j_ctVv (m' := mX12_settle) (As := [iv 7]) (ci := 12) (N := 0) (cw_X12_196 rfl) (show decode cX12_behindOne 142 = .ok (.invokevirtual 196, 3) by decide +kernel) rfl (Nat.le_of_ble_eq_true rfl) okl_321 rfl rfl (Nat.le_refl _) h (fun r12 σ12 h => ?_)
          refine j_iconst (show decode cX12_behindOne 145 = .ok (.iconst 1, 1) by decide +kernel) ?_
          exact j_ret (rokZ (show decode cX12_behindOne 146 = .ok (.ireturn, 1) by decide +kernel) rfl (Or.inr rfl)) ⟨rfl, rfl, h⟩
        · have h := h.2 c
          refine s_aload_n (i := 0) rfl (show decode cX12_behindOne 133 = .ok (.aload_n 0, 1) by decide +kernel) ?_
          refine j_iconst (show decode cX12_behindOne 134 = .ok (.iconst 3, 1) by decide +kernel) ?_
          refine j_iconst (show decode cX12_behindOne 135 = .ok (.iconst 0, 1) by decide +kernel) ?_
          refine j_ctVv (m' := mX12_emit) (As := [iv 3, iv 0]) (ci := 12) (N := 0) (cw_X12_170 rfl) (show decode cX12_behindOne 136 = .ok (.invokevirtual 170, 3) by decide +kernel) rfl (Nat.le_of_ble_eq_true rfl) okl_321 rfl rfl (Nat.le_refl _) h (fun r13 σ13 h => ?_)
          refine s_aload_n (i := 0) rfl (show decode cX12_behindOne 139 = .ok (.aload_n 0, 1) by decide +kernel) ?_
          refine j_bipush (n := 7) (by decide +kernel) (show decode cX12_behindOne 140 = .ok (.bipush 7, 2) by decide +kernel) ?_
          refine j_ctVv (m' := mX12_settle) (As := [iv 7]) (ci := 12) (N := 0) (cw_X12_196 rfl) (show decode cX12_behindOne 142 = .ok (.invokevirtual 196, 3) by decide +kernel) rfl (Nat.le_of_ble_eq_true rfl) okl_321 rfl rfl (Nat.le_refl _) h (fun r14 σ14 h => ?_)
          refine j_iconst (show decode cX12_behindOne 145 = .ok (.iconst 1, 1) by decide +kernel) ?_
          exact j_ret (rokZ (show decode cX12_behindOne 146 = .ok (.ireturn, 1) by decide +kernel) rfl (Or.inr rfl)) ⟨rfl, rfl, h⟩
      · have h := h.2 c
        refine s_aload_n (i := 0) rfl (show decode cX12_behindOne 90 = .ok (.aload_n 0, 1) by decide +kernel) ?_
        refine gf_X12_29 (x := 326) rfl (show decode cX12_behindOne 91 = .ok (.getfield 29, 3) by decide +kernel) okl_321 rfl ?_
        refine s_aload_n (i := 0) rfl (show decode cX12_behindOne 94 = .ok (.aload_n 0, 1) by decide +kernel) ?_
        refine j_ctV (m' := mX12_openAt) (As := []) (ci := 12) (tag := 0) (N := 0) (cw_X12_177 rfl) (show decode cX12_behindOne 95 = .ok (.invokevirtual 177, 3) by decide +kernel) rfl (Nat.le_of_ble_eq_true rfl) (by decide) okl_321 rfl rfl (Nat.le_refl _) h (fun r15 σ15 h => ?_)
        refine j_iload_n (i := 3) rfl (show decode cX12_behindOne 98 = .ok (.iload_n 3, 1) by decide +kernel) ?_
        have hb15 := h.1
        have h := h.2
        refine s_iast (show decode cX12_behindOne 99 = .ok (.iastore, 1) by decide +kernel) okl_326 hb15 ?_
        obtain ⟨σ17, eσ17⟩ : ∃ z : jM, z = up σ15 326 r15 r4 := ⟨_, rfl⟩
        refine j_sig eσ17 ?_
        have h := h σ17 eσ17
        refine s_aload_n (i := 0) rfl (show decode cX12_behindOne 100 = .ok (.aload_n 0, 1) by decide +kernel) ?_
        refine j_iconst (show decode cX12_behindOne 101 = .ok (.iconst 0, 1) by decide +kernel) ?_
        refine pf_X12_193 rfl (by decide) (show decode cX12_behindOne 102 = .ok (.putfield 193, 3) by decide +kernel) okl_321 ?_
        obtain ⟨σ18, eσ18⟩ : ∃ z : jM, z = up σ17 321 18 0 := ⟨_, rfl⟩
        refine j_sig eσ18 ?_
        have h := h σ18 eσ18
        refine j_iconst (show decode cX12_behindOne 105 = .ok (.iconst 1, 1) by decide +kernel) ?_
        exact j_ret (rokZ (show decode cX12_behindOne 106 = .ok (.ireturn, 1) by decide +kernel) rfl (Or.inr rfl)) ⟨rfl, rfl, h⟩
    · have h := h.2 c
      refine j_iconst (show decode cX12_behindOne 75 = .ok (.iconst 0, 1) by decide +kernel) ?_
      exact j_ret (rokZ (show decode cX12_behindOne 76 = .ok (.ireturn, 1) by decide +kernel) rfl (Or.inl rfl)) ⟨rfl, rfl, h⟩
  · have h := h.2 c
    refine s_aload_n (i := 0) rfl (show decode cX12_behindOne 9 = .ok (.aload_n 0, 1) by decide +kernel) ?_
    refine j_iload_n (i := 1) rfl (show decode cX12_behindOne 10 = .ok (.iload_n 1, 1) by decide +kernel) ?_
    refine j_ctS (m' := mX12_rank) (As := [iv r1]) (tag := 0) (cw_X12_167 rfl) (show decode cX12_behindOne 11 = .ok (.invokestatic 167, 3) by decide +kernel) rfl (Nat.le_of_ble_eq_true rfl) (by decide) (Nat.le_refl _) h (fun r19 σ19 h => ?_)
    refine j_iconst (show decode cX12_behindOne 14 = .ok (.iconst 4, 1) by decide +kernel) ?_
    have hr19 := h.1
    have h := h.2
    refine j_icmp_ne (tgt := 22) hr19 (inl (by decide)) (show decode cX12_behindOne 15 = .ok (.if_icmp .ne 7, 3) by decide +kernel) (by decide) (fun c => ?_) (fun c => ?_)
    · have h := h.1 c
      refine j_iload_n (i := 1) rfl (show decode cX12_behindOne 22 = .ok (.iload_n 1, 1) by decide +kernel) ?_
      refine j_ctS (m' := mX12_rank) (As := [iv r1]) (tag := 0) (cw_X12_167 rfl) (show decode cX12_behindOne 23 = .ok (.invokestatic 167, 3) by decide +kernel) rfl (Nat.le_of_ble_eq_true rfl) (by decide) (Nat.le_refl _) h (fun r21 σ21 h => ?_)
      refine j_ctVv (m' := mX12_settle) (As := [iv r21]) (ci := 12) (N := 0) (cw_X12_196 rfl) (show decode cX12_behindOne 26 = .ok (.invokevirtual 196, 3) by decide +kernel) rfl (Nat.le_of_ble_eq_true rfl) okl_321 rfl rfl (Nat.le_refl _) h (fun r22 σ22 h => ?_)
      refine s_aload_n (i := 0) rfl (show decode cX12_behindOne 29 = .ok (.aload_n 0, 1) by decide +kernel) ?_
      refine gf_X12_29 (x := 326) rfl (show decode cX12_behindOne 30 = .ok (.getfield 29, 3) by decide +kernel) okl_321 rfl ?_
      refine s_aload_n (i := 0) rfl (show decode cX12_behindOne 33 = .ok (.aload_n 0, 1) by decide +kernel) ?_
      refine gf_X12_164 rfl (show decode cX12_behindOne 34 = .ok (.getfield 164, 3) by decide +kernel) okl_321 ?_
      refine j_iload_n (i := 1) rfl (show decode cX12_behindOne 37 = .ok (.iload_n 1, 1) by decide +kernel) ?_
      have hb22 := h.1
      have h := h.2
      refine s_iast (show decode cX12_behindOne 38 = .ok (.iastore, 1) by decide +kernel) okl_326 hb22 ?_
      obtain ⟨σ24, eσ24⟩ : ∃ z : jM, z = up σ22 326 (σ22 321 16) r1 := ⟨_, rfl⟩
      refine j_sig eσ24 ?_
      have h := h σ24 eσ24
      refine s_aload_n (i := 0) rfl (show decode cX12_behindOne 39 = .ok (.aload_n 0, 1) by decide +kernel) ?_
      refine j_dup (show (2 : Nat) ≠ 1 by decide) (show decode cX12_behindOne 40 = .ok (.dup, 1) by decide +kernel) ?_
      refine gf_X12_164 rfl (show decode cX12_behindOne 41 = .ok (.getfield 164, 3) by decide +kernel) okl_321 ?_
      refine j_iconst (show decode cX12_behindOne 44 = .ok (.iconst 1, 1) by decide +kernel) ?_
      refine j_iadd (show decode cX12_behindOne 45 = .ok (.iadd, 1) by decide +kernel) ?_
      refine pf_X12_164 rfl (show decode cX12_behindOne 46 = .ok (.putfield 164, 3) by decide +kernel) okl_321 ?_
      obtain ⟨σ25, eσ25⟩ : ∃ z : jM, z = up σ24 321 16 ((σ24 321 16) + 1) := ⟨_, rfl⟩
      refine j_sig eσ25 ?_
      have h := h σ25 eσ25
      refine s_aload_n (i := 0) rfl (show decode cX12_behindOne 49 = .ok (.aload_n 0, 1) by decide +kernel) ?_
      refine j_iconst (show decode cX12_behindOne 50 = .ok (.iconst 0, 1) by decide +kernel) ?_
      refine pf_X12_193 rfl (by decide) (show decode cX12_behindOne 51 = .ok (.putfield 193, 3) by decide +kernel) okl_321 ?_
      obtain ⟨σ26, eσ26⟩ : ∃ z : jM, z = up σ25 321 18 0 := ⟨_, rfl⟩
      refine j_sig eσ26 ?_
      have h := h σ26 eσ26
      refine s_aload_n (i := 0) rfl (show decode cX12_behindOne 54 = .ok (.aload_n 0, 1) by decide +kernel) ?_
      refine j_ctVv (m' := mX12_nextToken) (As := []) (ci := 12) (N := 0) (cw_X12_184 rfl) (show decode cX12_behindOne 55 = .ok (.invokevirtual 184, 3) by decide +kernel) rfl (Nat.le_of_ble_eq_true rfl) okl_321 rfl rfl (Nat.le_refl _) h (fun r27 σ27 h => ?_)
      refine j_iconst (show decode cX12_behindOne 58 = .ok (.iconst 1, 1) by decide +kernel) ?_
      exact j_ret (rokZ (show decode cX12_behindOne 59 = .ok (.ireturn, 1) by decide +kernel) rfl (Or.inr rfl)) ⟨rfl, rfl, h⟩
    · have h := h.2 c
      refine j_iconst (show decode cX12_behindOne 18 = .ok (.iconst 5, 1) by decide +kernel) ?_
      refine j_goto (tgt := 26) (show decode cX12_behindOne 19 = .ok (.goto 7, 3) by decide +kernel) (by decide) ?_
      refine j_ctVv (m' := mX12_settle) (As := [iv 5]) (ci := 12) (N := 0) (cw_X12_196 rfl) (show decode cX12_behindOne 26 = .ok (.invokevirtual 196, 3) by decide +kernel) rfl (Nat.le_of_ble_eq_true rfl) okl_321 rfl rfl (Nat.le_refl _) h (fun r28 σ28 h => ?_)
      refine s_aload_n (i := 0) rfl (show decode cX12_behindOne 29 = .ok (.aload_n 0, 1) by decide +kernel) ?_
      refine gf_X12_29 (x := 326) rfl (show decode cX12_behindOne 30 = .ok (.getfield 29, 3) by decide +kernel) okl_321 rfl ?_
      refine s_aload_n (i := 0) rfl (show decode cX12_behindOne 33 = .ok (.aload_n 0, 1) by decide +kernel) ?_
      refine gf_X12_164 rfl (show decode cX12_behindOne 34 = .ok (.getfield 164, 3) by decide +kernel) okl_321 ?_
      refine j_iload_n (i := 1) rfl (show decode cX12_behindOne 37 = .ok (.iload_n 1, 1) by decide +kernel) ?_
      have hb28 := h.1
      have h := h.2
      refine s_iast (show decode cX12_behindOne 38 = .ok (.iastore, 1) by decide +kernel) okl_326 hb28 ?_
      obtain ⟨σ30, eσ30⟩ : ∃ z : jM, z = up σ28 326 (σ28 321 16) r1 := ⟨_, rfl⟩
      refine j_sig eσ30 ?_
      have h := h σ30 eσ30
      refine s_aload_n (i := 0) rfl (show decode cX12_behindOne 39 = .ok (.aload_n 0, 1) by decide +kernel) ?_
      refine j_dup (show (2 : Nat) ≠ 1 by decide) (show decode cX12_behindOne 40 = .ok (.dup, 1) by decide +kernel) ?_
      refine gf_X12_164 rfl (show decode cX12_behindOne 41 = .ok (.getfield 164, 3) by decide +kernel) okl_321 ?_
      refine j_iconst (show decode cX12_behindOne 44 = .ok (.iconst 1, 1) by decide +kernel) ?_
      refine j_iadd (show decode cX12_behindOne 45 = .ok (.iadd, 1) by decide +kernel) ?_
      refine pf_X12_164 rfl (show decode cX12_behindOne 46 = .ok (.putfield 164, 3) by decide +kernel) okl_321 ?_
      obtain ⟨σ31, eσ31⟩ : ∃ z : jM, z = up σ30 321 16 ((σ30 321 16) + 1) := ⟨_, rfl⟩
      refine j_sig eσ31 ?_
      have h := h σ31 eσ31
      refine s_aload_n (i := 0) rfl (show decode cX12_behindOne 49 = .ok (.aload_n 0, 1) by decide +kernel) ?_
      refine j_iconst (show decode cX12_behindOne 50 = .ok (.iconst 0, 1) by decide +kernel) ?_
      refine pf_X12_193 rfl (by decide) (show decode cX12_behindOne 51 = .ok (.putfield 193, 3) by decide +kernel) okl_321 ?_
      obtain ⟨σ32, eσ32⟩ : ∃ z : jM, z = up σ31 321 18 0 := ⟨_, rfl⟩
      refine j_sig eσ32 ?_
      have h := h σ32 eσ32
      refine s_aload_n (i := 0) rfl (show decode cX12_behindOne 54 = .ok (.aload_n 0, 1) by decide +kernel) ?_
      refine j_ctVv (m' := mX12_nextToken) (As := []) (ci := 12) (N := 0) (cw_X12_184 rfl) (show decode cX12_behindOne 55 = .ok (.invokevirtual 184, 3) by decide +kernel) rfl (Nat.le_of_ble_eq_true rfl) okl_321 rfl rfl (Nat.le_refl _) h (fun r33 σ33 h => ?_)
      refine j_iconst (show decode cX12_behindOne 58 = .ok (.iconst 1, 1) by decide +kernel) ?_
      exact j_ret (rokZ (show decode cX12_behindOne 59 = .ok (.ireturn, 1) by decide +kernel) rfl (Or.inr rfl)) ⟨rfl, rfl, h⟩
theorem c_X12_behindOne {d : Nat} {t : Int} {Q : Int → jM → Prop} {σ : jM} (h : Ct mX12_betweenOf d 0 t [rv 321] σ (fun r1 σ1 => ((inR r1) ∧ ((r1 < 0 → (Ct mX12_openNow d 0 t [rv 321] σ1 (fun r3 σ3 => (Ct mX12_partOf d 0 t [rv 321, iv r3] σ3 (fun r4 σ4 => ((inR r4) ∧ ((0 ≤ r4 → (Ct mX12_settle d 9 t [rv 321, iv 1] σ4 (fun r6 σ6 => (Ct mX12_nextToken d 9 t [rv 321] σ6 (fun r7 σ7 => ((inR r4) ∧ ((r4 ≤ 0 → (∀ σ9 : jM, σ9 = up σ7 321 17 ((σ7 321 17) - 1) → (∀ σ10 : jM, σ10 = up σ9 321 16 ((σ9 321 16) - 1) → ((inR r3) ∧ ((¬ r3 = 43 → (Ct mX12_settle d 9 t [rv 321, iv 7] σ10 (fun r12 σ12 => (Q 1 σ12)))) ∧ (r3 = 43 → (Ct mX12_emit d 9 t [rv 321, iv 3, iv 0] σ10 (fun r13 σ13 => (Ct mX12_settle d 9 t [rv 321, iv 7] σ13 (fun r14 σ14 => (Q 1 σ14))))))))))) ∧ (0 < r4 → (Ct mX12_openAt d 0 t [rv 321] σ7 (fun r15 σ15 => (((0 : Int) ≤ r15 ∧ r15 < 160) ∧ (∀ σ17 : jM, σ17 = up σ15 326 r15 r4 → (∀ σ18 : jM, σ18 = up σ17 321 18 0 → (Q 1 σ18)))))))))))))) ∧ (r4 < 0 → (Q 0 σ4))))))))) ∧ (0 ≤ r1 → (Ct mX12_rank d 0 t [iv r1] σ1 (fun r19 σ19 => ((inR r19) ∧ ((¬ r19 = 4 → (Ct mX12_rank d 0 t [iv r1] σ19 (fun r21 σ21 => (Ct mX12_settle d 9 t [rv 321, iv r21] σ21 (fun r22 σ22 => (((0 : Int) ≤ (σ22 321 16) ∧ (σ22 321 16) < 160) ∧ (∀ σ24 : jM, σ24 = up σ22 326 (σ22 321 16) r1 → (∀ σ25 : jM, σ25 = up σ24 321 16 ((σ24 321 16) + 1) → (∀ σ26 : jM, σ26 = up σ25 321 18 0 → (Ct mX12_nextToken d 9 t [rv 321] σ26 (fun r27 σ27 => (Q 1 σ27)))))))))))) ∧ (r19 = 4 → (Ct mX12_settle d 9 t [rv 321, iv 5] σ19 (fun r28 σ28 => (((0 : Int) ≤ (σ28 321 16) ∧ (σ28 321 16) < 160) ∧ (∀ σ30 : jM, σ30 = up σ28 326 (σ28 321 16) r1 → (∀ σ31 : jM, σ31 = up σ30 321 16 ((σ30 321 16) + 1) → (∀ σ32 : jM, σ32 = up σ31 321 18 0 → (Ct mX12_nextToken d 9 t [rv 321] σ32 (fun r33 σ33 => (Q 1 σ33))))))))))))))))))) : Ct mX12_behindOne (d + 1) 0 t [rv 321] σ Q := Ct_of (by decide +kernel) (Nat.le_of_ble_eq_true rfl) (b_X12_behindOne_0 h)
set_option maxRecDepth 4000 in
theorem b_X12_summed_15 {d : Nat} {t : Int} {Q : Int → jM → Prop} {σ : jM} (h : (inR (σ 321 18)) ∧ (((σ 321 18) = 0 → (Ct mX12_beginOne d 0 t [rv 321] σ (fun r2 σ2 => ((inR r2) ∧ ((r2 = 0 → (Jt mX12_summed (d + 1) 0 t Q 15 [rv 321, uv] [] σ2)) ∧ (¬ r2 = 0 → (Q r2 σ2))))))) ∧ (¬ (σ 321 18) = 0 → (Ct mX12_behindOne d 0 t [rv 321] σ (fun r4 σ4 => ((inR r4) ∧ ((r4 = 0 → (Ct mX12_openNow d 0 t [rv 321] σ4 (fun r6 σ6 => ((inR r6) ∧ ((r6 < 0 → (Ct mX12_settle d 9 t [rv 321, iv 1] σ6 (fun r8 σ8 => (Q 0 σ8)))) ∧ (0 ≤ r6 → (Q 1 σ6))))))) ∧ (¬ r4 = 0 → (Jt mX12_summed (d + 1) 0 t Q 15 [rv 321, uv] [] σ4))))))))) : Jt mX12_summed (d + 1) 0 t Q 15 [rv 321, uv] [] σ := by
  refine s_aload_n (i := 0) rfl (show decode cX12_summed 15 = .ok (.aload_n 0, 1) by decide +kernel) ?_
  refine gf_X12_193 rfl (show decode cX12_summed 16 = .ok (.getfield 193, 3) by decide +kernel) okl_321 ?_
  have hr0 := h.1
  have h := h.2
  refine j_if_eq (tgt := 48) hr0 (show decode cX12_summed 19 = .ok (.ifCond .eq 29, 3) by decide +kernel) (by decide) (fun c => ?_) (fun c => ?_)
  · have h := h.1 c
    refine s_aload_n (i := 0) rfl (show decode cX12_summed 48 = .ok (.aload_n 0, 1) by decide +kernel) ?_
    refine j_ctV (m' := mX12_beginOne) (As := []) (ci := 12) (tag := 0) (N := 0) (cw_X12_225 rfl) (show decode cX12_summed 49 = .ok (.invokevirtual 225, 3) by decide +kernel) rfl (Nat.le_of_ble_eq_true rfl) (by decide) okl_321 rfl rfl (Nat.le_refl _) h (fun r2 σ2 h => ?_)
    refine s_ist_n (i := 1) (L' := [rv 321, iv r2]) rfl (by decide) (show decode cX12_summed 52 = .ok (.istore_n 1, 1) by decide +kernel) ?_
    refine j_iload_n (i := 1) rfl (show decode cX12_summed 53 = .ok (.iload_n 1, 1) by decide +kernel) ?_
    have hr2 := h.1
    have h := h.2
    refine j_if_eq (tgt := 59) hr2 (show decode cX12_summed 54 = .ok (.ifCond .eq 5, 3) by decide +kernel) (by decide) (fun c => ?_) (fun c => ?_)
    · have h := h.1 c
      refine j_goto (tgt := 15) (show decode cX12_summed 59 = .ok (.goto (-44), 3) by decide +kernel) (by decide) ?_
      refine j_drop 1 ?_
      exact h
    · have h := h.2 c
      refine j_iload_n (i := 1) rfl (show decode cX12_summed 57 = .ok (.iload_n 1, 1) by decide +kernel) ?_
      exact j_ret (rokI (show decode cX12_summed 58 = .ok (.ireturn, 1) by decide +kernel) rfl) ⟨rfl, rfl, h⟩
  · have h := h.2 c
    refine s_aload_n (i := 0) rfl (show decode cX12_summed 22 = .ok (.aload_n 0, 1) by decide +kernel) ?_
    refine j_ctV (m' := mX12_behindOne) (As := []) (ci := 12) (tag := 0) (N := 0) (cw_X12_222 rfl) (show decode cX12_summed 23 = .ok (.invokevirtual 222, 3) by decide +kernel) rfl (Nat.le_of_ble_eq_true rfl) (by decide) okl_321 rfl rfl (Nat.le_refl _) h (fun r4 σ4 h => ?_)
    have hr4 := h.1
    have h := h.2
    refine j_if_eq (tgt := 32) hr4 (show decode cX12_summed 26 = .ok (.ifCond .eq 6, 3) by decide +kernel) (by decide) (fun c => ?_) (fun c => ?_)
    · have h := h.1 c
      refine s_aload_n (i := 0) rfl (show decode cX12_summed 32 = .ok (.aload_n 0, 1) by decide +kernel) ?_
      refine j_ctV (m' := mX12_openNow) (As := []) (ci := 12) (tag := 0) (N := 0) (cw_X12_181 rfl) (show decode cX12_summed 33 = .ok (.invokevirtual 181, 3) by decide +kernel) rfl (Nat.le_of_ble_eq_true rfl) (by decide) okl_321 rfl rfl (Nat.le_refl _) h (fun r6 σ6 h => ?_)
      have hr6 := h.1
      have h := h.2
      refine j_if_lt (tgt := 41) hr6 (show decode cX12_summed 36 = .ok (.ifCond .lt 5, 3) by decide +kernel) (by decide) (fun c => ?_) (fun c => ?_)
      · have h := h.1 c
        refine s_aload_n (i := 0) rfl (show decode cX12_summed 41 = .ok (.aload_n 0, 1) by decide +kernel) ?_
        refine j_iconst (show decode cX12_summed 42 = .ok (.iconst 1, 1) by decide +kernel) ?_
        refine j_ctVv (m' := mX12_settle) (As := [iv 1]) (ci := 12) (N := 0) (cw_X12_196 rfl) (show decode cX12_summed 43 = .ok (.invokevirtual 196, 3) by decide +kernel) rfl (Nat.le_of_ble_eq_true rfl) okl_321 rfl rfl (Nat.le_refl _) h (fun r8 σ8 h => ?_)
        refine j_iconst (show decode cX12_summed 46 = .ok (.iconst 0, 1) by decide +kernel) ?_
        exact j_ret (rokI (show decode cX12_summed 47 = .ok (.ireturn, 1) by decide +kernel) rfl) ⟨rfl, rfl, h⟩
      · have h := h.2 c
        refine j_iconst (show decode cX12_summed 39 = .ok (.iconst 1, 1) by decide +kernel) ?_
        exact j_ret (rokI (show decode cX12_summed 40 = .ok (.ireturn, 1) by decide +kernel) rfl) ⟨rfl, rfl, h⟩
    · have h := h.2 c
      refine j_goto (tgt := 15) (show decode cX12_summed 29 = .ok (.goto (-14), 3) by decide +kernel) (by decide) ?_
      exact h
set_option maxRecDepth 4000 in
theorem b_X12_summed_0 {d : Nat} {t : Int} {Q : Int → jM → Prop} {σ : jM} (h : ∀ σ1 : jM, σ1 = up σ 321 16 0 → (∀ σ2 : jM, σ2 = up σ1 321 17 0 → (∀ σ3 : jM, σ3 = up σ2 321 18 0 → (Jt mX12_summed (d + 1) 0 t Q 15 [rv 321, uv] [] σ3)))) : Jt mX12_summed (d + 1) 0 t Q 0 [rv 321, uv] [] σ := by
  refine s_aload_n (i := 0) rfl (show decode cX12_summed 0 = .ok (.aload_n 0, 1) by decide +kernel) ?_
  refine j_iconst (show decode cX12_summed 1 = .ok (.iconst 0, 1) by decide +kernel) ?_
  refine pf_X12_164 rfl (show decode cX12_summed 2 = .ok (.putfield 164, 3) by decide +kernel) okl_321 ?_
  obtain ⟨σ1, eσ1⟩ : ∃ z : jM, z = up σ 321 16 0 := ⟨_, rfl⟩
  refine j_sig eσ1 ?_
  have h := h σ1 eσ1
  refine s_aload_n (i := 0) rfl (show decode cX12_summed 5 = .ok (.aload_n 0, 1) by decide +kernel) ?_
  refine j_iconst (show decode cX12_summed 6 = .ok (.iconst 0, 1) by decide +kernel) ?_
  refine pf_X12_174 rfl (show decode cX12_summed 7 = .ok (.putfield 174, 3) by decide +kernel) okl_321 ?_
  obtain ⟨σ2, eσ2⟩ : ∃ z : jM, z = up σ1 321 17 0 := ⟨_, rfl⟩
  refine j_sig eσ2 ?_
  have h := h σ2 eσ2
  refine s_aload_n (i := 0) rfl (show decode cX12_summed 10 = .ok (.aload_n 0, 1) by decide +kernel) ?_
  refine j_iconst (show decode cX12_summed 11 = .ok (.iconst 0, 1) by decide +kernel) ?_
  refine pf_X12_193 rfl (by decide) (show decode cX12_summed 12 = .ok (.putfield 193, 3) by decide +kernel) okl_321 ?_
  obtain ⟨σ3, eσ3⟩ : ∃ z : jM, z = up σ2 321 18 0 := ⟨_, rfl⟩
  refine j_sig eσ3 ?_
  have h := h σ3 eσ3
  exact h
theorem c_X12_summed {d : Nat} {t : Int} {Q : Int → jM → Prop} {σ : jM} (h : ∀ σ1 : jM, σ1 = up σ 321 16 0 → (∀ σ2 : jM, σ2 = up σ1 321 17 0 → (∀ σ3 : jM, σ3 = up σ2 321 18 0 → (Jt mX12_summed (d + 1) 0 t Q 15 [rv 321, uv] [] σ3)))) : Ct mX12_summed (d + 1) 0 t [rv 321] σ Q := Ct_of (by decide +kernel) (Nat.le_of_ble_eq_true rfl) (b_X12_summed_0 h)
set_option maxRecDepth 4000 in
theorem b_X12_figure_0 {d : Nat} {t : Int} {Q : Int → jM → Prop} {σ : jM} {p1 p2 p3 : Int} (h : (inR (σ 321 9)) ∧ (((σ 321 9) = 1 → (Ct mX12_isIn d 0 t [iv (σ 321 10), iv p2, iv p3] σ (fun r2 σ2 => ((inR r2) ∧ ((¬ r2 = 0 → (((0 : Int) ≤ p1 ∧ p1 < 2724) ∧ (∀ σ5 : jM, σ5 = up σ2 324 p1 (σ2 321 10) → (Ct mX12_nextToken d 9 t [rv 321] σ5 (fun r6 σ6 => (Q 0 σ6)))))) ∧ (r2 = 0 → (Q 2 σ2))))))) ∧ (¬ (σ 321 9) = 1 → (Q 1 σ)))) : Jt mX12_figure (d + 1) 0 t Q 0 [rv 321, iv p1, iv p2, iv p3] [] σ := by
  refine s_aload_n (i := 0) rfl (show decode cX12_figure 0 = .ok (.aload_n 0, 1) by decide +kernel) ?_
  refine gf_X12_113 rfl (show decode cX12_figure 1 = .ok (.getfield 113, 3) by decide +kernel) okl_321 ?_
  refine j_iconst (show decode cX12_figure 4 = .ok (.iconst 1, 1) by decide +kernel) ?_
  have hr0 := h.1
  have h := h.2
  refine j_icmp_eq (tgt := 10) hr0 (inl (by decide)) (show decode cX12_figure 5 = .ok (.if_icmp .eq 5, 3) by decide +kernel) (by decide) (fun c => ?_) (fun c => ?_)
  · have h := h.1 c
    refine s_aload_n (i := 0) rfl (show decode cX12_figure 10 = .ok (.aload_n 0, 1) by decide +kernel) ?_
    refine gf_X12_119 rfl (show decode cX12_figure 11 = .ok (.getfield 119, 3) by decide +kernel) okl_321 ?_
    refine j_iload_n (i := 2) rfl (show decode cX12_figure 14 = .ok (.iload_n 2, 1) by decide +kernel) ?_
    refine j_iload_n (i := 3) rfl (show decode cX12_figure 15 = .ok (.iload_n 3, 1) by decide +kernel) ?_
    refine j_ctS (m' := mX12_isIn) (As := [iv (σ 321 10), iv p2, iv p3]) (tag := 0) (cw_X12_85 rfl) (show decode cX12_figure 16 = .ok (.invokestatic 85, 3) by decide +kernel) rfl (Nat.le_of_ble_eq_true rfl) (by decide) (Nat.le_refl _) h (fun r2 σ2 h => ?_)
    have hr2 := h.1
    have h := h.2
    refine j_if_ne (tgt := 24) hr2 (show decode cX12_figure 19 = .ok (.ifCond .ne 5, 3) by decide +kernel) (by decide) (fun c => ?_) (fun c => ?_)
    · have h := h.1 c
      refine s_aload_n (i := 0) rfl (show decode cX12_figure 24 = .ok (.aload_n 0, 1) by decide +kernel) ?_
      refine gf_X12_16 (x := 324) rfl (show decode cX12_figure 25 = .ok (.getfield 16, 3) by decide +kernel) okl_321 rfl ?_
      refine j_iload_n (i := 1) rfl (show decode cX12_figure 28 = .ok (.iload_n 1, 1) by decide +kernel) ?_
      refine s_aload_n (i := 0) rfl (show decode cX12_figure 29 = .ok (.aload_n 0, 1) by decide +kernel) ?_
      refine gf_X12_119 rfl (show decode cX12_figure 30 = .ok (.getfield 119, 3) by decide +kernel) okl_321 ?_
      have hb3 := h.1
      have h := h.2
      refine s_iast (show decode cX12_figure 33 = .ok (.iastore, 1) by decide +kernel) okl_324 hb3 ?_
      obtain ⟨σ5, eσ5⟩ : ∃ z : jM, z = up σ2 324 p1 (σ2 321 10) := ⟨_, rfl⟩
      refine j_sig eσ5 ?_
      have h := h σ5 eσ5
      refine s_aload_n (i := 0) rfl (show decode cX12_figure 34 = .ok (.aload_n 0, 1) by decide +kernel) ?_
      refine j_ctVv (m' := mX12_nextToken) (As := []) (ci := 12) (N := 0) (cw_X12_184 rfl) (show decode cX12_figure 35 = .ok (.invokevirtual 184, 3) by decide +kernel) rfl (Nat.le_of_ble_eq_true rfl) okl_321 rfl rfl (Nat.le_refl _) h (fun r6 σ6 h => ?_)
      refine j_iconst (show decode cX12_figure 38 = .ok (.iconst 0, 1) by decide +kernel) ?_
      exact j_ret (rokI (show decode cX12_figure 39 = .ok (.ireturn, 1) by decide +kernel) rfl) ⟨rfl, rfl, h⟩
    · have h := h.2 c
      refine j_iconst (show decode cX12_figure 22 = .ok (.iconst 2, 1) by decide +kernel) ?_
      exact j_ret (rokI (show decode cX12_figure 23 = .ok (.ireturn, 1) by decide +kernel) rfl) ⟨rfl, rfl, h⟩
  · have h := h.2 c
    refine j_iconst (show decode cX12_figure 8 = .ok (.iconst 1, 1) by decide +kernel) ?_
    exact j_ret (rokI (show decode cX12_figure 9 = .ok (.ireturn, 1) by decide +kernel) rfl) ⟨rfl, rfl, h⟩
theorem c_X12_figure {d : Nat} {t : Int} {Q : Int → jM → Prop} {σ : jM} {p1 p2 p3 : Int} (h : (inR (σ 321 9)) ∧ (((σ 321 9) = 1 → (Ct mX12_isIn d 0 t [iv (σ 321 10), iv p2, iv p3] σ (fun r2 σ2 => ((inR r2) ∧ ((¬ r2 = 0 → (((0 : Int) ≤ p1 ∧ p1 < 2724) ∧ (∀ σ5 : jM, σ5 = up σ2 324 p1 (σ2 321 10) → (Ct mX12_nextToken d 9 t [rv 321] σ5 (fun r6 σ6 => (Q 0 σ6)))))) ∧ (r2 = 0 → (Q 2 σ2))))))) ∧ (¬ (σ 321 9) = 1 → (Q 1 σ)))) : Ct mX12_figure (d + 1) 0 t [rv 321, iv p1, iv p2, iv p3] σ Q := Ct_of (by decide +kernel) (Nat.le_of_ble_eq_true rfl) (b_X12_figure_0 h)
set_option maxRecDepth 4000 in
theorem b_X12_lawClause_0 {d : Nat} {t : Int} {Q : Int → jM → Prop} {σ : jM} {p1 : Int} (h : ((0 : Int) ≤ (p1 + 1) ∧ (p1 + 1) < 2724) ∧ (∀ σ2 : jM, σ2 = up σ 324 (p1 + 1) (σ 321 13) → (Ct mX12_summed d 0 t [rv 321] σ2 (fun r3 σ3 => (((0 : Int) ≤ (p1 + 2) ∧ (p1 + 2) < 2724) ∧ (∀ σ5 : jM, σ5 = up σ3 324 (p1 + 2) (σ3 321 13) → (Q r3 σ5))))))) : Jt mX12_lawClause (d + 1) 0 t Q 0 [rv 321, iv p1, uv] [] σ := by
  refine s_aload_n (i := 0) rfl (show decode cX12_lawClause 0 = .ok (.aload_n 0, 1) by decide +kernel) ?_
  refine gf_X12_16 (x := 324) rfl (show decode cX12_lawClause 1 = .ok (.getfield 16, 3) by decide +kernel) okl_321 rfl ?_
  refine j_iload_n (i := 1) rfl (show decode cX12_lawClause 4 = .ok (.iload_n 1, 1) by decide +kernel) ?_
  refine j_iconst (show decode cX12_lawClause 5 = .ok (.iconst 1, 1) by decide +kernel) ?_
  refine j_iadd (show decode cX12_lawClause 6 = .ok (.iadd, 1) by decide +kernel) ?_
  refine s_aload_n (i := 0) rfl (show decode cX12_lawClause 7 = .ok (.aload_n 0, 1) by decide +kernel) ?_
  refine gf_X12_154 rfl (show decode cX12_lawClause 8 = .ok (.getfield 154, 3) by decide +kernel) okl_321 ?_
  have hb0 := h.1
  have h := h.2
  refine s_iast (show decode cX12_lawClause 11 = .ok (.iastore, 1) by decide +kernel) okl_324 hb0 ?_
  obtain ⟨σ2, eσ2⟩ : ∃ z : jM, z = up σ 324 (p1 + 1) (σ 321 13) := ⟨_, rfl⟩
  refine j_sig eσ2 ?_
  have h := h σ2 eσ2
  refine s_aload_n (i := 0) rfl (show decode cX12_lawClause 12 = .ok (.aload_n 0, 1) by decide +kernel) ?_
  refine j_ctV (m' := mX12_summed) (As := []) (ci := 12) (tag := 0) (N := 0) (cw_X12_228 rfl) (show decode cX12_lawClause 13 = .ok (.invokevirtual 228, 3) by decide +kernel) rfl (Nat.le_of_ble_eq_true rfl) (by decide) okl_321 rfl rfl (Nat.le_refl _) h (fun r3 σ3 h => ?_)
  refine s_ist_n (i := 2) (L' := [rv 321, iv p1, iv r3]) rfl (by decide) (show decode cX12_lawClause 16 = .ok (.istore_n 2, 1) by decide +kernel) ?_
  refine s_aload_n (i := 0) rfl (show decode cX12_lawClause 17 = .ok (.aload_n 0, 1) by decide +kernel) ?_
  refine gf_X12_16 (x := 324) rfl (show decode cX12_lawClause 18 = .ok (.getfield 16, 3) by decide +kernel) okl_321 rfl ?_
  refine j_iload_n (i := 1) rfl (show decode cX12_lawClause 21 = .ok (.iload_n 1, 1) by decide +kernel) ?_
  refine j_iconst (show decode cX12_lawClause 22 = .ok (.iconst 2, 1) by decide +kernel) ?_
  refine j_iadd (show decode cX12_lawClause 23 = .ok (.iadd, 1) by decide +kernel) ?_
  refine s_aload_n (i := 0) rfl (show decode cX12_lawClause 24 = .ok (.aload_n 0, 1) by decide +kernel) ?_
  refine gf_X12_154 rfl (show decode cX12_lawClause 25 = .ok (.getfield 154, 3) by decide +kernel) okl_321 ?_
  have hb3 := h.1
  have h := h.2
  refine s_iast (show decode cX12_lawClause 28 = .ok (.iastore, 1) by decide +kernel) okl_324 hb3 ?_
  obtain ⟨σ5, eσ5⟩ : ∃ z : jM, z = up σ3 324 (p1 + 2) (σ3 321 13) := ⟨_, rfl⟩
  refine j_sig eσ5 ?_
  have h := h σ5 eσ5
  refine j_iload_n (i := 2) rfl (show decode cX12_lawClause 29 = .ok (.iload_n 2, 1) by decide +kernel) ?_
  exact j_ret (rokI (show decode cX12_lawClause 30 = .ok (.ireturn, 1) by decide +kernel) rfl) ⟨rfl, rfl, h⟩
theorem c_X12_lawClause {d : Nat} {t : Int} {Q : Int → jM → Prop} {σ : jM} {p1 : Int} (h : ((0 : Int) ≤ (p1 + 1) ∧ (p1 + 1) < 2724) ∧ (∀ σ2 : jM, σ2 = up σ 324 (p1 + 1) (σ 321 13) → (Ct mX12_summed d 0 t [rv 321] σ2 (fun r3 σ3 => (((0 : Int) ≤ (p1 + 2) ∧ (p1 + 2) < 2724) ∧ (∀ σ5 : jM, σ5 = up σ3 324 (p1 + 2) (σ3 321 13) → (Q r3 σ5))))))) : Ct mX12_lawClause (d + 1) 0 t [rv 321, iv p1] σ Q := Ct_of (by decide +kernel) (Nat.le_of_ble_eq_true rfl) (b_X12_lawClause_0 h)
set_option maxRecDepth 4000 in
theorem b_X12_joinClause_0 {d : Nat} {t : Int} {Q : Int → jM → Prop} {σ : jM} {p1 : Int} (h : Ct mX12_figure d 0 t [rv 321, iv (p1 + 1), iv 0, iv 7] σ (fun r1 σ1 => ((inR r1) ∧ ((r1 = 0 → (Ct mX12_w3 d 1 t [iv 97, iv 110, iv 100] σ1 (fun r3 σ3 => (Ct mX12_isWord d 0 t [rv 321, jv r3] σ3 (fun r4 σ4 => ((inR r4) ∧ ((¬ r4 = 0 → (Ct mX12_nextToken d 9 t [rv 321] σ4 (fun r6 σ6 => (Ct mX12_figure d 0 t [rv 321, iv (p1 + 2), iv 0, iv 7] σ6 (fun r7 σ7 => (Q r7 σ7)))))) ∧ (r4 = 0 → (Q 1 σ4))))))))) ∧ (¬ r1 = 0 → (Q r1 σ1)))))) : Jt mX12_joinClause (d + 1) 0 t Q 0 [rv 321, iv p1, uv] [] σ := by
  refine s_aload_n (i := 0) rfl (show decode cX12_joinClause 0 = .ok (.aload_n 0, 1) by decide +kernel) ?_
  refine j_iload_n (i := 1) rfl (show decode cX12_joinClause 1 = .ok (.iload_n 1, 1) by decide +kernel) ?_
  refine j_iconst (show decode cX12_joinClause 2 = .ok (.iconst 1, 1) by decide +kernel) ?_
  refine j_iadd (show decode cX12_joinClause 3 = .ok (.iadd, 1) by decide +kernel) ?_
  refine j_iconst (show decode cX12_joinClause 4 = .ok (.iconst 0, 1) by decide +kernel) ?_
  refine j_bipush (n := 7) (by decide +kernel) (show decode cX12_joinClause 5 = .ok (.bipush 7, 2) by decide +kernel) ?_
  refine j_ctV (m' := mX12_figure) (As := [iv (p1 + 1), iv 0, iv 7]) (ci := 12) (tag := 0) (N := 0) (cw_X12_231 rfl) (show decode cX12_joinClause 7 = .ok (.invokevirtual 231, 3) by decide +kernel) rfl (Nat.le_of_ble_eq_true rfl) (by decide) okl_321 rfl rfl (Nat.le_refl _) h (fun r1 σ1 h => ?_)
  refine s_ist_n (i := 2) (L' := [rv 321, iv p1, iv r1]) rfl (by decide) (show decode cX12_joinClause 10 = .ok (.istore_n 2, 1) by decide +kernel) ?_
  refine j_iload_n (i := 2) rfl (show decode cX12_joinClause 11 = .ok (.iload_n 2, 1) by decide +kernel) ?_
  have hr1 := h.1
  have h := h.2
  refine j_if_eq (tgt := 17) hr1 (show decode cX12_joinClause 12 = .ok (.ifCond .eq 5, 3) by decide +kernel) (by decide) (fun c => ?_) (fun c => ?_)
  · have h := h.1 c
    refine s_aload_n (i := 0) rfl (show decode cX12_joinClause 17 = .ok (.aload_n 0, 1) by decide +kernel) ?_
    refine j_bipush (n := 97) (by decide +kernel) (show decode cX12_joinClause 18 = .ok (.bipush 97, 2) by decide +kernel) ?_
    refine j_bipush (n := 110) (by decide +kernel) (show decode cX12_joinClause 20 = .ok (.bipush 110, 2) by decide +kernel) ?_
    refine j_bipush (n := 100) (by decide +kernel) (show decode cX12_joinClause 22 = .ok (.bipush 100, 2) by decide +kernel) ?_
    refine j_ctS (m' := mX12_w3) (As := [iv 97, iv 110, iv 100]) (tag := 1) (cw_X12_139 rfl) (show decode cX12_joinClause 24 = .ok (.invokestatic 139, 3) by decide +kernel) rfl (Nat.le_of_ble_eq_true rfl) (by decide) (Nat.le_refl _) h (fun r3 σ3 h => ?_)
    refine j_ctV (m' := mX12_isWord) (As := [jv r3]) (ci := 12) (tag := 0) (N := 0) (cw_X12_202 rfl) (show decode cX12_joinClause 27 = .ok (.invokevirtual 202, 3) by decide +kernel) rfl (Nat.le_of_ble_eq_true rfl) (by decide) okl_321 rfl rfl (Nat.le_refl _) h (fun r4 σ4 h => ?_)
    have hr4 := h.1
    have h := h.2
    refine j_if_ne (tgt := 35) hr4 (show decode cX12_joinClause 30 = .ok (.ifCond .ne 5, 3) by decide +kernel) (by decide) (fun c => ?_) (fun c => ?_)
    · have h := h.1 c
      refine s_aload_n (i := 0) rfl (show decode cX12_joinClause 35 = .ok (.aload_n 0, 1) by decide +kernel) ?_
      refine j_ctVv (m' := mX12_nextToken) (As := []) (ci := 12) (N := 0) (cw_X12_184 rfl) (show decode cX12_joinClause 36 = .ok (.invokevirtual 184, 3) by decide +kernel) rfl (Nat.le_of_ble_eq_true rfl) okl_321 rfl rfl (Nat.le_refl _) h (fun r6 σ6 h => ?_)
      refine s_aload_n (i := 0) rfl (show decode cX12_joinClause 39 = .ok (.aload_n 0, 1) by decide +kernel) ?_
      refine j_iload_n (i := 1) rfl (show decode cX12_joinClause 40 = .ok (.iload_n 1, 1) by decide +kernel) ?_
      refine j_iconst (show decode cX12_joinClause 41 = .ok (.iconst 2, 1) by decide +kernel) ?_
      refine j_iadd (show decode cX12_joinClause 42 = .ok (.iadd, 1) by decide +kernel) ?_
      refine j_iconst (show decode cX12_joinClause 43 = .ok (.iconst 0, 1) by decide +kernel) ?_
      refine j_bipush (n := 7) (by decide +kernel) (show decode cX12_joinClause 44 = .ok (.bipush 7, 2) by decide +kernel) ?_
      refine j_ctV (m' := mX12_figure) (As := [iv (p1 + 2), iv 0, iv 7]) (ci := 12) (tag := 0) (N := 0) (cw_X12_231 rfl) (show decode cX12_joinClause 46 = .ok (.invokevirtual 231, 3) by decide +kernel) rfl (Nat.le_of_ble_eq_true rfl) (by decide) okl_321 rfl rfl (Nat.le_refl _) h (fun r7 σ7 h => ?_)
      exact j_ret (rokI (show decode cX12_joinClause 49 = .ok (.ireturn, 1) by decide +kernel) rfl) ⟨rfl, rfl, h⟩
    · have h := h.2 c
      refine j_iconst (show decode cX12_joinClause 33 = .ok (.iconst 1, 1) by decide +kernel) ?_
      exact j_ret (rokI (show decode cX12_joinClause 34 = .ok (.ireturn, 1) by decide +kernel) rfl) ⟨rfl, rfl, h⟩
  · have h := h.2 c
    refine j_iload_n (i := 2) rfl (show decode cX12_joinClause 15 = .ok (.iload_n 2, 1) by decide +kernel) ?_
    exact j_ret (rokI (show decode cX12_joinClause 16 = .ok (.ireturn, 1) by decide +kernel) rfl) ⟨rfl, rfl, h⟩
theorem c_X12_joinClause {d : Nat} {t : Int} {Q : Int → jM → Prop} {σ : jM} {p1 : Int} (h : Ct mX12_figure d 0 t [rv 321, iv (p1 + 1), iv 0, iv 7] σ (fun r1 σ1 => ((inR r1) ∧ ((r1 = 0 → (Ct mX12_w3 d 1 t [iv 97, iv 110, iv 100] σ1 (fun r3 σ3 => (Ct mX12_isWord d 0 t [rv 321, jv r3] σ3 (fun r4 σ4 => ((inR r4) ∧ ((¬ r4 = 0 → (Ct mX12_nextToken d 9 t [rv 321] σ4 (fun r6 σ6 => (Ct mX12_figure d 0 t [rv 321, iv (p1 + 2), iv 0, iv 7] σ6 (fun r7 σ7 => (Q r7 σ7)))))) ∧ (r4 = 0 → (Q 1 σ4))))))))) ∧ (¬ r1 = 0 → (Q r1 σ1)))))) : Ct mX12_joinClause (d + 1) 0 t [rv 321, iv p1] σ Q := Ct_of (by decide +kernel) (Nat.le_of_ble_eq_true rfl) (b_X12_joinClause_0 h)
set_option maxRecDepth 4000 in
theorem b_X12_body_0 {d : Nat} {t : Int} {Q : Int → jM → Prop} {σ : jM} {p1 p2 : Int} (h : (inR p1) ∧ ((p1 < 2 ∨ 6 < p1 → (Ct mX12_lawClause d 0 t [rv 321, iv p2] σ (fun r2 σ2 => (Q r2 σ2)))) ∧ (p1 = 2 → (Ct mX12_joinClause d 0 t [rv 321, iv p2] σ (fun r3 σ3 => (Q r3 σ3)))) ∧ (p1 = 3 → (Ct mX12_figure d 0 t [rv 321, iv (p2 + 1), iv 0, iv 7] σ (fun r4 σ4 => (Q r4 σ4)))) ∧ (p1 = 4 → (Ct mX12_figure d 0 t [rv 321, iv (p2 + 1), iv 0, iv 7] σ (fun r5 σ5 => (Q r5 σ5)))) ∧ (p1 = 5 → (Ct mX12_figure d 0 t [rv 321, iv (p2 + 1), iv 1, iv 60] σ (fun r6 σ6 => (Q r6 σ6)))) ∧ (p1 = 6 → (Ct mX12_figure d 0 t [rv 321, iv (p2 + 1), iv 1, iv 120] σ (fun r7 σ7 => (Q r7 σ7)))))) : Jt mX12_body (d + 1) 0 t Q 0 [rv 321, iv p1, iv p2] [] σ := by
  refine j_iload_n (i := 1) rfl (show decode cX12_body 0 = .ok (.iload_n 1, 1) by decide +kernel) ?_
  have hr0 := h.1
  have h := h.2
  rcases (show (p1 < 2 ∨ 6 < p1) ∨ p1 = 2 ∨ p1 = 3 ∨ p1 = 4 ∨ p1 = 5 ∨ p1 = 6 by omega) with c | c | c | c | c | c
  · refine j_tableOut (tgt := 86) hr0 (show decode cX12_body 1 = .ok (.tableswitch 85 2 6 #[35, 41, 52, 63, 74], 35) by decide +kernel) c (by decide) ?_
    have h := h.1 c
    refine s_aload_n (i := 0) rfl (show decode cX12_body 86 = .ok (.aload_n 0, 1) by decide +kernel) ?_
    refine j_iload_n (i := 2) rfl (show decode cX12_body 87 = .ok (.iload_n 2, 1) by decide +kernel) ?_
    refine j_ctV (m' := mX12_lawClause) (As := [iv p2]) (ci := 12) (tag := 0) (N := 0) (cw_X12_238 rfl) (show decode cX12_body 88 = .ok (.invokevirtual 238, 3) by decide +kernel) rfl (Nat.le_of_ble_eq_true rfl) (by decide) okl_321 rfl rfl (Nat.le_refl _) h (fun r2 σ2 h => ?_)
    exact j_ret (rokI (show decode cX12_body 91 = .ok (.ireturn, 1) by decide +kernel) rfl) ⟨rfl, rfl, h⟩
  · refine j_tableIn (tgt := 36) hr0 (show decode cX12_body 1 = .ok (.tableswitch 85 2 6 #[35, 41, 52, 63, 74], 35) by decide +kernel) (by omega) (by omega) (by rw [c]; rfl) (by decide) ?_
    have h := h.2.1 c
    refine s_aload_n (i := 0) rfl (show decode cX12_body 36 = .ok (.aload_n 0, 1) by decide +kernel) ?_
    refine j_iload_n (i := 2) rfl (show decode cX12_body 37 = .ok (.iload_n 2, 1) by decide +kernel) ?_
    refine j_ctV (m' := mX12_joinClause) (As := [iv p2]) (ci := 12) (tag := 0) (N := 0) (cw_X12_235 rfl) (show decode cX12_body 38 = .ok (.invokevirtual 235, 3) by decide +kernel) rfl (Nat.le_of_ble_eq_true rfl) (by decide) okl_321 rfl rfl (Nat.le_refl _) h (fun r3 σ3 h => ?_)
    exact j_ret (rokI (show decode cX12_body 41 = .ok (.ireturn, 1) by decide +kernel) rfl) ⟨rfl, rfl, h⟩
  · refine j_tableIn (tgt := 42) hr0 (show decode cX12_body 1 = .ok (.tableswitch 85 2 6 #[35, 41, 52, 63, 74], 35) by decide +kernel) (by omega) (by omega) (by rw [c]; rfl) (by decide) ?_
    have h := h.2.2.1 c
    refine s_aload_n (i := 0) rfl (show decode cX12_body 42 = .ok (.aload_n 0, 1) by decide +kernel) ?_
    refine j_iload_n (i := 2) rfl (show decode cX12_body 43 = .ok (.iload_n 2, 1) by decide +kernel) ?_
    refine j_iconst (show decode cX12_body 44 = .ok (.iconst 1, 1) by decide +kernel) ?_
    refine j_iadd (show decode cX12_body 45 = .ok (.iadd, 1) by decide +kernel) ?_
    refine j_iconst (show decode cX12_body 46 = .ok (.iconst 0, 1) by decide +kernel) ?_
    refine j_bipush (n := 7) (by decide +kernel) (show decode cX12_body 47 = .ok (.bipush 7, 2) by decide +kernel) ?_
    refine j_ctV (m' := mX12_figure) (As := [iv (p2 + 1), iv 0, iv 7]) (ci := 12) (tag := 0) (N := 0) (cw_X12_231 rfl) (show decode cX12_body 49 = .ok (.invokevirtual 231, 3) by decide +kernel) rfl (Nat.le_of_ble_eq_true rfl) (by decide) okl_321 rfl rfl (Nat.le_refl _) h (fun r4 σ4 h => ?_)
    exact j_ret (rokI (show decode cX12_body 52 = .ok (.ireturn, 1) by decide +kernel) rfl) ⟨rfl, rfl, h⟩
  · refine j_tableIn (tgt := 53) hr0 (show decode cX12_body 1 = .ok (.tableswitch 85 2 6 #[35, 41, 52, 63, 74], 35) by decide +kernel) (by omega) (by omega) (by rw [c]; rfl) (by decide) ?_
    have h := h.2.2.2.1 c
    refine s_aload_n (i := 0) rfl (show decode cX12_body 53 = .ok (.aload_n 0, 1) by decide +kernel) ?_
    refine j_iload_n (i := 2) rfl (show decode cX12_body 54 = .ok (.iload_n 2, 1) by decide +kernel) ?_
    refine j_iconst (show decode cX12_body 55 = .ok (.iconst 1, 1) by decide +kernel) ?_
    refine j_iadd (show decode cX12_body 56 = .ok (.iadd, 1) by decide +kernel) ?_
    refine j_iconst (show decode cX12_body 57 = .ok (.iconst 0, 1) by decide +kernel) ?_
    refine j_bipush (n := 7) (by decide +kernel) (show decode cX12_body 58 = .ok (.bipush 7, 2) by decide +kernel) ?_
    refine j_ctV (m' := mX12_figure) (As := [iv (p2 + 1), iv 0, iv 7]) (ci := 12) (tag := 0) (N := 0) (cw_X12_231 rfl) (show decode cX12_body 60 = .ok (.invokevirtual 231, 3) by decide +kernel) rfl (Nat.le_of_ble_eq_true rfl) (by decide) okl_321 rfl rfl (Nat.le_refl _) h (fun r5 σ5 h => ?_)
    exact j_ret (rokI (show decode cX12_body 63 = .ok (.ireturn, 1) by decide +kernel) rfl) ⟨rfl, rfl, h⟩
  · refine j_tableIn (tgt := 64) hr0 (show decode cX12_body 1 = .ok (.tableswitch 85 2 6 #[35, 41, 52, 63, 74], 35) by decide +kernel) (by omega) (by omega) (by rw [c]; rfl) (by decide) ?_
    have h := h.2.2.2.2.1 c
    refine s_aload_n (i := 0) rfl (show decode cX12_body 64 = .ok (.aload_n 0, 1) by decide +kernel) ?_
    refine j_iload_n (i := 2) rfl (show decode cX12_body 65 = .ok (.iload_n 2, 1) by decide +kernel) ?_
    refine j_iconst (show decode cX12_body 66 = .ok (.iconst 1, 1) by decide +kernel) ?_
    refine j_iadd (show decode cX12_body 67 = .ok (.iadd, 1) by decide +kernel) ?_
    refine j_iconst (show decode cX12_body 68 = .ok (.iconst 1, 1) by decide +kernel) ?_
    refine j_bipush (n := 60) (by decide +kernel) (show decode cX12_body 69 = .ok (.bipush 60, 2) by decide +kernel) ?_
    refine j_ctV (m' := mX12_figure) (As := [iv (p2 + 1), iv 1, iv 60]) (ci := 12) (tag := 0) (N := 0) (cw_X12_231 rfl) (show decode cX12_body 71 = .ok (.invokevirtual 231, 3) by decide +kernel) rfl (Nat.le_of_ble_eq_true rfl) (by decide) okl_321 rfl rfl (Nat.le_refl _) h (fun r6 σ6 h => ?_)
    exact j_ret (rokI (show decode cX12_body 74 = .ok (.ireturn, 1) by decide +kernel) rfl) ⟨rfl, rfl, h⟩
  · refine j_tableIn (tgt := 75) hr0 (show decode cX12_body 1 = .ok (.tableswitch 85 2 6 #[35, 41, 52, 63, 74], 35) by decide +kernel) (by omega) (by omega) (by rw [c]; rfl) (by decide) ?_
    have h := h.2.2.2.2.2 c
    refine s_aload_n (i := 0) rfl (show decode cX12_body 75 = .ok (.aload_n 0, 1) by decide +kernel) ?_
    refine j_iload_n (i := 2) rfl (show decode cX12_body 76 = .ok (.iload_n 2, 1) by decide +kernel) ?_
    refine j_iconst (show decode cX12_body 77 = .ok (.iconst 1, 1) by decide +kernel) ?_
    refine j_iadd (show decode cX12_body 78 = .ok (.iadd, 1) by decide +kernel) ?_
    refine j_iconst (show decode cX12_body 79 = .ok (.iconst 1, 1) by decide +kernel) ?_
    refine j_bipush (n := 120) (by decide +kernel) (show decode cX12_body 80 = .ok (.bipush 120, 2) by decide +kernel) ?_
    refine j_ctV (m' := mX12_figure) (As := [iv (p2 + 1), iv 1, iv 120]) (ci := 12) (tag := 0) (N := 0) (cw_X12_231 rfl) (show decode cX12_body 82 = .ok (.invokevirtual 231, 3) by decide +kernel) rfl (Nat.le_of_ble_eq_true rfl) (by decide) okl_321 rfl rfl (Nat.le_refl _) h (fun r7 σ7 h => ?_)
    exact j_ret (rokI (show decode cX12_body 85 = .ok (.ireturn, 1) by decide +kernel) rfl) ⟨rfl, rfl, h⟩
theorem c_X12_body {d : Nat} {t : Int} {Q : Int → jM → Prop} {σ : jM} {p1 p2 : Int} (h : (inR p1) ∧ ((p1 < 2 ∨ 6 < p1 → (Ct mX12_lawClause d 0 t [rv 321, iv p2] σ (fun r2 σ2 => (Q r2 σ2)))) ∧ (p1 = 2 → (Ct mX12_joinClause d 0 t [rv 321, iv p2] σ (fun r3 σ3 => (Q r3 σ3)))) ∧ (p1 = 3 → (Ct mX12_figure d 0 t [rv 321, iv (p2 + 1), iv 0, iv 7] σ (fun r4 σ4 => (Q r4 σ4)))) ∧ (p1 = 4 → (Ct mX12_figure d 0 t [rv 321, iv (p2 + 1), iv 0, iv 7] σ (fun r5 σ5 => (Q r5 σ5)))) ∧ (p1 = 5 → (Ct mX12_figure d 0 t [rv 321, iv (p2 + 1), iv 1, iv 60] σ (fun r6 σ6 => (Q r6 σ6)))) ∧ (p1 = 6 → (Ct mX12_figure d 0 t [rv 321, iv (p2 + 1), iv 1, iv 120] σ (fun r7 σ7 => (Q r7 σ7)))))) : Ct mX12_body (d + 1) 0 t [rv 321, iv p1, iv p2] σ Q := Ct_of (by decide +kernel) (Nat.le_of_ble_eq_true rfl) (b_X12_body_0 h)
set_option maxRecDepth 4000 in
theorem b_X12_sortOf_0 {d : Nat} {t : Int} {Q : Int → jM → Prop} {σ : jM} (h : Ct mX12_w5 d 1 t [iv 116, iv 105, iv 114, iv 101, iv 115] σ (fun r1 σ1 => (Ct mX12_isWord d 0 t [rv 321, jv r1] σ1 (fun r2 σ2 => ((inR r2) ∧ ((r2 = 0 → (Ct mX12_w5 d 1 t [iv 112, iv 114, iv 105, iv 99, iv 101] σ2 (fun r4 σ4 => (Ct mX12_isWord d 0 t [rv 321, jv r4] σ4 (fun r5 σ5 => ((inR r5) ∧ ((r5 = 0 → (Ct mX12_w4 d 1 t [iv 106, iv 111, iv 105, iv 110] σ5 (fun r7 σ7 => (Ct mX12_isWord d 0 t [rv 321, jv r7] σ7 (fun r8 σ8 => ((inR r8) ∧ ((r8 = 0 → (Ct mX12_w4 d 1 t [iv 112, iv 111, iv 117, iv 114] σ8 (fun r10 σ10 => (Ct mX12_isWord d 0 t [rv 321, jv r10] σ10 (fun r11 σ11 => ((inR r11) ∧ ((r11 = 0 → (Ct mX12_w4 d 1 t [iv 98, iv 97, iv 107, iv 101] σ11 (fun r13 σ13 => (Ct mX12_isWord d 0 t [rv 321, jv r13] σ13 (fun r14 σ14 => ((inR r14) ∧ ((r14 = 0 → (Ct mX12_w3 d 1 t [iv 100, iv 97, iv 121] σ14 (fun r16 σ16 => (Ct mX12_isWord d 0 t [rv 321, jv r16] σ16 (fun r17 σ17 => ((inR r17) ∧ ((r17 = 0 → (Ct mX12_w4 d 1 t [iv 109, iv 97, iv 107, iv 101] σ17 (fun r19 σ19 => (Ct mX12_isWord d 0 t [rv 321, jv r19] σ19 (fun r20 σ20 => ((inR r20) ∧ ((r20 = 0 → (Q (-1) σ20)) ∧ (¬ r20 = 0 → (Q 6 σ20))))))))) ∧ (¬ r17 = 0 → (Q 5 σ17))))))))) ∧ (¬ r14 = 0 → (Q 4 σ14))))))))) ∧ (¬ r11 = 0 → (Q 3 σ11))))))))) ∧ (¬ r8 = 0 → (Q 2 σ8))))))))) ∧ (¬ r5 = 0 → (Q 1 σ5))))))))) ∧ (¬ r2 = 0 → (Q 0 σ2)))))))) : Jt mX12_sortOf (d + 1) 0 t Q 0 [rv 321] [] σ := by
  refine s_aload_n (i := 0) rfl (show decode cX12_sortOf 0 = .ok (.aload_n 0, 1) by decide +kernel) ?_
  refine j_bipush (n := 116) (by decide +kernel) (show decode cX12_sortOf 1 = .ok (.bipush 116, 2) by decide +kernel) ?_
  refine j_bipush (n := 105) (by decide +kernel) (show decode cX12_sortOf 3 = .ok (.bipush 105, 2) by decide +kernel) ?_
  refine j_bipush (n := 114) (by decide +kernel) (show decode cX12_sortOf 5 = .ok (.bipush 114, 2) by decide +kernel) ?_
  refine j_bipush (n := 101) (by decide +kernel) (show decode cX12_sortOf 7 = .ok (.bipush 101, 2) by decide +kernel) ?_
  refine j_bipush (n := 115) (by decide +kernel) (show decode cX12_sortOf 9 = .ok (.bipush 115, 2) by decide +kernel) ?_
  refine j_ctS (m' := mX12_w5) (As := [iv 116, iv 105, iv 114, iv 101, iv 115]) (tag := 1) (cw_X12_147 rfl) (show decode cX12_sortOf 11 = .ok (.invokestatic 147, 3) by decide +kernel) rfl (Nat.le_of_ble_eq_true rfl) (by decide) (Nat.le_refl _) h (fun r1 σ1 h => ?_)
  refine j_ctV (m' := mX12_isWord) (As := [jv r1]) (ci := 12) (tag := 0) (N := 0) (cw_X12_202 rfl) (show decode cX12_sortOf 14 = .ok (.invokevirtual 202, 3) by decide +kernel) rfl (Nat.le_of_ble_eq_true rfl) (by decide) okl_321 rfl rfl (Nat.le_refl _) h (fun r2 σ2 h => ?_)
  have hr2 := h.1
  have h := h.2
  refine j_if_eq (tgt := 22) hr2 (show decode cX12_sortOf 17 = .ok (.ifCond .eq 5, 3) by decide +kernel) (by decide) (fun c => ?_) (fun c => ?_)
  · have h := h.1 c
    refine s_aload_n (i := 0) rfl (show decode cX12_sortOf 22 = .ok (.aload_n 0, 1) by decide +kernel) ?_
    refine j_bipush (n := 112) (by decide +kernel) (show decode cX12_sortOf 23 = .ok (.bipush 112, 2) by decide +kernel) ?_
    refine j_bipush (n := 114) (by decide +kernel) (show decode cX12_sortOf 25 = .ok (.bipush 114, 2) by decide +kernel) ?_
    refine j_bipush (n := 105) (by decide +kernel) (show decode cX12_sortOf 27 = .ok (.bipush 105, 2) by decide +kernel) ?_
    refine j_bipush (n := 99) (by decide +kernel) (show decode cX12_sortOf 29 = .ok (.bipush 99, 2) by decide +kernel) ?_
    refine j_bipush (n := 101) (by decide +kernel) (show decode cX12_sortOf 31 = .ok (.bipush 101, 2) by decide +kernel) ?_
    refine j_ctS (m' := mX12_w5) (As := [iv 112, iv 114, iv 105, iv 99, iv 101]) (tag := 1) (cw_X12_147 rfl) (show decode cX12_sortOf 33 = .ok (.invokestatic 147, 3) by decide +kernel) rfl (Nat.le_of_ble_eq_true rfl) (by decide) (Nat.le_refl _) h (fun r4 σ4 h => ?_)
    refine j_ctV (m' := mX12_isWord) (As := [jv r4]) (ci := 12) (tag := 0) (N := 0) (cw_X12_202 rfl) (show decode cX12_sortOf 36 = .ok (.invokevirtual 202, 3) by decide +kernel) rfl (Nat.le_of_ble_eq_true rfl) (by decide) okl_321 rfl rfl (Nat.le_refl _) h (fun r5 σ5 h => ?_)
    have hr5 := h.1
    have h := h.2
    refine j_if_eq (tgt := 44) hr5 (show decode cX12_sortOf 39 = .ok (.ifCond .eq 5, 3) by decide +kernel) (by decide) (fun c => ?_) (fun c => ?_)
    · have h := h.1 c
      refine s_aload_n (i := 0) rfl (show decode cX12_sortOf 44 = .ok (.aload_n 0, 1) by decide +kernel) ?_
      refine j_bipush (n := 106) (by decide +kernel) (show decode cX12_sortOf 45 = .ok (.bipush 106, 2) by decide +kernel) ?_
      refine j_bipush (n := 111) (by decide +kernel) (show decode cX12_sortOf 47 = .ok (.bipush 111, 2) by decide +kernel) ?_
      refine j_bipush (n := 105) (by decide +kernel) (show decode cX12_sortOf 49 = .ok (.bipush 105, 2) by decide +kernel) ?_
      refine j_bipush (n := 110) (by decide +kernel) (show decode cX12_sortOf 51 = .ok (.bipush 110, 2) by decide +kernel) ?_
      refine j_ctS (m' := mX12_w4) (As := [iv 106, iv 111, iv 105, iv 110]) (tag := 1) (cw_X12_143 rfl) (show decode cX12_sortOf 53 = .ok (.invokestatic 143, 3) by decide +kernel) rfl (Nat.le_of_ble_eq_true rfl) (by decide) (Nat.le_refl _) h (fun r7 σ7 h => ?_)
      refine j_ctV (m' := mX12_isWord) (As := [jv r7]) (ci := 12) (tag := 0) (N := 0) (cw_X12_202 rfl) (show decode cX12_sortOf 56 = .ok (.invokevirtual 202, 3) by decide +kernel) rfl (Nat.le_of_ble_eq_true rfl) (by decide) okl_321 rfl rfl (Nat.le_refl _) h (fun r8 σ8 h => ?_)
      have hr8 := h.1
      have h := h.2
      refine j_if_eq (tgt := 64) hr8 (show decode cX12_sortOf 59 = .ok (.ifCond .eq 5, 3) by decide +kernel) (by decide) (fun c => ?_) (fun c => ?_)
      · have h := h.1 c
        refine s_aload_n (i := 0) rfl (show decode cX12_sortOf 64 = .ok (.aload_n 0, 1) by decide +kernel) ?_
        refine j_bipush (n := 112) (by decide +kernel) (show decode cX12_sortOf 65 = .ok (.bipush 112, 2) by decide +kernel) ?_
        refine j_bipush (n := 111) (by decide +kernel) (show decode cX12_sortOf 67 = .ok (.bipush 111, 2) by decide +kernel) ?_
        refine j_bipush (n := 117) (by decide +kernel) (show decode cX12_sortOf 69 = .ok (.bipush 117, 2) by decide +kernel) ?_
        refine j_bipush (n := 114) (by decide +kernel) (show decode cX12_sortOf 71 = .ok (.bipush 114, 2) by decide +kernel) ?_
        refine j_ctS (m' := mX12_w4) (As := [iv 112, iv 111, iv 117, iv 114]) (tag := 1) (cw_X12_143 rfl) (show decode cX12_sortOf 73 = .ok (.invokestatic 143, 3) by decide +kernel) rfl (Nat.le_of_ble_eq_true rfl) (by decide) (Nat.le_refl _) h (fun r10 σ10 h => ?_)
        refine j_ctV (m' := mX12_isWord) (As := [jv r10]) (ci := 12) (tag := 0) (N := 0) (cw_X12_202 rfl) (show decode cX12_sortOf 76 = .ok (.invokevirtual 202, 3) by decide +kernel) rfl (Nat.le_of_ble_eq_true rfl) (by decide) okl_321 rfl rfl (Nat.le_refl _) h (fun r11 σ11 h => ?_)
        have hr11 := h.1
        have h := h.2
        refine j_if_eq (tgt := 84) hr11 (show decode cX12_sortOf 79 = .ok (.ifCond .eq 5, 3) by decide +kernel) (by decide) (fun c => ?_) (fun c => ?_)
        · have h := h.1 c
          refine s_aload_n (i := 0) rfl (show decode cX12_sortOf 84 = .ok (.aload_n 0, 1) by decide +kernel) ?_
          refine j_bipush (n := 98) (by decide +kernel) (show decode cX12_sortOf 85 = .ok (.bipush 98, 2) by decide +kernel) ?_
          refine j_bipush (n := 97) (by decide +kernel) (show decode cX12_sortOf 87 = .ok (.bipush 97, 2) by decide +kernel) ?_
          refine j_bipush (n := 107) (by decide +kernel) (show decode cX12_sortOf 89 = .ok (.bipush 107, 2) by decide +kernel) ?_
          refine j_bipush (n := 101) (by decide +kernel) (show decode cX12_sortOf 91 = .ok (.bipush 101, 2) by decide +kernel) ?_
          refine j_ctS (m' := mX12_w4) (As := [iv 98, iv 97, iv 107, iv 101]) (tag := 1) (cw_X12_143 rfl) (show decode cX12_sortOf 93 = .ok (.invokestatic 143, 3) by decide +kernel) rfl (Nat.le_of_ble_eq_true rfl) (by decide) (Nat.le_refl _) h (fun r13 σ13 h => ?_)
          refine j_ctV (m' := mX12_isWord) (As := [jv r13]) (ci := 12) (tag := 0) (N := 0) (cw_X12_202 rfl) (show decode cX12_sortOf 96 = .ok (.invokevirtual 202, 3) by decide +kernel) rfl (Nat.le_of_ble_eq_true rfl) (by decide) okl_321 rfl rfl (Nat.le_refl _) h (fun r14 σ14 h => ?_)
          have hr14 := h.1
          have h := h.2
          refine j_if_eq (tgt := 104) hr14 (show decode cX12_sortOf 99 = .ok (.ifCond .eq 5, 3) by decide +kernel) (by decide) (fun c => ?_) (fun c => ?_)
          · have h := h.1 c
            refine s_aload_n (i := 0) rfl (show decode cX12_sortOf 104 = .ok (.aload_n 0, 1) by decide +kernel) ?_
            refine j_bipush (n := 100) (by decide +kernel) (show decode cX12_sortOf 105 = .ok (.bipush 100, 2) by decide +kernel) ?_
            refine j_bipush (n := 97) (by decide +kernel) (show decode cX12_sortOf 107 = .ok (.bipush 97, 2) by decide +kernel) ?_
            refine j_bipush (n := 121) (by decide +kernel) (show decode cX12_sortOf 109 = .ok (.bipush 121, 2) by decide +kernel) ?_
            refine j_ctS (m' := mX12_w3) (As := [iv 100, iv 97, iv 121]) (tag := 1) (cw_X12_139 rfl) (show decode cX12_sortOf 111 = .ok (.invokestatic 139, 3) by decide +kernel) rfl (Nat.le_of_ble_eq_true rfl) (by decide) (Nat.le_refl _) h (fun r16 σ16 h => ?_)
            refine j_ctV (m' := mX12_isWord) (As := [jv r16]) (ci := 12) (tag := 0) (N := 0) (cw_X12_202 rfl) (show decode cX12_sortOf 114 = .ok (.invokevirtual 202, 3) by decide +kernel) rfl (Nat.le_of_ble_eq_true rfl) (by decide) okl_321 rfl rfl (Nat.le_refl _) h (fun r17 σ17 h => ?_)
            have hr17 := h.1
            have h := h.2
            refine j_if_eq (tgt := 124) hr17 (show decode cX12_sortOf 117 = .ok (.ifCond .eq 7, 3) by decide +kernel) (by decide) (fun c => ?_) (fun c => ?_)
            · have h := h.1 c
              refine s_aload_n (i := 0) rfl (show decode cX12_sortOf 124 = .ok (.aload_n 0, 1) by decide +kernel) ?_
              refine j_bipush (n := 109) (by decide +kernel) (show decode cX12_sortOf 125 = .ok (.bipush 109, 2) by decide +kernel) ?_
              refine j_bipush (n := 97) (by decide +kernel) (show decode cX12_sortOf 127 = .ok (.bipush 97, 2) by decide +kernel) ?_
              refine j_bipush (n := 107) (by decide +kernel) (show decode cX12_sortOf 129 = .ok (.bipush 107, 2) by decide +kernel) ?_
              refine j_bipush (n := 101) (by decide +kernel) (show decode cX12_sortOf 131 = .ok (.bipush 101, 2) by decide +kernel) ?_
              refine j_ctS (m' := mX12_w4) (As := [iv 109, iv 97, iv 107, iv 101]) (tag := 1) (cw_X12_143 rfl) (show decode cX12_sortOf 133 = .ok (.invokestatic 143, 3) by decide +kernel) rfl (Nat.le_of_ble_eq_true rfl) (by decide) (Nat.le_refl _) h (fun r19 σ19 h => ?_)
              refine j_ctV (m' := mX12_isWord) (As := [jv r19]) (ci := 12) (tag := 0) (N := 0) (cw_X12_202 rfl) (show decode cX12_sortOf 136 = .ok (.invokevirtual 202, 3) by decide +kernel) rfl (Nat.le_of_ble_eq_true rfl) (by decide) okl_321 rfl rfl (Nat.le_refl _) h (fun r20 σ20 h => ?_)
              have hr20 := h.1
              have h := h.2
              refine j_if_eq (tgt := 147) hr20 (show decode cX12_sortOf 139 = .ok (.ifCond .eq 8, 3) by decide +kernel) (by decide) (fun c => ?_) (fun c => ?_)
              · have h := h.1 c
                refine j_iconst (show decode cX12_sortOf 147 = .ok (.iconst (-1), 1) by decide +kernel) ?_
                exact j_ret (rokI (show decode cX12_sortOf 148 = .ok (.ireturn, 1) by decide +kernel) rfl) ⟨rfl, rfl, h⟩
              · have h := h.2 c
                refine j_bipush (n := 6) (by decide +kernel) (show decode cX12_sortOf 142 = .ok (.bipush 6, 2) by decide +kernel) ?_
                refine j_goto (tgt := 148) (show decode cX12_sortOf 144 = .ok (.goto 4, 3) by decide +kernel) (by decide) ?_
                exact j_ret (rokI (show decode cX12_sortOf 148 = .ok (.ireturn, 1) by decide +kernel) rfl) ⟨rfl, rfl, h⟩
            · have h := h.2 c
              refine j_iconst (show decode cX12_sortOf 120 = .ok (.iconst 5, 1) by decide +kernel) ?_
              refine j_goto (tgt := 148) (show decode cX12_sortOf 121 = .ok (.goto 27, 3) by decide +kernel) (by decide) ?_
              exact j_ret (rokI (show decode cX12_sortOf 148 = .ok (.ireturn, 1) by decide +kernel) rfl) ⟨rfl, rfl, h⟩
          · have h := h.2 c
            refine j_iconst (show decode cX12_sortOf 102 = .ok (.iconst 4, 1) by decide +kernel) ?_
            exact j_ret (rokI (show decode cX12_sortOf 103 = .ok (.ireturn, 1) by decide +kernel) rfl) ⟨rfl, rfl, h⟩
        · have h := h.2 c
          refine j_iconst (show decode cX12_sortOf 82 = .ok (.iconst 3, 1) by decide +kernel) ?_
          exact j_ret (rokI (show decode cX12_sortOf 83 = .ok (.ireturn, 1) by decide +kernel) rfl) ⟨rfl, rfl, h⟩
      · have h := h.2 c
        refine j_iconst (show decode cX12_sortOf 62 = .ok (.iconst 2, 1) by decide +kernel) ?_
        exact j_ret (rokI (show decode cX12_sortOf 63 = .ok (.ireturn, 1) by decide +kernel) rfl) ⟨rfl, rfl, h⟩
    · have h := h.2 c
      refine j_iconst (show decode cX12_sortOf 42 = .ok (.iconst 1, 1) by decide +kernel) ?_
      exact j_ret (rokI (show decode cX12_sortOf 43 = .ok (.ireturn, 1) by decide +kernel) rfl) ⟨rfl, rfl, h⟩
  · have h := h.2 c
    refine j_iconst (show decode cX12_sortOf 20 = .ok (.iconst 0, 1) by decide +kernel) ?_
    exact j_ret (rokI (show decode cX12_sortOf 21 = .ok (.ireturn, 1) by decide +kernel) rfl) ⟨rfl, rfl, h⟩
theorem c_X12_sortOf {d : Nat} {t : Int} {Q : Int → jM → Prop} {σ : jM} (h : Ct mX12_w5 d 1 t [iv 116, iv 105, iv 114, iv 101, iv 115] σ (fun r1 σ1 => (Ct mX12_isWord d 0 t [rv 321, jv r1] σ1 (fun r2 σ2 => ((inR r2) ∧ ((r2 = 0 → (Ct mX12_w5 d 1 t [iv 112, iv 114, iv 105, iv 99, iv 101] σ2 (fun r4 σ4 => (Ct mX12_isWord d 0 t [rv 321, jv r4] σ4 (fun r5 σ5 => ((inR r5) ∧ ((r5 = 0 → (Ct mX12_w4 d 1 t [iv 106, iv 111, iv 105, iv 110] σ5 (fun r7 σ7 => (Ct mX12_isWord d 0 t [rv 321, jv r7] σ7 (fun r8 σ8 => ((inR r8) ∧ ((r8 = 0 → (Ct mX12_w4 d 1 t [iv 112, iv 111, iv 117, iv 114] σ8 (fun r10 σ10 => (Ct mX12_isWord d 0 t [rv 321, jv r10] σ10 (fun r11 σ11 => ((inR r11) ∧ ((r11 = 0 → (Ct mX12_w4 d 1 t [iv 98, iv 97, iv 107, iv 101] σ11 (fun r13 σ13 => (Ct mX12_isWord d 0 t [rv 321, jv r13] σ13 (fun r14 σ14 => ((inR r14) ∧ ((r14 = 0 → (Ct mX12_w3 d 1 t [iv 100, iv 97, iv 121] σ14 (fun r16 σ16 => (Ct mX12_isWord d 0 t [rv 321, jv r16] σ16 (fun r17 σ17 => ((inR r17) ∧ ((r17 = 0 → (Ct mX12_w4 d 1 t [iv 109, iv 97, iv 107, iv 101] σ17 (fun r19 σ19 => (Ct mX12_isWord d 0 t [rv 321, jv r19] σ19 (fun r20 σ20 => ((inR r20) ∧ ((r20 = 0 → (Q (-1) σ20)) ∧ (¬ r20 = 0 → (Q 6 σ20))))))))) ∧ (¬ r17 = 0 → (Q 5 σ17))))))))) ∧ (¬ r14 = 0 → (Q 4 σ14))))))))) ∧ (¬ r11 = 0 → (Q 3 σ11))))))))) ∧ (¬ r8 = 0 → (Q 2 σ8))))))))) ∧ (¬ r5 = 0 → (Q 1 σ5))))))))) ∧ (¬ r2 = 0 → (Q 0 σ2)))))))) : Ct mX12_sortOf (d + 1) 0 t [rv 321] σ Q := Ct_of (by decide +kernel) (Nat.le_of_ble_eq_true rfl) (b_X12_sortOf_0 h)
set_option maxRecDepth 4000 in
theorem b_X12_clause_65 {d : Nat} {t : Int} {Q : Int → jM → Prop} {σ : jM} {v1 v2 : Int} (h : ∀ σ1 : jM, σ1 = up σ 321 14 v1 → (Ct mX12_nextToken d 9 t [rv 321] σ1 (fun r2 σ2 => (((0 : Int) ≤ (((σ2 321 12) + 1) + (3 * v2)) ∧ (((σ2 321 12) + 1) + (3 * v2)) < 2724) ∧ (∀ σ4 : jM, σ4 = up σ2 324 (((σ2 321 12) + 1) + (3 * v2)) v1 → (Ct mX12_body d 0 t [rv 321, iv v1, iv (((σ2 321 12) + 1) + (3 * v2))] σ4 (fun r5 σ5 => ((inR r5) ∧ ((r5 = 0 → (((0 : Int) ≤ (σ5 321 12) ∧ (σ5 321 12) < 2724) ∧ (((0 : Int) ≤ (σ5 321 12) ∧ (σ5 321 12) < 2724) ∧ (∀ σ8 : jM, σ8 = up σ5 324 (σ5 321 12) ((σ5 324 (σ5 321 12)) + 1) → ((inR (σ8 321 9)) ∧ (((σ8 321 9) = 59 → (Ct mX12_nextToken d 9 t [rv 321] σ8 (fun r10 σ10 => (Q 0 σ10)))) ∧ (¬ (σ8 321 9) = 59 → (Q 1 σ8)))))))) ∧ (¬ r5 = 0 → (Q r5 σ5))))))))))) : Jt mX12_clause (d + 1) 0 t Q 65 [rv 321, iv v1, iv v2, uv, uv] [] σ := by
  refine s_aload_n (i := 0) rfl (show decode cX12_clause 65 = .ok (.aload_n 0, 1) by decide +kernel) ?_
  refine j_iload_n (i := 1) rfl (show decode cX12_clause 66 = .ok (.iload_n 1, 1) by decide +kernel) ?_
  refine pf_X12_161 rfl (show decode cX12_clause 67 = .ok (.putfield 161, 3) by decide +kernel) okl_321 ?_
  obtain ⟨σ1, eσ1⟩ : ∃ z : jM, z = up σ 321 14 v1 := ⟨_, rfl⟩
  refine j_sig eσ1 ?_
  have h := h σ1 eσ1
  refine s_aload_n (i := 0) rfl (show decode cX12_clause 70 = .ok (.aload_n 0, 1) by decide +kernel) ?_
  refine j_ctVv (m' := mX12_nextToken) (As := []) (ci := 12) (N := 0) (cw_X12_184 rfl) (show decode cX12_clause 71 = .ok (.invokevirtual 184, 3) by decide +kernel) rfl (Nat.le_of_ble_eq_true rfl) okl_321 rfl rfl (Nat.le_refl _) h (fun r2 σ2 h => ?_)
  refine s_aload_n (i := 0) rfl (show decode cX12_clause 74 = .ok (.aload_n 0, 1) by decide +kernel) ?_
  refine gf_X12_151 rfl (show decode cX12_clause 75 = .ok (.getfield 151, 3) by decide +kernel) okl_321 ?_
  refine j_iconst (show decode cX12_clause 78 = .ok (.iconst 1, 1) by decide +kernel) ?_
  refine j_iadd (show decode cX12_clause 79 = .ok (.iadd, 1) by decide +kernel) ?_
  refine j_iconst (show decode cX12_clause 80 = .ok (.iconst 3, 1) by decide +kernel) ?_
  refine j_iload_n (i := 2) rfl (show decode cX12_clause 81 = .ok (.iload_n 2, 1) by decide +kernel) ?_
  refine j_imul (show decode cX12_clause 82 = .ok (.imul, 1) by decide +kernel) ?_
  refine j_iadd (show decode cX12_clause 83 = .ok (.iadd, 1) by decide +kernel) ?_
  refine s_ist_n (i := 3) (L' := [rv 321, iv v1, iv v2, iv (((σ2 321 12) + 1) + (3 * v2)), uv]) rfl (by decide) (show decode cX12_clause 84 = .ok (.istore_n 3, 1) by decide +kernel) ?_
  refine s_aload_n (i := 0) rfl (show decode cX12_clause 85 = .ok (.aload_n 0, 1) by decide +kernel) ?_
  refine gf_X12_16 (x := 324) rfl (show decode cX12_clause 86 = .ok (.getfield 16, 3) by decide +kernel) okl_321 rfl ?_
  refine j_iload_n (i := 3) rfl (show decode cX12_clause 89 = .ok (.iload_n 3, 1) by decide +kernel) ?_
  refine j_iload_n (i := 1) rfl (show decode cX12_clause 90 = .ok (.iload_n 1, 1) by decide +kernel) ?_
  have hb2 := h.1
  have h := h.2
  refine s_iast (show decode cX12_clause 91 = .ok (.iastore, 1) by decide +kernel) okl_324 hb2 ?_
  obtain ⟨σ4, eσ4⟩ : ∃ z : jM, z = up σ2 324 (((σ2 321 12) + 1) + (3 * v2)) v1 := ⟨_, rfl⟩
  refine j_sig eσ4 ?_
  have h := h σ4 eσ4
  refine s_aload_n (i := 0) rfl (show decode cX12_clause 92 = .ok (.aload_n 0, 1) by decide +kernel) ?_
  refine j_iload_n (i := 1) rfl (show decode cX12_clause 93 = .ok (.iload_n 1, 1) by decide +kernel) ?_
  refine j_iload_n (i := 3) rfl (show decode cX12_clause 94 = .ok (.iload_n 3, 1) by decide +kernel) ?_
  refine j_ctV (m' := mX12_body) (As := [iv v1, iv (((σ2 321 12) + 1) + (3 * v2))]) (ci := 12) (tag := 0) (N := 0) (cw_X12_251 rfl) (show decode cX12_clause 95 = .ok (.invokevirtual 251, 3) by decide +kernel) rfl (Nat.le_of_ble_eq_true rfl) (by decide) okl_321 rfl rfl (Nat.le_refl _) h (fun r5 σ5 h => ?_)
  refine s_ist (i := 4) (L' := [rv 321, iv v1, iv v2, iv (((σ2 321 12) + 1) + (3 * v2)), iv r5]) rfl (by decide) (show decode cX12_clause 98 = .ok (.istore 4, 2) by decide +kernel) ?_
  refine j_iload (i := 4) rfl (show decode cX12_clause 100 = .ok (.iload 4, 2) by decide +kernel) ?_
  have hr5 := h.1
  have h := h.2
  refine j_if_eq (tgt := 108) hr5 (show decode cX12_clause 102 = .ok (.ifCond .eq 6, 3) by decide +kernel) (by decide) (fun c => ?_) (fun c => ?_)
  · have h := h.1 c
    refine s_aload_n (i := 0) rfl (show decode cX12_clause 108 = .ok (.aload_n 0, 1) by decide +kernel) ?_
    refine gf_X12_16 (x := 324) rfl (show decode cX12_clause 109 = .ok (.getfield 16, 3) by decide +kernel) okl_321 rfl ?_
    refine s_aload_n (i := 0) rfl (show decode cX12_clause 112 = .ok (.aload_n 0, 1) by decide +kernel) ?_
    refine gf_X12_151 rfl (show decode cX12_clause 113 = .ok (.getfield 151, 3) by decide +kernel) okl_321 ?_
    refine j_dup2 (show (0 : Nat) ≠ 1 by decide) (show (2 : Nat) ≠ 1 by decide) (show decode cX12_clause 116 = .ok (.dup2, 1) by decide +kernel) ?_
    refine s_iald (show decode cX12_clause 117 = .ok (.iaload, 1) by decide +kernel) okl_324 h.1 ?_
    have h := h.2
    refine j_iconst (show decode cX12_clause 118 = .ok (.iconst 1, 1) by decide +kernel) ?_
    refine j_iadd (show decode cX12_clause 119 = .ok (.iadd, 1) by decide +kernel) ?_
    have hb6 := h.1
    have h := h.2
    refine s_iast (show decode cX12_clause 120 = .ok (.iastore, 1) by decide +kernel) okl_324 hb6 ?_
    obtain ⟨σ8, eσ8⟩ : ∃ z : jM, z = up σ5 324 (σ5 321 12) ((σ5 324 (σ5 321 12)) + 1) := ⟨_, rfl⟩
    refine j_sig eσ8 ?_
    have h := h σ8 eσ8
    refine s_aload_n (i := 0) rfl (show decode cX12_clause 121 = .ok (.aload_n 0, 1) by decide +kernel) ?_
    refine gf_X12_113 rfl (show decode cX12_clause 122 = .ok (.getfield 113, 3) by decide +kernel) okl_321 ?_
    refine j_bipush (n := 59) (by decide +kernel) (show decode cX12_clause 125 = .ok (.bipush 59, 2) by decide +kernel) ?_
    have hr8 := h.1
    have h := h.2
    refine j_icmp_eq (tgt := 132) hr8 (inl (by decide)) (show decode cX12_clause 127 = .ok (.if_icmp .eq 5, 3) by decide +kernel) (by decide) (fun c => ?_) (fun c => ?_)
    · have h := h.1 c
      refine s_aload_n (i := 0) rfl (show decode cX12_clause 132 = .ok (.aload_n 0, 1) by decide +kernel) ?_
      refine j_ctVv (m' := mX12_nextToken) (As := []) (ci := 12) (N := 0) (cw_X12_184 rfl) (show decode cX12_clause 133 = .ok (.invokevirtual 184, 3) by decide +kernel) rfl (Nat.le_of_ble_eq_true rfl) okl_321 rfl rfl (Nat.le_refl _) h (fun r10 σ10 h => ?_)
      refine j_iconst (show decode cX12_clause 136 = .ok (.iconst 0, 1) by decide +kernel) ?_
      exact j_ret (rokI (show decode cX12_clause 137 = .ok (.ireturn, 1) by decide +kernel) rfl) ⟨rfl, rfl, h⟩
    · have h := h.2 c
      refine j_iconst (show decode cX12_clause 130 = .ok (.iconst 1, 1) by decide +kernel) ?_
      exact j_ret (rokI (show decode cX12_clause 131 = .ok (.ireturn, 1) by decide +kernel) rfl) ⟨rfl, rfl, h⟩
  · have h := h.2 c
    refine j_iload (i := 4) rfl (show decode cX12_clause 105 = .ok (.iload 4, 2) by decide +kernel) ?_
    exact j_ret (rokI (show decode cX12_clause 107 = .ok (.ireturn, 1) by decide +kernel) rfl) ⟨rfl, rfl, h⟩
set_option maxRecDepth 4000 in
theorem b_X12_clause_0 {d : Nat} {t : Int} {Q : Int → jM → Prop} {σ : jM} (h : Ct mX12_sortOf d 0 t [rv 321] σ (fun r1 σ1 => ((inR r1) ∧ ((0 ≤ r1 → ((inR r1) ∧ ((1 < r1 → (((0 : Int) ≤ (σ1 321 12) ∧ (σ1 321 12) < 2724) ∧ ((inR (σ1 324 (σ1 321 12))) ∧ ((¬ (σ1 324 (σ1 321 12)) = 24 → ((inR r1) ∧ ((1 < r1 → (Jt mX12_clause (d + 1) 0 t Q 65 [rv 321, iv r1, iv (σ1 324 (σ1 321 12)), uv, uv] [] σ1)) ∧ (r1 ≤ 1 → (∀ σ6 : jM, σ6 = up σ1 321 19 (i_or (σ1 321 19) (i_shl 1 r1)) → (Jt mX12_clause (d + 1) 0 t Q 65 [rv 321, iv r1, iv (σ1 324 (σ1 321 12)), uv, uv] [] σ6)))))) ∧ ((σ1 324 (σ1 321 12)) = 24 → (Q 6 σ1)))))) ∧ (r1 ≤ 1 → (Ct mX12_has d 0 t [iv (σ1 321 19), iv r1] σ1 (fun r7 σ7 => ((inR r7) ∧ ((r7 = 0 → (((0 : Int) ≤ (σ7 321 12) ∧ (σ7 321 12) < 2724) ∧ ((inR (σ7 324 (σ7 321 12))) ∧ ((¬ (σ7 324 (σ7 321 12)) = 24 → ((inR r1) ∧ ((1 < r1 → (Jt mX12_clause (d + 1) 0 t Q 65 [rv 321, iv r1, iv (σ7 324 (σ7 321 12)), uv, uv] [] σ7)) ∧ (r1 ≤ 1 → (∀ σ11 : jM, σ11 = up σ7 321 19 (i_or (σ7 321 19) (i_shl 1 r1)) → (Jt mX12_clause (d + 1) 0 t Q 65 [rv 321, iv r1, iv (σ7 324 (σ7 321 12)), uv, uv] [] σ11)))))) ∧ ((σ7 324 (σ7 321 12)) = 24 → (Q 6 σ7)))))) ∧ (¬ r7 = 0 → (Q 4 σ7)))))))))) ∧ (r1 < 0 → (Q 1 σ1)))))) : Jt mX12_clause (d + 1) 0 t Q 0 [rv 321, uv, uv, uv, uv] [] σ := by
  refine s_aload_n (i := 0) rfl (show decode cX12_clause 0 = .ok (.aload_n 0, 1) by decide +kernel) ?_
  refine j_ctV (m' := mX12_sortOf) (As := []) (ci := 12) (tag := 0) (N := 0) (cw_X12_241 rfl) (show decode cX12_clause 1 = .ok (.invokevirtual 241, 3) by decide +kernel) rfl (Nat.le_of_ble_eq_true rfl) (by decide) okl_321 rfl rfl (Nat.le_refl _) h (fun r1 σ1 h => ?_)
  refine s_ist_n (i := 1) (L' := [rv 321, iv r1, uv, uv, uv]) rfl (by decide) (show decode cX12_clause 4 = .ok (.istore_n 1, 1) by decide +kernel) ?_
  refine j_iload_n (i := 1) rfl (show decode cX12_clause 5 = .ok (.iload_n 1, 1) by decide +kernel) ?_
  have hr1 := h.1
  have h := h.2
  refine j_if_ge (tgt := 11) hr1 (show decode cX12_clause 6 = .ok (.ifCond .ge 5, 3) by decide +kernel) (by decide) (fun c => ?_) (fun c => ?_)
  · have h := h.1 c
    refine j_iload_n (i := 1) rfl (show decode cX12_clause 11 = .ok (.iload_n 1, 1) by decide +kernel) ?_
    refine j_iconst (show decode cX12_clause 12 = .ok (.iconst 1, 1) by decide +kernel) ?_
    have hr2 := h.1
    have h := h.2
    refine j_icmp_gt (tgt := 29) hr2 (inl (by decide)) (show decode cX12_clause 13 = .ok (.if_icmp .gt 16, 3) by decide +kernel) (by decide) (fun c => ?_) (fun c => ?_)
    · have h := h.1 c
      refine s_aload_n (i := 0) rfl (show decode cX12_clause 29 = .ok (.aload_n 0, 1) by decide +kernel) ?_
      refine gf_X12_16 (x := 324) rfl (show decode cX12_clause 30 = .ok (.getfield 16, 3) by decide +kernel) okl_321 rfl ?_
      refine s_aload_n (i := 0) rfl (show decode cX12_clause 33 = .ok (.aload_n 0, 1) by decide +kernel) ?_
      refine gf_X12_151 rfl (show decode cX12_clause 34 = .ok (.getfield 151, 3) by decide +kernel) okl_321 ?_
      refine s_iald (show decode cX12_clause 37 = .ok (.iaload, 1) by decide +kernel) okl_324 h.1 ?_
      have h := h.2
      refine s_ist_n (i := 2) (L' := [rv 321, iv r1, iv (σ1 324 (σ1 321 12)), uv, uv]) rfl (by decide) (show decode cX12_clause 38 = .ok (.istore_n 2, 1) by decide +kernel) ?_
      refine j_iload_n (i := 2) rfl (show decode cX12_clause 39 = .ok (.iload_n 2, 1) by decide +kernel) ?_
      refine j_bipush (n := 24) (by decide +kernel) (show decode cX12_clause 40 = .ok (.bipush 24, 2) by decide +kernel) ?_
      have hr3 := h.1
      have h := h.2
      refine j_icmp_ne (tgt := 48) hr3 (inl (by decide)) (show decode cX12_clause 42 = .ok (.if_icmp .ne 6, 3) by decide +kernel) (by decide) (fun c => ?_) (fun c => ?_)
      · have h := h.1 c
        refine j_iload_n (i := 1) rfl (show decode cX12_clause 48 = .ok (.iload_n 1, 1) by decide +kernel) ?_
        refine j_iconst (show decode cX12_clause 49 = .ok (.iconst 1, 1) by decide +kernel) ?_
        have hr4 := h.1
        have h := h.2
        refine j_icmp_gt (tgt := 65) hr4 (inl (by decide)) (show decode cX12_clause 50 = .ok (.if_icmp .gt 15, 3) by decide +kernel) (by decide) (fun c => ?_) (fun c => ?_)
        · have h := h.1 c
          exact h
        · have h := h.2 c
          refine s_aload_n (i := 0) rfl (show decode cX12_clause 53 = .ok (.aload_n 0, 1) by decide +kernel) ?_
          refine j_dup (show (2 : Nat) ≠ 1 by decide) (show decode cX12_clause 54 = .ok (.dup, 1) by decide +kernel) ?_
          refine gf_X12_244 rfl (show decode cX12_clause 55 = .ok (.getfield 244, 3) by decide +kernel) okl_321 ?_
          refine j_iconst (show decode cX12_clause 58 = .ok (.iconst 1, 1) by decide +kernel) ?_
          refine j_iload_n (i := 1) rfl (show decode cX12_clause 59 = .ok (.iload_n 1, 1) by decide +kernel) ?_
          refine j_ishl (show decode cX12_clause 60 = .ok (.ishl, 1) by decide +kernel) ?_
          refine j_ior (show decode cX12_clause 61 = .ok (.ior, 1) by decide +kernel) ?_
          refine pf_X12_244 rfl (show decode cX12_clause 62 = .ok (.putfield 244, 3) by decide +kernel) okl_321 ?_
          obtain ⟨σ6, eσ6⟩ : ∃ z : jM, z = up σ1 321 19 (i_or (σ1 321 19) (i_shl 1 r1)) := ⟨_, rfl⟩
          refine j_sig eσ6 ?_
          have h := h σ6 eσ6
          exact h
      · have h := h.2 c
        refine j_bipush (n := 6) (by decide +kernel) (show decode cX12_clause 45 = .ok (.bipush 6, 2) by decide +kernel) ?_
        exact j_ret (rokI (show decode cX12_clause 47 = .ok (.ireturn, 1) by decide +kernel) rfl) ⟨rfl, rfl, h⟩
    · have h := h.2 c
      refine s_aload_n (i := 0) rfl (show decode cX12_clause 16 = .ok (.aload_n 0, 1) by decide +kernel) ?_
      refine gf_X12_244 rfl (show decode cX12_clause 17 = .ok (.getfield 244, 3) by decide +kernel) okl_321 ?_
      refine j_iload_n (i := 1) rfl (show decode cX12_clause 20 = .ok (.iload_n 1, 1) by decide +kernel) ?_
      refine j_ctS (m' := mX12_has) (As := [iv (σ1 321 19), iv r1]) (tag := 0) (cw_X12_247 rfl) (show decode cX12_clause 21 = .ok (.invokestatic 247, 3) by decide +kernel) rfl (Nat.le_of_ble_eq_true rfl) (by decide) (Nat.le_refl _) h (fun r7 σ7 h => ?_)
      have hr7 := h.1
      have h := h.2
      refine j_if_eq (tgt := 29) hr7 (show decode cX12_clause 24 = .ok (.ifCond .eq 5, 3) by decide +kernel) (by decide) (fun c => ?_) (fun c => ?_)
      · have h := h.1 c
        refine s_aload_n (i := 0) rfl (show decode cX12_clause 29 = .ok (.aload_n 0, 1) by decide +kernel) ?_
        refine gf_X12_16 (x := 324) rfl (show decode cX12_clause 30 = .ok (.getfield 16, 3) by decide +kernel) okl_321 rfl ?_
        refine s_aload_n (i := 0) rfl (show decode cX12_clause 33 = .ok (.aload_n 0, 1) by decide +kernel) ?_
        refine gf_X12_151 rfl (show decode cX12_clause 34 = .ok (.getfield 151, 3) by decide +kernel) okl_321 ?_
        refine s_iald (show decode cX12_clause 37 = .ok (.iaload, 1) by decide +kernel) okl_324 h.1 ?_
        have h := h.2
        refine s_ist_n (i := 2) (L' := [rv 321, iv r1, iv (σ7 324 (σ7 321 12)), uv, uv]) rfl (by decide) (show decode cX12_clause 38 = .ok (.istore_n 2, 1) by decide +kernel) ?_
        refine j_iload_n (i := 2) rfl (show decode cX12_clause 39 = .ok (.iload_n 2, 1) by decide +kernel) ?_
        refine j_bipush (n := 24) (by decide +kernel) (show decode cX12_clause 40 = .ok (.bipush 24, 2) by decide +kernel) ?_
        have hr8 := h.1
        have h := h.2
        refine j_icmp_ne (tgt := 48) hr8 (inl (by decide)) (show decode cX12_clause 42 = .ok (.if_icmp .ne 6, 3) by decide +kernel) (by decide) (fun c => ?_) (fun c => ?_)
        · have h := h.1 c
          refine j_iload_n (i := 1) rfl (show decode cX12_clause 48 = .ok (.iload_n 1, 1) by decide +kernel) ?_
          refine j_iconst (show decode cX12_clause 49 = .ok (.iconst 1, 1) by decide +kernel) ?_
          have hr9 := h.1
          have h := h.2
          refine j_icmp_gt (tgt := 65) hr9 (inl (by decide)) (show decode cX12_clause 50 = .ok (.if_icmp .gt 15, 3) by decide +kernel) (by decide) (fun c => ?_) (fun c => ?_)
          · have h := h.1 c
            exact h
          · have h := h.2 c
            refine s_aload_n (i := 0) rfl (show decode cX12_clause 53 = .ok (.aload_n 0, 1) by decide +kernel) ?_
            refine j_dup (show (2 : Nat) ≠ 1 by decide) (show decode cX12_clause 54 = .ok (.dup, 1) by decide +kernel) ?_
            refine gf_X12_244 rfl (show decode cX12_clause 55 = .ok (.getfield 244, 3) by decide +kernel) okl_321 ?_
            refine j_iconst (show decode cX12_clause 58 = .ok (.iconst 1, 1) by decide +kernel) ?_
            refine j_iload_n (i := 1) rfl (show decode cX12_clause 59 = .ok (.iload_n 1, 1) by decide +kernel) ?_
            refine j_ishl (show decode cX12_clause 60 = .ok (.ishl, 1) by decide +kernel) ?_
            refine j_ior (show decode cX12_clause 61 = .ok (.ior, 1) by decide +kernel) ?_
            refine pf_X12_244 rfl (show decode cX12_clause 62 = .ok (.putfield 244, 3) by decide +kernel) okl_321 ?_
            obtain ⟨σ11, eσ11⟩ : ∃ z : jM, z = up σ7 321 19 (i_or (σ7 321 19) (i_shl 1 r1)) := ⟨_, rfl⟩
            refine j_sig eσ11 ?_
            have h := h σ11 eσ11
            exact h
        · have h := h.2 c
          refine j_bipush (n := 6) (by decide +kernel) (show decode cX12_clause 45 = .ok (.bipush 6, 2) by decide +kernel) ?_
          exact j_ret (rokI (show decode cX12_clause 47 = .ok (.ireturn, 1) by decide +kernel) rfl) ⟨rfl, rfl, h⟩
      · have h := h.2 c
        refine j_iconst (show decode cX12_clause 27 = .ok (.iconst 4, 1) by decide +kernel) ?_
        exact j_ret (rokI (show decode cX12_clause 28 = .ok (.ireturn, 1) by decide +kernel) rfl) ⟨rfl, rfl, h⟩
  · have h := h.2 c
    refine j_iconst (show decode cX12_clause 9 = .ok (.iconst 1, 1) by decide +kernel) ?_
    exact j_ret (rokI (show decode cX12_clause 10 = .ok (.ireturn, 1) by decide +kernel) rfl) ⟨rfl, rfl, h⟩
theorem c_X12_clause {d : Nat} {t : Int} {Q : Int → jM → Prop} {σ : jM} (h : Ct mX12_sortOf d 0 t [rv 321] σ (fun r1 σ1 => ((inR r1) ∧ ((0 ≤ r1 → ((inR r1) ∧ ((1 < r1 → (((0 : Int) ≤ (σ1 321 12) ∧ (σ1 321 12) < 2724) ∧ ((inR (σ1 324 (σ1 321 12))) ∧ ((¬ (σ1 324 (σ1 321 12)) = 24 → ((inR r1) ∧ ((1 < r1 → (Jt mX12_clause (d + 1) 0 t Q 65 [rv 321, iv r1, iv (σ1 324 (σ1 321 12)), uv, uv] [] σ1)) ∧ (r1 ≤ 1 → (∀ σ6 : jM, σ6 = up σ1 321 19 (i_or (σ1 321 19) (i_shl 1 r1)) → (Jt mX12_clause (d + 1) 0 t Q 65 [rv 321, iv r1, iv (σ1 324 (σ1 321 12)), uv, uv] [] σ6)))))) ∧ ((σ1 324 (σ1 321 12)) = 24 → (Q 6 σ1)))))) ∧ (r1 ≤ 1 → (Ct mX12_has d 0 t [iv (σ1 321 19), iv r1] σ1 (fun r7 σ7 => ((inR r7) ∧ ((r7 = 0 → (((0 : Int) ≤ (σ7 321 12) ∧ (σ7 321 12) < 2724) ∧ ((inR (σ7 324 (σ7 321 12))) ∧ ((¬ (σ7 324 (σ7 321 12)) = 24 → ((inR r1) ∧ ((1 < r1 → (Jt mX12_clause (d + 1) 0 t Q 65 [rv 321, iv r1, iv (σ7 324 (σ7 321 12)), uv, uv] [] σ7)) ∧ (r1 ≤ 1 → (∀ σ11 : jM, σ11 = up σ7 321 19 (i_or (σ7 321 19) (i_shl 1 r1)) → (Jt mX12_clause (d + 1) 0 t Q 65 [rv 321, iv r1, iv (σ7 324 (σ7 321 12)), uv, uv] [] σ11)))))) ∧ ((σ7 324 (σ7 321 12)) = 24 → (Q 6 σ7)))))) ∧ (¬ r7 = 0 → (Q 4 σ7)))))))))) ∧ (r1 < 0 → (Q 1 σ1)))))) : Ct mX12_clause (d + 1) 0 t [rv 321] σ Q := Ct_of (by decide +kernel) (Nat.le_of_ble_eq_true rfl) (b_X12_clause_0 h)
set_option maxRecDepth 4000 in
theorem b_X12_readText_43 {d : Nat} {t : Int} {Q : Int → jM → Prop} {σ : jM} (h : (inR (σ 321 9)) ∧ (((σ 321 9) = 0 → (Q 0 σ)) ∧ (¬ (σ 321 9) = 0 → (Ct mX12_clause d 0 t [rv 321] σ (fun r2 σ2 => ((inR r2) ∧ ((r2 = 0 → (Jt mX12_readText (d + 1) 0 t Q 43 [rv 321, uv] [] σ2)) ∧ (¬ r2 = 0 → (Q r2 σ2))))))))) : Jt mX12_readText (d + 1) 0 t Q 43 [rv 321, uv] [] σ := by
  refine s_aload_n (i := 0) rfl (show decode cX12_readText 43 = .ok (.aload_n 0, 1) by decide +kernel) ?_
  refine gf_X12_113 rfl (show decode cX12_readText 44 = .ok (.getfield 113, 3) by decide +kernel) okl_321 ?_
  have hr0 := h.1
  have h := h.2
  refine j_if_eq (tgt := 64) hr0 (show decode cX12_readText 47 = .ok (.ifCond .eq 17, 3) by decide +kernel) (by decide) (fun c => ?_) (fun c => ?_)
  · have h := h.1 c
    refine j_iconst (show decode cX12_readText 64 = .ok (.iconst 0, 1) by decide +kernel) ?_
    exact j_ret (rokI (show decode cX12_readText 65 = .ok (.ireturn, 1) by decide +kernel) rfl) ⟨rfl, rfl, h⟩
  · have h := h.2 c
    refine s_aload_n (i := 0) rfl (show decode cX12_readText 50 = .ok (.aload_n 0, 1) by decide +kernel) ?_
    refine j_ctV (m' := mX12_clause) (As := []) (ci := 12) (tag := 0) (N := 0) (cw_X12_255 rfl) (show decode cX12_readText 51 = .ok (.invokevirtual 255, 3) by decide +kernel) rfl (Nat.le_of_ble_eq_true rfl) (by decide) okl_321 rfl rfl (Nat.le_refl _) h (fun r2 σ2 h => ?_)
    refine s_ist_n (i := 1) (L' := [rv 321, iv r2]) rfl (by decide) (show decode cX12_readText 54 = .ok (.istore_n 1, 1) by decide +kernel) ?_
    refine j_iload_n (i := 1) rfl (show decode cX12_readText 55 = .ok (.iload_n 1, 1) by decide +kernel) ?_
    have hr2 := h.1
    have h := h.2
    refine j_if_eq (tgt := 61) hr2 (show decode cX12_readText 56 = .ok (.ifCond .eq 5, 3) by decide +kernel) (by decide) (fun c => ?_) (fun c => ?_)
    · have h := h.1 c
      refine j_goto (tgt := 43) (show decode cX12_readText 61 = .ok (.goto (-18), 3) by decide +kernel) (by decide) ?_
      refine j_drop 1 ?_
      exact h
    · have h := h.2 c
      refine j_iload_n (i := 1) rfl (show decode cX12_readText 59 = .ok (.iload_n 1, 1) by decide +kernel) ?_
      exact j_ret (rokI (show decode cX12_readText 60 = .ok (.ireturn, 1) by decide +kernel) rfl) ⟨rfl, rfl, h⟩
set_option maxRecDepth 4000 in
theorem b_X12_readText_0 {d : Nat} {t : Int} {Q : Int → jM → Prop} {σ : jM} (h : ((0 : Int) ≤ 0 ∧ (0 : Int) < 2208) ∧ (∀ σ1 : jM, σ1 = up σ 321 12 (681 * (σ 322 0)) → (((0 : Int) ≤ (σ1 321 12) ∧ (σ1 321 12) < 2724) ∧ (∀ σ3 : jM, σ3 = up σ1 324 (σ1 321 12) 0 → (∀ σ4 : jM, σ4 = up σ3 321 13 0 → (∀ σ5 : jM, σ5 = up σ4 321 19 0 → (∀ σ6 : jM, σ6 = up σ5 321 7 0 → (Ct mX12_nextToken d 9 t [rv 321] σ6 (fun r7 σ7 => (Jt mX12_readText (d + 1) 0 t Q 43 [rv 321, uv] [] σ7)))))))))) : Jt mX12_readText (d + 1) 0 t Q 0 [rv 321, uv] [] σ := by
  refine s_aload_n (i := 0) rfl (show decode cX12_readText 0 = .ok (.aload_n 0, 1) by decide +kernel) ?_
  refine j_sipush (n := 681) (by decide +kernel) (show decode cX12_readText 1 = .ok (.sipush 681, 3) by decide +kernel) ?_
  refine s_aload_n (i := 0) rfl (show decode cX12_readText 4 = .ok (.aload_n 0, 1) by decide +kernel) ?_
  refine gf_X12_7 (x := 322) rfl (show decode cX12_readText 5 = .ok (.getfield 7, 3) by decide +kernel) okl_321 rfl ?_
  refine j_iconst (show decode cX12_readText 8 = .ok (.iconst 0, 1) by decide +kernel) ?_
  refine s_iald (show decode cX12_readText 9 = .ok (.iaload, 1) by decide +kernel) okl_322 h.1 ?_
  have h := h.2
  refine j_imul (show decode cX12_readText 10 = .ok (.imul, 1) by decide +kernel) ?_
  refine pf_X12_151 rfl (show decode cX12_readText 11 = .ok (.putfield 151, 3) by decide +kernel) okl_321 ?_
  obtain ⟨σ1, eσ1⟩ : ∃ z : jM, z = up σ 321 12 (681 * (σ 322 0)) := ⟨_, rfl⟩
  refine j_sig eσ1 ?_
  have h := h σ1 eσ1
  refine s_aload_n (i := 0) rfl (show decode cX12_readText 14 = .ok (.aload_n 0, 1) by decide +kernel) ?_
  refine gf_X12_16 (x := 324) rfl (show decode cX12_readText 15 = .ok (.getfield 16, 3) by decide +kernel) okl_321 rfl ?_
  refine s_aload_n (i := 0) rfl (show decode cX12_readText 18 = .ok (.aload_n 0, 1) by decide +kernel) ?_
  refine gf_X12_151 rfl (show decode cX12_readText 19 = .ok (.getfield 151, 3) by decide +kernel) okl_321 ?_
  refine j_iconst (show decode cX12_readText 22 = .ok (.iconst 0, 1) by decide +kernel) ?_
  have hb1 := h.1
  have h := h.2
  refine s_iast (show decode cX12_readText 23 = .ok (.iastore, 1) by decide +kernel) okl_324 hb1 ?_
  obtain ⟨σ3, eσ3⟩ : ∃ z : jM, z = up σ1 324 (σ1 321 12) 0 := ⟨_, rfl⟩
  refine j_sig eσ3 ?_
  have h := h σ3 eσ3
  refine s_aload_n (i := 0) rfl (show decode cX12_readText 24 = .ok (.aload_n 0, 1) by decide +kernel) ?_
  refine j_iconst (show decode cX12_readText 25 = .ok (.iconst 0, 1) by decide +kernel) ?_
  refine pf_X12_154 rfl (show decode cX12_readText 26 = .ok (.putfield 154, 3) by decide +kernel) okl_321 ?_
  obtain ⟨σ4, eσ4⟩ : ∃ z : jM, z = up σ3 321 13 0 := ⟨_, rfl⟩
  refine j_sig eσ4 ?_
  have h := h σ4 eσ4
  refine s_aload_n (i := 0) rfl (show decode cX12_readText 29 = .ok (.aload_n 0, 1) by decide +kernel) ?_
  refine j_iconst (show decode cX12_readText 30 = .ok (.iconst 0, 1) by decide +kernel) ?_
  refine pf_X12_244 rfl (show decode cX12_readText 31 = .ok (.putfield 244, 3) by decide +kernel) okl_321 ?_
  obtain ⟨σ5, eσ5⟩ : ∃ z : jM, z = up σ4 321 19 0 := ⟨_, rfl⟩
  refine j_sig eσ5 ?_
  have h := h σ5 eσ5
  refine s_aload_n (i := 0) rfl (show decode cX12_readText 34 = .ok (.aload_n 0, 1) by decide +kernel) ?_
  refine j_iconst (show decode cX12_readText 35 = .ok (.iconst 0, 1) by decide +kernel) ?_
  refine pf_X12_103 rfl (show decode cX12_readText 36 = .ok (.putfield 103, 3) by decide +kernel) okl_321 ?_
  obtain ⟨σ6, eσ6⟩ : ∃ z : jM, z = up σ5 321 7 0 := ⟨_, rfl⟩
  refine j_sig eσ6 ?_
  have h := h σ6 eσ6
  refine s_aload_n (i := 0) rfl (show decode cX12_readText 39 = .ok (.aload_n 0, 1) by decide +kernel) ?_
  refine j_ctVv (m' := mX12_nextToken) (As := []) (ci := 12) (N := 0) (cw_X12_184 rfl) (show decode cX12_readText 40 = .ok (.invokevirtual 184, 3) by decide +kernel) rfl (Nat.le_of_ble_eq_true rfl) okl_321 rfl rfl (Nat.le_refl _) h (fun r7 σ7 h => ?_)
  exact h
theorem c_X12_readText {d : Nat} {t : Int} {Q : Int → jM → Prop} {σ : jM} (h : ((0 : Int) ≤ 0 ∧ (0 : Int) < 2208) ∧ (∀ σ1 : jM, σ1 = up σ 321 12 (681 * (σ 322 0)) → (((0 : Int) ≤ (σ1 321 12) ∧ (σ1 321 12) < 2724) ∧ (∀ σ3 : jM, σ3 = up σ1 324 (σ1 321 12) 0 → (∀ σ4 : jM, σ4 = up σ3 321 13 0 → (∀ σ5 : jM, σ5 = up σ4 321 19 0 → (∀ σ6 : jM, σ6 = up σ5 321 7 0 → (Ct mX12_nextToken d 9 t [rv 321] σ6 (fun r7 σ7 => (Jt mX12_readText (d + 1) 0 t Q 43 [rv 321, uv] [] σ7)))))))))) : Ct mX12_readText (d + 1) 0 t [rv 321] σ Q := Ct_of (by decide +kernel) (Nat.le_of_ble_eq_true rfl) (b_X12_readText_0 h)
set_option maxRecDepth 4000 in
theorem b_X12_text_0 {d : Nat} {t : Int} {Q : Int → jM → Prop} {σ : jM} (h : ((0 : Int) ≤ 0 ∧ (0 : Int) < 2208) ∧ ((inR (σ 322 0)) ∧ ((¬ (σ 322 0) = 4 → (Ct mX12_readText d 0 t [rv 321] σ (fun r2 σ2 => (∀ σ3 : jM, σ3 = up σ2 321 5 r2 → ((inR (σ3 321 5)) ∧ ((¬ (σ3 321 5) = 0 → (∀ σ5 : jM, σ5 = up σ3 321 6 (σ3 321 8) → (∀ σ6 : jM, σ6 = up σ5 321 4 0 → ((inR (σ6 321 5)) ∧ (((σ6 321 5) = 0 → (((0 : Int) ≤ 0 ∧ (0 : Int) < 2208) ∧ (((0 : Int) ≤ 0 ∧ (0 : Int) < 2208) ∧ (∀ σ9 : jM, σ9 = up σ6 322 0 ((σ6 322 0) + 1) → (((0 : Int) ≤ 0 ∧ (0 : Int) < 2208) ∧ (Q ((σ9 322 0) - 1) σ9)))))) ∧ (¬ (σ6 321 5) = 0 → (Q (-1) σ6))))))) ∧ ((σ3 321 5) = 0 → (∀ σ10 : jM, σ10 = up σ3 321 6 (-1) → (∀ σ11 : jM, σ11 = up σ10 321 4 0 → ((inR (σ11 321 5)) ∧ (((σ11 321 5) = 0 → (((0 : Int) ≤ 0 ∧ (0 : Int) < 2208) ∧ (((0 : Int) ≤ 0 ∧ (0 : Int) < 2208) ∧ (∀ σ14 : jM, σ14 = up σ11 322 0 ((σ11 322 0) + 1) → (((0 : Int) ≤ 0 ∧ (0 : Int) < 2208) ∧ (Q ((σ14 322 0) - 1) σ14)))))) ∧ (¬ (σ11 321 5) = 0 → (Q (-1) σ11))))))))))))) ∧ ((σ 322 0) = 4 → (Q (-1) σ))))) : Jt mX12_text (d + 1) 0 t Q 0 [rv 321] [] σ := by
  refine s_aload_n (i := 0) rfl (show decode cX12_text 0 = .ok (.aload_n 0, 1) by decide +kernel) ?_
  refine gf_X12_7 (x := 322) rfl (show decode cX12_text 1 = .ok (.getfield 7, 3) by decide +kernel) okl_321 rfl ?_
  refine j_iconst (show decode cX12_text 4 = .ok (.iconst 0, 1) by decide +kernel) ?_
  refine s_iald (show decode cX12_text 5 = .ok (.iaload, 1) by decide +kernel) okl_322 h.1 ?_
  have h := h.2
  refine j_iconst (show decode cX12_text 6 = .ok (.iconst 4, 1) by decide +kernel) ?_
  have hr0 := h.1
  have h := h.2
  refine j_icmp_ne (tgt := 12) hr0 (inl (by decide)) (show decode cX12_text 7 = .ok (.if_icmp .ne 5, 3) by decide +kernel) (by decide) (fun c => ?_) (fun c => ?_)
  · have h := h.1 c
    refine s_aload_n (i := 0) rfl (show decode cX12_text 12 = .ok (.aload_n 0, 1) by decide +kernel) ?_
    refine s_aload_n (i := 0) rfl (show decode cX12_text 13 = .ok (.aload_n 0, 1) by decide +kernel) ?_
    refine j_ctV (m' := mX12_readText) (As := []) (ci := 12) (tag := 0) (N := 0) (cw_X12_258 rfl) (show decode cX12_text 14 = .ok (.invokevirtual 258, 3) by decide +kernel) rfl (Nat.le_of_ble_eq_true rfl) (by decide) okl_321 rfl rfl (Nat.le_refl _) h (fun r2 σ2 h => ?_)
    refine pf_X12_22 rfl (show decode cX12_text 17 = .ok (.putfield 22, 3) by decide +kernel) okl_321 ?_
    obtain ⟨σ3, eσ3⟩ : ∃ z : jM, z = up σ2 321 5 r2 := ⟨_, rfl⟩
    refine j_sig eσ3 ?_
    have h := h σ3 eσ3
    refine s_aload_n (i := 0) rfl (show decode cX12_text 20 = .ok (.aload_n 0, 1) by decide +kernel) ?_
    refine s_aload_n (i := 0) rfl (show decode cX12_text 21 = .ok (.aload_n 0, 1) by decide +kernel) ?_
    refine gf_X12_22 rfl (show decode cX12_text 22 = .ok (.getfield 22, 3) by decide +kernel) okl_321 ?_
    have hr3 := h.1
    have h := h.2
    refine j_if_ne (tgt := 32) hr3 (show decode cX12_text 25 = .ok (.ifCond .ne 7, 3) by decide +kernel) (by decide) (fun c => ?_) (fun c => ?_)
    · have h := h.1 c
      refine s_aload_n (i := 0) rfl (show decode cX12_text 32 = .ok (.aload_n 0, 1) by decide +kernel) ?_
      refine gf_X12_110 rfl (show decode cX12_text 33 = .ok (.getfield 110, 3) by decide +kernel) okl_321 ?_
      refine pf_X12_26 rfl (show decode cX12_text 36 = .ok (.putfield 26, 3) by decide +kernel) okl_321 ?_
      obtain ⟨σ5, eσ5⟩ : ∃ z : jM, z = up σ3 321 6 (σ3 321 8) := ⟨_, rfl⟩
      refine j_sig eσ5 ?_
      have h := h σ5 eσ5
      refine s_aload_n (i := 0) rfl (show decode cX12_text 39 = .ok (.aload_n 0, 1) by decide +kernel) ?_
      refine j_iconst (show decode cX12_text 40 = .ok (.iconst 0, 1) by decide +kernel) ?_
      refine pf_X12_96 rfl (show decode cX12_text 41 = .ok (.putfield 96, 3) by decide +kernel) okl_321 ?_
      obtain ⟨σ6, eσ6⟩ : ∃ z : jM, z = up σ5 321 4 0 := ⟨_, rfl⟩
      refine j_sig eσ6 ?_
      have h := h σ6 eσ6
      refine s_aload_n (i := 0) rfl (show decode cX12_text 44 = .ok (.aload_n 0, 1) by decide +kernel) ?_
      refine gf_X12_22 rfl (show decode cX12_text 45 = .ok (.getfield 22, 3) by decide +kernel) okl_321 ?_
      have hr6 := h.1
      have h := h.2
      refine j_if_eq (tgt := 53) hr6 (show decode cX12_text 48 = .ok (.ifCond .eq 5, 3) by decide +kernel) (by decide) (fun c => ?_) (fun c => ?_)
      · have h := h.1 c
        refine s_aload_n (i := 0) rfl (show decode cX12_text 53 = .ok (.aload_n 0, 1) by decide +kernel) ?_
        refine gf_X12_7 (x := 322) rfl (show decode cX12_text 54 = .ok (.getfield 7, 3) by decide +kernel) okl_321 rfl ?_
        refine j_iconst (show decode cX12_text 57 = .ok (.iconst 0, 1) by decide +kernel) ?_
        refine j_dup2 (show (0 : Nat) ≠ 1 by decide) (show (2 : Nat) ≠ 1 by decide) (show decode cX12_text 58 = .ok (.dup2, 1) by decide +kernel) ?_
        refine s_iald (show decode cX12_text 59 = .ok (.iaload, 1) by decide +kernel) okl_322 h.1 ?_
        have h := h.2
        refine j_iconst (show decode cX12_text 60 = .ok (.iconst 1, 1) by decide +kernel) ?_
        refine j_iadd (show decode cX12_text 61 = .ok (.iadd, 1) by decide +kernel) ?_
        have hb7 := h.1
        have h := h.2
        refine s_iast (show decode cX12_text 62 = .ok (.iastore, 1) by decide +kernel) okl_322 hb7 ?_
        obtain ⟨σ9, eσ9⟩ : ∃ z : jM, z = up σ6 322 0 ((σ6 322 0) + 1) := ⟨_, rfl⟩
        refine j_sig eσ9 ?_
        have h := h σ9 eσ9
        refine s_aload_n (i := 0) rfl (show decode cX12_text 63 = .ok (.aload_n 0, 1) by decide +kernel) ?_
        refine gf_X12_7 (x := 322) rfl (show decode cX12_text 64 = .ok (.getfield 7, 3) by decide +kernel) okl_321 rfl ?_
        refine j_iconst (show decode cX12_text 67 = .ok (.iconst 0, 1) by decide +kernel) ?_
        refine s_iald (show decode cX12_text 68 = .ok (.iaload, 1) by decide +kernel) okl_322 h.1 ?_
        have h := h.2
        refine j_iconst (show decode cX12_text 69 = .ok (.iconst 1, 1) by decide +kernel) ?_
        refine j_isub (show decode cX12_text 70 = .ok (.isub, 1) by decide +kernel) ?_
        exact j_ret (rokI (show decode cX12_text 71 = .ok (.ireturn, 1) by decide +kernel) rfl) ⟨rfl, rfl, h⟩
      · have h := h.2 c
        refine j_iconst (show decode cX12_text 51 = .ok (.iconst (-1), 1) by decide +kernel) ?_
        exact j_ret (rokI (show decode cX12_text 52 = .ok (.ireturn, 1) by decide +kernel) rfl) ⟨rfl, rfl, h⟩
    · have h := h.2 c
      refine j_iconst (show decode cX12_text 28 = .ok (.iconst (-1), 1) by decide +kernel) ?_
      refine j_goto (tgt := 36) (show decode cX12_text 29 = .ok (.goto 7, 3) by decide +kernel) (by decide) ?_
      refine pf_X12_26 rfl (show decode cX12_text 36 = .ok (.putfield 26, 3) by decide +kernel) okl_321 ?_
      obtain ⟨σ10, eσ10⟩ : ∃ z : jM, z = up σ3 321 6 (-1) := ⟨_, rfl⟩
      refine j_sig eσ10 ?_
      have h := h σ10 eσ10
      refine s_aload_n (i := 0) rfl (show decode cX12_text 39 = .ok (.aload_n 0, 1) by decide +kernel) ?_
      refine j_iconst (show decode cX12_text 40 = .ok (.iconst 0, 1) by decide +kernel) ?_
      refine pf_X12_96 rfl (show decode cX12_text 41 = .ok (.putfield 96, 3) by decide +kernel) okl_321 ?_
      obtain ⟨σ11, eσ11⟩ : ∃ z : jM, z = up σ10 321 4 0 := ⟨_, rfl⟩
      refine j_sig eσ11 ?_
      have h := h σ11 eσ11
      refine s_aload_n (i := 0) rfl (show decode cX12_text 44 = .ok (.aload_n 0, 1) by decide +kernel) ?_
      refine gf_X12_22 rfl (show decode cX12_text 45 = .ok (.getfield 22, 3) by decide +kernel) okl_321 ?_
      have hr11 := h.1
      have h := h.2
      refine j_if_eq (tgt := 53) hr11 (show decode cX12_text 48 = .ok (.ifCond .eq 5, 3) by decide +kernel) (by decide) (fun c => ?_) (fun c => ?_)
      · have h := h.1 c
        refine s_aload_n (i := 0) rfl (show decode cX12_text 53 = .ok (.aload_n 0, 1) by decide +kernel) ?_
        refine gf_X12_7 (x := 322) rfl (show decode cX12_text 54 = .ok (.getfield 7, 3) by decide +kernel) okl_321 rfl ?_
        refine j_iconst (show decode cX12_text 57 = .ok (.iconst 0, 1) by decide +kernel) ?_
        refine j_dup2 (show (0 : Nat) ≠ 1 by decide) (show (2 : Nat) ≠ 1 by decide) (show decode cX12_text 58 = .ok (.dup2, 1) by decide +kernel) ?_
        refine s_iald (show decode cX12_text 59 = .ok (.iaload, 1) by decide +kernel) okl_322 h.1 ?_
        have h := h.2
        refine j_iconst (show decode cX12_text 60 = .ok (.iconst 1, 1) by decide +kernel) ?_
        refine j_iadd (show decode cX12_text 61 = .ok (.iadd, 1) by decide +kernel) ?_
        have hb12 := h.1
        have h := h.2
        refine s_iast (show decode cX12_text 62 = .ok (.iastore, 1) by decide +kernel) okl_322 hb12 ?_
        obtain ⟨σ14, eσ14⟩ : ∃ z : jM, z = up σ11 322 0 ((σ11 322 0) + 1) := ⟨_, rfl⟩
        refine j_sig eσ14 ?_
        have h := h σ14 eσ14
        refine s_aload_n (i := 0) rfl (show decode cX12_text 63 = .ok (.aload_n 0, 1) by decide +kernel) ?_
        refine gf_X12_7 (x := 322) rfl (show decode cX12_text 64 = .ok (.getfield 7, 3) by decide +kernel) okl_321 rfl ?_
        refine j_iconst (show decode cX12_text 67 = .ok (.iconst 0, 1) by decide +kernel) ?_
        refine s_iald (show decode cX12_text 68 = .ok (.iaload, 1) by decide +kernel) okl_322 h.1 ?_
        have h := h.2
        refine j_iconst (show decode cX12_text 69 = .ok (.iconst 1, 1) by decide +kernel) ?_
        refine j_isub (show decode cX12_text 70 = .ok (.isub, 1) by decide +kernel) ?_
        exact j_ret (rokI (show decode cX12_text 71 = .ok (.ireturn, 1) by decide +kernel) rfl) ⟨rfl, rfl, h⟩
      · have h := h.2 c
        refine j_iconst (show decode cX12_text 51 = .ok (.iconst (-1), 1) by decide +kernel) ?_
        exact j_ret (rokI (show decode cX12_text 52 = .ok (.ireturn, 1) by decide +kernel) rfl) ⟨rfl, rfl, h⟩
  · have h := h.2 c
    refine j_iconst (show decode cX12_text 10 = .ok (.iconst (-1), 1) by decide +kernel) ?_
    exact j_ret (rokI (show decode cX12_text 11 = .ok (.ireturn, 1) by decide +kernel) rfl) ⟨rfl, rfl, h⟩
theorem c_X12_text {d : Nat} {t : Int} {Q : Int → jM → Prop} {σ : jM} (h : ((0 : Int) ≤ 0 ∧ (0 : Int) < 2208) ∧ ((inR (σ 322 0)) ∧ ((¬ (σ 322 0) = 4 → (Ct mX12_readText d 0 t [rv 321] σ (fun r2 σ2 => (∀ σ3 : jM, σ3 = up σ2 321 5 r2 → ((inR (σ3 321 5)) ∧ ((¬ (σ3 321 5) = 0 → (∀ σ5 : jM, σ5 = up σ3 321 6 (σ3 321 8) → (∀ σ6 : jM, σ6 = up σ5 321 4 0 → ((inR (σ6 321 5)) ∧ (((σ6 321 5) = 0 → (((0 : Int) ≤ 0 ∧ (0 : Int) < 2208) ∧ (((0 : Int) ≤ 0 ∧ (0 : Int) < 2208) ∧ (∀ σ9 : jM, σ9 = up σ6 322 0 ((σ6 322 0) + 1) → (((0 : Int) ≤ 0 ∧ (0 : Int) < 2208) ∧ (Q ((σ9 322 0) - 1) σ9)))))) ∧ (¬ (σ6 321 5) = 0 → (Q (-1) σ6))))))) ∧ ((σ3 321 5) = 0 → (∀ σ10 : jM, σ10 = up σ3 321 6 (-1) → (∀ σ11 : jM, σ11 = up σ10 321 4 0 → ((inR (σ11 321 5)) ∧ (((σ11 321 5) = 0 → (((0 : Int) ≤ 0 ∧ (0 : Int) < 2208) ∧ (((0 : Int) ≤ 0 ∧ (0 : Int) < 2208) ∧ (∀ σ14 : jM, σ14 = up σ11 322 0 ((σ11 322 0) + 1) → (((0 : Int) ≤ 0 ∧ (0 : Int) < 2208) ∧ (Q ((σ14 322 0) - 1) σ14)))))) ∧ (¬ (σ11 321 5) = 0 → (Q (-1) σ11))))))))))))) ∧ ((σ 322 0) = 4 → (Q (-1) σ))))) : Ct mX12_text (d + 1) 0 t [rv 321] σ Q := Ct_of (by decide +kernel) (Nat.le_of_ble_eq_true rfl) (b_X12_text_0 h)
set_option maxRecDepth 4000 in
theorem b_X12_fault_0 {d : Nat} {t : Int} {Q : Int → jM → Prop} {σ : jM} {p1 : Int} (h : (inR p1) ∧ ((¬ p1 = 0 → ((inR p1) ∧ ((¬ p1 = 1 → (Q (-1) σ)) ∧ (p1 = 1 → (Q (σ 321 6) σ))))) ∧ (p1 = 0 → (Q (σ 321 5) σ)))) : Jt mX12_fault (d) 0 t Q 0 [rv 321, iv p1] [] σ := by
  refine j_iload_n (i := 1) rfl (show decode cX12_fault 0 = .ok (.iload_n 1, 1) by decide +kernel) ?_
  have hr0 := h.1
  have h := h.2
  refine j_if_ne (tgt := 11) hr0 (show decode cX12_fault 1 = .ok (.ifCond .ne 10, 3) by decide +kernel) (by decide) (fun c => ?_) (fun c => ?_)
  · have h := h.1 c
    refine j_iload_n (i := 1) rfl (show decode cX12_fault 11 = .ok (.iload_n 1, 1) by decide +kernel) ?_
    refine j_iconst (show decode cX12_fault 12 = .ok (.iconst 1, 1) by decide +kernel) ?_
    have hr1 := h.1
    have h := h.2
    refine j_icmp_ne (tgt := 23) hr1 (inl (by decide)) (show decode cX12_fault 13 = .ok (.if_icmp .ne 10, 3) by decide +kernel) (by decide) (fun c => ?_) (fun c => ?_)
    · have h := h.1 c
      refine j_iconst (show decode cX12_fault 23 = .ok (.iconst (-1), 1) by decide +kernel) ?_
      exact j_ret (rokI (show decode cX12_fault 24 = .ok (.ireturn, 1) by decide +kernel) rfl) ⟨rfl, rfl, h⟩
    · have h := h.2 c
      refine s_aload_n (i := 0) rfl (show decode cX12_fault 16 = .ok (.aload_n 0, 1) by decide +kernel) ?_
      refine gf_X12_26 rfl (show decode cX12_fault 17 = .ok (.getfield 26, 3) by decide +kernel) okl_321 ?_
      refine j_goto (tgt := 24) (show decode cX12_fault 20 = .ok (.goto 4, 3) by decide +kernel) (by decide) ?_
      exact j_ret (rokI (show decode cX12_fault 24 = .ok (.ireturn, 1) by decide +kernel) rfl) ⟨rfl, rfl, h⟩
  · have h := h.2 c
    refine s_aload_n (i := 0) rfl (show decode cX12_fault 4 = .ok (.aload_n 0, 1) by decide +kernel) ?_
    refine gf_X12_22 rfl (show decode cX12_fault 5 = .ok (.getfield 22, 3) by decide +kernel) okl_321 ?_
    refine j_goto (tgt := 24) (show decode cX12_fault 8 = .ok (.goto 16, 3) by decide +kernel) (by decide) ?_
    exact j_ret (rokI (show decode cX12_fault 24 = .ok (.ireturn, 1) by decide +kernel) rfl) ⟨rfl, rfl, h⟩
theorem c_X12_fault {d : Nat} {t : Int} {Q : Int → jM → Prop} {σ : jM} {p1 : Int} (h : (inR p1) ∧ ((¬ p1 = 0 → ((inR p1) ∧ ((¬ p1 = 1 → (Q (-1) σ)) ∧ (p1 = 1 → (Q (σ 321 6) σ))))) ∧ (p1 = 0 → (Q (σ 321 5) σ)))) : Ct mX12_fault (d) 0 t [rv 321, iv p1] σ Q := Ct_of (by decide +kernel) (Nat.le_of_ble_eq_true rfl) (b_X12_fault_0 h)
set_option maxRecDepth 4000 in
theorem b_X12_by_0 {d : Nat} {t : Int} {Q : Int → jM → Prop} {σ : jM} {p1 : Int} (h : ((0 : Int) ≤ 0 ∧ (0 : Int) < 2208) ∧ (Ct mX12_isIn d 0 t [iv p1, iv (-1), iv ((σ 322 0) - 1)] σ (fun r1 σ1 => ((inR r1) ∧ ((¬ r1 = 0 → (((0 : Int) ≤ 1 ∧ (1 : Int) < 2208) ∧ (∀ σ4 : jM, σ4 = up σ1 322 1 p1 → (Q 1 σ4)))) ∧ (r1 = 0 → (Q 0 σ1))))))) : Jt mX12_by (d + 1) 0 t Q 0 [rv 321, iv p1] [] σ := by
  refine j_iload_n (i := 1) rfl (show decode cX12_by 0 = .ok (.iload_n 1, 1) by decide +kernel) ?_
  refine j_iconst (show decode cX12_by 1 = .ok (.iconst (-1), 1) by decide +kernel) ?_
  refine s_aload_n (i := 0) rfl (show decode cX12_by 2 = .ok (.aload_n 0, 1) by decide +kernel) ?_
  refine gf_X12_7 (x := 322) rfl (show decode cX12_by 3 = .ok (.getfield 7, 3) by decide +kernel) okl_321 rfl ?_
  refine j_iconst (show decode cX12_by 6 = .ok (.iconst 0, 1) by decide +kernel) ?_
  refine s_iald (show decode cX12_by 7 = .ok (.iaload, 1) by decide +kernel) okl_322 h.1 ?_
  have h := h.2
  refine j_iconst (show decode cX12_by 8 = .ok (.iconst 1, 1) by decide +kernel) ?_
  refine j_isub (show decode cX12_by 9 = .ok (.isub, 1) by decide +kernel) ?_
  refine j_ctS (m' := mX12_isIn) (As := [iv p1, iv (-1), iv ((σ 322 0) - 1)]) (tag := 0) (cw_X12_85 rfl) (show decode cX12_by 10 = .ok (.invokestatic 85, 3) by decide +kernel) rfl (Nat.le_of_ble_eq_true rfl) (by decide) (Nat.le_refl _) h (fun r1 σ1 h => ?_)
  have hr1 := h.1
  have h := h.2
  refine j_if_ne (tgt := 18) hr1 (show decode cX12_by 13 = .ok (.ifCond .ne 5, 3) by decide +kernel) (by decide) (fun c => ?_) (fun c => ?_)
  · have h := h.1 c
    refine s_aload_n (i := 0) rfl (show decode cX12_by 18 = .ok (.aload_n 0, 1) by decide +kernel) ?_
    refine gf_X12_7 (x := 322) rfl (show decode cX12_by 19 = .ok (.getfield 7, 3) by decide +kernel) okl_321 rfl ?_
    refine j_iconst (show decode cX12_by 22 = .ok (.iconst 1, 1) by decide +kernel) ?_
    refine j_iload_n (i := 1) rfl (show decode cX12_by 23 = .ok (.iload_n 1, 1) by decide +kernel) ?_
    have hb2 := h.1
    have h := h.2
    refine s_iast (show decode cX12_by 24 = .ok (.iastore, 1) by decide +kernel) okl_322 hb2 ?_
    obtain ⟨σ4, eσ4⟩ : ∃ z : jM, z = up σ1 322 1 p1 := ⟨_, rfl⟩
    refine j_sig eσ4 ?_
    have h := h σ4 eσ4
    refine j_iconst (show decode cX12_by 25 = .ok (.iconst 1, 1) by decide +kernel) ?_
    exact j_ret (rokZ (show decode cX12_by 26 = .ok (.ireturn, 1) by decide +kernel) rfl (Or.inr rfl)) ⟨rfl, rfl, h⟩
  · have h := h.2 c
    refine j_iconst (show decode cX12_by 16 = .ok (.iconst 0, 1) by decide +kernel) ?_
    exact j_ret (rokZ (show decode cX12_by 17 = .ok (.ireturn, 1) by decide +kernel) rfl (Or.inl rfl)) ⟨rfl, rfl, h⟩
theorem c_X12_by {d : Nat} {t : Int} {Q : Int → jM → Prop} {σ : jM} {p1 : Int} (h : ((0 : Int) ≤ 0 ∧ (0 : Int) < 2208) ∧ (Ct mX12_isIn d 0 t [iv p1, iv (-1), iv ((σ 322 0) - 1)] σ (fun r1 σ1 => ((inR r1) ∧ ((¬ r1 = 0 → (((0 : Int) ≤ 1 ∧ (1 : Int) < 2208) ∧ (∀ σ4 : jM, σ4 = up σ1 322 1 p1 → (Q 1 σ4)))) ∧ (r1 = 0 → (Q 0 σ1))))))) : Ct mX12_by (d + 1) 0 t [rv 321, iv p1] σ Q := Ct_of (by decide +kernel) (Nat.le_of_ble_eq_true rfl) (b_X12_by_0 h)
set_option maxRecDepth 4000 in
theorem b_X12_clip_0 {d : Nat} {t : Int} {Q : Int → jM → Prop} {σ : jM} {p0 : Int} (h : (inL p0) ∧ ((p0 ≤ 1000000 → ((inL p0) ∧ (((-1000000) ≤ p0 → (Q p0 σ)) ∧ (p0 < (-1000000) → (Q (-1000000) σ))))) ∧ (1000000 < p0 → (Q 1000000 σ)))) : Jt mX12_clip (d) 1 t Q 0 [jv p0, uv] [] σ := by
  refine j_lload_n (i := 0) rfl (show decode cX12_clip 0 = .ok (.lload_n 0, 1) by decide +kernel) ?_
  refine j_ldc2 (x := 1000000) (tt_in 1597 (by decide +kernel) rfl) (show decode cX12_clip 1 = .ok (.ldc2_w 261, 3) by decide +kernel) ?_
  have hr0 := h.1
  have h := h.2
  refine s_lif_le (tgt := 14) hr0 (inll (by decide)) (show decode cX12_clip 4 = .ok (.lcmp, 1) by decide +kernel) (show decode cX12_clip 5 = .ok (.ifCond .le 9, 3) by decide +kernel) (by decide) (fun c => ?_) (fun c => ?_)
  · have h := h.1 c
    refine j_lload_n (i := 0) rfl (show decode cX12_clip 14 = .ok (.lload_n 0, 1) by decide +kernel) ?_
    refine j_ldc2 (x := -1000000) (tt_in 1598 (by decide +kernel) rfl) (show decode cX12_clip 15 = .ok (.ldc2_w 263, 3) by decide +kernel) ?_
    have hr1 := h.1
    have h := h.2
    refine s_lif_ge (tgt := 28) hr1 (inll (by decide)) (show decode cX12_clip 18 = .ok (.lcmp, 1) by decide +kernel) (show decode cX12_clip 19 = .ok (.ifCond .ge 9, 3) by decide +kernel) (by decide) (fun c => ?_) (fun c => ?_)
    · have h := h.1 c
      refine j_lload_n (i := 0) rfl (show decode cX12_clip 28 = .ok (.lload_n 0, 1) by decide +kernel) ?_
      exact j_ret (rokL (show decode cX12_clip 29 = .ok (.lreturn, 1) by decide +kernel) rfl) ⟨rfl, rfl, h⟩
    · have h := h.2 c
      refine j_ldc2 (x := -1000000) (tt_in 1598 (by decide +kernel) rfl) (show decode cX12_clip 22 = .ok (.ldc2_w 263, 3) by decide +kernel) ?_
      refine j_goto (tgt := 29) (show decode cX12_clip 25 = .ok (.goto 4, 3) by decide +kernel) (by decide) ?_
      exact j_ret (rokL (show decode cX12_clip 29 = .ok (.lreturn, 1) by decide +kernel) rfl) ⟨rfl, rfl, h⟩
  · have h := h.2 c
    refine j_ldc2 (x := 1000000) (tt_in 1597 (by decide +kernel) rfl) (show decode cX12_clip 8 = .ok (.ldc2_w 261, 3) by decide +kernel) ?_
    refine j_goto (tgt := 29) (show decode cX12_clip 11 = .ok (.goto 18, 3) by decide +kernel) (by decide) ?_
    exact j_ret (rokL (show decode cX12_clip 29 = .ok (.lreturn, 1) by decide +kernel) rfl) ⟨rfl, rfl, h⟩
theorem c_X12_clip {d : Nat} {t : Int} {Q : Int → jM → Prop} {σ : jM} {p0 : Int} (h : (inL p0) ∧ ((p0 ≤ 1000000 → ((inL p0) ∧ (((-1000000) ≤ p0 → (Q p0 σ)) ∧ (p0 < (-1000000) → (Q (-1000000) σ))))) ∧ (1000000 < p0 → (Q 1000000 σ)))) : Ct mX12_clip (d) 1 t [jv p0] σ Q := Ct_of (by decide +kernel) (Nat.le_of_ble_eq_true rfl) (b_X12_clip_0 h)
set_option maxRecDepth 4000 in
theorem b_X12_two_0 {d : Nat} {t : Int} {Q : Int → jM → Prop} {σ : jM} {p0 p1 p3 : Int} (h : (inR p0) ∧ ((p0 < 6 ∨ 8 < p0 → ((inL p3) ∧ ((¬ p3 = 0 → ((inL p1) ∧ ((inL p3) ∧ ((p3 ≠ 0) ∧ (Ct mX12_clip d 1 t [jv (Int.tdiv p1 p3)] σ (fun r6 σ6 => (Q r6 σ6))))))) ∧ (p3 = 0 → (Q 0 σ))))) ∧ (p0 = 6 → (Ct mX12_clip d 1 t [jv (p1 + p3)] σ (fun r7 σ7 => (Q r7 σ7)))) ∧ (p0 = 7 → (Ct mX12_clip d 1 t [jv (p1 - p3)] σ (fun r8 σ8 => (Q r8 σ8)))) ∧ (p0 = 8 → (Ct mX12_clip d 1 t [jv (p1 * p3)] σ (fun r9 σ9 => (Q r9 σ9)))))) : Jt mX12_two (d + 1) 1 t Q 0 [iv p0, jv p1, uv, jv p3, uv] [] σ := by
  refine j_iload_n (i := 0) rfl (show decode cX12_two 0 = .ok (.iload_n 0, 1) by decide +kernel) ?_
  have hr0 := h.1
  have h := h.2
  rcases (show (p0 < 6 ∨ 8 < p0) ∨ p0 = 6 ∨ p0 = 7 ∨ p0 = 8 by omega) with c | c | c | c
  · refine j_tableOut (tgt := 49) hr0 (show decode cX12_two 1 = .ok (.tableswitch 48 6 8 #[27, 34, 41], 27) by decide +kernel) c (by decide) ?_
    have h := h.1 c
    refine j_lload_n (i := 3) rfl (show decode cX12_two 49 = .ok (.lload_n 3, 1) by decide +kernel) ?_
    refine j_lconst (x := 0) (by decide +kernel) (show decode cX12_two 50 = .ok (.lconst 0, 1) by decide +kernel) ?_
    have hr1 := h.1
    have h := h.2
    refine s_lif_ne (tgt := 59) hr1 (inll (by decide)) (show decode cX12_two 51 = .ok (.lcmp, 1) by decide +kernel) (show decode cX12_two 52 = .ok (.ifCond .ne 7, 3) by decide +kernel) (by decide) (fun c => ?_) (fun c => ?_)
    · have h := h.1 c
      refine j_lload_n (i := 1) rfl (show decode cX12_two 59 = .ok (.lload_n 1, 1) by decide +kernel) ?_
      refine j_lload_n (i := 3) rfl (show decode cX12_two 60 = .ok (.lload_n 3, 1) by decide +kernel) ?_
      have hr2 := h.1
      have h := h.2
      have hr3 := h.1
      have h := h.2
      have hz4 := h.1
      have h := h.2
      refine j_ldiv hr2 hr3 hz4 (show decode cX12_two 61 = .ok (.ldiv, 1) by decide +kernel) ?_
      refine j_ctS (m' := mX12_clip) (As := [jv (Int.tdiv p1 p3)]) (tag := 1) (cw_X12_265 rfl) (show decode cX12_two 62 = .ok (.invokestatic 265, 3) by decide +kernel) rfl (Nat.le_of_ble_eq_true rfl) (by decide) (Nat.le_refl _) h (fun r6 σ6 h => ?_)
      exact j_ret (rokL (show decode cX12_two 65 = .ok (.lreturn, 1) by decide +kernel) rfl) ⟨rfl, rfl, h⟩
    · have h := h.2 c
      refine j_lconst (x := 0) (by decide +kernel) (show decode cX12_two 55 = .ok (.lconst 0, 1) by decide +kernel) ?_
      refine j_goto (tgt := 65) (show decode cX12_two 56 = .ok (.goto 9, 3) by decide +kernel) (by decide) ?_
      exact j_ret (rokL (show decode cX12_two 65 = .ok (.lreturn, 1) by decide +kernel) rfl) ⟨rfl, rfl, h⟩
  · refine j_tableIn (tgt := 28) hr0 (show decode cX12_two 1 = .ok (.tableswitch 48 6 8 #[27, 34, 41], 27) by decide +kernel) (by omega) (by omega) (by rw [c]; rfl) (by decide) ?_
    have h := h.2.1 c
    refine j_lload_n (i := 1) rfl (show decode cX12_two 28 = .ok (.lload_n 1, 1) by decide +kernel) ?_
    refine j_lload_n (i := 3) rfl (show decode cX12_two 29 = .ok (.lload_n 3, 1) by decide +kernel) ?_
    refine j_ladd (show decode cX12_two 30 = .ok (.ladd, 1) by decide +kernel) ?_
    refine j_ctS (m' := mX12_clip) (As := [jv (p1 + p3)]) (tag := 1) (cw_X12_265 rfl) (show decode cX12_two 31 = .ok (.invokestatic 265, 3) by decide +kernel) rfl (Nat.le_of_ble_eq_true rfl) (by decide) (Nat.le_refl _) h (fun r7 σ7 h => ?_)
    exact j_ret (rokL (show decode cX12_two 34 = .ok (.lreturn, 1) by decide +kernel) rfl) ⟨rfl, rfl, h⟩
  · refine j_tableIn (tgt := 35) hr0 (show decode cX12_two 1 = .ok (.tableswitch 48 6 8 #[27, 34, 41], 27) by decide +kernel) (by omega) (by omega) (by rw [c]; rfl) (by decide) ?_
    have h := h.2.2.1 c
    refine j_lload_n (i := 1) rfl (show decode cX12_two 35 = .ok (.lload_n 1, 1) by decide +kernel) ?_
    refine j_lload_n (i := 3) rfl (show decode cX12_two 36 = .ok (.lload_n 3, 1) by decide +kernel) ?_
    refine j_lsub (show decode cX12_two 37 = .ok (.lsub, 1) by decide +kernel) ?_
    refine j_ctS (m' := mX12_clip) (As := [jv (p1 - p3)]) (tag := 1) (cw_X12_265 rfl) (show decode cX12_two 38 = .ok (.invokestatic 265, 3) by decide +kernel) rfl (Nat.le_of_ble_eq_true rfl) (by decide) (Nat.le_refl _) h (fun r8 σ8 h => ?_)
    exact j_ret (rokL (show decode cX12_two 41 = .ok (.lreturn, 1) by decide +kernel) rfl) ⟨rfl, rfl, h⟩
  · refine j_tableIn (tgt := 42) hr0 (show decode cX12_two 1 = .ok (.tableswitch 48 6 8 #[27, 34, 41], 27) by decide +kernel) (by omega) (by omega) (by rw [c]; rfl) (by decide) ?_
    have h := h.2.2.2 c
    refine j_lload_n (i := 1) rfl (show decode cX12_two 42 = .ok (.lload_n 1, 1) by decide +kernel) ?_
    refine j_lload_n (i := 3) rfl (show decode cX12_two 43 = .ok (.lload_n 3, 1) by decide +kernel) ?_
    refine j_lmul (show decode cX12_two 44 = .ok (.lmul, 1) by decide +kernel) ?_
    refine j_ctS (m' := mX12_clip) (As := [jv (p1 * p3)]) (tag := 1) (cw_X12_265 rfl) (show decode cX12_two 45 = .ok (.invokestatic 265, 3) by decide +kernel) rfl (Nat.le_of_ble_eq_true rfl) (by decide) (Nat.le_refl _) h (fun r9 σ9 h => ?_)
    exact j_ret (rokL (show decode cX12_two 48 = .ok (.lreturn, 1) by decide +kernel) rfl) ⟨rfl, rfl, h⟩
theorem c_X12_two {d : Nat} {t : Int} {Q : Int → jM → Prop} {σ : jM} {p0 p1 p3 : Int} (h : (inR p0) ∧ ((p0 < 6 ∨ 8 < p0 → ((inL p3) ∧ ((¬ p3 = 0 → ((inL p1) ∧ ((inL p3) ∧ ((p3 ≠ 0) ∧ (Ct mX12_clip d 1 t [jv (Int.tdiv p1 p3)] σ (fun r6 σ6 => (Q r6 σ6))))))) ∧ (p3 = 0 → (Q 0 σ))))) ∧ (p0 = 6 → (Ct mX12_clip d 1 t [jv (p1 + p3)] σ (fun r7 σ7 => (Q r7 σ7)))) ∧ (p0 = 7 → (Ct mX12_clip d 1 t [jv (p1 - p3)] σ (fun r8 σ8 => (Q r8 σ8)))) ∧ (p0 = 8 → (Ct mX12_clip d 1 t [jv (p1 * p3)] σ (fun r9 σ9 => (Q r9 σ9)))))) : Ct mX12_two (d + 1) 1 t [iv p0, jv p1, jv p3] σ Q := Ct_of (by decide +kernel) (Nat.le_of_ble_eq_true rfl) (b_X12_two_0 h)
set_option maxRecDepth 4000 in
theorem b_X12_isAsked_0 {d : Nat} {t : Int} {Q : Int → jM → Prop} {σ : jM} {p0 p1 p3 : Int} (h : (inR p0) ∧ ((¬ p0 = 10 → ((inR p0) ∧ ((¬ p0 = 11 → ((inR p0) ∧ ((¬ p0 = 12 → ((inR p0) ∧ ((¬ p0 = 13 → ((inR p0) ∧ ((¬ p0 = 14 → ((inL p1) ∧ ((inL p3) ∧ ((p1 = p3 → (Q 0 σ)) ∧ (¬ p1 = p3 → (Q 1 σ)))))) ∧ (p0 = 14 → ((inL p1) ∧ ((inL p3) ∧ ((¬ p1 = p3 → (Q 0 σ)) ∧ (p1 = p3 → (Q 1 σ))))))))) ∧ (p0 = 13 → ((inL p1) ∧ ((inL p3) ∧ ((p1 < p3 → (Q 0 σ)) ∧ (p3 ≤ p1 → (Q 1 σ))))))))) ∧ (p0 = 12 → ((inL p1) ∧ ((inL p3) ∧ ((p1 ≤ p3 → (Q 0 σ)) ∧ (p3 < p1 → (Q 1 σ))))))))) ∧ (p0 = 11 → ((inL p1) ∧ ((inL p3) ∧ ((p3 < p1 → (Q 0 σ)) ∧ (p1 ≤ p3 → (Q 1 σ))))))))) ∧ (p0 = 10 → ((inL p1) ∧ ((inL p3) ∧ ((p3 ≤ p1 → (Q 0 σ)) ∧ (p1 < p3 → (Q 1 σ)))))))) : Jt mX12_isAsked (d) 0 t Q 0 [iv p0, jv p1, uv, jv p3, uv] [] σ := by
  refine j_iload_n (i := 0) rfl (show decode cX12_isAsked 0 = .ok (.iload_n 0, 1) by decide +kernel) ?_
  refine j_bipush (n := 10) (by decide +kernel) (show decode cX12_isAsked 1 = .ok (.bipush 10, 2) by decide +kernel) ?_
  have hr0 := h.1
  have h := h.2
  refine j_icmp_ne (tgt := 20) hr0 (inl (by decide)) (show decode cX12_isAsked 3 = .ok (.if_icmp .ne 17, 3) by decide +kernel) (by decide) (fun c => ?_) (fun c => ?_)
  · have h := h.1 c
    refine j_iload_n (i := 0) rfl (show decode cX12_isAsked 20 = .ok (.iload_n 0, 1) by decide +kernel) ?_
    refine j_bipush (n := 11) (by decide +kernel) (show decode cX12_isAsked 21 = .ok (.bipush 11, 2) by decide +kernel) ?_
    have hr1 := h.1
    have h := h.2
    refine j_icmp_ne (tgt := 40) hr1 (inl (by decide)) (show decode cX12_isAsked 23 = .ok (.if_icmp .ne 17, 3) by decide +kernel) (by decide) (fun c => ?_) (fun c => ?_)
    · have h := h.1 c
      refine j_iload_n (i := 0) rfl (show decode cX12_isAsked 40 = .ok (.iload_n 0, 1) by decide +kernel) ?_
      refine j_bipush (n := 12) (by decide +kernel) (show decode cX12_isAsked 41 = .ok (.bipush 12, 2) by decide +kernel) ?_
      have hr2 := h.1
      have h := h.2
      refine j_icmp_ne (tgt := 60) hr2 (inl (by decide)) (show decode cX12_isAsked 43 = .ok (.if_icmp .ne 17, 3) by decide +kernel) (by decide) (fun c => ?_) (fun c => ?_)
      · have h := h.1 c
        refine j_iload_n (i := 0) rfl (show decode cX12_isAsked 60 = .ok (.iload_n 0, 1) by decide +kernel) ?_
        refine j_bipush (n := 13) (by decide +kernel) (show decode cX12_isAsked 61 = .ok (.bipush 13, 2) by decide +kernel) ?_
        have hr3 := h.1
        have h := h.2
        refine j_icmp_ne (tgt := 80) hr3 (inl (by decide)) (show decode cX12_isAsked 63 = .ok (.if_icmp .ne 17, 3) by decide +kernel) (by decide) (fun c => ?_) (fun c => ?_)
        · have h := h.1 c
          refine j_iload_n (i := 0) rfl (show decode cX12_isAsked 80 = .ok (.iload_n 0, 1) by decide +kernel) ?_
          refine j_bipush (n := 14) (by decide +kernel) (show decode cX12_isAsked 81 = .ok (.bipush 14, 2) by decide +kernel) ?_
          have hr4 := h.1
          have h := h.2
          refine j_icmp_ne (tgt := 100) hr4 (inl (by decide)) (show decode cX12_isAsked 83 = .ok (.if_icmp .ne 17, 3) by decide +kernel) (by decide) (fun c => ?_) (fun c => ?_)
          · have h := h.1 c
            refine j_lload_n (i := 1) rfl (show decode cX12_isAsked 100 = .ok (.lload_n 1, 1) by decide +kernel) ?_
            refine j_lload_n (i := 3) rfl (show decode cX12_isAsked 101 = .ok (.lload_n 3, 1) by decide +kernel) ?_
            have hr5 := h.1
            have h := h.2
            have hr6 := h.1
            have h := h.2
            refine s_lif_eq (tgt := 110) hr5 hr6 (show decode cX12_isAsked 102 = .ok (.lcmp, 1) by decide +kernel) (show decode cX12_isAsked 103 = .ok (.ifCond .eq 7, 3) by decide +kernel) (by decide) (fun c => ?_) (fun c => ?_)
            · have h := h.1 c
              refine j_iconst (show decode cX12_isAsked 110 = .ok (.iconst 0, 1) by decide +kernel) ?_
              exact j_ret (rokZ (show decode cX12_isAsked 111 = .ok (.ireturn, 1) by decide +kernel) rfl (Or.inl rfl)) ⟨rfl, rfl, h⟩
            · have h := h.2 c
              refine j_iconst (show decode cX12_isAsked 106 = .ok (.iconst 1, 1) by decide +kernel) ?_
              refine j_goto (tgt := 111) (show decode cX12_isAsked 107 = .ok (.goto 4, 3) by decide +kernel) (by decide) ?_
              exact j_ret (rokZ (show decode cX12_isAsked 111 = .ok (.ireturn, 1) by decide +kernel) rfl (Or.inr rfl)) ⟨rfl, rfl, h⟩
          · have h := h.2 c
            refine j_lload_n (i := 1) rfl (show decode cX12_isAsked 86 = .ok (.lload_n 1, 1) by decide +kernel) ?_
            refine j_lload_n (i := 3) rfl (show decode cX12_isAsked 87 = .ok (.lload_n 3, 1) by decide +kernel) ?_
            have hr7 := h.1
            have h := h.2
            have hr8 := h.1
            have h := h.2
            refine s_lif_ne (tgt := 96) hr7 hr8 (show decode cX12_isAsked 88 = .ok (.lcmp, 1) by decide +kernel) (show decode cX12_isAsked 89 = .ok (.ifCond .ne 7, 3) by decide +kernel) (by decide) (fun c => ?_) (fun c => ?_)
            · have h := h.1 c
              refine j_iconst (show decode cX12_isAsked 96 = .ok (.iconst 0, 1) by decide +kernel) ?_
              refine j_goto (tgt := 111) (show decode cX12_isAsked 97 = .ok (.goto 14, 3) by decide +kernel) (by decide) ?_
              exact j_ret (rokZ (show decode cX12_isAsked 111 = .ok (.ireturn, 1) by decide +kernel) rfl (Or.inl rfl)) ⟨rfl, rfl, h⟩
            · have h := h.2 c
              refine j_iconst (show decode cX12_isAsked 92 = .ok (.iconst 1, 1) by decide +kernel) ?_
              refine j_goto (tgt := 111) (show decode cX12_isAsked 93 = .ok (.goto 18, 3) by decide +kernel) (by decide) ?_
              exact j_ret (rokZ (show decode cX12_isAsked 111 = .ok (.ireturn, 1) by decide +kernel) rfl (Or.inr rfl)) ⟨rfl, rfl, h⟩
        · have h := h.2 c
          refine j_lload_n (i := 1) rfl (show decode cX12_isAsked 66 = .ok (.lload_n 1, 1) by decide +kernel) ?_
          refine j_lload_n (i := 3) rfl (show decode cX12_isAsked 67 = .ok (.lload_n 3, 1) by decide +kernel) ?_
          have hr9 := h.1
          have h := h.2
          have hr10 := h.1
          have h := h.2
          refine s_lif_lt (tgt := 76) hr9 hr10 (show decode cX12_isAsked 68 = .ok (.lcmp, 1) by decide +kernel) (show decode cX12_isAsked 69 = .ok (.ifCond .lt 7, 3) by decide +kernel) (by decide) (fun c => ?_) (fun c => ?_)
          · have h := h.1 c
            refine j_iconst (show decode cX12_isAsked 76 = .ok (.iconst 0, 1) by decide +kernel) ?_
            refine j_goto (tgt := 111) (show decode cX12_isAsked 77 = .ok (.goto 34, 3) by decide +kernel) (by decide) ?_
            exact j_ret (rokZ (show decode cX12_isAsked 111 = .ok (.ireturn, 1) by decide +kernel) rfl (Or.inl rfl)) ⟨rfl, rfl, h⟩
          · have h := h.2 c
            refine j_iconst (show decode cX12_isAsked 72 = .ok (.iconst 1, 1) by decide +kernel) ?_
            refine j_goto (tgt := 111) (show decode cX12_isAsked 73 = .ok (.goto 38, 3) by decide +kernel) (by decide) ?_
            exact j_ret (rokZ (show decode cX12_isAsked 111 = .ok (.ireturn, 1) by decide +kernel) rfl (Or.inr rfl)) ⟨rfl, rfl, h⟩
      · have h := h.2 c
        refine j_lload_n (i := 1) rfl (show decode cX12_isAsked 46 = .ok (.lload_n 1, 1) by decide +kernel) ?_
        refine j_lload_n (i := 3) rfl (show decode cX12_isAsked 47 = .ok (.lload_n 3, 1) by decide +kernel) ?_
        have hr11 := h.1
        have h := h.2
        have hr12 := h.1
        have h := h.2
        refine s_lif_le (tgt := 56) hr11 hr12 (show decode cX12_isAsked 48 = .ok (.lcmp, 1) by decide +kernel) (show decode cX12_isAsked 49 = .ok (.ifCond .le 7, 3) by decide +kernel) (by decide) (fun c => ?_) (fun c => ?_)
        · have h := h.1 c
          refine j_iconst (show decode cX12_isAsked 56 = .ok (.iconst 0, 1) by decide +kernel) ?_
          refine j_goto (tgt := 111) (show decode cX12_isAsked 57 = .ok (.goto 54, 3) by decide +kernel) (by decide) ?_
          exact j_ret (rokZ (show decode cX12_isAsked 111 = .ok (.ireturn, 1) by decide +kernel) rfl (Or.inl rfl)) ⟨rfl, rfl, h⟩
        · have h := h.2 c
          refine j_iconst (show decode cX12_isAsked 52 = .ok (.iconst 1, 1) by decide +kernel) ?_
          refine j_goto (tgt := 111) (show decode cX12_isAsked 53 = .ok (.goto 58, 3) by decide +kernel) (by decide) ?_
          exact j_ret (rokZ (show decode cX12_isAsked 111 = .ok (.ireturn, 1) by decide +kernel) rfl (Or.inr rfl)) ⟨rfl, rfl, h⟩
    · have h := h.2 c
      refine j_lload_n (i := 1) rfl (show decode cX12_isAsked 26 = .ok (.lload_n 1, 1) by decide +kernel) ?_
      refine j_lload_n (i := 3) rfl (show decode cX12_isAsked 27 = .ok (.lload_n 3, 1) by decide +kernel) ?_
      have hr13 := h.1
      have h := h.2
      have hr14 := h.1
      have h := h.2
      refine s_lif_gt (tgt := 36) hr13 hr14 (show decode cX12_isAsked 28 = .ok (.lcmp, 1) by decide +kernel) (show decode cX12_isAsked 29 = .ok (.ifCond .gt 7, 3) by decide +kernel) (by decide) (fun c => ?_) (fun c => ?_)
      · have h := h.1 c
        refine j_iconst (show decode cX12_isAsked 36 = .ok (.iconst 0, 1) by decide +kernel) ?_
        refine j_goto (tgt := 111) (show decode cX12_isAsked 37 = .ok (.goto 74, 3) by decide +kernel) (by decide) ?_
        exact j_ret (rokZ (show decode cX12_isAsked 111 = .ok (.ireturn, 1) by decide +kernel) rfl (Or.inl rfl)) ⟨rfl, rfl, h⟩
      · have h := h.2 c
        refine j_iconst (show decode cX12_isAsked 32 = .ok (.iconst 1, 1) by decide +kernel) ?_
        refine j_goto (tgt := 111) (show decode cX12_isAsked 33 = .ok (.goto 78, 3) by decide +kernel) (by decide) ?_
        exact j_ret (rokZ (show decode cX12_isAsked 111 = .ok (.ireturn, 1) by decide +kernel) rfl (Or.inr rfl)) ⟨rfl, rfl, h⟩
  · have h := h.2 c
    refine j_lload_n (i := 1) rfl (show decode cX12_isAsked 6 = .ok (.lload_n 1, 1) by decide +kernel) ?_
    refine j_lload_n (i := 3) rfl (show decode cX12_isAsked 7 = .ok (.lload_n 3, 1) by decide +kernel) ?_
    have hr15 := h.1
    have h := h.2
    have hr16 := h.1
    have h := h.2
    refine s_lif_ge (tgt := 16) hr15 hr16 (show decode cX12_isAsked 8 = .ok (.lcmp, 1) by decide +kernel) (show decode cX12_isAsked 9 = .ok (.ifCond .ge 7, 3) by decide +kernel) (by decide) (fun c => ?_) (fun c => ?_)
    · have h := h.1 c
      refine j_iconst (show decode cX12_isAsked 16 = .ok (.iconst 0, 1) by decide +kernel) ?_
      refine j_goto (tgt := 111) (show decode cX12_isAsked 17 = .ok (.goto 94, 3) by decide +kernel) (by decide) ?_
      exact j_ret (rokZ (show decode cX12_isAsked 111 = .ok (.ireturn, 1) by decide +kernel) rfl (Or.inl rfl)) ⟨rfl, rfl, h⟩
    · have h := h.2 c
      refine j_iconst (show decode cX12_isAsked 12 = .ok (.iconst 1, 1) by decide +kernel) ?_
      refine j_goto (tgt := 111) (show decode cX12_isAsked 13 = .ok (.goto 98, 3) by decide +kernel) (by decide) ?_
      exact j_ret (rokZ (show decode cX12_isAsked 111 = .ok (.ireturn, 1) by decide +kernel) rfl (Or.inr rfl)) ⟨rfl, rfl, h⟩
theorem c_X12_isAsked {d : Nat} {t : Int} {Q : Int → jM → Prop} {σ : jM} {p0 p1 p3 : Int} (h : (inR p0) ∧ ((¬ p0 = 10 → ((inR p0) ∧ ((¬ p0 = 11 → ((inR p0) ∧ ((¬ p0 = 12 → ((inR p0) ∧ ((¬ p0 = 13 → ((inR p0) ∧ ((¬ p0 = 14 → ((inL p1) ∧ ((inL p3) ∧ ((p1 = p3 → (Q 0 σ)) ∧ (¬ p1 = p3 → (Q 1 σ)))))) ∧ (p0 = 14 → ((inL p1) ∧ ((inL p3) ∧ ((¬ p1 = p3 → (Q 0 σ)) ∧ (p1 = p3 → (Q 1 σ))))))))) ∧ (p0 = 13 → ((inL p1) ∧ ((inL p3) ∧ ((p1 < p3 → (Q 0 σ)) ∧ (p3 ≤ p1 → (Q 1 σ))))))))) ∧ (p0 = 12 → ((inL p1) ∧ ((inL p3) ∧ ((p1 ≤ p3 → (Q 0 σ)) ∧ (p3 < p1 → (Q 1 σ))))))))) ∧ (p0 = 11 → ((inL p1) ∧ ((inL p3) ∧ ((p3 < p1 → (Q 0 σ)) ∧ (p1 ≤ p3 → (Q 1 σ))))))))) ∧ (p0 = 10 → ((inL p1) ∧ ((inL p3) ∧ ((p3 ≤ p1 → (Q 0 σ)) ∧ (p1 < p3 → (Q 1 σ)))))))) : Ct mX12_isAsked (d) 0 t [iv p0, jv p1, jv p3] σ Q := Ct_of (by decide +kernel) (Nat.le_of_ble_eq_true rfl) (b_X12_isAsked_0 h)
