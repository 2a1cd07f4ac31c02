/-! ===== walks (printed by wip/whole/gen_blocks.py) ===== -/
set_option maxRecDepth 4000 in
theorem b_X3_hasRoom_0 {d : Nat} {t : Int} {Q : Int → jM → Prop} {σ : jM} (h : (inR ((σ 271 1) + 20)) ∧ ((300 < ((σ 271 1) + 20) → (Q 0 σ)) ∧ (((σ 271 1) + 20) ≤ 300 → (Q 1 σ)))) : Jt mX3_hasRoom (d) 0 t Q 0 [rv 271] [] σ := by
  refine s_aload_n (i := 0) rfl (show decode cX3_hasRoom 0 = .ok (.aload_n 0, 1) by decide +kernel) ?_
  refine gf_X3_22 rfl (show decode cX3_hasRoom 1 = .ok (.getfield 22, 3) by decide +kernel) okl_271 ?_
  refine j_bipush (n := 20) (by decide +kernel) (show decode cX3_hasRoom 4 = .ok (.bipush 20, 2) by decide +kernel) ?_
  refine j_iadd (show decode cX3_hasRoom 6 = .ok (.iadd, 1) by decide +kernel) ?_
  refine j_sipush (n := 300) (by decide +kernel) (show decode cX3_hasRoom 7 = .ok (.sipush 300, 3) by decide +kernel) ?_
  have hr0 := h.1
  have h := h.2
  refine j_icmp_gt (tgt := 17) hr0 (inl (by decide)) (show decode cX3_hasRoom 10 = .ok (.if_icmp .gt 7, 3) by decide +kernel) (by decide) (fun c => ?_) (fun c => ?_)
  · have h := h.1 c
    refine j_iconst (show decode cX3_hasRoom 17 = .ok (.iconst 0, 1) by decide +kernel) ?_
    exact j_ret (rokZ (show decode cX3_hasRoom 18 = .ok (.ireturn, 1) by decide +kernel) rfl (Or.inl rfl)) ⟨rfl, rfl, h⟩
  · have h := h.2 c
    refine j_iconst (show decode cX3_hasRoom 13 = .ok (.iconst 1, 1) by decide +kernel) ?_
    refine j_goto (tgt := 18) (show decode cX3_hasRoom 14 = .ok (.goto 4, 3) by decide +kernel) (by decide) ?_
    exact j_ret (rokZ (show decode cX3_hasRoom 18 = .ok (.ireturn, 1) by decide +kernel) rfl (Or.inr rfl)) ⟨rfl, rfl, h⟩
theorem c_X3_hasRoom {d : Nat} {t : Int} {Q : Int → jM → Prop} {σ : jM} (h : (inR ((σ 271 1) + 20)) ∧ ((300 < ((σ 271 1) + 20) → (Q 0 σ)) ∧ (((σ 271 1) + 20) ≤ 300 → (Q 1 σ)))) : Ct mX3_hasRoom (d) 0 t [rv 271] σ Q := Ct_of (by decide +kernel) (Nat.le_of_ble_eq_true rfl) (b_X3_hasRoom_0 h)
set_option maxRecDepth 4000 in
theorem b_X3_addFour_3 {d : Nat} {t : Int} {Q : Int → jM → Prop} {σ : jM} {p1 v2 : Int} (h : (inR v2) ∧ ((v2 < 0 → (Q 0 σ)) ∧ (0 ≤ v2 → ((inR (σ 271 1)) ∧ ((300 ≤ (σ 271 1) → (Q 0 σ)) ∧ ((σ 271 1) < 300 → (((0 : Int) ≤ (σ 271 1) ∧ (σ 271 1) < 300) ∧ (∀ σ4 : jM, σ4 = up σ 272 (σ 271 1) (i_and (i_shr p1 v2) 255) → (∀ σ5 : jM, σ5 = up σ4 271 1 ((σ4 271 1) + 1) → (Jt mX3_addFour (d) 9 t Q 3 [rv 271, iv p1, iv (v2 + (-8))] [] σ5)))))))))) : Jt mX3_addFour (d) 9 t Q 3 [rv 271, iv p1, iv v2] [] σ := by
  refine j_iload_n (i := 2) rfl (show decode cX3_addFour 3 = .ok (.iload_n 2, 1) by decide +kernel) ?_
  have hr0 := h.1
  have h := h.2
  refine j_if_lt (tgt := 49) hr0 (show decode cX3_addFour 4 = .ok (.ifCond .lt 45, 3) by decide +kernel) (by decide) (fun c => ?_) (fun c => ?_)
  · have h := h.1 c
    exact j_ret (rokV (show decode cX3_addFour 49 = .ok (.return_, 1) by decide +kernel) rfl) ⟨rfl, rfl, h⟩
  · have h := h.2 c
    refine s_aload_n (i := 0) rfl (show decode cX3_addFour 7 = .ok (.aload_n 0, 1) by decide +kernel) ?_
    refine gf_X3_22 rfl (show decode cX3_addFour 8 = .ok (.getfield 22, 3) by decide +kernel) okl_271 ?_
    refine j_sipush (n := 300) (by decide +kernel) (show decode cX3_addFour 11 = .ok (.sipush 300, 3) by decide +kernel) ?_
    have hr1 := h.1
    have h := h.2
    refine j_icmp_ge (tgt := 49) hr1 (inl (by decide)) (show decode cX3_addFour 14 = .ok (.if_icmp .ge 35, 3) by decide +kernel) (by decide) (fun c => ?_) (fun c => ?_)
    · have h := h.1 c
      exact j_ret (rokV (show decode cX3_addFour 49 = .ok (.return_, 1) by decide +kernel) rfl) ⟨rfl, rfl, h⟩
    · have h := h.2 c
      refine s_aload_n (i := 0) rfl (show decode cX3_addFour 17 = .ok (.aload_n 0, 1) by decide +kernel) ?_
      refine gf_X3_11 (x := 272) rfl (show decode cX3_addFour 18 = .ok (.getfield 11, 3) by decide +kernel) okl_271 rfl ?_
      refine s_aload_n (i := 0) rfl (show decode cX3_addFour 21 = .ok (.aload_n 0, 1) by decide +kernel) ?_
      refine gf_X3_22 rfl (show decode cX3_addFour 22 = .ok (.getfield 22, 3) by decide +kernel) okl_271 ?_
      refine j_iload_n (i := 1) rfl (show decode cX3_addFour 25 = .ok (.iload_n 1, 1) by decide +kernel) ?_
      refine j_iload_n (i := 2) rfl (show decode cX3_addFour 26 = .ok (.iload_n 2, 1) by decide +kernel) ?_
      refine j_ishr (show decode cX3_addFour 27 = .ok (.ishr, 1) by decide +kernel) ?_
      refine j_sipush (n := 255) (by decide +kernel) (show decode cX3_addFour 28 = .ok (.sipush 255, 3) by decide +kernel) ?_
      refine j_iand (show decode cX3_addFour 31 = .ok (.iand, 1) by decide +kernel) ?_
      have hb2 := h.1
      have h := h.2
      refine s_iast (show decode cX3_addFour 32 = .ok (.iastore, 1) by decide +kernel) okl_272 hb2 ?_
      obtain ⟨σ4, eσ4⟩ : ∃ z : jM, z = up σ 272 (σ 271 1) (i_and (i_shr p1 v2) 255) := ⟨_, rfl⟩
      refine j_sig eσ4 ?_
      have h := h σ4 eσ4
      refine s_aload_n (i := 0) rfl (show decode cX3_addFour 33 = .ok (.aload_n 0, 1) by decide +kernel) ?_
      refine j_dup (show (2 : Nat) ≠ 1 by decide) (show decode cX3_addFour 34 = .ok (.dup, 1) by decide +kernel) ?_
      refine gf_X3_22 rfl (show decode cX3_addFour 35 = .ok (.getfield 22, 3) by decide +kernel) okl_271 ?_
      refine j_iconst (show decode cX3_addFour 38 = .ok (.iconst 1, 1) by decide +kernel) ?_
      refine j_iadd (show decode cX3_addFour 39 = .ok (.iadd, 1) by decide +kernel) ?_
      refine pf_X3_22 rfl (show decode cX3_addFour 40 = .ok (.putfield 22, 3) by decide +kernel) okl_271 ?_
      obtain ⟨σ5, eσ5⟩ : ∃ z : jM, z = up σ4 271 1 ((σ4 271 1) + 1) := ⟨_, rfl⟩
      refine j_sig eσ5 ?_
      have h := h σ5 eσ5
      refine s_iinc (i := 2) rfl (L' := [rv 271, iv p1, iv (v2 + (-8))]) rfl (show decode cX3_addFour 43 = .ok (.iinc 2 (-8), 3) by decide +kernel) ?_
      refine j_goto (tgt := 3) (show decode cX3_addFour 46 = .ok (.goto (-43), 3) by decide +kernel) (by decide) ?_
      exact h
set_option maxRecDepth 4000 in
theorem b_X3_addFour_0 {d : Nat} {t : Int} {Q : Int → jM → Prop} {σ : jM} {p1 : Int} (h : Jt mX3_addFour (d) 9 t Q 3 [rv 271, iv p1, iv 24] [] σ) : Jt mX3_addFour (d) 9 t Q 0 [rv 271, iv p1, uv] [] σ := by
  refine j_bipush (n := 24) (by decide +kernel) (show decode cX3_addFour 0 = .ok (.bipush 24, 2) by decide +kernel) ?_
  refine s_ist_n (i := 2) (L' := [rv 271, iv p1, iv 24]) rfl (by decide) (show decode cX3_addFour 2 = .ok (.istore_n 2, 1) by decide +kernel) ?_
  exact h
theorem c_X3_addFour {d : Nat} {t : Int} {Q : Int → jM → Prop} {σ : jM} {p1 : Int} (h : Jt mX3_addFour (d) 9 t Q 3 [rv 271, iv p1, iv 24] [] σ) : Ct mX3_addFour (d) 9 t [rv 271, iv p1] σ Q := Ct_of (by decide +kernel) (Nat.le_of_ble_eq_true rfl) (b_X3_addFour_0 h)
set_option maxRecDepth 4000 in
theorem b_X3_failed_0 {d : Nat} {t : Int} {Q : Int → jM → Prop} {σ : jM} {p1 : Int} (h : ∀ σ1 : jM, σ1 = up σ 271 2 p1 → (∀ σ2 : jM, σ2 = up σ1 271 3 (σ1 271 7) → (Q 0 σ2))) : Jt mX3_failed (d) 0 t Q 0 [rv 271, iv p1] [] σ := by
  refine s_aload_n (i := 0) rfl (show decode cX3_failed 0 = .ok (.aload_n 0, 1) by decide +kernel) ?_
  refine j_iload_n (i := 1) rfl (show decode cX3_failed 1 = .ok (.iload_n 1, 1) by decide +kernel) ?_
  refine pf_X3_15 rfl (show decode cX3_failed 2 = .ok (.putfield 15, 3) by decide +kernel) okl_271 ?_
  obtain ⟨σ1, eσ1⟩ : ∃ z : jM, z = up σ 271 2 p1 := ⟨_, rfl⟩
  refine j_sig eσ1 ?_
  have h := h σ1 eσ1
  refine s_aload_n (i := 0) rfl (show decode cX3_failed 5 = .ok (.aload_n 0, 1) by decide +kernel) ?_
  refine s_aload_n (i := 0) rfl (show decode cX3_failed 6 = .ok (.aload_n 0, 1) by decide +kernel) ?_
  refine gf_X3_47 rfl (show decode cX3_failed 7 = .ok (.getfield 47, 3) by decide +kernel) okl_271 ?_
  refine pf_X3_19 rfl (show decode cX3_failed 10 = .ok (.putfield 19, 3) by decide +kernel) okl_271 ?_
  obtain ⟨σ2, eσ2⟩ : ∃ z : jM, z = up σ1 271 3 (σ1 271 7) := ⟨_, rfl⟩
  refine j_sig eσ2 ?_
  have h := h σ2 eσ2
  refine j_iconst (show decode cX3_failed 13 = .ok (.iconst 0, 1) by decide +kernel) ?_
  exact j_ret (rokZ (show decode cX3_failed 14 = .ok (.ireturn, 1) by decide +kernel) rfl (Or.inl rfl)) ⟨rfl, rfl, h⟩
theorem c_X3_failed {d : Nat} {t : Int} {Q : Int → jM → Prop} {σ : jM} {p1 : Int} (h : ∀ σ1 : jM, σ1 = up σ 271 2 p1 → (∀ σ2 : jM, σ2 = up σ1 271 3 (σ1 271 7) → (Q 0 σ2))) : Ct mX3_failed (d) 0 t [rv 271, iv p1] σ Q := Ct_of (by decide +kernel) (Nat.le_of_ble_eq_true rfl) (b_X3_failed_0 h)
set_option maxRecDepth 4000 in
theorem b_X3_readClause_160 {d : Nat} {t : Int} {Q : Int → jM → Prop} {σ : jM} {v1 : Int} (h : Q 0 σ) : Jt mX3_readClause (d + 1) 0 t Q 160 [rv 271, iv v1] [] σ := by
  refine j_iconst (show decode cX3_readClause 160 = .ok (.iconst 0, 1) by decide +kernel) ?_
  exact j_ret (rokZ (show decode cX3_readClause 161 = .ok (.ireturn, 1) by decide +kernel) rfl (Or.inl rfl)) ⟨rfl, rfl, h⟩
set_option maxRecDepth 4000 in
theorem b_X3_readClause_51 {d : Nat} {t : Int} {Q : Int → jM → Prop} {σ : jM} {v1 : Int} (h : (ob (GG t) t 8) ∧ ((inR (σ t 6)) ∧ (((σ t 6) < 24 → (Ct mX3_advance d 9 t [rv 271] σ (fun r3 σ3 => ((inR v1) ∧ ((v1 < 100 ∨ 106 < v1 → (Ct mX3_readOrder d 0 t [rv 271, iv v1, iv 0, iv 7] σ3 (fun r5 σ5 => ((r5 = 0 ∨ r5 = 1) ∧ (Q r5 σ5))))) ∧ (v1 = 100 → (∀ σ7 : jM, σ7 = up σ3 271 5 (v1 - 100) → ((ob (GG t) t 8) ∧ ((ob (GG t) t 8) ∧ (((0 : Int) ≤ (σ7 271 5) ∧ (σ7 271 5) < 2) ∧ (∀ σ11 : jM, σ11 = up σ7 (t + 5) (σ7 271 5) (σ7 t 7) → (Ct mX3_readSum d 0 t [rv 271, iv 0] σ11 (fun r12 σ12 => ((inR r12) ∧ ((r12 = 0 → (Jt mX3_readClause (d + 1) 0 t Q 160 [rv 271, iv v1] [] σ12)) ∧ (¬ r12 = 0 → (Ct mX3_take d 0 t [rv 271, iv 59] σ12 (fun r14 σ14 => ((inR r14) ∧ ((¬ r14 = 0 → ((ob (GG t) t 8) ∧ ((ob (GG t) t 8) ∧ (((0 : Int) ≤ (σ14 271 5) ∧ (σ14 271 5) < 2) ∧ (∀ σ19 : jM, σ19 = up σ14 (t + 6) (σ14 271 5) (σ14 t 7) → ((ob (GG t) t 8) ∧ (Ct mX8_addClause d 9 t [rv t, iv v1, iv 0, iv 0] σ19 (fun r20 σ20 => (Q 1 σ20))))))))) ∧ (r14 = 0 → (Jt mX3_readClause (d + 1) 0 t Q 160 [rv 271, iv v1] [] σ14))))))))))))))))) ∧ (v1 = 101 → (∀ σ22 : jM, σ22 = up σ3 271 5 (v1 - 100) → ((ob (GG t) t 8) ∧ ((ob (GG t) t 8) ∧ (((0 : Int) ≤ (σ22 271 5) ∧ (σ22 271 5) < 2) ∧ (∀ σ26 : jM, σ26 = up σ22 (t + 5) (σ22 271 5) (σ22 t 7) → (Ct mX3_readSum d 0 t [rv 271, iv 0] σ26 (fun r27 σ27 => ((inR r27) ∧ ((r27 = 0 → (Jt mX3_readClause (d + 1) 0 t Q 160 [rv 271, iv v1] [] σ27)) ∧ (¬ r27 = 0 → (Ct mX3_take d 0 t [rv 271, iv 59] σ27 (fun r29 σ29 => ((inR r29) ∧ ((¬ r29 = 0 → ((ob (GG t) t 8) ∧ ((ob (GG t) t 8) ∧ (((0 : Int) ≤ (σ29 271 5) ∧ (σ29 271 5) < 2) ∧ (∀ σ34 : jM, σ34 = up σ29 (t + 6) (σ29 271 5) (σ29 t 7) → ((ob (GG t) t 8) ∧ (Ct mX8_addClause d 9 t [rv t, iv v1, iv 0, iv 0] σ34 (fun r35 σ35 => (Q 1 σ35))))))))) ∧ (r29 = 0 → (Jt mX3_readClause (d + 1) 0 t Q 160 [rv 271, iv v1] [] σ29))))))))))))))))) ∧ (v1 = 102 → (Ct mX3_readJoin d 0 t [rv 271] σ3 (fun r37 σ37 => ((r37 = 0 ∨ r37 = 1) ∧ (Q r37 σ37))))) ∧ (v1 = 103 → (Ct mX3_readOrder d 0 t [rv 271, iv v1, iv 0, iv 7] σ3 (fun r39 σ39 => ((r39 = 0 ∨ r39 = 1) ∧ (Q r39 σ39))))) ∧ (v1 = 104 → (Ct mX3_readOrder d 0 t [rv 271, iv v1, iv 0, iv 7] σ3 (fun r41 σ41 => ((r41 = 0 ∨ r41 = 1) ∧ (Q r41 σ41))))) ∧ (v1 = 105 → (Ct mX3_readOrder d 0 t [rv 271, iv v1, iv 1, iv 120] σ3 (fun r43 σ43 => ((r43 = 0 ∨ r43 = 1) ∧ (Q r43 σ43))))) ∧ (v1 = 106 → (Ct mX3_readOrder d 0 t [rv 271, iv v1, iv 1, iv 60] σ3 (fun r45 σ45 => ((r45 = 0 ∨ r45 = 1) ∧ (Q r45 σ45)))))))))) ∧ (24 ≤ (σ t 6) → (Ct mX3_failed d 0 t [rv 271, iv 6] σ (fun r47 σ47 => ((r47 = 0 ∨ r47 = 1) ∧ (Q r47 σ47)))))))) : Jt mX3_readClause (d + 1) 0 t Q 51 [rv 271, iv v1] [] σ := by
  refine s_aload_n (i := 0) rfl (show decode cX3_readClause 51 = .ok (.aload_n 0, 1) by decide +kernel) ?_
  refine gf_X3_25 (x := t) rfl (show decode cX3_readClause 52 = .ok (.getfield 25, 3) by decide +kernel) okl_271 rfl ?_
  have hb0 := h.1
  have h := h.2
  refine gf_X3_57 rfl (show decode cX3_readClause 55 = .ok (.getfield 57, 3) by decide +kernel) hb0 ?_
  refine j_bipush (n := 24) (by decide +kernel) (show decode cX3_readClause 58 = .ok (.bipush 24, 2) by decide +kernel) ?_
  have hr1 := h.1
  have h := h.2
  refine j_icmp_lt (tgt := 70) hr1 (inl (by decide)) (show decode cX3_readClause 60 = .ok (.if_icmp .lt 10, 3) by decide +kernel) (by decide) (fun c => ?_) (fun c => ?_)
  · have h := h.1 c
    refine s_aload_n (i := 0) rfl (show decode cX3_readClause 70 = .ok (.aload_n 0, 1) by decide +kernel) ?_
    refine j_ctVv (m' := mX3_advance) (As := []) (ci := 3) (N := 0) (cw_X3_37 rfl) (show decode cX3_readClause 71 = .ok (.invokevirtual 37, 3) by decide +kernel) rfl (Nat.le_of_ble_eq_true rfl) okl_271 rfl rfl (Nat.le_refl _) h (fun r3 σ3 h => ?_)
    refine j_iload_n (i := 1) rfl (show decode cX3_readClause 74 = .ok (.iload_n 1, 1) by decide +kernel) ?_
    have hr3 := h.1
    have h := h.2
    rcases (show (v1 < 100 ∨ 106 < v1) ∨ v1 = 100 ∨ v1 = 101 ∨ v1 = 102 ∨ v1 = 103 ∨ v1 = 104 ∨ v1 = 105 ∨ v1 = 106 by omega) with c | c | c | c | c | c | c | c
    · refine j_tableOut (tgt := 216) hr3 (show decode cX3_readClause 75 = .ok (.tableswitch 141 100 106 #[41, 41, 118, 141, 141, 132, 123], 41) by decide +kernel) c (by decide) ?_
      have h := h.1 c
      refine s_aload_n (i := 0) rfl (show decode cX3_readClause 216 = .ok (.aload_n 0, 1) by decide +kernel) ?_
      refine j_iload_n (i := 1) rfl (show decode cX3_readClause 217 = .ok (.iload_n 1, 1) by decide +kernel) ?_
      refine j_iconst (show decode cX3_readClause 218 = .ok (.iconst 0, 1) by decide +kernel) ?_
      refine j_bipush (n := 7) (by decide +kernel) (show decode cX3_readClause 219 = .ok (.bipush 7, 2) by decide +kernel) ?_
      refine j_ctV (m' := mX3_readOrder) (As := [iv v1, iv 0, iv 7]) (ci := 3) (tag := 0) (N := 0) (cw_X3_82 rfl) (show decode cX3_readClause 221 = .ok (.invokevirtual 82, 3) by decide +kernel) rfl (Nat.le_of_ble_eq_true rfl) (by decide) okl_271 rfl rfl (Nat.le_refl _) h (fun r5 σ5 h => ?_)
      have hz5 := h.1
      have h := h.2
      exact j_ret (rokZ (show decode cX3_readClause 224 = .ok (.ireturn, 1) by decide +kernel) rfl hz5) ⟨rfl, rfl, h⟩
    · refine j_tableIn (tgt := 116) hr3 (show decode cX3_readClause 75 = .ok (.tableswitch 141 100 106 #[41, 41, 118, 141, 141, 132, 123], 41) by decide +kernel) (by omega) (by omega) (by rw [c]; rfl) (by decide) ?_
      have h := h.2.1 c
      refine s_aload_n (i := 0) rfl (show decode cX3_readClause 116 = .ok (.aload_n 0, 1) by decide +kernel) ?_
      refine j_iload_n (i := 1) rfl (show decode cX3_readClause 117 = .ok (.iload_n 1, 1) by decide +kernel) ?_
      refine j_bipush (n := 100) (by decide +kernel) (show decode cX3_readClause 118 = .ok (.bipush 100, 2) by decide +kernel) ?_
      refine j_isub (show decode cX3_readClause 120 = .ok (.isub, 1) by decide +kernel) ?_
      refine pf_X3_60 rfl (show decode cX3_readClause 121 = .ok (.putfield 60, 3) by decide +kernel) okl_271 ?_
      obtain ⟨σ7, eσ7⟩ : ∃ z : jM, z = up σ3 271 5 (v1 - 100) := ⟨_, rfl⟩
      refine j_sig eσ7 ?_
      have h := h σ7 eσ7
      refine s_aload_n (i := 0) rfl (show decode cX3_readClause 124 = .ok (.aload_n 0, 1) by decide +kernel) ?_
      refine gf_X3_25 (x := t) rfl (show decode cX3_readClause 125 = .ok (.getfield 25, 3) by decide +kernel) okl_271 rfl ?_
      have hb7 := h.1
      have h := h.2
      refine gf_X3_54 (x := (t + 5)) rfl (show decode cX3_readClause 128 = .ok (.getfield 54, 3) by decide +kernel) hb7 (gr_8_4 hb7) ?_
      refine s_aload_n (i := 0) rfl (show decode cX3_readClause 131 = .ok (.aload_n 0, 1) by decide +kernel) ?_
      refine gf_X3_60 rfl (show decode cX3_readClause 132 = .ok (.getfield 60, 3) by decide +kernel) okl_271 ?_
      refine s_aload_n (i := 0) rfl (show decode cX3_readClause 135 = .ok (.aload_n 0, 1) by decide +kernel) ?_
      refine gf_X3_25 (x := t) rfl (show decode cX3_readClause 136 = .ok (.getfield 25, 3) by decide +kernel) okl_271 rfl ?_
      have hb8 := h.1
      have h := h.2
      refine gf_X3_63 rfl (show decode cX3_readClause 139 = .ok (.getfield 63, 3) by decide +kernel) hb8 ?_
      have hb9 := h.1
      have h := h.2
      refine s_iast (show decode cX3_readClause 142 = .ok (.iastore, 1) by decide +kernel) (ok_8_4 hb7) hb9 ?_
      obtain ⟨σ11, eσ11⟩ : ∃ z : jM, z = up σ7 (t + 5) (σ7 271 5) (σ7 t 7) := ⟨_, rfl⟩
      refine j_sig eσ11 ?_
      have h := h σ11 eσ11
      refine s_aload_n (i := 0) rfl (show decode cX3_readClause 143 = .ok (.aload_n 0, 1) by decide +kernel) ?_
      refine j_iconst (show decode cX3_readClause 144 = .ok (.iconst 0, 1) by decide +kernel) ?_
      refine j_ctV (m' := mX3_readSum) (As := [iv 0]) (ci := 3) (tag := 0) (N := 0) (cw_X3_66 rfl) (show decode cX3_readClause 145 = .ok (.invokevirtual 66, 3) by decide +kernel) rfl (Nat.le_of_ble_eq_true rfl) (by decide) okl_271 rfl rfl (Nat.le_refl _) h (fun r12 σ12 h => ?_)
      have hr12 := h.1
      have h := h.2
      refine j_if_eq (tgt := 160) hr12 (show decode cX3_readClause 148 = .ok (.ifCond .eq 12, 3) by decide +kernel) (by decide) (fun c => ?_) (fun c => ?_)
      · have h := h.1 c
        exact h
      · have h := h.2 c
        refine s_aload_n (i := 0) rfl (show decode cX3_readClause 151 = .ok (.aload_n 0, 1) by decide +kernel) ?_
        refine j_bipush (n := 59) (by decide +kernel) (show decode cX3_readClause 152 = .ok (.bipush 59, 2) by decide +kernel) ?_
        refine j_ctV (m' := mX3_take) (As := [iv 59]) (ci := 3) (tag := 0) (N := 0) (cw_X3_69 rfl) (show decode cX3_readClause 154 = .ok (.invokevirtual 69, 3) by decide +kernel) rfl (Nat.le_of_ble_eq_true rfl) (by decide) okl_271 rfl rfl (Nat.le_refl _) h (fun r14 σ14 h => ?_)
        have hr14 := h.1
        have h := h.2
        refine j_if_ne (tgt := 162) hr14 (show decode cX3_readClause 157 = .ok (.ifCond .ne 5, 3) by decide +kernel) (by decide) (fun c => ?_) (fun c => ?_)
        · have h := h.1 c
          refine s_aload_n (i := 0) rfl (show decode cX3_readClause 162 = .ok (.aload_n 0, 1) by decide +kernel) ?_
          refine gf_X3_25 (x := t) rfl (show decode cX3_readClause 163 = .ok (.getfield 25, 3) by decide +kernel) okl_271 rfl ?_
          have hb15 := h.1
          have h := h.2
          refine gf_X3_72 (x := (t + 6)) rfl (show decode cX3_readClause 166 = .ok (.getfield 72, 3) by decide +kernel) hb15 (gr_8_5 hb15) ?_
          refine s_aload_n (i := 0) rfl (show decode cX3_readClause 169 = .ok (.aload_n 0, 1) by decide +kernel) ?_
          refine gf_X3_60 rfl (show decode cX3_readClause 170 = .ok (.getfield 60, 3) by decide +kernel) okl_271 ?_
          refine s_aload_n (i := 0) rfl (show decode cX3_readClause 173 = .ok (.aload_n 0, 1) by decide +kernel) ?_
          refine gf_X3_25 (x := t) rfl (show decode cX3_readClause 174 = .ok (.getfield 25, 3) by decide +kernel) okl_271 rfl ?_
          have hb16 := h.1
          have h := h.2
          refine gf_X3_63 rfl (show decode cX3_readClause 177 = .ok (.getfield 63, 3) by decide +kernel) hb16 ?_
          have hb17 := h.1
          have h := h.2
          refine s_iast (show decode cX3_readClause 180 = .ok (.iastore, 1) by decide +kernel) (ok_8_5 hb15) hb17 ?_
          obtain ⟨σ19, eσ19⟩ : ∃ z : jM, z = up σ14 (t + 6) (σ14 271 5) (σ14 t 7) := ⟨_, rfl⟩
          refine j_sig eσ19 ?_
          have h := h σ19 eσ19
          refine s_aload_n (i := 0) rfl (show decode cX3_readClause 181 = .ok (.aload_n 0, 1) by decide +kernel) ?_
          refine gf_X3_25 (x := t) rfl (show decode cX3_readClause 182 = .ok (.getfield 25, 3) by decide +kernel) okl_271 rfl ?_
          refine j_iload_n (i := 1) rfl (show decode cX3_readClause 185 = .ok (.iload_n 1, 1) by decide +kernel) ?_
          refine j_iconst (show decode cX3_readClause 186 = .ok (.iconst 0, 1) by decide +kernel) ?_
          refine j_iconst (show decode cX3_readClause 187 = .ok (.iconst 0, 1) by decide +kernel) ?_
          have hb20 := h.1
          have h := h.2
          refine j_ctVv (m' := mX8_addClause) (As := [iv v1, iv 0, iv 0]) (ci := 8) (N := 0) (cw_X3_75 rfl) (show decode cX3_readClause 188 = .ok (.invokevirtual 75, 3) by decide +kernel) rfl (Nat.le_of_ble_eq_true rfl) hb20 rfl rfl (Nat.le_refl _) h (fun r20 σ20 h => ?_)
          refine j_iconst (show decode cX3_readClause 191 = .ok (.iconst 1, 1) by decide +kernel) ?_
          exact j_ret (rokZ (show decode cX3_readClause 192 = .ok (.ireturn, 1) by decide +kernel) rfl (Or.inr rfl)) ⟨rfl, rfl, h⟩
        · have h := h.2 c
          exact h
    · refine j_tableIn (tgt := 116) hr3 (show decode cX3_readClause 75 = .ok (.tableswitch 141 100 106 #[41, 41, 118, 141, 141, 132, 123], 41) by decide +kernel) (by omega) (by omega) (by rw [c]; rfl) (by decide) ?_
      have h := h.2.2.1 c
      refine s_aload_n (i := 0) rfl (show decode cX3_readClause 116 = .ok (.aload_n 0, 1) by decide +kernel) ?_
      refine j_iload_n (i := 1) rfl (show decode cX3_readClause 117 = .ok (.iload_n 1, 1) by decide +kernel) ?_
      refine j_bipush (n := 100) (by decide +kernel) (show decode cX3_readClause 118 = .ok (.bipush 100, 2) by decide +kernel) ?_
      refine j_isub (show decode cX3_readClause 120 = .ok (.isub, 1) by decide +kernel) ?_
      refine pf_X3_60 rfl (show decode cX3_readClause 121 = .ok (.putfield 60, 3) by decide +kernel) okl_271 ?_
      obtain ⟨σ22, eσ22⟩ : ∃ z : jM, z = up σ3 271 5 (v1 - 100) := ⟨_, rfl⟩
      refine j_sig eσ22 ?_
      have h := h σ22 eσ22
      refine s_aload_n (i := 0) rfl (show decode cX3_readClause 124 = .ok (.aload_n 0, 1) by decide +kernel) ?_
      refine gf_X3_25 (x := t) rfl (show decode cX3_readClause 125 = .ok (.getfield 25, 3) by decide +kernel) okl_271 rfl ?_
      have hb22 := h.1
      have h := h.2
      refine gf_X3_54 (x := (t + 5)) rfl (show decode cX3_readClause 128 = .ok (.getfield 54, 3) by decide +kernel) hb22 (gr_8_4 hb22) ?_
      refine s_aload_n (i := 0) rfl (show decode cX3_readClause 131 = .ok (.aload_n 0, 1) by decide +kernel) ?_
      refine gf_X3_60 rfl (show decode cX3_readClause 132 = .ok (.getfield 60, 3) by decide +kernel) okl_271 ?_
      refine s_aload_n (i := 0) rfl (show decode cX3_readClause 135 = .ok (.aload_n 0, 1) by decide +kernel) ?_
      refine gf_X3_25 (x := t) rfl (show decode cX3_readClause 136 = .ok (.getfield 25, 3) by decide +kernel) okl_271 rfl ?_
      have hb23 := h.1
      have h := h.2
      refine gf_X3_63 rfl (show decode cX3_readClause 139 = .ok (.getfield 63, 3) by decide +kernel) hb23 ?_
      have hb24 := h.1
      have h := h.2
      refine s_iast (show decode cX3_readClause 142 = .ok (.iastore, 1) by decide +kernel) (ok_8_4 hb22) hb24 ?_
      obtain ⟨σ26, eσ26⟩ : ∃ z : jM, z = up σ22 (t + 5) (σ22 271 5) (σ22 t 7) := ⟨_, rfl⟩
      refine j_sig eσ26 ?_
      have h := h σ26 eσ26
      refine s_aload_n (i := 0) rfl (show decode cX3_readClause 143 = .ok (.aload_n 0, 1) by decide +kernel) ?_
      refine j_iconst (show decode cX3_readClause 144 = .ok (.iconst 0, 1) by decide +kernel) ?_
      refine j_ctV (m' := mX3_readSum) (As := [iv 0]) (ci := 3) (tag := 0) (N := 0) (cw_X3_66 rfl) (show decode cX3_readClause 145 = .ok (.invokevirtual 66, 3) by decide +kernel) rfl (Nat.le_of_ble_eq_true rfl) (by decide) okl_271 rfl rfl (Nat.le_refl _) h (fun r27 σ27 h => ?_)
      have hr27 := h.1
      have h := h.2
      refine j_if_eq (tgt := 160) hr27 (show decode cX3_readClause 148 = .ok (.ifCond .eq 12, 3) by decide +kernel) (by decide) (fun c => ?_) (fun c => ?_)
      · have h := h.1 c
        exact h
      · have h := h.2 c
        refine s_aload_n (i := 0) rfl (show decode cX3_readClause 151 = .ok (.aload_n 0, 1) by decide +kernel) ?_
        refine j_bipush (n := 59) (by decide +kernel) (show decode cX3_readClause 152 = .ok (.bipush 59, 2) by decide +kernel) ?_
        refine j_ctV (m' := mX3_take) (As := [iv 59]) (ci := 3) (tag := 0) (N := 0) (cw_X3_69 rfl) (show decode cX3_readClause 154 = .ok (.invokevirtual 69, 3) by decide +kernel) rfl (Nat.le_of_ble_eq_true rfl) (by decide) okl_271 rfl rfl (Nat.le_refl _) h (fun r29 σ29 h => ?_)
        have hr29 := h.1
        have h := h.2
        refine j_if_ne (tgt := 162) hr29 (show decode cX3_readClause 157 = .ok (.ifCond .ne 5, 3) by decide +kernel) (by decide) (fun c => ?_) (fun c => ?_)
        · have h := h.1 c
          refine s_aload_n (i := 0) rfl (show decode cX3_readClause 162 = .ok (.aload_n 0, 1) by decide +kernel) ?_
          refine gf_X3_25 (x := t) rfl (show decode cX3_readClause 163 = .ok (.getfield 25, 3) by decide +kernel) okl_271 rfl ?_
          have hb30 := h.1
          have h := h.2
          refine gf_X3_72 (x := (t + 6)) rfl (show decode cX3_readClause 166 = .ok (.getfield 72, 3) by decide +kernel) hb30 (gr_8_5 hb30) ?_
          refine s_aload_n (i := 0) rfl (show decode cX3_readClause 169 = .ok (.aload_n 0, 1) by decide +kernel) ?_
          refine gf_X3_60 rfl (show decode cX3_readClause 170 = .ok (.getfield 60, 3) by decide +kernel) okl_271 ?_
          refine s_aload_n (i := 0) rfl (show decode cX3_readClause 173 = .ok (.aload_n 0, 1) by decide +kernel) ?_
          refine gf_X3_25 (x := t) rfl (show decode cX3_readClause 174 = .ok (.getfield 25, 3) by decide +kernel) okl_271 rfl ?_
          have hb31 := h.1
          have h := h.2
          refine gf_X3_63 rfl (show decode cX3_readClause 177 = .ok (.getfield 63, 3) by decide +kernel) hb31 ?_
          have hb32 := h.1
          have h := h.2
          refine s_iast (show decode cX3_readClause 180 = .ok (.iastore, 1) by decide +kernel) (ok_8_5 hb30) hb32 ?_
          obtain ⟨σ34, eσ34⟩ : ∃ z : jM, z = up σ29 (t + 6) (σ29 271 5) (σ29 t 7) := ⟨_, rfl⟩
          refine j_sig eσ34 ?_
          have h := h σ34 eσ34
          refine s_aload_n (i := 0) rfl (show decode cX3_readClause 181 = .ok (.aload_n 0, 1) by decide +kernel) ?_
          refine gf_X3_25 (x := t) rfl (show decode cX3_readClause 182 = .ok (.getfield 25, 3) by decide +kernel) okl_271 rfl ?_
          refine j_iload_n (i := 1) rfl (show decode cX3_readClause 185 = .ok (.iload_n 1, 1) by decide +kernel) ?_
          refine j_iconst (show decode cX3_readClause 186 = .ok (.iconst 0, 1) by decide +kernel) ?_
          refine j_iconst (show decode cX3_readClause 187 = .ok (.iconst 0, 1) by decide +kernel) ?_
          have hb35 := h.1
          have h := h.2
          refine j_ctVv (m' := mX8_addClause) (As := [iv v1, iv 0, iv 0]) (ci := 8) (N := 0) (cw_X3_75 rfl) (show decode cX3_readClause 188 = .ok (.invokevirtual 75, 3) by decide +kernel) rfl (Nat.le_of_ble_eq_true rfl) hb35 rfl rfl (Nat.le_refl _) h (fun r35 σ35 h => ?_)
          refine j_iconst (show decode cX3_readClause 191 = .ok (.iconst 1, 1) by decide +kernel) ?_
          exact j_ret (rokZ (show decode cX3_readClause 192 = .ok (.ireturn, 1) by decide +kernel) rfl (Or.inr rfl)) ⟨rfl, rfl, h⟩
        · have h := h.2 c
          exact h
    · refine j_tableIn (tgt := 193) hr3 (show decode cX3_readClause 75 = .ok (.tableswitch 141 100 106 #[41, 41, 118, 141, 141, 132, 123], 41) by decide +kernel) (by omega) (by omega) (by rw [c]; rfl) (by decide) ?_
      have h := h.2.2.2.1 c
      refine s_aload_n (i := 0) rfl (show decode cX3_readClause 193 = .ok (.aload_n 0, 1) by decide +kernel) ?_
      refine j_ctV (m' := mX3_readJoin) (As := []) (ci := 3) (tag := 0) (N := 0) (cw_X3_79 rfl) (show decode cX3_readClause 194 = .ok (.invokevirtual 79, 3) by decide +kernel) rfl (Nat.le_of_ble_eq_true rfl) (by decide) okl_271 rfl rfl (Nat.le_refl _) h (fun r37 σ37 h => ?_)
      have hz37 := h.1
      have h := h.2
      exact j_ret (rokZ (show decode cX3_readClause 197 = .ok (.ireturn, 1) by decide +kernel) rfl hz37) ⟨rfl, rfl, h⟩
    · refine j_tableIn (tgt := 216) hr3 (show decode cX3_readClause 75 = .ok (.tableswitch 141 100 106 #[41, 41, 118, 141, 141, 132, 123], 41) by decide +kernel) (by omega) (by omega) (by rw [c]; rfl) (by decide) ?_
      have h := h.2.2.2.2.1 c
      refine s_aload_n (i := 0) rfl (show decode cX3_readClause 216 = .ok (.aload_n 0, 1) by decide +kernel) ?_
      refine j_iload_n (i := 1) rfl (show decode cX3_readClause 217 = .ok (.iload_n 1, 1) by decide +kernel) ?_
      refine j_iconst (show decode cX3_readClause 218 = .ok (.iconst 0, 1) by decide +kernel) ?_
      refine j_bipush (n := 7) (by decide +kernel) (show decode cX3_readClause 219 = .ok (.bipush 7, 2) by decide +kernel) ?_
      refine j_ctV (m' := mX3_readOrder) (As := [iv v1, iv 0, iv 7]) (ci := 3) (tag := 0) (N := 0) (cw_X3_82 rfl) (show decode cX3_readClause 221 = .ok (.invokevirtual 82, 3) by decide +kernel) rfl (Nat.le_of_ble_eq_true rfl) (by decide) okl_271 rfl rfl (Nat.le_refl _) h (fun r39 σ39 h => ?_)
      have hz39 := h.1
      have h := h.2
      exact j_ret (rokZ (show decode cX3_readClause 224 = .ok (.ireturn, 1) by decide +kernel) rfl hz39) ⟨rfl, rfl, h⟩
    · refine j_tableIn (tgt := 216) hr3 (show decode cX3_readClause 75 = .ok (.tableswitch 141 100 106 #[41, 41, 118, 141, 141, 132, 123], 41) by decide +kernel) (by omega) (by omega) (by rw [c]; rfl) (by decide) ?_
      have h := h.2.2.2.2.2.1 c
      refine s_aload_n (i := 0) rfl (show decode cX3_readClause 216 = .ok (.aload_n 0, 1) by decide +kernel) ?_
      refine j_iload_n (i := 1) rfl (show decode cX3_readClause 217 = .ok (.iload_n 1, 1) by decide +kernel) ?_
      refine j_iconst (show decode cX3_readClause 218 = .ok (.iconst 0, 1) by decide +kernel) ?_
      refine j_bipush (n := 7) (by decide +kernel) (show decode cX3_readClause 219 = .ok (.bipush 7, 2) by decide +kernel) ?_
      refine j_ctV (m' := mX3_readOrder) (As := [iv v1, iv 0, iv 7]) (ci := 3) (tag := 0) (N := 0) (cw_X3_82 rfl) (show decode cX3_readClause 221 = .ok (.invokevirtual 82, 3) by decide +kernel) rfl (Nat.le_of_ble_eq_true rfl) (by decide) okl_271 rfl rfl (Nat.le_refl _) h (fun r41 σ41 h => ?_)
      have hz41 := h.1
      have h := h.2
      exact j_ret (rokZ (show decode cX3_readClause 224 = .ok (.ireturn, 1) by decide +kernel) rfl hz41) ⟨rfl, rfl, h⟩
    · refine j_tableIn (tgt := 207) hr3 (show decode cX3_readClause 75 = .ok (.tableswitch 141 100 106 #[41, 41, 118, 141, 141, 132, 123], 41) by decide +kernel) (by omega) (by omega) (by rw [c]; rfl) (by decide) ?_
      have h := h.2.2.2.2.2.2.1 c
      refine s_aload_n (i := 0) rfl (show decode cX3_readClause 207 = .ok (.aload_n 0, 1) by decide +kernel) ?_
      refine j_iload_n (i := 1) rfl (show decode cX3_readClause 208 = .ok (.iload_n 1, 1) by decide +kernel) ?_
      refine j_iconst (show decode cX3_readClause 209 = .ok (.iconst 1, 1) by decide +kernel) ?_
      refine j_bipush (n := 120) (by decide +kernel) (show decode cX3_readClause 210 = .ok (.bipush 120, 2) by decide +kernel) ?_
      refine j_ctV (m' := mX3_readOrder) (As := [iv v1, iv 1, iv 120]) (ci := 3) (tag := 0) (N := 0) (cw_X3_82 rfl) (show decode cX3_readClause 212 = .ok (.invokevirtual 82, 3) by decide +kernel) rfl (Nat.le_of_ble_eq_true rfl) (by decide) okl_271 rfl rfl (Nat.le_refl _) h (fun r43 σ43 h => ?_)
      have hz43 := h.1
      have h := h.2
      exact j_ret (rokZ (show decode cX3_readClause 215 = .ok (.ireturn, 1) by decide +kernel) rfl hz43) ⟨rfl, rfl, h⟩
    · refine j_tableIn (tgt := 198) hr3 (show decode cX3_readClause 75 = .ok (.tableswitch 141 100 106 #[41, 41, 118, 141, 141, 132, 123], 41) by decide +kernel) (by omega) (by omega) (by rw [c]; rfl) (by decide) ?_
      have h := h.2.2.2.2.2.2.2 c
      refine s_aload_n (i := 0) rfl (show decode cX3_readClause 198 = .ok (.aload_n 0, 1) by decide +kernel) ?_
      refine j_iload_n (i := 1) rfl (show decode cX3_readClause 199 = .ok (.iload_n 1, 1) by decide +kernel) ?_
      refine j_iconst (show decode cX3_readClause 200 = .ok (.iconst 1, 1) by decide +kernel) ?_
      refine j_bipush (n := 60) (by decide +kernel) (show decode cX3_readClause 201 = .ok (.bipush 60, 2) by decide +kernel) ?_
      refine j_ctV (m' := mX3_readOrder) (As := [iv v1, iv 1, iv 60]) (ci := 3) (tag := 0) (N := 0) (cw_X3_82 rfl) (show decode cX3_readClause 203 = .ok (.invokevirtual 82, 3) by decide +kernel) rfl (Nat.le_of_ble_eq_true rfl) (by decide) okl_271 rfl rfl (Nat.le_refl _) h (fun r45 σ45 h => ?_)
      have hz45 := h.1
      have h := h.2
      exact j_ret (rokZ (show decode cX3_readClause 206 = .ok (.ireturn, 1) by decide +kernel) rfl hz45) ⟨rfl, rfl, h⟩
  · have h := h.2 c
    refine s_aload_n (i := 0) rfl (show decode cX3_readClause 63 = .ok (.aload_n 0, 1) by decide +kernel) ?_
    refine j_bipush (n := 6) (by decide +kernel) (show decode cX3_readClause 64 = .ok (.bipush 6, 2) by decide +kernel) ?_
    refine j_ctV (m' := mX3_failed) (As := [iv 6]) (ci := 3) (tag := 0) (N := 0) (cw_X3_50 rfl) (show decode cX3_readClause 66 = .ok (.invokevirtual 50, 3) by decide +kernel) rfl (Nat.le_of_ble_eq_true rfl) (by decide) okl_271 rfl rfl (Nat.le_refl _) h (fun r47 σ47 h => ?_)
    have hz47 := h.1
    have h := h.2
    exact j_ret (rokZ (show decode cX3_readClause 69 = .ok (.ireturn, 1) by decide +kernel) rfl hz47) ⟨rfl, rfl, h⟩
set_option maxRecDepth 4000 in
theorem b_X3_readClause_17 {d : Nat} {t : Int} {Q : Int → jM → Prop} {σ : jM} {v1 : Int} (h : Ct mX3_failed d 0 t [rv 271, iv 1] σ (fun r1 σ1 => ((r1 = 0 ∨ r1 = 1) ∧ (Q r1 σ1)))) : Jt mX3_readClause (d + 1) 0 t Q 17 [rv 271, iv v1] [] σ := by
  refine s_aload_n (i := 0) rfl (show decode cX3_readClause 17 = .ok (.aload_n 0, 1) by decide +kernel) ?_
  refine j_iconst (show decode cX3_readClause 18 = .ok (.iconst 1, 1) by decide +kernel) ?_
  refine j_ctV (m' := mX3_failed) (As := [iv 1]) (ci := 3) (tag := 0) (N := 0) (cw_X3_50 rfl) (show decode cX3_readClause 19 = .ok (.invokevirtual 50, 3) by decide +kernel) rfl (Nat.le_of_ble_eq_true rfl) (by decide) okl_271 rfl rfl (Nat.le_refl _) h (fun r1 σ1 h => ?_)
  have hz1 := h.1
  have h := h.2
  exact j_ret (rokZ (show decode cX3_readClause 22 = .ok (.ireturn, 1) by decide +kernel) rfl hz1) ⟨rfl, rfl, h⟩
set_option maxRecDepth 4000 in
theorem b_X3_readClause_0 {d : Nat} {t : Int} {Q : Int → jM → Prop} {σ : jM} (h : (inR (σ 271 6)) ∧ (((σ 271 6) < 100 → (Jt mX3_readClause (d + 1) 0 t Q 17 [rv 271, iv (σ 271 6)] [] σ)) ∧ (100 ≤ (σ 271 6) → ((inR (σ 271 6)) ∧ (((σ 271 6) ≤ 106 → ((inR (σ 271 6)) ∧ ((101 < (σ 271 6) → (Jt mX3_readClause (d + 1) 0 t Q 51 [rv 271, iv (σ 271 6)] [] σ)) ∧ ((σ 271 6) ≤ 101 → ((ob (GG t) t 8) ∧ (((0 : Int) ≤ ((σ 271 6) - 100) ∧ ((σ 271 6) - 100) < 2) ∧ ((inR (σ (t + 5) ((σ 271 6) - 100))) ∧ (((σ (t + 5) ((σ 271 6) - 100)) = (-1) → (Jt mX3_readClause (d + 1) 0 t Q 51 [rv 271, iv (σ 271 6)] [] σ)) ∧ (¬ (σ (t + 5) ((σ 271 6) - 100)) = (-1) → (Ct mX3_failed d 0 t [rv 271, iv 4] σ (fun r6 σ6 => ((r6 = 0 ∨ r6 = 1) ∧ (Q r6 σ6))))))))))))) ∧ (106 < (σ 271 6) → (Jt mX3_readClause (d + 1) 0 t Q 17 [rv 271, iv (σ 271 6)] [] σ))))))) : Jt mX3_readClause (d + 1) 0 t Q 0 [rv 271, uv] [] σ := by
  refine s_aload_n (i := 0) rfl (show decode cX3_readClause 0 = .ok (.aload_n 0, 1) by decide +kernel) ?_
  refine gf_X3_40 rfl (show decode cX3_readClause 1 = .ok (.getfield 40, 3) by decide +kernel) okl_271 ?_
  refine s_ist_n (i := 1) (L' := [rv 271, iv (σ 271 6)]) rfl (by decide) (show decode cX3_readClause 4 = .ok (.istore_n 1, 1) by decide +kernel) ?_
  refine j_iload_n (i := 1) rfl (show decode cX3_readClause 5 = .ok (.iload_n 1, 1) by decide +kernel) ?_
  refine j_bipush (n := 100) (by decide +kernel) (show decode cX3_readClause 6 = .ok (.bipush 100, 2) by decide +kernel) ?_
  have hr0 := h.1
  have h := h.2
  refine j_icmp_lt (tgt := 17) hr0 (inl (by decide)) (show decode cX3_readClause 8 = .ok (.if_icmp .lt 9, 3) by decide +kernel) (by decide) (fun c => ?_) (fun c => ?_)
  · have h := h.1 c
    exact h
  · have h := h.2 c
    refine j_iload_n (i := 1) rfl (show decode cX3_readClause 11 = .ok (.iload_n 1, 1) by decide +kernel) ?_
    refine j_bipush (n := 106) (by decide +kernel) (show decode cX3_readClause 12 = .ok (.bipush 106, 2) by decide +kernel) ?_
    have hr1 := h.1
    have h := h.2
    refine j_icmp_le (tgt := 23) hr1 (inl (by decide)) (show decode cX3_readClause 14 = .ok (.if_icmp .le 9, 3) by decide +kernel) (by decide) (fun c => ?_) (fun c => ?_)
    · have h := h.1 c
      refine j_iload_n (i := 1) rfl (show decode cX3_readClause 23 = .ok (.iload_n 1, 1) by decide +kernel) ?_
      refine j_bipush (n := 101) (by decide +kernel) (show decode cX3_readClause 24 = .ok (.bipush 101, 2) by decide +kernel) ?_
      have hr2 := h.1
      have h := h.2
      refine j_icmp_gt (tgt := 51) hr2 (inl (by decide)) (show decode cX3_readClause 26 = .ok (.if_icmp .gt 25, 3) by decide +kernel) (by decide) (fun c => ?_) (fun c => ?_)
      · have h := h.1 c
        exact h
      · have h := h.2 c
        refine s_aload_n (i := 0) rfl (show decode cX3_readClause 29 = .ok (.aload_n 0, 1) by decide +kernel) ?_
        refine gf_X3_25 (x := t) rfl (show decode cX3_readClause 30 = .ok (.getfield 25, 3) by decide +kernel) okl_271 rfl ?_
        have hb3 := h.1
        have h := h.2
        refine gf_X3_54 (x := (t + 5)) rfl (show decode cX3_readClause 33 = .ok (.getfield 54, 3) by decide +kernel) hb3 (gr_8_4 hb3) ?_
        refine j_iload_n (i := 1) rfl (show decode cX3_readClause 36 = .ok (.iload_n 1, 1) by decide +kernel) ?_
        refine j_bipush (n := 100) (by decide +kernel) (show decode cX3_readClause 37 = .ok (.bipush 100, 2) by decide +kernel) ?_
        refine j_isub (show decode cX3_readClause 39 = .ok (.isub, 1) by decide +kernel) ?_
        refine s_iald (show decode cX3_readClause 40 = .ok (.iaload, 1) by decide +kernel) (ok_8_4 hb3) h.1 ?_
        have h := h.2
        refine j_iconst (show decode cX3_readClause 41 = .ok (.iconst (-1), 1) by decide +kernel) ?_
        have hr4 := h.1
        have h := h.2
        refine j_icmp_eq (tgt := 51) hr4 (inl (by decide)) (show decode cX3_readClause 42 = .ok (.if_icmp .eq 9, 3) by decide +kernel) (by decide) (fun c => ?_) (fun c => ?_)
        · have h := h.1 c
          exact h
        · have h := h.2 c
          refine s_aload_n (i := 0) rfl (show decode cX3_readClause 45 = .ok (.aload_n 0, 1) by decide +kernel) ?_
          refine j_iconst (show decode cX3_readClause 46 = .ok (.iconst 4, 1) by decide +kernel) ?_
          refine j_ctV (m' := mX3_failed) (As := [iv 4]) (ci := 3) (tag := 0) (N := 0) (cw_X3_50 rfl) (show decode cX3_readClause 47 = .ok (.invokevirtual 50, 3) by decide +kernel) rfl (Nat.le_of_ble_eq_true rfl) (by decide) okl_271 rfl rfl (Nat.le_refl _) h (fun r6 σ6 h => ?_)
          have hz6 := h.1
          have h := h.2
          exact j_ret (rokZ (show decode cX3_readClause 50 = .ok (.ireturn, 1) by decide +kernel) rfl hz6) ⟨rfl, rfl, h⟩
    · have h := h.2 c
      exact h
theorem c_X3_readClause {d : Nat} {t : Int} {Q : Int → jM → Prop} {σ : jM} (h : (inR (σ 271 6)) ∧ (((σ 271 6) < 100 → (Jt mX3_readClause (d + 1) 0 t Q 17 [rv 271, iv (σ 271 6)] [] σ)) ∧ (100 ≤ (σ 271 6) → ((inR (σ 271 6)) ∧ (((σ 271 6) ≤ 106 → ((inR (σ 271 6)) ∧ ((101 < (σ 271 6) → (Jt mX3_readClause (d + 1) 0 t Q 51 [rv 271, iv (σ 271 6)] [] σ)) ∧ ((σ 271 6) ≤ 101 → ((ob (GG t) t 8) ∧ (((0 : Int) ≤ ((σ 271 6) - 100) ∧ ((σ 271 6) - 100) < 2) ∧ ((inR (σ (t + 5) ((σ 271 6) - 100))) ∧ (((σ (t + 5) ((σ 271 6) - 100)) = (-1) → (Jt mX3_readClause (d + 1) 0 t Q 51 [rv 271, iv (σ 271 6)] [] σ)) ∧ (¬ (σ (t + 5) ((σ 271 6) - 100)) = (-1) → (Ct mX3_failed d 0 t [rv 271, iv 4] σ (fun r6 σ6 => ((r6 = 0 ∨ r6 = 1) ∧ (Q r6 σ6))))))))))))) ∧ (106 < (σ 271 6) → (Jt mX3_readClause (d + 1) 0 t Q 17 [rv 271, iv (σ 271 6)] [] σ))))))) : Ct mX3_readClause (d + 1) 0 t [rv 271] σ Q := Ct_of (by decide +kernel) (Nat.le_of_ble_eq_true rfl) (b_X3_readClause_0 h)
set_option maxRecDepth 4000 in
theorem b_X3_readJoin_0 {d : Nat} {t : Int} {Q : Int → jM → Prop} {σ : jM} (h : Ct mX3_takeNumber d 0 t [rv 271, iv 0, iv 7] σ (fun r1 σ1 => ((inR r1) ∧ ((r1 = 0 → (Q 0 σ1)) ∧ (¬ r1 = 0 → (Ct mX3_take d 0 t [rv 271, iv 119] σ1 (fun r3 σ3 => ((inR r3) ∧ ((¬ r3 = 0 → (Ct mX3_takeNumber d 0 t [rv 271, iv 0, iv 7] σ3 (fun r5 σ5 => ((inR r5) ∧ ((r5 = 0 → (Q 0 σ5)) ∧ (¬ r5 = 0 → (Ct mX3_take d 0 t [rv 271, iv 59] σ5 (fun r7 σ7 => ((inR r7) ∧ ((¬ r7 = 0 → ((ob (GG t) t 8) ∧ (Ct mX8_addClause d 9 t [rv t, iv 102, iv (σ 271 9), iv (σ3 271 9)] σ7 (fun r9 σ9 => (Q 1 σ9))))) ∧ (r7 = 0 → (Q 0 σ7)))))))))))) ∧ (r3 = 0 → (Q 0 σ3))))))))))) : Jt mX3_readJoin (d + 1) 0 t Q 0 [rv 271, uv, uv] [] σ := by
  refine s_aload_n (i := 0) rfl (show decode cX3_readJoin 0 = .ok (.aload_n 0, 1) by decide +kernel) ?_
  refine gf_X3_88 rfl (show decode cX3_readJoin 1 = .ok (.getfield 88, 3) by decide +kernel) okl_271 ?_
  refine s_ist_n (i := 1) (L' := [rv 271, iv (σ 271 9), uv]) rfl (by decide) (show decode cX3_readJoin 4 = .ok (.istore_n 1, 1) by decide +kernel) ?_
  refine s_aload_n (i := 0) rfl (show decode cX3_readJoin 5 = .ok (.aload_n 0, 1) by decide +kernel) ?_
  refine j_iconst (show decode cX3_readJoin 6 = .ok (.iconst 0, 1) by decide +kernel) ?_
  refine j_bipush (n := 7) (by decide +kernel) (show decode cX3_readJoin 7 = .ok (.bipush 7, 2) by decide +kernel) ?_
  refine j_ctV (m' := mX3_takeNumber) (As := [iv 0, iv 7]) (ci := 3) (tag := 0) (N := 0) (cw_X3_91 rfl) (show decode cX3_readJoin 9 = .ok (.invokevirtual 91, 3) by decide +kernel) rfl (Nat.le_of_ble_eq_true rfl) (by decide) okl_271 rfl rfl (Nat.le_refl _) h (fun r1 σ1 h => ?_)
  have hr1 := h.1
  have h := h.2
  refine j_if_eq (tgt := 24) hr1 (show decode cX3_readJoin 12 = .ok (.ifCond .eq 12, 3) by decide +kernel) (by decide) (fun c => ?_) (fun c => ?_)
  · have h := h.1 c
    refine j_iconst (show decode cX3_readJoin 24 = .ok (.iconst 0, 1) by decide +kernel) ?_
    exact j_ret (rokZ (show decode cX3_readJoin 25 = .ok (.ireturn, 1) by decide +kernel) rfl (Or.inl rfl)) ⟨rfl, rfl, h⟩
  · have h := h.2 c
    refine s_aload_n (i := 0) rfl (show decode cX3_readJoin 15 = .ok (.aload_n 0, 1) by decide +kernel) ?_
    refine j_bipush (n := 119) (by decide +kernel) (show decode cX3_readJoin 16 = .ok (.bipush 119, 2) by decide +kernel) ?_
    refine j_ctV (m' := mX3_take) (As := [iv 119]) (ci := 3) (tag := 0) (N := 0) (cw_X3_69 rfl) (show decode cX3_readJoin 18 = .ok (.invokevirtual 69, 3) by decide +kernel) rfl (Nat.le_of_ble_eq_true rfl) (by decide) okl_271 rfl rfl (Nat.le_refl _) h (fun r3 σ3 h => ?_)
    have hr3 := h.1
    have h := h.2
    refine j_if_ne (tgt := 26) hr3 (show decode cX3_readJoin 21 = .ok (.ifCond .ne 5, 3) by decide +kernel) (by decide) (fun c => ?_) (fun c => ?_)
    · have h := h.1 c
      refine s_aload_n (i := 0) rfl (show decode cX3_readJoin 26 = .ok (.aload_n 0, 1) by decide +kernel) ?_
      refine gf_X3_88 rfl (show decode cX3_readJoin 27 = .ok (.getfield 88, 3) by decide +kernel) okl_271 ?_
      refine s_ist_n (i := 2) (L' := [rv 271, iv (σ 271 9), iv (σ3 271 9)]) rfl (by decide) (show decode cX3_readJoin 30 = .ok (.istore_n 2, 1) by decide +kernel) ?_
      refine s_aload_n (i := 0) rfl (show decode cX3_readJoin 31 = .ok (.aload_n 0, 1) by decide +kernel) ?_
      refine j_iconst (show decode cX3_readJoin 32 = .ok (.iconst 0, 1) by decide +kernel) ?_
      refine j_bipush (n := 7) (by decide +kernel) (show decode cX3_readJoin 33 = .ok (.bipush 7, 2) by decide +kernel) ?_
      refine j_ctV (m' := mX3_takeNumber) (As := [iv 0, iv 7]) (ci := 3) (tag := 0) (N := 0) (cw_X3_91 rfl) (show decode cX3_readJoin 35 = .ok (.invokevirtual 91, 3) by decide +kernel) rfl (Nat.le_of_ble_eq_true rfl) (by decide) okl_271 rfl rfl (Nat.le_refl _) h (fun r5 σ5 h => ?_)
      have hr5 := h.1
      have h := h.2
      refine j_if_eq (tgt := 50) hr5 (show decode cX3_readJoin 38 = .ok (.ifCond .eq 12, 3) by decide +kernel) (by decide) (fun c => ?_) (fun c => ?_)
      · have h := h.1 c
        refine j_iconst (show decode cX3_readJoin 50 = .ok (.iconst 0, 1) by decide +kernel) ?_
        exact j_ret (rokZ (show decode cX3_readJoin 51 = .ok (.ireturn, 1) by decide +kernel) rfl (Or.inl rfl)) ⟨rfl, rfl, h⟩
      · have h := h.2 c
        refine s_aload_n (i := 0) rfl (show decode cX3_readJoin 41 = .ok (.aload_n 0, 1) by decide +kernel) ?_
        refine j_bipush (n := 59) (by decide +kernel) (show decode cX3_readJoin 42 = .ok (.bipush 59, 2) by decide +kernel) ?_
        refine j_ctV (m' := mX3_take) (As := [iv 59]) (ci := 3) (tag := 0) (N := 0) (cw_X3_69 rfl) (show decode cX3_readJoin 44 = .ok (.invokevirtual 69, 3) by decide +kernel) rfl (Nat.le_of_ble_eq_true rfl) (by decide) okl_271 rfl rfl (Nat.le_refl _) h (fun r7 σ7 h => ?_)
        have hr7 := h.1
        have h := h.2
        refine j_if_ne (tgt := 52) hr7 (show decode cX3_readJoin 47 = .ok (.ifCond .ne 5, 3) by decide +kernel) (by decide) (fun c => ?_) (fun c => ?_)
        · have h := h.1 c
          refine s_aload_n (i := 0) rfl (show decode cX3_readJoin 52 = .ok (.aload_n 0, 1) by decide +kernel) ?_
          refine gf_X3_25 (x := t) rfl (show decode cX3_readJoin 53 = .ok (.getfield 25, 3) by decide +kernel) okl_271 rfl ?_
          refine j_bipush (n := 102) (by decide +kernel) (show decode cX3_readJoin 56 = .ok (.bipush 102, 2) by decide +kernel) ?_
          refine j_iload_n (i := 1) rfl (show decode cX3_readJoin 58 = .ok (.iload_n 1, 1) by decide +kernel) ?_
          refine j_iload_n (i := 2) rfl (show decode cX3_readJoin 59 = .ok (.iload_n 2, 1) by decide +kernel) ?_
          have hb9 := h.1
          have h := h.2
          refine j_ctVv (m' := mX8_addClause) (As := [iv 102, iv (σ 271 9), iv (σ3 271 9)]) (ci := 8) (N := 0) (cw_X3_75 rfl) (show decode cX3_readJoin 60 = .ok (.invokevirtual 75, 3) by decide +kernel) rfl (Nat.le_of_ble_eq_true rfl) hb9 rfl rfl (Nat.le_refl _) h (fun r9 σ9 h => ?_)
          refine j_iconst (show decode cX3_readJoin 63 = .ok (.iconst 1, 1) by decide +kernel) ?_
          exact j_ret (rokZ (show decode cX3_readJoin 64 = .ok (.ireturn, 1) by decide +kernel) rfl (Or.inr rfl)) ⟨rfl, rfl, h⟩
        · have h := h.2 c
          refine j_iconst (show decode cX3_readJoin 50 = .ok (.iconst 0, 1) by decide +kernel) ?_
          exact j_ret (rokZ (show decode cX3_readJoin 51 = .ok (.ireturn, 1) by decide +kernel) rfl (Or.inl rfl)) ⟨rfl, rfl, h⟩
    · have h := h.2 c
      refine j_iconst (show decode cX3_readJoin 24 = .ok (.iconst 0, 1) by decide +kernel) ?_
      exact j_ret (rokZ (show decode cX3_readJoin 25 = .ok (.ireturn, 1) by decide +kernel) rfl (Or.inl rfl)) ⟨rfl, rfl, h⟩
theorem c_X3_readJoin {d : Nat} {t : Int} {Q : Int → jM → Prop} {σ : jM} (h : Ct mX3_takeNumber d 0 t [rv 271, iv 0, iv 7] σ (fun r1 σ1 => ((inR r1) ∧ ((r1 = 0 → (Q 0 σ1)) ∧ (¬ r1 = 0 → (Ct mX3_take d 0 t [rv 271, iv 119] σ1 (fun r3 σ3 => ((inR r3) ∧ ((¬ r3 = 0 → (Ct mX3_takeNumber d 0 t [rv 271, iv 0, iv 7] σ3 (fun r5 σ5 => ((inR r5) ∧ ((r5 = 0 → (Q 0 σ5)) ∧ (¬ r5 = 0 → (Ct mX3_take d 0 t [rv 271, iv 59] σ5 (fun r7 σ7 => ((inR r7) ∧ ((¬ r7 = 0 → ((ob (GG t) t 8) ∧ (Ct mX8_addClause d 9 t [rv t, iv 102, iv (σ 271 9), iv (σ3 271 9)] σ7 (fun r9 σ9 => (Q 1 σ9))))) ∧ (r7 = 0 → (Q 0 σ7)))))))))))) ∧ (r3 = 0 → (Q 0 σ3))))))))))) : Ct mX3_readJoin (d + 1) 0 t [rv 271] σ Q := Ct_of (by decide +kernel) (Nat.le_of_ble_eq_true rfl) (b_X3_readJoin_0 h)
set_option maxRecDepth 4000 in
theorem b_X3_readOrder_0 {d : Nat} {t : Int} {Q : Int → jM → Prop} {σ : jM} {p1 p2 p3 : Int} (h : Ct mX3_takeNumber d 0 t [rv 271, iv p2, iv p3] σ (fun r1 σ1 => ((inR r1) ∧ ((r1 = 0 → (Q 0 σ1)) ∧ (¬ r1 = 0 → (Ct mX3_take d 0 t [rv 271, iv 59] σ1 (fun r3 σ3 => ((inR r3) ∧ ((¬ r3 = 0 → ((ob (GG t) t 8) ∧ (Ct mX8_addClause d 9 t [rv t, iv p1, iv (σ 271 9), iv 0] σ3 (fun r5 σ5 => (Q 1 σ5))))) ∧ (r3 = 0 → (Q 0 σ3))))))))))) : Jt mX3_readOrder (d + 1) 0 t Q 0 [rv 271, iv p1, iv p2, iv p3, uv] [] σ := by
  refine s_aload_n (i := 0) rfl (show decode cX3_readOrder 0 = .ok (.aload_n 0, 1) by decide +kernel) ?_
  refine gf_X3_88 rfl (show decode cX3_readOrder 1 = .ok (.getfield 88, 3) by decide +kernel) okl_271 ?_
  refine s_ist (i := 4) (L' := [rv 271, iv p1, iv p2, iv p3, iv (σ 271 9)]) rfl (by decide) (show decode cX3_readOrder 4 = .ok (.istore 4, 2) by decide +kernel) ?_
  refine s_aload_n (i := 0) rfl (show decode cX3_readOrder 6 = .ok (.aload_n 0, 1) by decide +kernel) ?_
  refine j_iload_n (i := 2) rfl (show decode cX3_readOrder 7 = .ok (.iload_n 2, 1) by decide +kernel) ?_
  refine j_iload_n (i := 3) rfl (show decode cX3_readOrder 8 = .ok (.iload_n 3, 1) by decide +kernel) ?_
  refine j_ctV (m' := mX3_takeNumber) (As := [iv p2, iv p3]) (ci := 3) (tag := 0) (N := 0) (cw_X3_91 rfl) (show decode cX3_readOrder 9 = .ok (.invokevirtual 91, 3) by decide +kernel) rfl (Nat.le_of_ble_eq_true rfl) (by decide) okl_271 rfl rfl (Nat.le_refl _) h (fun r1 σ1 h => ?_)
  have hr1 := h.1
  have h := h.2
  refine j_if_eq (tgt := 24) hr1 (show decode cX3_readOrder 12 = .ok (.ifCond .eq 12, 3) by decide +kernel) (by decide) (fun c => ?_) (fun c => ?_)
  · have h := h.1 c
    refine j_iconst (show decode cX3_readOrder 24 = .ok (.iconst 0, 1) by decide +kernel) ?_
    exact j_ret (rokZ (show decode cX3_readOrder 25 = .ok (.ireturn, 1) by decide +kernel) rfl (Or.inl rfl)) ⟨rfl, rfl, h⟩
  · have h := h.2 c
    refine s_aload_n (i := 0) rfl (show decode cX3_readOrder 15 = .ok (.aload_n 0, 1) by decide +kernel) ?_
    refine j_bipush (n := 59) (by decide +kernel) (show decode cX3_readOrder 16 = .ok (.bipush 59, 2) by decide +kernel) ?_
    refine j_ctV (m' := mX3_take) (As := [iv 59]) (ci := 3) (tag := 0) (N := 0) (cw_X3_69 rfl) (show decode cX3_readOrder 18 = .ok (.invokevirtual 69, 3) by decide +kernel) rfl (Nat.le_of_ble_eq_true rfl) (by decide) okl_271 rfl rfl (Nat.le_refl _) h (fun r3 σ3 h => ?_)
    have hr3 := h.1
    have h := h.2
    refine j_if_ne (tgt := 26) hr3 (show decode cX3_readOrder 21 = .ok (.ifCond .ne 5, 3) by decide +kernel) (by decide) (fun c => ?_) (fun c => ?_)
    · have h := h.1 c
      refine s_aload_n (i := 0) rfl (show decode cX3_readOrder 26 = .ok (.aload_n 0, 1) by decide +kernel) ?_
      refine gf_X3_25 (x := t) rfl (show decode cX3_readOrder 27 = .ok (.getfield 25, 3) by decide +kernel) okl_271 rfl ?_
      refine j_iload_n (i := 1) rfl (show decode cX3_readOrder 30 = .ok (.iload_n 1, 1) by decide +kernel) ?_
      refine j_iload (i := 4) rfl (show decode cX3_readOrder 31 = .ok (.iload 4, 2) by decide +kernel) ?_
      refine j_iconst (show decode cX3_readOrder 33 = .ok (.iconst 0, 1) by decide +kernel) ?_
      have hb5 := h.1
      have h := h.2
      refine j_ctVv (m' := mX8_addClause) (As := [iv p1, iv (σ 271 9), iv 0]) (ci := 8) (N := 0) (cw_X3_75 rfl) (show decode cX3_readOrder 34 = .ok (.invokevirtual 75, 3) by decide +kernel) rfl (Nat.le_of_ble_eq_true rfl) hb5 rfl rfl (Nat.le_refl _) h (fun r5 σ5 h => ?_)
      refine j_iconst (show decode cX3_readOrder 37 = .ok (.iconst 1, 1) by decide +kernel) ?_
      exact j_ret (rokZ (show decode cX3_readOrder 38 = .ok (.ireturn, 1) by decide +kernel) rfl (Or.inr rfl)) ⟨rfl, rfl, h⟩
    · have h := h.2 c
      refine j_iconst (show decode cX3_readOrder 24 = .ok (.iconst 0, 1) by decide +kernel) ?_
      exact j_ret (rokZ (show decode cX3_readOrder 25 = .ok (.ireturn, 1) by decide +kernel) rfl (Or.inl rfl)) ⟨rfl, rfl, h⟩
theorem c_X3_readOrder {d : Nat} {t : Int} {Q : Int → jM → Prop} {σ : jM} {p1 p2 p3 : Int} (h : Ct mX3_takeNumber d 0 t [rv 271, iv p2, iv p3] σ (fun r1 σ1 => ((inR r1) ∧ ((r1 = 0 → (Q 0 σ1)) ∧ (¬ r1 = 0 → (Ct mX3_take d 0 t [rv 271, iv 59] σ1 (fun r3 σ3 => ((inR r3) ∧ ((¬ r3 = 0 → ((ob (GG t) t 8) ∧ (Ct mX8_addClause d 9 t [rv t, iv p1, iv (σ 271 9), iv 0] σ3 (fun r5 σ5 => (Q 1 σ5))))) ∧ (r3 = 0 → (Q 0 σ3))))))))))) : Ct mX3_readOrder (d + 1) 0 t [rv 271, iv p1, iv p2, iv p3] σ Q := Ct_of (by decide +kernel) (Nat.le_of_ble_eq_true rfl) (b_X3_readOrder_0 h)
set_option maxRecDepth 4000 in
theorem b_X3_takeNumber_0 {d : Nat} {t : Int} {Q : Int → jM → Prop} {σ : jM} {p1 p2 : Int} (h : (inR (σ 271 6)) ∧ (((σ 271 6) = 1 → ((inR (σ 271 9)) ∧ ((inR p1) ∧ (((σ 271 9) < p1 → (Ct mX3_failed d 0 t [rv 271, iv 2] σ (fun r4 σ4 => ((r4 = 0 ∨ r4 = 1) ∧ (Q r4 σ4))))) ∧ (p1 ≤ (σ 271 9) → ((inR (σ 271 9)) ∧ ((inR p2) ∧ (((σ 271 9) ≤ p2 → (Ct mX3_advance d 9 t [rv 271] σ (fun r8 σ8 => (Q 1 σ8)))) ∧ (p2 < (σ 271 9) → (Ct mX3_failed d 0 t [rv 271, iv 2] σ (fun r9 σ9 => ((r9 = 0 ∨ r9 = 1) ∧ (Q r9 σ9))))))))))))) ∧ (¬ (σ 271 6) = 1 → (Ct mX3_failed d 0 t [rv 271, iv 1] σ (fun r11 σ11 => ((r11 = 0 ∨ r11 = 1) ∧ (Q r11 σ11))))))) : Jt mX3_takeNumber (d + 1) 0 t Q 0 [rv 271, iv p1, iv p2] [] σ := by
  refine s_aload_n (i := 0) rfl (show decode cX3_takeNumber 0 = .ok (.aload_n 0, 1) by decide +kernel) ?_
  refine gf_X3_40 rfl (show decode cX3_takeNumber 1 = .ok (.getfield 40, 3) by decide +kernel) okl_271 ?_
  refine j_iconst (show decode cX3_takeNumber 4 = .ok (.iconst 1, 1) by decide +kernel) ?_
  have hr0 := h.1
  have h := h.2
  refine j_icmp_eq (tgt := 14) hr0 (inl (by decide)) (show decode cX3_takeNumber 5 = .ok (.if_icmp .eq 9, 3) by decide +kernel) (by decide) (fun c => ?_) (fun c => ?_)
  · have h := h.1 c
    refine s_aload_n (i := 0) rfl (show decode cX3_takeNumber 14 = .ok (.aload_n 0, 1) by decide +kernel) ?_
    refine gf_X3_88 rfl (show decode cX3_takeNumber 15 = .ok (.getfield 88, 3) by decide +kernel) okl_271 ?_
    refine j_iload_n (i := 1) rfl (show decode cX3_takeNumber 18 = .ok (.iload_n 1, 1) by decide +kernel) ?_
    have hr1 := h.1
    have h := h.2
    have hr2 := h.1
    have h := h.2
    refine j_icmp_lt (tgt := 30) hr1 hr2 (show decode cX3_takeNumber 19 = .ok (.if_icmp .lt 11, 3) by decide +kernel) (by decide) (fun c => ?_) (fun c => ?_)
    · have h := h.1 c
      refine s_aload_n (i := 0) rfl (show decode cX3_takeNumber 30 = .ok (.aload_n 0, 1) by decide +kernel) ?_
      refine j_iconst (show decode cX3_takeNumber 31 = .ok (.iconst 2, 1) by decide +kernel) ?_
      refine j_ctV (m' := mX3_failed) (As := [iv 2]) (ci := 3) (tag := 0) (N := 0) (cw_X3_50 rfl) (show decode cX3_takeNumber 32 = .ok (.invokevirtual 50, 3) by decide +kernel) rfl (Nat.le_of_ble_eq_true rfl) (by decide) okl_271 rfl rfl (Nat.le_refl _) h (fun r4 σ4 h => ?_)
      have hz4 := h.1
      have h := h.2
      exact j_ret (rokZ (show decode cX3_takeNumber 35 = .ok (.ireturn, 1) by decide +kernel) rfl hz4) ⟨rfl, rfl, h⟩
    · have h := h.2 c
      refine s_aload_n (i := 0) rfl (show decode cX3_takeNumber 22 = .ok (.aload_n 0, 1) by decide +kernel) ?_
      refine gf_X3_88 rfl (show decode cX3_takeNumber 23 = .ok (.getfield 88, 3) by decide +kernel) okl_271 ?_
      refine j_iload_n (i := 2) rfl (show decode cX3_takeNumber 26 = .ok (.iload_n 2, 1) by decide +kernel) ?_
      have hr5 := h.1
      have h := h.2
      have hr6 := h.1
      have h := h.2
      refine j_icmp_le (tgt := 36) hr5 hr6 (show decode cX3_takeNumber 27 = .ok (.if_icmp .le 9, 3) by decide +kernel) (by decide) (fun c => ?_) (fun c => ?_)
      · have h := h.1 c
        refine s_aload_n (i := 0) rfl (show decode cX3_takeNumber 36 = .ok (.aload_n 0, 1) by decide +kernel) ?_
        refine j_ctVv (m' := mX3_advance) (As := []) (ci := 3) (N := 0) (cw_X3_37 rfl) (show decode cX3_takeNumber 37 = .ok (.invokevirtual 37, 3) by decide +kernel) rfl (Nat.le_of_ble_eq_true rfl) okl_271 rfl rfl (Nat.le_refl _) h (fun r8 σ8 h => ?_)
        refine j_iconst (show decode cX3_takeNumber 40 = .ok (.iconst 1, 1) by decide +kernel) ?_
        exact j_ret (rokZ (show decode cX3_takeNumber 41 = .ok (.ireturn, 1) by decide +kernel) rfl (Or.inr rfl)) ⟨rfl, rfl, h⟩
      · have h := h.2 c
        refine s_aload_n (i := 0) rfl (show decode cX3_takeNumber 30 = .ok (.aload_n 0, 1) by decide +kernel) ?_
        refine j_iconst (show decode cX3_takeNumber 31 = .ok (.iconst 2, 1) by decide +kernel) ?_
        refine j_ctV (m' := mX3_failed) (As := [iv 2]) (ci := 3) (tag := 0) (N := 0) (cw_X3_50 rfl) (show decode cX3_takeNumber 32 = .ok (.invokevirtual 50, 3) by decide +kernel) rfl (Nat.le_of_ble_eq_true rfl) (by decide) okl_271 rfl rfl (Nat.le_refl _) h (fun r9 σ9 h => ?_)
        have hz9 := h.1
        have h := h.2
        exact j_ret (rokZ (show decode cX3_takeNumber 35 = .ok (.ireturn, 1) by decide +kernel) rfl hz9) ⟨rfl, rfl, h⟩
  · have h := h.2 c
    refine s_aload_n (i := 0) rfl (show decode cX3_takeNumber 8 = .ok (.aload_n 0, 1) by decide +kernel) ?_
    refine j_iconst (show decode cX3_takeNumber 9 = .ok (.iconst 1, 1) by decide +kernel) ?_
    refine j_ctV (m' := mX3_failed) (As := [iv 1]) (ci := 3) (tag := 0) (N := 0) (cw_X3_50 rfl) (show decode cX3_takeNumber 10 = .ok (.invokevirtual 50, 3) by decide +kernel) rfl (Nat.le_of_ble_eq_true rfl) (by decide) okl_271 rfl rfl (Nat.le_refl _) h (fun r11 σ11 h => ?_)
    have hz11 := h.1
    have h := h.2
    exact j_ret (rokZ (show decode cX3_takeNumber 13 = .ok (.ireturn, 1) by decide +kernel) rfl hz11) ⟨rfl, rfl, h⟩
theorem c_X3_takeNumber {d : Nat} {t : Int} {Q : Int → jM → Prop} {σ : jM} {p1 p2 : Int} (h : (inR (σ 271 6)) ∧ (((σ 271 6) = 1 → ((inR (σ 271 9)) ∧ ((inR p1) ∧ (((σ 271 9) < p1 → (Ct mX3_failed d 0 t [rv 271, iv 2] σ (fun r4 σ4 => ((r4 = 0 ∨ r4 = 1) ∧ (Q r4 σ4))))) ∧ (p1 ≤ (σ 271 9) → ((inR (σ 271 9)) ∧ ((inR p2) ∧ (((σ 271 9) ≤ p2 → (Ct mX3_advance d 9 t [rv 271] σ (fun r8 σ8 => (Q 1 σ8)))) ∧ (p2 < (σ 271 9) → (Ct mX3_failed d 0 t [rv 271, iv 2] σ (fun r9 σ9 => ((r9 = 0 ∨ r9 = 1) ∧ (Q r9 σ9))))))))))))) ∧ (¬ (σ 271 6) = 1 → (Ct mX3_failed d 0 t [rv 271, iv 1] σ (fun r11 σ11 => ((r11 = 0 ∨ r11 = 1) ∧ (Q r11 σ11))))))) : Ct mX3_takeNumber (d + 1) 0 t [rv 271, iv p1, iv p2] σ Q := Ct_of (by decide +kernel) (Nat.le_of_ble_eq_true rfl) (b_X3_takeNumber_0 h)
set_option maxRecDepth 4000 in
theorem b_X3_take_0 {d : Nat} {t : Int} {Q : Int → jM → Prop} {σ : jM} {p1 : Int} (h : (inR (σ 271 6)) ∧ ((inR p1) ∧ (((σ 271 6) = p1 → (Ct mX3_advance d 9 t [rv 271] σ (fun r3 σ3 => (Q 1 σ3)))) ∧ (¬ (σ 271 6) = p1 → (Ct mX3_failed d 0 t [rv 271, iv 1] σ (fun r4 σ4 => ((r4 = 0 ∨ r4 = 1) ∧ (Q r4 σ4)))))))) : Jt mX3_take (d + 1) 0 t Q 0 [rv 271, iv p1] [] σ := by
  refine s_aload_n (i := 0) rfl (show decode cX3_take 0 = .ok (.aload_n 0, 1) by decide +kernel) ?_
  refine gf_X3_40 rfl (show decode cX3_take 1 = .ok (.getfield 40, 3) by decide +kernel) okl_271 ?_
  refine j_iload_n (i := 1) rfl (show decode cX3_take 4 = .ok (.iload_n 1, 1) by decide +kernel) ?_
  have hr0 := h.1
  have h := h.2
  have hr1 := h.1
  have h := h.2
  refine j_icmp_eq (tgt := 14) hr0 hr1 (show decode cX3_take 5 = .ok (.if_icmp .eq 9, 3) by decide +kernel) (by decide) (fun c => ?_) (fun c => ?_)
  · have h := h.1 c
    refine s_aload_n (i := 0) rfl (show decode cX3_take 14 = .ok (.aload_n 0, 1) by decide +kernel) ?_
    refine j_ctVv (m' := mX3_advance) (As := []) (ci := 3) (N := 0) (cw_X3_37 rfl) (show decode cX3_take 15 = .ok (.invokevirtual 37, 3) by decide +kernel) rfl (Nat.le_of_ble_eq_true rfl) okl_271 rfl rfl (Nat.le_refl _) h (fun r3 σ3 h => ?_)
    refine j_iconst (show decode cX3_take 18 = .ok (.iconst 1, 1) by decide +kernel) ?_
    exact j_ret (rokZ (show decode cX3_take 19 = .ok (.ireturn, 1) by decide +kernel) rfl (Or.inr rfl)) ⟨rfl, rfl, h⟩
  · have h := h.2 c
    refine s_aload_n (i := 0) rfl (show decode cX3_take 8 = .ok (.aload_n 0, 1) by decide +kernel) ?_
    refine j_iconst (show decode cX3_take 9 = .ok (.iconst 1, 1) by decide +kernel) ?_
    refine j_ctV (m' := mX3_failed) (As := [iv 1]) (ci := 3) (tag := 0) (N := 0) (cw_X3_50 rfl) (show decode cX3_take 10 = .ok (.invokevirtual 50, 3) by decide +kernel) rfl (Nat.le_of_ble_eq_true rfl) (by decide) okl_271 rfl rfl (Nat.le_refl _) h (fun r4 σ4 h => ?_)
    have hz4 := h.1
    have h := h.2
    exact j_ret (rokZ (show decode cX3_take 13 = .ok (.ireturn, 1) by decide +kernel) rfl hz4) ⟨rfl, rfl, h⟩
theorem c_X3_take {d : Nat} {t : Int} {Q : Int → jM → Prop} {σ : jM} {p1 : Int} (h : (inR (σ 271 6)) ∧ ((inR p1) ∧ (((σ 271 6) = p1 → (Ct mX3_advance d 9 t [rv 271] σ (fun r3 σ3 => (Q 1 σ3)))) ∧ (¬ (σ 271 6) = p1 → (Ct mX3_failed d 0 t [rv 271, iv 1] σ (fun r4 σ4 => ((r4 = 0 ∨ r4 = 1) ∧ (Q r4 σ4)))))))) : Ct mX3_take (d + 1) 0 t [rv 271, iv p1] σ Q := Ct_of (by decide +kernel) (Nat.le_of_ble_eq_true rfl) (b_X3_take_0 h)
set_option maxRecDepth 4000 in
theorem b_X3_readSum_12 {d : Nat} {t : Int} {Q : Int → jM → Prop} {σ : jM} {p1 v2 : Int} (h : (inR v2) ∧ ((300 ≤ v2 → (Q 1 σ)) ∧ (v2 < 300 → ((inR (σ 271 6)) ∧ (((σ 271 6) = 43 → ((inR (σ 271 6)) ∧ ((¬ (σ 271 6) = 43 → (Ct mX3_advance d 9 t [rv 271] σ (fun r4 σ4 => (Ct mX3_readProduct d 0 t [rv 271, iv p1] σ4 (fun r5 σ5 => ((inR r5) ∧ ((¬ r5 = 0 → ((ob (GG t) t 8) ∧ (Ct mX8_addCode d 9 t [rv t, iv 15, iv 0] σ5 (fun r7 σ7 => (Jt mX3_readSum (d + 1) 0 t Q 12 [rv 271, iv p1, iv (v2 + 1), uv] [] σ7))))) ∧ (r5 = 0 → (Q 0 σ5))))))))) ∧ ((σ 271 6) = 43 → (Ct mX3_advance d 9 t [rv 271] σ (fun r9 σ9 => (Ct mX3_readProduct d 0 t [rv 271, iv p1] σ9 (fun r10 σ10 => ((inR r10) ∧ ((¬ r10 = 0 → ((ob (GG t) t 8) ∧ (Ct mX8_addCode d 9 t [rv t, iv 14, iv 0] σ10 (fun r12 σ12 => (Jt mX3_readSum (d + 1) 0 t Q 12 [rv 271, iv p1, iv (v2 + 1), uv] [] σ12))))) ∧ (r10 = 0 → (Q 0 σ10)))))))))))) ∧ (¬ (σ 271 6) = 43 → ((inR (σ 271 6)) ∧ ((¬ (σ 271 6) = 45 → (Q 1 σ)) ∧ ((σ 271 6) = 45 → ((inR (σ 271 6)) ∧ ((¬ (σ 271 6) = 43 → (Ct mX3_advance d 9 t [rv 271] σ (fun r16 σ16 => (Ct mX3_readProduct d 0 t [rv 271, iv p1] σ16 (fun r17 σ17 => ((inR r17) ∧ ((¬ r17 = 0 → ((ob (GG t) t 8) ∧ (Ct mX8_addCode d 9 t [rv t, iv 15, iv 0] σ17 (fun r19 σ19 => (Jt mX3_readSum (d + 1) 0 t Q 12 [rv 271, iv p1, iv (v2 + 1), uv] [] σ19))))) ∧ (r17 = 0 → (Q 0 σ17))))))))) ∧ ((σ 271 6) = 43 → (Ct mX3_advance d 9 t [rv 271] σ (fun r21 σ21 => (Ct mX3_readProduct d 0 t [rv 271, iv p1] σ21 (fun r22 σ22 => ((inR r22) ∧ ((¬ r22 = 0 → ((ob (GG t) t 8) ∧ (Ct mX8_addCode d 9 t [rv t, iv 14, iv 0] σ22 (fun r24 σ24 => (Jt mX3_readSum (d + 1) 0 t Q 12 [rv 271, iv p1, iv (v2 + 1), uv] [] σ24))))) ∧ (r22 = 0 → (Q 0 σ22)))))))))))))))))))) : Jt mX3_readSum (d + 1) 0 t Q 12 [rv 271, iv p1, iv v2, uv] [] σ := by
  refine j_iload_n (i := 2) rfl (show decode cX3_readSum 12 = .ok (.iload_n 2, 1) by decide +kernel) ?_
  refine j_sipush (n := 300) (by decide +kernel) (show decode cX3_readSum 13 = .ok (.sipush 300, 3) by decide +kernel) ?_
  have hr0 := h.1
  have h := h.2
  refine j_icmp_ge (tgt := 83) hr0 (inl (by decide)) (show decode cX3_readSum 16 = .ok (.if_icmp .ge 67, 3) by decide +kernel) (by decide) (fun c => ?_) (fun c => ?_)
  · have h := h.1 c
    refine j_iconst (show decode cX3_readSum 83 = .ok (.iconst 1, 1) by decide +kernel) ?_
    exact j_ret (rokZ (show decode cX3_readSum 84 = .ok (.ireturn, 1) by decide +kernel) rfl (Or.inr rfl)) ⟨rfl, rfl, h⟩
  · have h := h.2 c
    refine s_aload_n (i := 0) rfl (show decode cX3_readSum 19 = .ok (.aload_n 0, 1) by decide +kernel) ?_
    refine gf_X3_40 rfl (show decode cX3_readSum 20 = .ok (.getfield 40, 3) by decide +kernel) okl_271 ?_
    refine j_bipush (n := 43) (by decide +kernel) (show decode cX3_readSum 23 = .ok (.bipush 43, 2) by decide +kernel) ?_
    have hr1 := h.1
    have h := h.2
    refine j_icmp_eq (tgt := 37) hr1 (inl (by decide)) (show decode cX3_readSum 25 = .ok (.if_icmp .eq 12, 3) by decide +kernel) (by decide) (fun c => ?_) (fun c => ?_)
    · have h := h.1 c
      refine s_aload_n (i := 0) rfl (show decode cX3_readSum 37 = .ok (.aload_n 0, 1) by decide +kernel) ?_
      refine gf_X3_40 rfl (show decode cX3_readSum 38 = .ok (.getfield 40, 3) by decide +kernel) okl_271 ?_
      refine j_bipush (n := 43) (by decide +kernel) (show decode cX3_readSum 41 = .ok (.bipush 43, 2) by decide +kernel) ?_
      have hr2 := h.1
      have h := h.2
      refine j_icmp_ne (tgt := 51) hr2 (inl (by decide)) (show decode cX3_readSum 43 = .ok (.if_icmp .ne 8, 3) by decide +kernel) (by decide) (fun c => ?_) (fun c => ?_)
      · have h := h.1 c
        refine j_bipush (n := 15) (by decide +kernel) (show decode cX3_readSum 51 = .ok (.bipush 15, 2) by decide +kernel) ?_
        refine s_ist_n (i := 3) (L' := [rv 271, iv p1, iv v2, iv 15]) rfl (by decide) (show decode cX3_readSum 53 = .ok (.istore_n 3, 1) by decide +kernel) ?_
        refine s_aload_n (i := 0) rfl (show decode cX3_readSum 54 = .ok (.aload_n 0, 1) by decide +kernel) ?_
        refine j_ctVv (m' := mX3_advance) (As := []) (ci := 3) (N := 0) (cw_X3_37 rfl) (show decode cX3_readSum 55 = .ok (.invokevirtual 37, 3) by decide +kernel) rfl (Nat.le_of_ble_eq_true rfl) okl_271 rfl rfl (Nat.le_refl _) h (fun r4 σ4 h => ?_)
        refine s_aload_n (i := 0) rfl (show decode cX3_readSum 58 = .ok (.aload_n 0, 1) by decide +kernel) ?_
        refine j_iload_n (i := 1) rfl (show decode cX3_readSum 59 = .ok (.iload_n 1, 1) by decide +kernel) ?_
        refine j_ctV (m' := mX3_readProduct) (As := [iv p1]) (ci := 3) (tag := 0) (N := 0) (cw_X3_95 rfl) (show decode cX3_readSum 60 = .ok (.invokevirtual 95, 3) by decide +kernel) rfl (Nat.le_of_ble_eq_true rfl) (by decide) okl_271 rfl rfl (Nat.le_refl _) h (fun r5 σ5 h => ?_)
        have hr5 := h.1
        have h := h.2
        refine j_if_ne (tgt := 68) hr5 (show decode cX3_readSum 63 = .ok (.ifCond .ne 5, 3) by decide +kernel) (by decide) (fun c => ?_) (fun c => ?_)
        · have h := h.1 c
          refine s_aload_n (i := 0) rfl (show decode cX3_readSum 68 = .ok (.aload_n 0, 1) by decide +kernel) ?_
          refine gf_X3_25 (x := t) rfl (show decode cX3_readSum 69 = .ok (.getfield 25, 3) by decide +kernel) okl_271 rfl ?_
          refine j_iload_n (i := 3) rfl (show decode cX3_readSum 72 = .ok (.iload_n 3, 1) by decide +kernel) ?_
          refine j_iconst (show decode cX3_readSum 73 = .ok (.iconst 0, 1) by decide +kernel) ?_
          have hb7 := h.1
          have h := h.2
          refine j_ctVv (m' := mX8_addCode) (As := [iv 15, iv 0]) (ci := 8) (N := 0) (cw_X3_100 rfl) (show decode cX3_readSum 74 = .ok (.invokevirtual 100, 3) by decide +kernel) rfl (Nat.le_of_ble_eq_true rfl) hb7 rfl rfl (Nat.le_refl _) h (fun r7 σ7 h => ?_)
          refine s_iinc (i := 2) rfl (L' := [rv 271, iv p1, iv (v2 + 1), iv 15]) rfl (show decode cX3_readSum 77 = .ok (.iinc 2 1, 3) by decide +kernel) ?_
          refine j_goto (tgt := 12) (show decode cX3_readSum 80 = .ok (.goto (-68), 3) by decide +kernel) (by decide) ?_
          refine j_drop 3 ?_
          exact h
        · have h := h.2 c
          refine j_iconst (show decode cX3_readSum 66 = .ok (.iconst 0, 1) by decide +kernel) ?_
          exact j_ret (rokZ (show decode cX3_readSum 67 = .ok (.ireturn, 1) by decide +kernel) rfl (Or.inl rfl)) ⟨rfl, rfl, h⟩
      · have h := h.2 c
        refine j_bipush (n := 14) (by decide +kernel) (show decode cX3_readSum 46 = .ok (.bipush 14, 2) by decide +kernel) ?_
        refine j_goto (tgt := 53) (show decode cX3_readSum 48 = .ok (.goto 5, 3) by decide +kernel) (by decide) ?_
        refine s_ist_n (i := 3) (L' := [rv 271, iv p1, iv v2, iv 14]) rfl (by decide) (show decode cX3_readSum 53 = .ok (.istore_n 3, 1) by decide +kernel) ?_
        refine s_aload_n (i := 0) rfl (show decode cX3_readSum 54 = .ok (.aload_n 0, 1) by decide +kernel) ?_
        refine j_ctVv (m' := mX3_advance) (As := []) (ci := 3) (N := 0) (cw_X3_37 rfl) (show decode cX3_readSum 55 = .ok (.invokevirtual 37, 3) by decide +kernel) rfl (Nat.le_of_ble_eq_true rfl) okl_271 rfl rfl (Nat.le_refl _) h (fun r9 σ9 h => ?_)
        refine s_aload_n (i := 0) rfl (show decode cX3_readSum 58 = .ok (.aload_n 0, 1) by decide +kernel) ?_
        refine j_iload_n (i := 1) rfl (show decode cX3_readSum 59 = .ok (.iload_n 1, 1) by decide +kernel) ?_
        refine j_ctV (m' := mX3_readProduct) (As := [iv p1]) (ci := 3) (tag := 0) (N := 0) (cw_X3_95 rfl) (show decode cX3_readSum 60 = .ok (.invokevirtual 95, 3) by decide +kernel) rfl (Nat.le_of_ble_eq_true rfl) (by decide) okl_271 rfl rfl (Nat.le_refl _) h (fun r10 σ10 h => ?_)
        have hr10 := h.1
        have h := h.2
        refine j_if_ne (tgt := 68) hr10 (show decode cX3_readSum 63 = .ok (.ifCond .ne 5, 3) by decide +kernel) (by decide) (fun c => ?_) (fun c => ?_)
        · have h := h.1 c
          refine s_aload_n (i := 0) rfl (show decode cX3_readSum 68 = .ok (.aload_n 0, 1) by decide +kernel) ?_
          refine gf_X3_25 (x := t) rfl (show decode cX3_readSum 69 = .ok (.getfield 25, 3) by decide +kernel) okl_271 rfl ?_
          refine j_iload_n (i := 3) rfl (show decode cX3_readSum 72 = .ok (.iload_n 3, 1) by decide +kernel) ?_
          refine j_iconst (show decode cX3_readSum 73 = .ok (.iconst 0, 1) by decide +kernel) ?_
          have hb12 := h.1
          have h := h.2
          refine j_ctVv (m' := mX8_addCode) (As := [iv 14, iv 0]) (ci := 8) (N := 0) (cw_X3_100 rfl) (show decode cX3_readSum 74 = .ok (.invokevirtual 100, 3) by decide +kernel) rfl (Nat.le_of_ble_eq_true rfl) hb12 rfl rfl (Nat.le_refl _) h (fun r12 σ12 h => ?_)
          refine s_iinc (i := 2) rfl (L' := [rv 271, iv p1, iv (v2 + 1), iv 14]) rfl (show decode cX3_readSum 77 = .ok (.iinc 2 1, 3) by decide +kernel) ?_
          refine j_goto (tgt := 12) (show decode cX3_readSum 80 = .ok (.goto (-68), 3) by decide +kernel) (by decide) ?_
          refine j_drop 3 ?_
          exact h
        · have h := h.2 c
          refine j_iconst (show decode cX3_readSum 66 = .ok (.iconst 0, 1) by decide +kernel) ?_
          exact j_ret (rokZ (show decode cX3_readSum 67 = .ok (.ireturn, 1) by decide +kernel) rfl (Or.inl rfl)) ⟨rfl, rfl, h⟩
    · have h := h.2 c
      refine s_aload_n (i := 0) rfl (show decode cX3_readSum 28 = .ok (.aload_n 0, 1) by decide +kernel) ?_
      refine gf_X3_40 rfl (show decode cX3_readSum 29 = .ok (.getfield 40, 3) by decide +kernel) okl_271 ?_
      refine j_bipush (n := 45) (by decide +kernel) (show decode cX3_readSum 32 = .ok (.bipush 45, 2) by decide +kernel) ?_
      have hr13 := h.1
      have h := h.2
      refine j_icmp_ne (tgt := 83) hr13 (inl (by decide)) (show decode cX3_readSum 34 = .ok (.if_icmp .ne 49, 3) by decide +kernel) (by decide) (fun c => ?_) (fun c => ?_)
      · have h := h.1 c
        refine j_iconst (show decode cX3_readSum 83 = .ok (.iconst 1, 1) by decide +kernel) ?_
        exact j_ret (rokZ (show decode cX3_readSum 84 = .ok (.ireturn, 1) by decide +kernel) rfl (Or.inr rfl)) ⟨rfl, rfl, h⟩
      · have h := h.2 c
        refine s_aload_n (i := 0) rfl (show decode cX3_readSum 37 = .ok (.aload_n 0, 1) by decide +kernel) ?_
        refine gf_X3_40 rfl (show decode cX3_readSum 38 = .ok (.getfield 40, 3) by decide +kernel) okl_271 ?_
        refine j_bipush (n := 43) (by decide +kernel) (show decode cX3_readSum 41 = .ok (.bipush 43, 2) by decide +kernel) ?_
        have hr14 := h.1
        have h := h.2
        refine j_icmp_ne (tgt := 51) hr14 (inl (by decide)) (show decode cX3_readSum 43 = .ok (.if_icmp .ne 8, 3) by decide +kernel) (by decide) (fun c => ?_) (fun c => ?_)
        · have h := h.1 c
          refine j_bipush (n := 15) (by decide +kernel) (show decode cX3_readSum 51 = .ok (.bipush 15, 2) by decide +kernel) ?_
          refine s_ist_n (i := 3) (L' := [rv 271, iv p1, iv v2, iv 15]) rfl (by decide) (show decode cX3_readSum 53 = .ok (.istore_n 3, 1) by decide +kernel) ?_
          refine s_aload_n (i := 0) rfl (show decode cX3_readSum 54 = .ok (.aload_n 0, 1) by decide +kernel) ?_
          refine j_ctVv (m' := mX3_advance) (As := []) (ci := 3) (N := 0) (cw_X3_37 rfl) (show decode cX3_readSum 55 = .ok (.invokevirtual 37, 3) by decide +kernel) rfl (Nat.le_of_ble_eq_true rfl) okl_271 rfl rfl (Nat.le_refl _) h (fun r16 σ16 h => ?_)
          refine s_aload_n (i := 0) rfl (show decode cX3_readSum 58 = .ok (.aload_n 0, 1) by decide +kernel) ?_
          refine j_iload_n (i := 1) rfl (show decode cX3_readSum 59 = .ok (.iload_n 1, 1) by decide +kernel) ?_
          refine j_ctV (m' := mX3_readProduct) (As := [iv p1]) (ci := 3) (tag := 0) (N := 0) (cw_X3_95 rfl) (show decode cX3_readSum 60 = .ok (.invokevirtual 95, 3) by decide +kernel) rfl (Nat.le_of_ble_eq_true rfl) (by decide) okl_271 rfl rfl (Nat.le_refl _) h (fun r17 σ17 h => ?_)
          have hr17 := h.1
          have h := h.2
          refine j_if_ne (tgt := 68) hr17 (show decode cX3_readSum 63 = .ok (.ifCond .ne 5, 3) by decide +kernel) (by decide) (fun c => ?_) (fun c => ?_)
          · have h := h.1 c
            refine s_aload_n (i := 0) rfl (show decode cX3_readSum 68 = .ok (.aload_n 0, 1) by decide +kernel) ?_
            refine gf_X3_25 (x := t) rfl (show decode cX3_readSum 69 = .ok (.getfield 25, 3) by decide +kernel) okl_271 rfl ?_
            refine j_iload_n (i := 3) rfl (show decode cX3_readSum 72 = .ok (.iload_n 3, 1) by decide +kernel) ?_
            refine j_iconst (show decode cX3_readSum 73 = .ok (.iconst 0, 1) by decide +kernel) ?_
            have hb19 := h.1
            have h := h.2
            refine j_ctVv (m' := mX8_addCode) (As := [iv 15, iv 0]) (ci := 8) (N := 0) (cw_X3_100 rfl) (show decode cX3_readSum 74 = .ok (.invokevirtual 100, 3) by decide +kernel) rfl (Nat.le_of_ble_eq_true rfl) hb19 rfl rfl (Nat.le_refl _) h (fun r19 σ19 h => ?_)
            refine s_iinc (i := 2) rfl (L' := [rv 271, iv p1, iv (v2 + 1), iv 15]) rfl (show decode cX3_readSum 77 = .ok (.iinc 2 1, 3) by decide +kernel) ?_
            refine j_goto (tgt := 12) (show decode cX3_readSum 80 = .ok (.goto (-68), 3) by decide +kernel) (by decide) ?_
            refine j_drop 3 ?_
            exact h
          · have h := h.2 c
            refine j_iconst (show decode cX3_readSum 66 = .ok (.iconst 0, 1) by decide +kernel) ?_
            exact j_ret (rokZ (show decode cX3_readSum 67 = .ok (.ireturn, 1) by decide +kernel) rfl (Or.inl rfl)) ⟨rfl, rfl, h⟩
        · have h := h.2 c
          refine j_bipush (n := 14) (by decide +kernel) (show decode cX3_readSum 46 = .ok (.bipush 14, 2) by decide +kernel) ?_
          refine j_goto (tgt := 53) (show decode cX3_readSum 48 = .ok (.goto 5, 3) by decide +kernel) (by decide) ?_
          refine s_ist_n (i := 3) (L' := [rv 271, iv p1, iv v2, iv 14]) rfl (by decide) (show decode cX3_readSum 53 = .ok (.istore_n 3, 1) by decide +kernel) ?_
          refine s_aload_n (i := 0) rfl (show decode cX3_readSum 54 = .ok (.aload_n 0, 1) by decide +kernel) ?_
          refine j_ctVv (m' := mX3_advance) (As := []) (ci := 3) (N := 0) (cw_X3_37 rfl) (show decode cX3_readSum 55 = .ok (.invokevirtual 37, 3) by decide +kernel) rfl (Nat.le_of_ble_eq_true rfl) okl_271 rfl rfl (Nat.le_refl _) h (fun r21 σ21 h => ?_)
          refine s_aload_n (i := 0) rfl (show decode cX3_readSum 58 = .ok (.aload_n 0, 1) by decide +kernel) ?_
          refine j_iload_n (i := 1) rfl (show decode cX3_readSum 59 = .ok (.iload_n 1, 1) by decide +kernel) ?_
          refine j_ctV (m' := mX3_readProduct) (As := [iv p1]) (ci := 3) (tag := 0) (N := 0) (cw_X3_95 rfl) (show decode cX3_readSum 60 = .ok (.invokevirtual 95, 3) by decide +kernel) rfl (Nat.le_of_ble_eq_true rfl) (by decide) okl_271 rfl rfl (Nat.le_refl _) h (fun r22 σ22 h => ?_)
          have hr22 := h.1
          have h := h.2
          refine j_if_ne (tgt := 68) hr22 (show decode cX3_readSum 63 = .ok (.ifCond .ne 5, 3) by decide +kernel) (by decide) (fun c => ?_) (fun c => ?_)
          · have h := h.1 c
            refine s_aload_n (i := 0) rfl (show decode cX3_readSum 68 = .ok (.aload_n 0, 1) by decide +kernel) ?_
            refine gf_X3_25 (x := t) rfl (show decode cX3_readSum 69 = .ok (.getfield 25, 3) by decide +kernel) okl_271 rfl ?_
            refine j_iload_n (i := 3) rfl (show decode cX3_readSum 72 = .ok (.iload_n 3, 1) by decide +kernel) ?_
            refine j_iconst (show decode cX3_readSum 73 = .ok (.iconst 0, 1) by decide +kernel) ?_
            have hb24 := h.1
            have h := h.2
            refine j_ctVv (m' := mX8_addCode) (As := [iv 14, iv 0]) (ci := 8) (N := 0) (cw_X3_100 rfl) (show decode cX3_readSum 74 = .ok (.invokevirtual 100, 3) by decide +kernel) rfl (Nat.le_of_ble_eq_true rfl) hb24 rfl rfl (Nat.le_refl _) h (fun r24 σ24 h => ?_)
            refine s_iinc (i := 2) rfl (L' := [rv 271, iv p1, iv (v2 + 1), iv 14]) rfl (show decode cX3_readSum 77 = .ok (.iinc 2 1, 3) by decide +kernel) ?_
            refine j_goto (tgt := 12) (show decode cX3_readSum 80 = .ok (.goto (-68), 3) by decide +kernel) (by decide) ?_
            refine j_drop 3 ?_
            exact h
          · have h := h.2 c
            refine j_iconst (show decode cX3_readSum 66 = .ok (.iconst 0, 1) by decide +kernel) ?_
            exact j_ret (rokZ (show decode cX3_readSum 67 = .ok (.ireturn, 1) by decide +kernel) rfl (Or.inl rfl)) ⟨rfl, rfl, h⟩
set_option maxRecDepth 4000 in
theorem b_X3_readSum_0 {d : Nat} {t : Int} {Q : Int → jM → Prop} {σ : jM} {p1 : Int} (h : Ct mX3_readProduct d 0 t [rv 271, iv p1] σ (fun r1 σ1 => ((inR r1) ∧ ((¬ r1 = 0 → (Jt mX3_readSum (d + 1) 0 t Q 12 [rv 271, iv p1, iv 0, uv] [] σ1)) ∧ (r1 = 0 → (Q 0 σ1)))))) : Jt mX3_readSum (d + 1) 0 t Q 0 [rv 271, iv p1, uv, uv] [] σ := by
  refine s_aload_n (i := 0) rfl (show decode cX3_readSum 0 = .ok (.aload_n 0, 1) by decide +kernel) ?_
  refine j_iload_n (i := 1) rfl (show decode cX3_readSum 1 = .ok (.iload_n 1, 1) by decide +kernel) ?_
  refine j_ctV (m' := mX3_readProduct) (As := [iv p1]) (ci := 3) (tag := 0) (N := 0) (cw_X3_95 rfl) (show decode cX3_readSum 2 = .ok (.invokevirtual 95, 3) by decide +kernel) rfl (Nat.le_of_ble_eq_true rfl) (by decide) okl_271 rfl rfl (Nat.le_refl _) h (fun r1 σ1 h => ?_)
  have hr1 := h.1
  have h := h.2
  refine j_if_ne (tgt := 10) hr1 (show decode cX3_readSum 5 = .ok (.ifCond .ne 5, 3) by decide +kernel) (by decide) (fun c => ?_) (fun c => ?_)
  · have h := h.1 c
    refine j_iconst (show decode cX3_readSum 10 = .ok (.iconst 0, 1) by decide +kernel) ?_
    refine s_ist_n (i := 2) (L' := [rv 271, iv p1, iv 0, uv]) rfl (by decide) (show decode cX3_readSum 11 = .ok (.istore_n 2, 1) by decide +kernel) ?_
    exact h
  · have h := h.2 c
    refine j_iconst (show decode cX3_readSum 8 = .ok (.iconst 0, 1) by decide +kernel) ?_
    exact j_ret (rokZ (show decode cX3_readSum 9 = .ok (.ireturn, 1) by decide +kernel) rfl (Or.inl rfl)) ⟨rfl, rfl, h⟩
theorem c_X3_readSum {d : Nat} {t : Int} {Q : Int → jM → Prop} {σ : jM} {p1 : Int} (h : Ct mX3_readProduct d 0 t [rv 271, iv p1] σ (fun r1 σ1 => ((inR r1) ∧ ((¬ r1 = 0 → (Jt mX3_readSum (d + 1) 0 t Q 12 [rv 271, iv p1, iv 0, uv] [] σ1)) ∧ (r1 = 0 → (Q 0 σ1)))))) : Ct mX3_readSum (d + 1) 0 t [rv 271, iv p1] σ Q := Ct_of (by decide +kernel) (Nat.le_of_ble_eq_true rfl) (b_X3_readSum_0 h)
set_option maxRecDepth 4000 in
theorem b_X3_readProduct_12 {d : Nat} {t : Int} {Q : Int → jM → Prop} {σ : jM} {p1 v2 : Int} (h : (inR v2) ∧ ((300 ≤ v2 → (Q 1 σ)) ∧ (v2 < 300 → ((inR (σ 271 6)) ∧ (((σ 271 6) = 42 → ((inR (σ 271 6)) ∧ ((¬ (σ 271 6) = 42 → (Ct mX3_advance d 9 t [rv 271] σ (fun r4 σ4 => (Ct mX3_readOne d 0 t [rv 271, iv p1] σ4 (fun r5 σ5 => ((inR r5) ∧ ((¬ r5 = 0 → ((ob (GG t) t 8) ∧ (Ct mX8_addCode d 9 t [rv t, iv 17, iv 0] σ5 (fun r7 σ7 => (Jt mX3_readProduct (d + 1) 0 t Q 12 [rv 271, iv p1, iv (v2 + 1), uv] [] σ7))))) ∧ (r5 = 0 → (Q 0 σ5))))))))) ∧ ((σ 271 6) = 42 → (Ct mX3_advance d 9 t [rv 271] σ (fun r9 σ9 => (Ct mX3_readOne d 0 t [rv 271, iv p1] σ9 (fun r10 σ10 => ((inR r10) ∧ ((¬ r10 = 0 → ((ob (GG t) t 8) ∧ (Ct mX8_addCode d 9 t [rv t, iv 16, iv 0] σ10 (fun r12 σ12 => (Jt mX3_readProduct (d + 1) 0 t Q 12 [rv 271, iv p1, iv (v2 + 1), uv] [] σ12))))) ∧ (r10 = 0 → (Q 0 σ10)))))))))))) ∧ (¬ (σ 271 6) = 42 → ((inR (σ 271 6)) ∧ ((¬ (σ 271 6) = 47 → (Q 1 σ)) ∧ ((σ 271 6) = 47 → ((inR (σ 271 6)) ∧ ((¬ (σ 271 6) = 42 → (Ct mX3_advance d 9 t [rv 271] σ (fun r16 σ16 => (Ct mX3_readOne d 0 t [rv 271, iv p1] σ16 (fun r17 σ17 => ((inR r17) ∧ ((¬ r17 = 0 → ((ob (GG t) t 8) ∧ (Ct mX8_addCode d 9 t [rv t, iv 17, iv 0] σ17 (fun r19 σ19 => (Jt mX3_readProduct (d + 1) 0 t Q 12 [rv 271, iv p1, iv (v2 + 1), uv] [] σ19))))) ∧ (r17 = 0 → (Q 0 σ17))))))))) ∧ ((σ 271 6) = 42 → (Ct mX3_advance d 9 t [rv 271] σ (fun r21 σ21 => (Ct mX3_readOne d 0 t [rv 271, iv p1] σ21 (fun r22 σ22 => ((inR r22) ∧ ((¬ r22 = 0 → ((ob (GG t) t 8) ∧ (Ct mX8_addCode d 9 t [rv t, iv 16, iv 0] σ22 (fun r24 σ24 => (Jt mX3_readProduct (d + 1) 0 t Q 12 [rv 271, iv p1, iv (v2 + 1), uv] [] σ24))))) ∧ (r22 = 0 → (Q 0 σ22)))))))))))))))))))) : Jt mX3_readProduct (d + 1) 0 t Q 12 [rv 271, iv p1, iv v2, uv] [] σ := by
  refine j_iload_n (i := 2) rfl (show decode cX3_readProduct 12 = .ok (.iload_n 2, 1) by decide +kernel) ?_
  refine j_sipush (n := 300) (by decide +kernel) (show decode cX3_readProduct 13 = .ok (.sipush 300, 3) by decide +kernel) ?_
  have hr0 := h.1
  have h := h.2
  refine j_icmp_ge (tgt := 83) hr0 (inl (by decide)) (show decode cX3_readProduct 16 = .ok (.if_icmp .ge 67, 3) by decide +kernel) (by decide) (fun c => ?_) (fun c => ?_)
  · have h := h.1 c
    refine j_iconst (show decode cX3_readProduct 83 = .ok (.iconst 1, 1) by decide +kernel) ?_
    exact j_ret (rokZ (show decode cX3_readProduct 84 = .ok (.ireturn, 1) by decide +kernel) rfl (Or.inr rfl)) ⟨rfl, rfl, h⟩
  · have h := h.2 c
    refine s_aload_n (i := 0) rfl (show decode cX3_readProduct 19 = .ok (.aload_n 0, 1) by decide +kernel) ?_
    refine gf_X3_40 rfl (show decode cX3_readProduct 20 = .ok (.getfield 40, 3) by decide +kernel) okl_271 ?_
    refine j_bipush (n := 42) (by decide +kernel) (show decode cX3_readProduct 23 = .ok (.bipush 42, 2) by decide +kernel) ?_
    have hr1 := h.1
    have h := h.2
    refine j_icmp_eq (tgt := 37) hr1 (inl (by decide)) (show decode cX3_readProduct 25 = .ok (.if_icmp .eq 12, 3) by decide +kernel) (by decide) (fun c => ?_) (fun c => ?_)
    · have h := h.1 c
      refine s_aload_n (i := 0) rfl (show decode cX3_readProduct 37 = .ok (.aload_n 0, 1) by decide +kernel) ?_
      refine gf_X3_40 rfl (show decode cX3_readProduct 38 = .ok (.getfield 40, 3) by decide +kernel) okl_271 ?_
      refine j_bipush (n := 42) (by decide +kernel) (show decode cX3_readProduct 41 = .ok (.bipush 42, 2) by decide +kernel) ?_
      have hr2 := h.1
      have h := h.2
      refine j_icmp_ne (tgt := 51) hr2 (inl (by decide)) (show decode cX3_readProduct 43 = .ok (.if_icmp .ne 8, 3) by decide +kernel) (by decide) (fun c => ?_) (fun c => ?_)
      · have h := h.1 c
        refine j_bipush (n := 17) (by decide +kernel) (show decode cX3_readProduct 51 = .ok (.bipush 17, 2) by decide +kernel) ?_
        refine s_ist_n (i := 3) (L' := [rv 271, iv p1, iv v2, iv 17]) rfl (by decide) (show decode cX3_readProduct 53 = .ok (.istore_n 3, 1) by decide +kernel) ?_
        refine s_aload_n (i := 0) rfl (show decode cX3_readProduct 54 = .ok (.aload_n 0, 1) by decide +kernel) ?_
        refine j_ctVv (m' := mX3_advance) (As := []) (ci := 3) (N := 0) (cw_X3_37 rfl) (show decode cX3_readProduct 55 = .ok (.invokevirtual 37, 3) by decide +kernel) rfl (Nat.le_of_ble_eq_true rfl) okl_271 rfl rfl (Nat.le_refl _) h (fun r4 σ4 h => ?_)
        refine s_aload_n (i := 0) rfl (show decode cX3_readProduct 58 = .ok (.aload_n 0, 1) by decide +kernel) ?_
        refine j_iload_n (i := 1) rfl (show decode cX3_readProduct 59 = .ok (.iload_n 1, 1) by decide +kernel) ?_
        refine j_ctV (m' := mX3_readOne) (As := [iv p1]) (ci := 3) (tag := 0) (N := 0) (cw_X3_104 rfl) (show decode cX3_readProduct 60 = .ok (.invokevirtual 104, 3) by decide +kernel) rfl (Nat.le_of_ble_eq_true rfl) (by decide) okl_271 rfl rfl (Nat.le_refl _) h (fun r5 σ5 h => ?_)
        have hr5 := h.1
        have h := h.2
        refine j_if_ne (tgt := 68) hr5 (show decode cX3_readProduct 63 = .ok (.ifCond .ne 5, 3) by decide +kernel) (by decide) (fun c => ?_) (fun c => ?_)
        · have h := h.1 c
          refine s_aload_n (i := 0) rfl (show decode cX3_readProduct 68 = .ok (.aload_n 0, 1) by decide +kernel) ?_
          refine gf_X3_25 (x := t) rfl (show decode cX3_readProduct 69 = .ok (.getfield 25, 3) by decide +kernel) okl_271 rfl ?_
          refine j_iload_n (i := 3) rfl (show decode cX3_readProduct 72 = .ok (.iload_n 3, 1) by decide +kernel) ?_
          refine j_iconst (show decode cX3_readProduct 73 = .ok (.iconst 0, 1) by decide +kernel) ?_
          have hb7 := h.1
          have h := h.2
          refine j_ctVv (m' := mX8_addCode) (As := [iv 17, iv 0]) (ci := 8) (N := 0) (cw_X3_100 rfl) (show decode cX3_readProduct 74 = .ok (.invokevirtual 100, 3) by decide +kernel) rfl (Nat.le_of_ble_eq_true rfl) hb7 rfl rfl (Nat.le_refl _) h (fun r7 σ7 h => ?_)
          refine s_iinc (i := 2) rfl (L' := [rv 271, iv p1, iv (v2 + 1), iv 17]) rfl (show decode cX3_readProduct 77 = .ok (.iinc 2 1, 3) by decide +kernel) ?_
          refine j_goto (tgt := 12) (show decode cX3_readProduct 80 = .ok (.goto (-68), 3) by decide +kernel) (by decide) ?_
          refine j_drop 3 ?_
          exact h
        · have h := h.2 c
          refine j_iconst (show decode cX3_readProduct 66 = .ok (.iconst 0, 1) by decide +kernel) ?_
          exact j_ret (rokZ (show decode cX3_readProduct 67 = .ok (.ireturn, 1) by decide +kernel) rfl (Or.inl rfl)) ⟨rfl, rfl, h⟩
      · have h := h.2 c
        refine j_bipush (n := 16) (by decide +kernel) (show decode cX3_readProduct 46 = .ok (.bipush 16, 2) by decide +kernel) ?_
        refine j_goto (tgt := 53) (show decode cX3_readProduct 48 = .ok (.goto 5, 3) by decide +kernel) (by decide) ?_
        refine s_ist_n (i := 3) (L' := [rv 271, iv p1, iv v2, iv 16]) rfl (by decide) (show decode cX3_readProduct 53 = .ok (.istore_n 3, 1) by decide +kernel) ?_
        refine s_aload_n (i := 0) rfl (show decode cX3_readProduct 54 = .ok (.aload_n 0, 1) by decide +kernel) ?_
        refine j_ctVv (m' := mX3_advance) (As := []) (ci := 3) (N := 0) (cw_X3_37 rfl) (show decode cX3_readProduct 55 = .ok (.invokevirtual 37, 3) by decide +kernel) rfl (Nat.le_of_ble_eq_true rfl) okl_271 rfl rfl (Nat.le_refl _) h (fun r9 σ9 h => ?_)
        refine s_aload_n (i := 0) rfl (show decode cX3_readProduct 58 = .ok (.aload_n 0, 1) by decide +kernel) ?_
        refine j_iload_n (i := 1) rfl (show decode cX3_readProduct 59 = .ok (.iload_n 1, 1) by decide +kernel) ?_
        refine j_ctV (m' := mX3_readOne) (As := [iv p1]) (ci := 3) (tag := 0) (N := 0) (cw_X3_104 rfl) (show decode cX3_readProduct 60 = .ok (.invokevirtual 104, 3) by decide +kernel) rfl (Nat.le_of_ble_eq_true rfl) (by decide) okl_271 rfl rfl (Nat.le_refl _) h (fun r10 σ10 h => ?_)
        have hr10 := h.1
        have h := h.2
        refine j_if_ne (tgt := 68) hr10 (show decode cX3_readProduct 63 = .ok (.ifCond .ne 5, 3) by decide +kernel) (by decide) (fun c => ?_) (fun c => ?_)
        · have h := h.1 c
          refine s_aload_n (i := 0) rfl (show decode cX3_readProduct 68 = .ok (.aload_n 0, 1) by decide +kernel) ?_
          refine gf_X3_25 (x := t) rfl (show decode cX3_readProduct 69 = .ok (.getfield 25, 3) by decide +kernel) okl_271 rfl ?_
          refine j_iload_n (i := 3) rfl (show decode cX3_readProduct 72 = .ok (.iload_n 3, 1) by decide +kernel) ?_
          refine j_iconst (show decode cX3_readProduct 73 = .ok (.iconst 0, 1) by decide +kernel) ?_
          have hb12 := h.1
          have h := h.2
          refine j_ctVv (m' := mX8_addCode) (As := [iv 16, iv 0]) (ci := 8) (N := 0) (cw_X3_100 rfl) (show decode cX3_readProduct 74 = .ok (.invokevirtual 100, 3) by decide +kernel) rfl (Nat.le_of_ble_eq_true rfl) hb12 rfl rfl (Nat.le_refl _) h (fun r12 σ12 h => ?_)
          refine s_iinc (i := 2) rfl (L' := [rv 271, iv p1, iv (v2 + 1), iv 16]) rfl (show decode cX3_readProduct 77 = .ok (.iinc 2 1, 3) by decide +kernel) ?_
          refine j_goto (tgt := 12) (show decode cX3_readProduct 80 = .ok (.goto (-68), 3) by decide +kernel) (by decide) ?_
          refine j_drop 3 ?_
          exact h
        · have h := h.2 c
          refine j_iconst (show decode cX3_readProduct 66 = .ok (.iconst 0, 1) by decide +kernel) ?_
          exact j_ret (rokZ (show decode cX3_readProduct 67 = .ok (.ireturn, 1) by decide +kernel) rfl (Or.inl rfl)) ⟨rfl, rfl, h⟩
    · have h := h.2 c
      refine s_aload_n (i := 0) rfl (show decode cX3_readProduct 28 = .ok (.aload_n 0, 1) by decide +kernel) ?_
      refine gf_X3_40 rfl (show decode cX3_readProduct 29 = .ok (.getfield 40, 3) by decide +kernel) okl_271 ?_
      refine j_bipush (n := 47) (by decide +kernel) (show decode cX3_readProduct 32 = .ok (.bipush 47, 2) by decide +kernel) ?_
      have hr13 := h.1
      have h := h.2
      refine j_icmp_ne (tgt := 83) hr13 (inl (by decide)) (show decode cX3_readProduct 34 = .ok (.if_icmp .ne 49, 3) by decide +kernel) (by decide) (fun c => ?_) (fun c => ?_)
      · have h := h.1 c
        refine j_iconst (show decode cX3_readProduct 83 = .ok (.iconst 1, 1) by decide +kernel) ?_
        exact j_ret (rokZ (show decode cX3_readProduct 84 = .ok (.ireturn, 1) by decide +kernel) rfl (Or.inr rfl)) ⟨rfl, rfl, h⟩
      · have h := h.2 c
        refine s_aload_n (i := 0) rfl (show decode cX3_readProduct 37 = .ok (.aload_n 0, 1) by decide +kernel) ?_
        refine gf_X3_40 rfl (show decode cX3_readProduct 38 = .ok (.getfield 40, 3) by decide +kernel) okl_271 ?_
        refine j_bipush (n := 42) (by decide +kernel) (show decode cX3_readProduct 41 = .ok (.bipush 42, 2) by decide +kernel) ?_
        have hr14 := h.1
        have h := h.2
        refine j_icmp_ne (tgt := 51) hr14 (inl (by decide)) (show decode cX3_readProduct 43 = .ok (.if_icmp .ne 8, 3) by decide +kernel) (by decide) (fun c => ?_) (fun c => ?_)
        · have h := h.1 c
          refine j_bipush (n := 17) (by decide +kernel) (show decode cX3_readProduct 51 = .ok (.bipush 17, 2) by decide +kernel) ?_
          refine s_ist_n (i := 3) (L' := [rv 271, iv p1, iv v2, iv 17]) rfl (by decide) (show decode cX3_readProduct 53 = .ok (.istore_n 3, 1) by decide +kernel) ?_
          refine s_aload_n (i := 0) rfl (show decode cX3_readProduct 54 = .ok (.aload_n 0, 1) by decide +kernel) ?_
          refine j_ctVv (m' := mX3_advance) (As := []) (ci := 3) (N := 0) (cw_X3_37 rfl) (show decode cX3_readProduct 55 = .ok (.invokevirtual 37, 3) by decide +kernel) rfl (Nat.le_of_ble_eq_true rfl) okl_271 rfl rfl (Nat.le_refl _) h (fun r16 σ16 h => ?_)
          refine s_aload_n (i := 0) rfl (show decode cX3_readProduct 58 = .ok (.aload_n 0, 1) by decide +kernel) ?_
          refine j_iload_n (i := 1) rfl (show decode cX3_readProduct 59 = .ok (.iload_n 1, 1) by decide +kernel) ?_
          refine j_ctV (m' := mX3_readOne) (As := [iv p1]) (ci := 3) (tag := 0) (N := 0) (cw_X3_104 rfl) (show decode cX3_readProduct 60 = .ok (.invokevirtual 104, 3) by decide +kernel) rfl (Nat.le_of_ble_eq_true rfl) (by decide) okl_271 rfl rfl (Nat.le_refl _) h (fun r17 σ17 h => ?_)
          have hr17 := h.1
          have h := h.2
          refine j_if_ne (tgt := 68) hr17 (show decode cX3_readProduct 63 = .ok (.ifCond .ne 5, 3) by decide +kernel) (by decide) (fun c => ?_) (fun c => ?_)
          · have h := h.1 c
            refine s_aload_n (i := 0) rfl (show decode cX3_readProduct 68 = .ok (.aload_n 0, 1) by decide +kernel) ?_
            refine gf_X3_25 (x := t) rfl (show decode cX3_readProduct 69 = .ok (.getfield 25, 3) by decide +kernel) okl_271 rfl ?_
            refine j_iload_n (i := 3) rfl (show decode cX3_readProduct 72 = .ok (.iload_n 3, 1) by decide +kernel) ?_
            refine j_iconst (show decode cX3_readProduct 73 = .ok (.iconst 0, 1) by decide +kernel) ?_
            have hb19 := h.1
            have h := h.2
            refine j_ctVv (m' := mX8_addCode) (As := [iv 17, iv 0]) (ci := 8) (N := 0) (cw_X3_100 rfl) (show decode cX3_readProduct 74 = .ok (.invokevirtual 100, 3) by decide +kernel) rfl (Nat.le_of_ble_eq_true rfl) hb19 rfl rfl (Nat.le_refl _) h (fun r19 σ19 h => ?_)
            refine s_iinc (i := 2) rfl (L' := [rv 271, iv p1, iv (v2 + 1), iv 17]) rfl (show decode cX3_readProduct 77 = .ok (.iinc 2 1, 3) by decide +kernel) ?_
            refine j_goto (tgt := 12) (show decode cX3_readProduct 80 = .ok (.goto (-68), 3) by decide +kernel) (by decide) ?_
            refine j_drop 3 ?_
            exact h
          · have h := h.2 c
            refine j_iconst (show decode cX3_readProduct 66 = .ok (.iconst 0, 1) by decide +kernel) ?_
            exact j_ret (rokZ (show decode cX3_readProduct 67 = .ok (.ireturn, 1) by decide +kernel) rfl (Or.inl rfl)) ⟨rfl, rfl, h⟩
        · have h := h.2 c
          refine j_bipush (n := 16) (by decide +kernel) (show decode cX3_readProduct 46 = .ok (.bipush 16, 2) by decide +kernel) ?_
          refine j_goto (tgt := 53) (show decode cX3_readProduct 48 = .ok (.goto 5, 3) by decide +kernel) (by decide) ?_
          refine s_ist_n (i := 3) (L' := [rv 271, iv p1, iv v2, iv 16]) rfl (by decide) (show decode cX3_readProduct 53 = .ok (.istore_n 3, 1) by decide +kernel) ?_
          refine s_aload_n (i := 0) rfl (show decode cX3_readProduct 54 = .ok (.aload_n 0, 1) by decide +kernel) ?_
          refine j_ctVv (m' := mX3_advance) (As := []) (ci := 3) (N := 0) (cw_X3_37 rfl) (show decode cX3_readProduct 55 = .ok (.invokevirtual 37, 3) by decide +kernel) rfl (Nat.le_of_ble_eq_true rfl) okl_271 rfl rfl (Nat.le_refl _) h (fun r21 σ21 h => ?_)
          refine s_aload_n (i := 0) rfl (show decode cX3_readProduct 58 = .ok (.aload_n 0, 1) by decide +kernel) ?_
          refine j_iload_n (i := 1) rfl (show decode cX3_readProduct 59 = .ok (.iload_n 1, 1) by decide +kernel) ?_
          refine j_ctV (m' := mX3_readOne) (As := [iv p1]) (ci := 3) (tag := 0) (N := 0) (cw_X3_104 rfl) (show decode cX3_readProduct 60 = .ok (.invokevirtual 104, 3) by decide +kernel) rfl (Nat.le_of_ble_eq_true rfl) (by decide) okl_271 rfl rfl (Nat.le_refl _) h (fun r22 σ22 h => ?_)
          have hr22 := h.1
          have h := h.2
          refine j_if_ne (tgt := 68) hr22 (show decode cX3_readProduct 63 = .ok (.ifCond .ne 5, 3) by decide +kernel) (by decide) (fun c => ?_) (fun c => ?_)
          · have h := h.1 c
            refine s_aload_n (i := 0) rfl (show decode cX3_readProduct 68 = .ok (.aload_n 0, 1) by decide +kernel) ?_
            refine gf_X3_25 (x := t) rfl (show decode cX3_readProduct 69 = .ok (.getfield 25, 3) by decide +kernel) okl_271 rfl ?_
            refine j_iload_n (i := 3) rfl (show decode cX3_readProduct 72 = .ok (.iload_n 3, 1) by decide +kernel) ?_
            refine j_iconst (show decode cX3_readProduct 73 = .ok (.iconst 0, 1) by decide +kernel) ?_
            have hb24 := h.1
            have h := h.2
            refine j_ctVv (m' := mX8_addCode) (As := [iv 16, iv 0]) (ci := 8) (N := 0) (cw_X3_100 rfl) (show decode cX3_readProduct 74 = .ok (.invokevirtual 100, 3) by decide +kernel) rfl (Nat.le_of_ble_eq_true rfl) hb24 rfl rfl (Nat.le_refl _) h (fun r24 σ24 h => ?_)
            refine s_iinc (i := 2) rfl (L' := [rv 271, iv p1, iv (v2 + 1), iv 16]) rfl (show decode cX3_readProduct 77 = .ok (.iinc 2 1, 3) by decide +kernel) ?_
            refine j_goto (tgt := 12) (show decode cX3_readProduct 80 = .ok (.goto (-68), 3) by decide +kernel) (by decide) ?_
            refine j_drop 3 ?_
            exact h
          · have h := h.2 c
            refine j_iconst (show decode cX3_readProduct 66 = .ok (.iconst 0, 1) by decide +kernel) ?_
            exact j_ret (rokZ (show decode cX3_readProduct 67 = .ok (.ireturn, 1) by decide +kernel) rfl (Or.inl rfl)) ⟨rfl, rfl, h⟩
set_option maxRecDepth 4000 in
theorem b_X3_readProduct_0 {d : Nat} {t : Int} {Q : Int → jM → Prop} {σ : jM} {p1 : Int} (h : Ct mX3_readOne d 0 t [rv 271, iv p1] σ (fun r1 σ1 => ((inR r1) ∧ ((¬ r1 = 0 → (Jt mX3_readProduct (d + 1) 0 t Q 12 [rv 271, iv p1, iv 0, uv] [] σ1)) ∧ (r1 = 0 → (Q 0 σ1)))))) : Jt mX3_readProduct (d + 1) 0 t Q 0 [rv 271, iv p1, uv, uv] [] σ := by
  refine s_aload_n (i := 0) rfl (show decode cX3_readProduct 0 = .ok (.aload_n 0, 1) by decide +kernel) ?_
  refine j_iload_n (i := 1) rfl (show decode cX3_readProduct 1 = .ok (.iload_n 1, 1) by decide +kernel) ?_
  refine j_ctV (m' := mX3_readOne) (As := [iv p1]) (ci := 3) (tag := 0) (N := 0) (cw_X3_104 rfl) (show decode cX3_readProduct 2 = .ok (.invokevirtual 104, 3) by decide +kernel) rfl (Nat.le_of_ble_eq_true rfl) (by decide) okl_271 rfl rfl (Nat.le_refl _) h (fun r1 σ1 h => ?_)
  have hr1 := h.1
  have h := h.2
  refine j_if_ne (tgt := 10) hr1 (show decode cX3_readProduct 5 = .ok (.ifCond .ne 5, 3) by decide +kernel) (by decide) (fun c => ?_) (fun c => ?_)
  · have h := h.1 c
    refine j_iconst (show decode cX3_readProduct 10 = .ok (.iconst 0, 1) by decide +kernel) ?_
    refine s_ist_n (i := 2) (L' := [rv 271, iv p1, iv 0, uv]) rfl (by decide) (show decode cX3_readProduct 11 = .ok (.istore_n 2, 1) by decide +kernel) ?_
    exact h
  · have h := h.2 c
    refine j_iconst (show decode cX3_readProduct 8 = .ok (.iconst 0, 1) by decide +kernel) ?_
    exact j_ret (rokZ (show decode cX3_readProduct 9 = .ok (.ireturn, 1) by decide +kernel) rfl (Or.inl rfl)) ⟨rfl, rfl, h⟩
theorem c_X3_readProduct {d : Nat} {t : Int} {Q : Int → jM → Prop} {σ : jM} {p1 : Int} (h : Ct mX3_readOne d 0 t [rv 271, iv p1] σ (fun r1 σ1 => ((inR r1) ∧ ((¬ r1 = 0 → (Jt mX3_readProduct (d + 1) 0 t Q 12 [rv 271, iv p1, iv 0, uv] [] σ1)) ∧ (r1 = 0 → (Q 0 σ1)))))) : Ct mX3_readProduct (d + 1) 0 t [rv 271, iv p1] σ Q := Ct_of (by decide +kernel) (Nat.le_of_ble_eq_true rfl) (b_X3_readProduct_0 h)
set_option maxRecDepth 4000 in
theorem b_X3_readOne_209 {d : Nat} {t : Int} {Q : Int → jM → Prop} {σ : jM} {p1 v2 u0 u1 : Int} (h : (ob (GG t) u1 8) ∧ (Ct mX8_addCode d 9 t [rv u1, iv u0, iv 0] σ (fun r1 σ1 => (Q 1 σ1)))) : Jt mX3_readOne (d + 1) 0 t Q 209 [rv 271, iv p1, iv v2] [iv u0, rv u1] σ := by
  refine j_iconst (show decode cX3_readOne 209 = .ok (.iconst 0, 1) by decide +kernel) ?_
  have hb1 := h.1
  have h := h.2
  refine j_ctVv (m' := mX8_addCode) (As := [iv u0, iv 0]) (ci := 8) (N := 0) (cw_X3_100 rfl) (show decode cX3_readOne 210 = .ok (.invokevirtual 100, 3) by decide +kernel) rfl (Nat.le_of_ble_eq_true rfl) hb1 rfl rfl (Nat.le_refl _) h (fun r1 σ1 h => ?_)
  refine j_iconst (show decode cX3_readOne 213 = .ok (.iconst 1, 1) by decide +kernel) ?_
  exact j_ret (rokZ (show decode cX3_readOne 214 = .ok (.ireturn, 1) by decide +kernel) rfl (Or.inr rfl)) ⟨rfl, rfl, h⟩
set_option maxRecDepth 4000 in
theorem b_X3_readOne_154 {d : Nat} {t : Int} {Q : Int → jM → Prop} {σ : jM} {p1 v2 u0 : Int} (h : (u0 = 0 ∨ u0 = 1) ∧ (Q u0 σ)) : Jt mX3_readOne (d + 1) 0 t Q 154 [rv 271, iv p1, iv v2] [iv u0] σ := by
  have hz0 := h.1
  have h := h.2
  exact j_ret (rokZ (show decode cX3_readOne 154 = .ok (.ireturn, 1) by decide +kernel) rfl hz0) ⟨rfl, rfl, h⟩
set_option maxRecDepth 4000 in
theorem b_X3_readOne_153 {d : Nat} {t : Int} {Q : Int → jM → Prop} {σ : jM} {p1 v2 : Int} (h : Jt mX3_readOne (d + 1) 0 t Q 154 [rv 271, iv p1, iv v2] [iv 0] σ) : Jt mX3_readOne (d + 1) 0 t Q 153 [rv 271, iv p1, iv v2] [] σ := by
  refine j_iconst (show decode cX3_readOne 153 = .ok (.iconst 0, 1) by decide +kernel) ?_
  exact h
set_option maxRecDepth 4000 in
theorem b_X3_readOne_103 {d : Nat} {t : Int} {Q : Int → jM → Prop} {σ : jM} {p1 : Int} (h : (inR p1) ∧ ((p1 < 8 → (Ct mX3_advance d 9 t [rv 271] σ (fun r2 σ2 => ((inR (σ 271 6)) ∧ ((¬ (σ 271 6) = 40 → ((inR (σ 271 6)) ∧ ((¬ (σ 271 6) = 115 → (Ct mX3_readOne d 0 t [rv 271, iv (p1 + 1)] σ2 (fun r5 σ5 => ((inR r5) ∧ ((¬ r5 = 0 → ((inR (σ 271 6)) ∧ ((¬ (σ 271 6) = 45 → ((inR (σ 271 6)) ∧ ((¬ (σ 271 6) = 113 → (Jt mX3_readOne (d + 1) 0 t Q 209 [rv 271, iv p1, iv (σ 271 6)] [iv 12, rv t] σ5)) ∧ ((σ 271 6) = 113 → (Jt mX3_readOne (d + 1) 0 t Q 209 [rv 271, iv p1, iv (σ 271 6)] [iv 11, rv t] σ5))))) ∧ ((σ 271 6) = 45 → (Jt mX3_readOne (d + 1) 0 t Q 209 [rv 271, iv p1, iv (σ 271 6)] [iv 10, rv t] σ5))))) ∧ (r5 = 0 → (Q 0 σ5))))))) ∧ ((σ 271 6) = 115 → (Ct mX3_readChoice d 0 t [rv 271, iv (p1 + 1)] σ2 (fun r9 σ9 => ((r9 = 0 ∨ r9 = 1) ∧ (Q r9 σ9)))))))) ∧ ((σ 271 6) = 40 → (Ct mX3_readSum d 0 t [rv 271, iv (p1 + 1)] σ2 (fun r11 σ11 => ((inR r11) ∧ ((r11 = 0 → (Jt mX3_readOne (d + 1) 0 t Q 153 [rv 271, iv p1, iv (σ 271 6)] [] σ11)) ∧ (¬ r11 = 0 → (Ct mX3_take d 0 t [rv 271, iv 41] σ11 (fun r13 σ13 => ((inR r13) ∧ ((r13 = 0 → (Jt mX3_readOne (d + 1) 0 t Q 153 [rv 271, iv p1, iv (σ 271 6)] [] σ13)) ∧ (¬ r13 = 0 → (Jt mX3_readOne (d + 1) 0 t Q 154 [rv 271, iv p1, iv (σ 271 6)] [iv 1] σ13))))))))))))))))) ∧ (8 ≤ p1 → (Ct mX3_failed d 0 t [rv 271, iv 3] σ (fun r15 σ15 => ((r15 = 0 ∨ r15 = 1) ∧ (Q r15 σ15))))))) : Jt mX3_readOne (d + 1) 0 t Q 103 [rv 271, iv p1, uv] [] σ := by
  refine j_iload_n (i := 1) rfl (show decode cX3_readOne 103 = .ok (.iload_n 1, 1) by decide +kernel) ?_
  refine j_bipush (n := 8) (by decide +kernel) (show decode cX3_readOne 104 = .ok (.bipush 8, 2) by decide +kernel) ?_
  have hr0 := h.1
  have h := h.2
  refine j_icmp_lt (tgt := 115) hr0 (inl (by decide)) (show decode cX3_readOne 106 = .ok (.if_icmp .lt 9, 3) by decide +kernel) (by decide) (fun c => ?_) (fun c => ?_)
  · have h := h.1 c
    refine s_aload_n (i := 0) rfl (show decode cX3_readOne 115 = .ok (.aload_n 0, 1) by decide +kernel) ?_
    refine gf_X3_40 rfl (show decode cX3_readOne 116 = .ok (.getfield 40, 3) by decide +kernel) okl_271 ?_
    refine s_ist_n (i := 2) (L' := [rv 271, iv p1, iv (σ 271 6)]) rfl (by decide) (show decode cX3_readOne 119 = .ok (.istore_n 2, 1) by decide +kernel) ?_
    refine s_aload_n (i := 0) rfl (show decode cX3_readOne 120 = .ok (.aload_n 0, 1) by decide +kernel) ?_
    refine j_ctVv (m' := mX3_advance) (As := []) (ci := 3) (N := 0) (cw_X3_37 rfl) (show decode cX3_readOne 121 = .ok (.invokevirtual 37, 3) by decide +kernel) rfl (Nat.le_of_ble_eq_true rfl) okl_271 rfl rfl (Nat.le_refl _) h (fun r2 σ2 h => ?_)
    refine j_iload_n (i := 2) rfl (show decode cX3_readOne 124 = .ok (.iload_n 2, 1) by decide +kernel) ?_
    refine j_bipush (n := 40) (by decide +kernel) (show decode cX3_readOne 125 = .ok (.bipush 40, 2) by decide +kernel) ?_
    have hr2 := h.1
    have h := h.2
    refine j_icmp_ne (tgt := 155) hr2 (inl (by decide)) (show decode cX3_readOne 127 = .ok (.if_icmp .ne 28, 3) by decide +kernel) (by decide) (fun c => ?_) (fun c => ?_)
    · have h := h.1 c
      refine j_iload_n (i := 2) rfl (show decode cX3_readOne 155 = .ok (.iload_n 2, 1) by decide +kernel) ?_
      refine j_bipush (n := 115) (by decide +kernel) (show decode cX3_readOne 156 = .ok (.bipush 115, 2) by decide +kernel) ?_
      have hr3 := h.1
      have h := h.2
      refine j_icmp_ne (tgt := 169) hr3 (inl (by decide)) (show decode cX3_readOne 158 = .ok (.if_icmp .ne 11, 3) by decide +kernel) (by decide) (fun c => ?_) (fun c => ?_)
      · have h := h.1 c
        refine s_aload_n (i := 0) rfl (show decode cX3_readOne 169 = .ok (.aload_n 0, 1) by decide +kernel) ?_
        refine j_iload_n (i := 1) rfl (show decode cX3_readOne 170 = .ok (.iload_n 1, 1) by decide +kernel) ?_
        refine j_iconst (show decode cX3_readOne 171 = .ok (.iconst 1, 1) by decide +kernel) ?_
        refine j_iadd (show decode cX3_readOne 172 = .ok (.iadd, 1) by decide +kernel) ?_
        refine j_ctV (m' := mX3_readOne) (As := [iv (p1 + 1)]) (ci := 3) (tag := 0) (N := 0) (cw_X3_104 rfl) (show decode cX3_readOne 173 = .ok (.invokevirtual 104, 3) by decide +kernel) rfl (Nat.le_of_ble_eq_true rfl) (by decide) okl_271 rfl rfl (Nat.le_refl _) h (fun r5 σ5 h => ?_)
        have hr5 := h.1
        have h := h.2
        refine j_if_ne (tgt := 181) hr5 (show decode cX3_readOne 176 = .ok (.ifCond .ne 5, 3) by decide +kernel) (by decide) (fun c => ?_) (fun c => ?_)
        · have h := h.1 c
          refine s_aload_n (i := 0) rfl (show decode cX3_readOne 181 = .ok (.aload_n 0, 1) by decide +kernel) ?_
          refine gf_X3_25 (x := t) rfl (show decode cX3_readOne 182 = .ok (.getfield 25, 3) by decide +kernel) okl_271 rfl ?_
          refine j_iload_n (i := 2) rfl (show decode cX3_readOne 185 = .ok (.iload_n 2, 1) by decide +kernel) ?_
          refine j_bipush (n := 45) (by decide +kernel) (show decode cX3_readOne 186 = .ok (.bipush 45, 2) by decide +kernel) ?_
          have hr6 := h.1
          have h := h.2
          refine j_icmp_ne (tgt := 196) hr6 (inl (by decide)) (show decode cX3_readOne 188 = .ok (.if_icmp .ne 8, 3) by decide +kernel) (by decide) (fun c => ?_) (fun c => ?_)
          · have h := h.1 c
            refine j_iload_n (i := 2) rfl (show decode cX3_readOne 196 = .ok (.iload_n 2, 1) by decide +kernel) ?_
            refine j_bipush (n := 113) (by decide +kernel) (show decode cX3_readOne 197 = .ok (.bipush 113, 2) by decide +kernel) ?_
            have hr7 := h.1
            have h := h.2
            refine j_icmp_ne (tgt := 207) hr7 (inl (by decide)) (show decode cX3_readOne 199 = .ok (.if_icmp .ne 8, 3) by decide +kernel) (by decide) (fun c => ?_) (fun c => ?_)
            · have h := h.1 c
              refine j_bipush (n := 12) (by decide +kernel) (show decode cX3_readOne 207 = .ok (.bipush 12, 2) by decide +kernel) ?_
              exact h
            · have h := h.2 c
              refine j_bipush (n := 11) (by decide +kernel) (show decode cX3_readOne 202 = .ok (.bipush 11, 2) by decide +kernel) ?_
              refine j_goto (tgt := 209) (show decode cX3_readOne 204 = .ok (.goto 5, 3) by decide +kernel) (by decide) ?_
              exact h
          · have h := h.2 c
            refine j_bipush (n := 10) (by decide +kernel) (show decode cX3_readOne 191 = .ok (.bipush 10, 2) by decide +kernel) ?_
            refine j_goto (tgt := 209) (show decode cX3_readOne 193 = .ok (.goto 16, 3) by decide +kernel) (by decide) ?_
            exact h
        · have h := h.2 c
          refine j_iconst (show decode cX3_readOne 179 = .ok (.iconst 0, 1) by decide +kernel) ?_
          exact j_ret (rokZ (show decode cX3_readOne 180 = .ok (.ireturn, 1) by decide +kernel) rfl (Or.inl rfl)) ⟨rfl, rfl, h⟩
      · have h := h.2 c
        refine s_aload_n (i := 0) rfl (show decode cX3_readOne 161 = .ok (.aload_n 0, 1) by decide +kernel) ?_
        refine j_iload_n (i := 1) rfl (show decode cX3_readOne 162 = .ok (.iload_n 1, 1) by decide +kernel) ?_
        refine j_iconst (show decode cX3_readOne 163 = .ok (.iconst 1, 1) by decide +kernel) ?_
        refine j_iadd (show decode cX3_readOne 164 = .ok (.iadd, 1) by decide +kernel) ?_
        refine j_ctV (m' := mX3_readChoice) (As := [iv (p1 + 1)]) (ci := 3) (tag := 0) (N := 0) (cw_X3_110 rfl) (show decode cX3_readOne 165 = .ok (.invokevirtual 110, 3) by decide +kernel) rfl (Nat.le_of_ble_eq_true rfl) (by decide) okl_271 rfl rfl (Nat.le_refl _) h (fun r9 σ9 h => ?_)
        have hz9 := h.1
        have h := h.2
        exact j_ret (rokZ (show decode cX3_readOne 168 = .ok (.ireturn, 1) by decide +kernel) rfl hz9) ⟨rfl, rfl, h⟩
    · have h := h.2 c
      refine s_aload_n (i := 0) rfl (show decode cX3_readOne 130 = .ok (.aload_n 0, 1) by decide +kernel) ?_
      refine j_iload_n (i := 1) rfl (show decode cX3_readOne 131 = .ok (.iload_n 1, 1) by decide +kernel) ?_
      refine j_iconst (show decode cX3_readOne 132 = .ok (.iconst 1, 1) by decide +kernel) ?_
      refine j_iadd (show decode cX3_readOne 133 = .ok (.iadd, 1) by decide +kernel) ?_
      refine j_ctV (m' := mX3_readSum) (As := [iv (p1 + 1)]) (ci := 3) (tag := 0) (N := 0) (cw_X3_66 rfl) (show decode cX3_readOne 134 = .ok (.invokevirtual 66, 3) by decide +kernel) rfl (Nat.le_of_ble_eq_true rfl) (by decide) okl_271 rfl rfl (Nat.le_refl _) h (fun r11 σ11 h => ?_)
      have hr11 := h.1
      have h := h.2
      refine j_if_eq (tgt := 153) hr11 (show decode cX3_readOne 137 = .ok (.ifCond .eq 16, 3) by decide +kernel) (by decide) (fun c => ?_) (fun c => ?_)
      · have h := h.1 c
        exact h
      · have h := h.2 c
        refine s_aload_n (i := 0) rfl (show decode cX3_readOne 140 = .ok (.aload_n 0, 1) by decide +kernel) ?_
        refine j_bipush (n := 41) (by decide +kernel) (show decode cX3_readOne 141 = .ok (.bipush 41, 2) by decide +kernel) ?_
        refine j_ctV (m' := mX3_take) (As := [iv 41]) (ci := 3) (tag := 0) (N := 0) (cw_X3_69 rfl) (show decode cX3_readOne 143 = .ok (.invokevirtual 69, 3) by decide +kernel) rfl (Nat.le_of_ble_eq_true rfl) (by decide) okl_271 rfl rfl (Nat.le_refl _) h (fun r13 σ13 h => ?_)
        have hr13 := h.1
        have h := h.2
        refine j_if_eq (tgt := 153) hr13 (show decode cX3_readOne 146 = .ok (.ifCond .eq 7, 3) by decide +kernel) (by decide) (fun c => ?_) (fun c => ?_)
        · have h := h.1 c
          exact h
        · have h := h.2 c
          refine j_iconst (show decode cX3_readOne 149 = .ok (.iconst 1, 1) by decide +kernel) ?_
          refine j_goto (tgt := 154) (show decode cX3_readOne 150 = .ok (.goto 4, 3) by decide +kernel) (by decide) ?_
          exact h
  · have h := h.2 c
    refine s_aload_n (i := 0) rfl (show decode cX3_readOne 109 = .ok (.aload_n 0, 1) by decide +kernel) ?_
    refine j_iconst (show decode cX3_readOne 110 = .ok (.iconst 3, 1) by decide +kernel) ?_
    refine j_ctV (m' := mX3_failed) (As := [iv 3]) (ci := 3) (tag := 0) (N := 0) (cw_X3_50 rfl) (show decode cX3_readOne 111 = .ok (.invokevirtual 50, 3) by decide +kernel) rfl (Nat.le_of_ble_eq_true rfl) (by decide) okl_271 rfl rfl (Nat.le_refl _) h (fun r15 σ15 h => ?_)
    have hz15 := h.1
    have h := h.2
    exact j_ret (rokZ (show decode cX3_readOne 114 = .ok (.ireturn, 1) by decide +kernel) rfl hz15) ⟨rfl, rfl, h⟩
set_option maxRecDepth 4000 in
theorem b_X3_readOne_0 {d : Nat} {t : Int} {Q : Int → jM → Prop} {σ : jM} {p1 : Int} (h : (inR (σ 271 6)) ∧ ((¬ (σ 271 6) = 1 → ((inR (σ 271 6)) ∧ (((σ 271 6) < 106 → ((inR (σ 271 6)) ∧ (((σ 271 6) = 40 → (Jt mX3_readOne (d + 1) 0 t Q 103 [rv 271, iv p1, uv] [] σ)) ∧ (¬ (σ 271 6) = 40 → ((inR (σ 271 6)) ∧ (((σ 271 6) = 115 → (Jt mX3_readOne (d + 1) 0 t Q 103 [rv 271, iv p1, uv] [] σ)) ∧ (¬ (σ 271 6) = 115 → ((inR (σ 271 6)) ∧ (((σ 271 6) = 45 → (Jt mX3_readOne (d + 1) 0 t Q 103 [rv 271, iv p1, uv] [] σ)) ∧ (¬ (σ 271 6) = 45 → ((inR (σ 271 6)) ∧ (((σ 271 6) = 113 → (Jt mX3_readOne (d + 1) 0 t Q 103 [rv 271, iv p1, uv] [] σ)) ∧ (¬ (σ 271 6) = 113 → ((inR (σ 271 6)) ∧ (((σ 271 6) = 114 → (Jt mX3_readOne (d + 1) 0 t Q 103 [rv 271, iv p1, uv] [] σ)) ∧ (¬ (σ 271 6) = 114 → (Ct mX3_failed d 0 t [rv 271, iv 1] σ (fun r8 σ8 => ((r8 = 0 ∨ r8 = 1) ∧ (Q r8 σ8)))))))))))))))))))) ∧ (106 ≤ (σ 271 6) → ((inR (σ 271 6)) ∧ ((112 < (σ 271 6) → ((inR (σ 271 6)) ∧ (((σ 271 6) = 40 → (Jt mX3_readOne (d + 1) 0 t Q 103 [rv 271, iv p1, uv] [] σ)) ∧ (¬ (σ 271 6) = 40 → ((inR (σ 271 6)) ∧ (((σ 271 6) = 115 → (Jt mX3_readOne (d + 1) 0 t Q 103 [rv 271, iv p1, uv] [] σ)) ∧ (¬ (σ 271 6) = 115 → ((inR (σ 271 6)) ∧ (((σ 271 6) = 45 → (Jt mX3_readOne (d + 1) 0 t Q 103 [rv 271, iv p1, uv] [] σ)) ∧ (¬ (σ 271 6) = 45 → ((inR (σ 271 6)) ∧ (((σ 271 6) = 113 → (Jt mX3_readOne (d + 1) 0 t Q 103 [rv 271, iv p1, uv] [] σ)) ∧ (¬ (σ 271 6) = 113 → ((inR (σ 271 6)) ∧ (((σ 271 6) = 114 → (Jt mX3_readOne (d + 1) 0 t Q 103 [rv 271, iv p1, uv] [] σ)) ∧ (¬ (σ 271 6) = 114 → (Ct mX3_failed d 0 t [rv 271, iv 1] σ (fun r16 σ16 => ((r16 = 0 ∨ r16 = 1) ∧ (Q r16 σ16)))))))))))))))))))) ∧ ((σ 271 6) ≤ 112 → (Ct mX3_readName d 0 t [rv 271] σ (fun r18 σ18 => ((r18 = 0 ∨ r18 = 1) ∧ (Q r18 σ18))))))))))) ∧ ((σ 271 6) = 1 → ((ob (GG t) t 8) ∧ (Ct mX8_addCode d 9 t [rv t, iv 0, iv (σ 271 9)] σ (fun r20 σ20 => (Ct mX3_takeNumber d 0 t [rv 271, iv 0, iv 9999] σ20 (fun r22 σ22 => ((r22 = 0 ∨ r22 = 1) ∧ (Q r22 σ22)))))))))) : Jt mX3_readOne (d + 1) 0 t Q 0 [rv 271, iv p1, uv] [] σ := by
  refine s_aload_n (i := 0) rfl (show decode cX3_readOne 0 = .ok (.aload_n 0, 1) by decide +kernel) ?_
  refine gf_X3_40 rfl (show decode cX3_readOne 1 = .ok (.getfield 40, 3) by decide +kernel) okl_271 ?_
  refine j_iconst (show decode cX3_readOne 4 = .ok (.iconst 1, 1) by decide +kernel) ?_
  have hr0 := h.1
  have h := h.2
  refine j_icmp_ne (tgt := 29) hr0 (inl (by decide)) (show decode cX3_readOne 5 = .ok (.if_icmp .ne 24, 3) by decide +kernel) (by decide) (fun c => ?_) (fun c => ?_)
  · have h := h.1 c
    refine s_aload_n (i := 0) rfl (show decode cX3_readOne 29 = .ok (.aload_n 0, 1) by decide +kernel) ?_
    refine gf_X3_40 rfl (show decode cX3_readOne 30 = .ok (.getfield 40, 3) by decide +kernel) okl_271 ?_
    refine j_bipush (n := 106) (by decide +kernel) (show decode cX3_readOne 33 = .ok (.bipush 106, 2) by decide +kernel) ?_
    have hr1 := h.1
    have h := h.2
    refine j_icmp_lt (tgt := 52) hr1 (inl (by decide)) (show decode cX3_readOne 35 = .ok (.if_icmp .lt 17, 3) by decide +kernel) (by decide) (fun c => ?_) (fun c => ?_)
    · have h := h.1 c
      refine s_aload_n (i := 0) rfl (show decode cX3_readOne 52 = .ok (.aload_n 0, 1) by decide +kernel) ?_
      refine gf_X3_40 rfl (show decode cX3_readOne 53 = .ok (.getfield 40, 3) by decide +kernel) okl_271 ?_
      refine j_bipush (n := 40) (by decide +kernel) (show decode cX3_readOne 56 = .ok (.bipush 40, 2) by decide +kernel) ?_
      have hr2 := h.1
      have h := h.2
      refine j_icmp_eq (tgt := 103) hr2 (inl (by decide)) (show decode cX3_readOne 58 = .ok (.if_icmp .eq 45, 3) by decide +kernel) (by decide) (fun c => ?_) (fun c => ?_)
      · have h := h.1 c
        exact h
      · have h := h.2 c
        refine s_aload_n (i := 0) rfl (show decode cX3_readOne 61 = .ok (.aload_n 0, 1) by decide +kernel) ?_
        refine gf_X3_40 rfl (show decode cX3_readOne 62 = .ok (.getfield 40, 3) by decide +kernel) okl_271 ?_
        refine j_bipush (n := 115) (by decide +kernel) (show decode cX3_readOne 65 = .ok (.bipush 115, 2) by decide +kernel) ?_
        have hr3 := h.1
        have h := h.2
        refine j_icmp_eq (tgt := 103) hr3 (inl (by decide)) (show decode cX3_readOne 67 = .ok (.if_icmp .eq 36, 3) by decide +kernel) (by decide) (fun c => ?_) (fun c => ?_)
        · have h := h.1 c
          exact h
        · have h := h.2 c
          refine s_aload_n (i := 0) rfl (show decode cX3_readOne 70 = .ok (.aload_n 0, 1) by decide +kernel) ?_
          refine gf_X3_40 rfl (show decode cX3_readOne 71 = .ok (.getfield 40, 3) by decide +kernel) okl_271 ?_
          refine j_bipush (n := 45) (by decide +kernel) (show decode cX3_readOne 74 = .ok (.bipush 45, 2) by decide +kernel) ?_
          have hr4 := h.1
          have h := h.2
          refine j_icmp_eq (tgt := 103) hr4 (inl (by decide)) (show decode cX3_readOne 76 = .ok (.if_icmp .eq 27, 3) by decide +kernel) (by decide) (fun c => ?_) (fun c => ?_)
          · have h := h.1 c
            exact h
          · have h := h.2 c
            refine s_aload_n (i := 0) rfl (show decode cX3_readOne 79 = .ok (.aload_n 0, 1) by decide +kernel) ?_
            refine gf_X3_40 rfl (show decode cX3_readOne 80 = .ok (.getfield 40, 3) by decide +kernel) okl_271 ?_
            refine j_bipush (n := 113) (by decide +kernel) (show decode cX3_readOne 83 = .ok (.bipush 113, 2) by decide +kernel) ?_
            have hr5 := h.1
            have h := h.2
            refine j_icmp_eq (tgt := 103) hr5 (inl (by decide)) (show decode cX3_readOne 85 = .ok (.if_icmp .eq 18, 3) by decide +kernel) (by decide) (fun c => ?_) (fun c => ?_)
            · have h := h.1 c
              exact h
            · have h := h.2 c
              refine s_aload_n (i := 0) rfl (show decode cX3_readOne 88 = .ok (.aload_n 0, 1) by decide +kernel) ?_
              refine gf_X3_40 rfl (show decode cX3_readOne 89 = .ok (.getfield 40, 3) by decide +kernel) okl_271 ?_
              refine j_bipush (n := 114) (by decide +kernel) (show decode cX3_readOne 92 = .ok (.bipush 114, 2) by decide +kernel) ?_
              have hr6 := h.1
              have h := h.2
              refine j_icmp_eq (tgt := 103) hr6 (inl (by decide)) (show decode cX3_readOne 94 = .ok (.if_icmp .eq 9, 3) by decide +kernel) (by decide) (fun c => ?_) (fun c => ?_)
              · have h := h.1 c
                exact h
              · have h := h.2 c
                refine s_aload_n (i := 0) rfl (show decode cX3_readOne 97 = .ok (.aload_n 0, 1) by decide +kernel) ?_
                refine j_iconst (show decode cX3_readOne 98 = .ok (.iconst 1, 1) by decide +kernel) ?_
                refine j_ctV (m' := mX3_failed) (As := [iv 1]) (ci := 3) (tag := 0) (N := 0) (cw_X3_50 rfl) (show decode cX3_readOne 99 = .ok (.invokevirtual 50, 3) by decide +kernel) rfl (Nat.le_of_ble_eq_true rfl) (by decide) okl_271 rfl rfl (Nat.le_refl _) h (fun r8 σ8 h => ?_)
                have hz8 := h.1
                have h := h.2
                exact j_ret (rokZ (show decode cX3_readOne 102 = .ok (.ireturn, 1) by decide +kernel) rfl hz8) ⟨rfl, rfl, h⟩
    · have h := h.2 c
      refine s_aload_n (i := 0) rfl (show decode cX3_readOne 38 = .ok (.aload_n 0, 1) by decide +kernel) ?_
      refine gf_X3_40 rfl (show decode cX3_readOne 39 = .ok (.getfield 40, 3) by decide +kernel) okl_271 ?_
      refine j_bipush (n := 112) (by decide +kernel) (show decode cX3_readOne 42 = .ok (.bipush 112, 2) by decide +kernel) ?_
      have hr9 := h.1
      have h := h.2
      refine j_icmp_gt (tgt := 52) hr9 (inl (by decide)) (show decode cX3_readOne 44 = .ok (.if_icmp .gt 8, 3) by decide +kernel) (by decide) (fun c => ?_) (fun c => ?_)
      · have h := h.1 c
        refine s_aload_n (i := 0) rfl (show decode cX3_readOne 52 = .ok (.aload_n 0, 1) by decide +kernel) ?_
        refine gf_X3_40 rfl (show decode cX3_readOne 53 = .ok (.getfield 40, 3) by decide +kernel) okl_271 ?_
        refine j_bipush (n := 40) (by decide +kernel) (show decode cX3_readOne 56 = .ok (.bipush 40, 2) by decide +kernel) ?_
        have hr10 := h.1
        have h := h.2
        refine j_icmp_eq (tgt := 103) hr10 (inl (by decide)) (show decode cX3_readOne 58 = .ok (.if_icmp .eq 45, 3) by decide +kernel) (by decide) (fun c => ?_) (fun c => ?_)
        · have h := h.1 c
          exact h
        · have h := h.2 c
          refine s_aload_n (i := 0) rfl (show decode cX3_readOne 61 = .ok (.aload_n 0, 1) by decide +kernel) ?_
          refine gf_X3_40 rfl (show decode cX3_readOne 62 = .ok (.getfield 40, 3) by decide +kernel) okl_271 ?_
          refine j_bipush (n := 115) (by decide +kernel) (show decode cX3_readOne 65 = .ok (.bipush 115, 2) by decide +kernel) ?_
          have hr11 := h.1
          have h := h.2
          refine j_icmp_eq (tgt := 103) hr11 (inl (by decide)) (show decode cX3_readOne 67 = .ok (.if_icmp .eq 36, 3) by decide +kernel) (by decide) (fun c => ?_) (fun c => ?_)
          · have h := h.1 c
            exact h
          · have h := h.2 c
            refine s_aload_n (i := 0) rfl (show decode cX3_readOne 70 = .ok (.aload_n 0, 1) by decide +kernel) ?_
            refine gf_X3_40 rfl (show decode cX3_readOne 71 = .ok (.getfield 40, 3) by decide +kernel) okl_271 ?_
            refine j_bipush (n := 45) (by decide +kernel) (show decode cX3_readOne 74 = .ok (.bipush 45, 2) by decide +kernel) ?_
            have hr12 := h.1
            have h := h.2
            refine j_icmp_eq (tgt := 103) hr12 (inl (by decide)) (show decode cX3_readOne 76 = .ok (.if_icmp .eq 27, 3) by decide +kernel) (by decide) (fun c => ?_) (fun c => ?_)
            · have h := h.1 c
              exact h
            · have h := h.2 c
              refine s_aload_n (i := 0) rfl (show decode cX3_readOne 79 = .ok (.aload_n 0, 1) by decide +kernel) ?_
              refine gf_X3_40 rfl (show decode cX3_readOne 80 = .ok (.getfield 40, 3) by decide +kernel) okl_271 ?_
              refine j_bipush (n := 113) (by decide +kernel) (show decode cX3_readOne 83 = .ok (.bipush 113, 2) by decide +kernel) ?_
              have hr13 := h.1
              have h := h.2
              refine j_icmp_eq (tgt := 103) hr13 (inl (by decide)) (show decode cX3_readOne 85 = .ok (.if_icmp .eq 18, 3) by decide +kernel) (by decide) (fun c => ?_) (fun c => ?_)
              · have h := h.1 c
                exact h
              · have h := h.2 c
                refine s_aload_n (i := 0) rfl (show decode cX3_readOne 88 = .ok (.aload_n 0, 1) by decide +kernel) ?_
                refine gf_X3_40 rfl (show decode cX3_readOne 89 = .ok (.getfield 40, 3) by decide +kernel) okl_271 ?_
                refine j_bipush (n := 114) (by decide +kernel) (show decode cX3_readOne 92 = .ok (.bipush 114, 2) by decide +kernel) ?_
                have hr14 := h.1
                have h := h.2
                refine j_icmp_eq (tgt := 103) hr14 (inl (by decide)) (show decode cX3_readOne 94 = .ok (.if_icmp .eq 9, 3) by decide +kernel) (by decide) (fun c => ?_) (fun c => ?_)
                · have h := h.1 c
                  exact h
                · have h := h.2 c
                  refine s_aload_n (i := 0) rfl (show decode cX3_readOne 97 = .ok (.aload_n 0, 1) by decide +kernel) ?_
                  refine j_iconst (show decode cX3_readOne 98 = .ok (.iconst 1, 1) by decide +kernel) ?_
                  refine j_ctV (m' := mX3_failed) (As := [iv 1]) (ci := 3) (tag := 0) (N := 0) (cw_X3_50 rfl) (show decode cX3_readOne 99 = .ok (.invokevirtual 50, 3) by decide +kernel) rfl (Nat.le_of_ble_eq_true rfl) (by decide) okl_271 rfl rfl (Nat.le_refl _) h (fun r16 σ16 h => ?_)
                  have hz16 := h.1
                  have h := h.2
                  exact j_ret (rokZ (show decode cX3_readOne 102 = .ok (.ireturn, 1) by decide +kernel) rfl hz16) ⟨rfl, rfl, h⟩
      · have h := h.2 c
        refine s_aload_n (i := 0) rfl (show decode cX3_readOne 47 = .ok (.aload_n 0, 1) by decide +kernel) ?_
        refine j_ctV (m' := mX3_readName) (As := []) (ci := 3) (tag := 0) (N := 0) (cw_X3_107 rfl) (show decode cX3_readOne 48 = .ok (.invokevirtual 107, 3) by decide +kernel) rfl (Nat.le_of_ble_eq_true rfl) (by decide) okl_271 rfl rfl (Nat.le_refl _) h (fun r18 σ18 h => ?_)
        have hz18 := h.1
        have h := h.2
        exact j_ret (rokZ (show decode cX3_readOne 51 = .ok (.ireturn, 1) by decide +kernel) rfl hz18) ⟨rfl, rfl, h⟩
  · have h := h.2 c
    refine s_aload_n (i := 0) rfl (show decode cX3_readOne 8 = .ok (.aload_n 0, 1) by decide +kernel) ?_
    refine gf_X3_25 (x := t) rfl (show decode cX3_readOne 9 = .ok (.getfield 25, 3) by decide +kernel) okl_271 rfl ?_
    refine j_iconst (show decode cX3_readOne 12 = .ok (.iconst 0, 1) by decide +kernel) ?_
    refine s_aload_n (i := 0) rfl (show decode cX3_readOne 13 = .ok (.aload_n 0, 1) by decide +kernel) ?_
    refine gf_X3_88 rfl (show decode cX3_readOne 14 = .ok (.getfield 88, 3) by decide +kernel) okl_271 ?_
    have hb20 := h.1
    have h := h.2
    refine j_ctVv (m' := mX8_addCode) (As := [iv 0, iv (σ 271 9)]) (ci := 8) (N := 0) (cw_X3_100 rfl) (show decode cX3_readOne 17 = .ok (.invokevirtual 100, 3) by decide +kernel) rfl (Nat.le_of_ble_eq_true rfl) hb20 rfl rfl (Nat.le_refl _) h (fun r20 σ20 h => ?_)
    refine s_aload_n (i := 0) rfl (show decode cX3_readOne 20 = .ok (.aload_n 0, 1) by decide +kernel) ?_
    refine j_iconst (show decode cX3_readOne 21 = .ok (.iconst 0, 1) by decide +kernel) ?_
    refine j_sipush (n := 9999) (by decide +kernel) (show decode cX3_readOne 22 = .ok (.sipush 9999, 3) by decide +kernel) ?_
    refine j_ctV (m' := mX3_takeNumber) (As := [iv 0, iv 9999]) (ci := 3) (tag := 0) (N := 0) (cw_X3_91 rfl) (show decode cX3_readOne 25 = .ok (.invokevirtual 91, 3) by decide +kernel) rfl (Nat.le_of_ble_eq_true rfl) (by decide) okl_271 rfl rfl (Nat.le_refl _) h (fun r22 σ22 h => ?_)
    have hz22 := h.1
    have h := h.2
    exact j_ret (rokZ (show decode cX3_readOne 28 = .ok (.ireturn, 1) by decide +kernel) rfl hz22) ⟨rfl, rfl, h⟩
theorem c_X3_readOne {d : Nat} {t : Int} {Q : Int → jM → Prop} {σ : jM} {p1 : Int} (h : (inR (σ 271 6)) ∧ ((¬ (σ 271 6) = 1 → ((inR (σ 271 6)) ∧ (((σ 271 6) < 106 → ((inR (σ 271 6)) ∧ (((σ 271 6) = 40 → (Jt mX3_readOne (d + 1) 0 t Q 103 [rv 271, iv p1, uv] [] σ)) ∧ (¬ (σ 271 6) = 40 → ((inR (σ 271 6)) ∧ (((σ 271 6) = 115 → (Jt mX3_readOne (d + 1) 0 t Q 103 [rv 271, iv p1, uv] [] σ)) ∧ (¬ (σ 271 6) = 115 → ((inR (σ 271 6)) ∧ (((σ 271 6) = 45 → (Jt mX3_readOne (d + 1) 0 t Q 103 [rv 271, iv p1, uv] [] σ)) ∧ (¬ (σ 271 6) = 45 → ((inR (σ 271 6)) ∧ (((σ 271 6) = 113 → (Jt mX3_readOne (d + 1) 0 t Q 103 [rv 271, iv p1, uv] [] σ)) ∧ (¬ (σ 271 6) = 113 → ((inR (σ 271 6)) ∧ (((σ 271 6) = 114 → (Jt mX3_readOne (d + 1) 0 t Q 103 [rv 271, iv p1, uv] [] σ)) ∧ (¬ (σ 271 6) = 114 → (Ct mX3_failed d 0 t [rv 271, iv 1] σ (fun r8 σ8 => ((r8 = 0 ∨ r8 = 1) ∧ (Q r8 σ8)))))))))))))))))))) ∧ (106 ≤ (σ 271 6) → ((inR (σ 271 6)) ∧ ((112 < (σ 271 6) → ((inR (σ 271 6)) ∧ (((σ 271 6) = 40 → (Jt mX3_readOne (d + 1) 0 t Q 103 [rv 271, iv p1, uv] [] σ)) ∧ (¬ (σ 271 6) = 40 → ((inR (σ 271 6)) ∧ (((σ 271 6) = 115 → (Jt mX3_readOne (d + 1) 0 t Q 103 [rv 271, iv p1, uv] [] σ)) ∧ (¬ (σ 271 6) = 115 → ((inR (σ 271 6)) ∧ (((σ 271 6) = 45 → (Jt mX3_readOne (d + 1) 0 t Q 103 [rv 271, iv p1, uv] [] σ)) ∧ (¬ (σ 271 6) = 45 → ((inR (σ 271 6)) ∧ (((σ 271 6) = 113 → (Jt mX3_readOne (d + 1) 0 t Q 103 [rv 271, iv p1, uv] [] σ)) ∧ (¬ (σ 271 6) = 113 → ((inR (σ 271 6)) ∧ (((σ 271 6) = 114 → (Jt mX3_readOne (d + 1) 0 t Q 103 [rv 271, iv p1, uv] [] σ)) ∧ (¬ (σ 271 6) = 114 → (Ct mX3_failed d 0 t [rv 271, iv 1] σ (fun r16 σ16 => ((r16 = 0 ∨ r16 = 1) ∧ (Q r16 σ16)))))))))))))))))))) ∧ ((σ 271 6) ≤ 112 → (Ct mX3_readName d 0 t [rv 271] σ (fun r18 σ18 => ((r18 = 0 ∨ r18 = 1) ∧ (Q r18 σ18))))))))))) ∧ ((σ 271 6) = 1 → ((ob (GG t) t 8) ∧ (Ct mX8_addCode d 9 t [rv t, iv 0, iv (σ 271 9)] σ (fun r20 σ20 => (Ct mX3_takeNumber d 0 t [rv 271, iv 0, iv 9999] σ20 (fun r22 σ22 => ((r22 = 0 ∨ r22 = 1) ∧ (Q r22 σ22)))))))))) : Ct mX3_readOne (d + 1) 0 t [rv 271, iv p1] σ Q := Ct_of (by decide +kernel) (Nat.le_of_ble_eq_true rfl) (b_X3_readOne_0 h)
set_option maxRecDepth 4000 in
theorem b_X3_readName_0 {d : Nat} {t : Int} {Q : Int → jM → Prop} {σ : jM} (h : (inR (σ 271 5)) ∧ ((¬ (σ 271 5) = 0 → ((inR (σ 271 6)) ∧ ((¬ (σ 271 6) = 111 → ((ob (GG t) t 8) ∧ (Ct mX8_addCode d 9 t [rv t, iv (((σ 271 6) - 106) + 1), iv 0] σ (fun r3 σ3 => (Ct mX3_advance d 9 t [rv 271] σ3 (fun r5 σ5 => (Q 1 σ5))))))) ∧ ((σ 271 6) = 111 → (Ct mX3_failed d 0 t [rv 271, iv 5] σ (fun r6 σ6 => ((r6 = 0 ∨ r6 = 1) ∧ (Q r6 σ6)))))))) ∧ ((σ 271 5) = 0 → ((inR (σ 271 6)) ∧ ((¬ (σ 271 6) = 112 → ((ob (GG t) t 8) ∧ (Ct mX8_addCode d 9 t [rv t, iv (((σ 271 6) - 106) + 1), iv 0] σ (fun r9 σ9 => (Ct mX3_advance d 9 t [rv 271] σ9 (fun r11 σ11 => (Q 1 σ11))))))) ∧ ((σ 271 6) = 112 → (Ct mX3_failed d 0 t [rv 271, iv 5] σ (fun r12 σ12 => ((r12 = 0 ∨ r12 = 1) ∧ (Q r12 σ12)))))))))) : Jt mX3_readName (d + 1) 0 t Q 0 [rv 271] [] σ := by
  refine s_aload_n (i := 0) rfl (show decode cX3_readName 0 = .ok (.aload_n 0, 1) by decide +kernel) ?_
  refine gf_X3_40 rfl (show decode cX3_readName 1 = .ok (.getfield 40, 3) by decide +kernel) okl_271 ?_
  refine s_aload_n (i := 0) rfl (show decode cX3_readName 4 = .ok (.aload_n 0, 1) by decide +kernel) ?_
  refine gf_X3_60 rfl (show decode cX3_readName 5 = .ok (.getfield 60, 3) by decide +kernel) okl_271 ?_
  have hr0 := h.1
  have h := h.2
  refine j_if_ne (tgt := 16) hr0 (show decode cX3_readName 8 = .ok (.ifCond .ne 8, 3) by decide +kernel) (by decide) (fun c => ?_) (fun c => ?_)
  · have h := h.1 c
    refine j_bipush (n := 111) (by decide +kernel) (show decode cX3_readName 16 = .ok (.bipush 111, 2) by decide +kernel) ?_
    have hr1 := h.1
    have h := h.2
    refine j_icmp_ne (tgt := 27) hr1 (inl (by decide)) (show decode cX3_readName 18 = .ok (.if_icmp .ne 9, 3) by decide +kernel) (by decide) (fun c => ?_) (fun c => ?_)
    · have h := h.1 c
      refine s_aload_n (i := 0) rfl (show decode cX3_readName 27 = .ok (.aload_n 0, 1) by decide +kernel) ?_
      refine gf_X3_25 (x := t) rfl (show decode cX3_readName 28 = .ok (.getfield 25, 3) by decide +kernel) okl_271 rfl ?_
      refine s_aload_n (i := 0) rfl (show decode cX3_readName 31 = .ok (.aload_n 0, 1) by decide +kernel) ?_
      refine gf_X3_40 rfl (show decode cX3_readName 32 = .ok (.getfield 40, 3) by decide +kernel) okl_271 ?_
      refine j_bipush (n := 106) (by decide +kernel) (show decode cX3_readName 35 = .ok (.bipush 106, 2) by decide +kernel) ?_
      refine j_isub (show decode cX3_readName 37 = .ok (.isub, 1) by decide +kernel) ?_
      refine j_iconst (show decode cX3_readName 38 = .ok (.iconst 1, 1) by decide +kernel) ?_
      refine j_iadd (show decode cX3_readName 39 = .ok (.iadd, 1) by decide +kernel) ?_
      refine j_iconst (show decode cX3_readName 40 = .ok (.iconst 0, 1) by decide +kernel) ?_
      have hb3 := h.1
      have h := h.2
      refine j_ctVv (m' := mX8_addCode) (As := [iv (((σ 271 6) - 106) + 1), iv 0]) (ci := 8) (N := 0) (cw_X3_100 rfl) (show decode cX3_readName 41 = .ok (.invokevirtual 100, 3) by decide +kernel) rfl (Nat.le_of_ble_eq_true rfl) hb3 rfl rfl (Nat.le_refl _) h (fun r3 σ3 h => ?_)
      refine s_aload_n (i := 0) rfl (show decode cX3_readName 44 = .ok (.aload_n 0, 1) by decide +kernel) ?_
      refine j_ctVv (m' := mX3_advance) (As := []) (ci := 3) (N := 0) (cw_X3_37 rfl) (show decode cX3_readName 45 = .ok (.invokevirtual 37, 3) by decide +kernel) rfl (Nat.le_of_ble_eq_true rfl) okl_271 rfl rfl (Nat.le_refl _) h (fun r5 σ5 h => ?_)
      refine j_iconst (show decode cX3_readName 48 = .ok (.iconst 1, 1) by decide +kernel) ?_
      exact j_ret (rokZ (show decode cX3_readName 49 = .ok (.ireturn, 1) by decide +kernel) rfl (Or.inr rfl)) ⟨rfl, rfl, h⟩
    · have h := h.2 c
      refine s_aload_n (i := 0) rfl (show decode cX3_readName 21 = .ok (.aload_n 0, 1) by decide +kernel) ?_
      refine j_iconst (show decode cX3_readName 22 = .ok (.iconst 5, 1) by decide +kernel) ?_
      refine j_ctV (m' := mX3_failed) (As := [iv 5]) (ci := 3) (tag := 0) (N := 0) (cw_X3_50 rfl) (show decode cX3_readName 23 = .ok (.invokevirtual 50, 3) by decide +kernel) rfl (Nat.le_of_ble_eq_true rfl) (by decide) okl_271 rfl rfl (Nat.le_refl _) h (fun r6 σ6 h => ?_)
      have hz6 := h.1
      have h := h.2
      exact j_ret (rokZ (show decode cX3_readName 26 = .ok (.ireturn, 1) by decide +kernel) rfl hz6) ⟨rfl, rfl, h⟩
  · have h := h.2 c
    refine j_bipush (n := 112) (by decide +kernel) (show decode cX3_readName 11 = .ok (.bipush 112, 2) by decide +kernel) ?_
    refine j_goto (tgt := 18) (show decode cX3_readName 13 = .ok (.goto 5, 3) by decide +kernel) (by decide) ?_
    have hr7 := h.1
    have h := h.2
    refine j_icmp_ne (tgt := 27) hr7 (inl (by decide)) (show decode cX3_readName 18 = .ok (.if_icmp .ne 9, 3) by decide +kernel) (by decide) (fun c => ?_) (fun c => ?_)
    · have h := h.1 c
      refine s_aload_n (i := 0) rfl (show decode cX3_readName 27 = .ok (.aload_n 0, 1) by decide +kernel) ?_
      refine gf_X3_25 (x := t) rfl (show decode cX3_readName 28 = .ok (.getfield 25, 3) by decide +kernel) okl_271 rfl ?_
      refine s_aload_n (i := 0) rfl (show decode cX3_readName 31 = .ok (.aload_n 0, 1) by decide +kernel) ?_
      refine gf_X3_40 rfl (show decode cX3_readName 32 = .ok (.getfield 40, 3) by decide +kernel) okl_271 ?_
      refine j_bipush (n := 106) (by decide +kernel) (show decode cX3_readName 35 = .ok (.bipush 106, 2) by decide +kernel) ?_
      refine j_isub (show decode cX3_readName 37 = .ok (.isub, 1) by decide +kernel) ?_
      refine j_iconst (show decode cX3_readName 38 = .ok (.iconst 1, 1) by decide +kernel) ?_
      refine j_iadd (show decode cX3_readName 39 = .ok (.iadd, 1) by decide +kernel) ?_
      refine j_iconst (show decode cX3_readName 40 = .ok (.iconst 0, 1) by decide +kernel) ?_
      have hb9 := h.1
      have h := h.2
      refine j_ctVv (m' := mX8_addCode) (As := [iv (((σ 271 6) - 106) + 1), iv 0]) (ci := 8) (N := 0) (cw_X3_100 rfl) (show decode cX3_readName 41 = .ok (.invokevirtual 100, 3) by decide +kernel) rfl (Nat.le_of_ble_eq_true rfl) hb9 rfl rfl (Nat.le_refl _) h (fun r9 σ9 h => ?_)
      refine s_aload_n (i := 0) rfl (show decode cX3_readName 44 = .ok (.aload_n 0, 1) by decide +kernel) ?_
      refine j_ctVv (m' := mX3_advance) (As := []) (ci := 3) (N := 0) (cw_X3_37 rfl) (show decode cX3_readName 45 = .ok (.invokevirtual 37, 3) by decide +kernel) rfl (Nat.le_of_ble_eq_true rfl) okl_271 rfl rfl (Nat.le_refl _) h (fun r11 σ11 h => ?_)
      refine j_iconst (show decode cX3_readName 48 = .ok (.iconst 1, 1) by decide +kernel) ?_
      exact j_ret (rokZ (show decode cX3_readName 49 = .ok (.ireturn, 1) by decide +kernel) rfl (Or.inr rfl)) ⟨rfl, rfl, h⟩
    · have h := h.2 c
      refine s_aload_n (i := 0) rfl (show decode cX3_readName 21 = .ok (.aload_n 0, 1) by decide +kernel) ?_
      refine j_iconst (show decode cX3_readName 22 = .ok (.iconst 5, 1) by decide +kernel) ?_
      refine j_ctV (m' := mX3_failed) (As := [iv 5]) (ci := 3) (tag := 0) (N := 0) (cw_X3_50 rfl) (show decode cX3_readName 23 = .ok (.invokevirtual 50, 3) by decide +kernel) rfl (Nat.le_of_ble_eq_true rfl) (by decide) okl_271 rfl rfl (Nat.le_refl _) h (fun r12 σ12 h => ?_)
      have hz12 := h.1
      have h := h.2
      exact j_ret (rokZ (show decode cX3_readName 26 = .ok (.ireturn, 1) by decide +kernel) rfl hz12) ⟨rfl, rfl, h⟩
theorem c_X3_readName {d : Nat} {t : Int} {Q : Int → jM → Prop} {σ : jM} (h : (inR (σ 271 5)) ∧ ((¬ (σ 271 5) = 0 → ((inR (σ 271 6)) ∧ ((¬ (σ 271 6) = 111 → ((ob (GG t) t 8) ∧ (Ct mX8_addCode d 9 t [rv t, iv (((σ 271 6) - 106) + 1), iv 0] σ (fun r3 σ3 => (Ct mX3_advance d 9 t [rv 271] σ3 (fun r5 σ5 => (Q 1 σ5))))))) ∧ ((σ 271 6) = 111 → (Ct mX3_failed d 0 t [rv 271, iv 5] σ (fun r6 σ6 => ((r6 = 0 ∨ r6 = 1) ∧ (Q r6 σ6)))))))) ∧ ((σ 271 5) = 0 → ((inR (σ 271 6)) ∧ ((¬ (σ 271 6) = 112 → ((ob (GG t) t 8) ∧ (Ct mX8_addCode d 9 t [rv t, iv (((σ 271 6) - 106) + 1), iv 0] σ (fun r9 σ9 => (Ct mX3_advance d 9 t [rv 271] σ9 (fun r11 σ11 => (Q 1 σ11))))))) ∧ ((σ 271 6) = 112 → (Ct mX3_failed d 0 t [rv 271, iv 5] σ (fun r12 σ12 => ((r12 = 0 ∨ r12 = 1) ∧ (Q r12 σ12)))))))))) : Ct mX3_readName (d + 1) 0 t [rv 271] σ Q := Ct_of (by decide +kernel) (Nat.le_of_ble_eq_true rfl) (b_X3_readName_0 h)
set_option maxRecDepth 4000 in
theorem b_X3_readChoice_0 {d : Nat} {t : Int} {Q : Int → jM → Prop} {σ : jM} {p1 : Int} (h : Ct mX3_readEither d 0 t [rv 271, iv p1] σ (fun r1 σ1 => ((inR r1) ∧ ((r1 = 0 → (Q 0 σ1)) ∧ (¬ r1 = 0 → (Ct mX3_take d 0 t [rv 271, iv 116] σ1 (fun r3 σ3 => ((inR r3) ∧ ((¬ r3 = 0 → ((ob (GG t) t 8) ∧ ((ob (GG t) t 8) ∧ (Ct mX8_addCode d 9 t [rv t, iv 9, iv 0] σ3 (fun r6 σ6 => (Ct mX3_readSum d 0 t [rv 271, iv p1] σ6 (fun r8 σ8 => ((inR r8) ∧ ((r8 = 0 → (Q 0 σ8)) ∧ (¬ r8 = 0 → (Ct mX3_take d 0 t [rv 271, iv 117] σ8 (fun r10 σ10 => ((inR r10) ∧ ((¬ r10 = 0 → ((ob (GG t) t 8) ∧ ((ob (GG t) t 8) ∧ (Ct mX8_addCode d 9 t [rv t, iv 8, iv 0] σ10 (fun r13 σ13 => ((ob (GG t) t 8) ∧ (Ct mX8_landHere d 9 t [rv t, iv (σ3 t 7)] σ13 (fun r15 σ15 => (Ct mX3_readSum d 0 t [rv 271, iv p1] σ15 (fun r17 σ17 => ((inR r17) ∧ ((r17 = 0 → (Q 0 σ17)) ∧ (¬ r17 = 0 → (Ct mX3_take d 0 t [rv 271, iv 118] σ17 (fun r19 σ19 => ((inR r19) ∧ ((¬ r19 = 0 → ((ob (GG t) t 8) ∧ (Ct mX8_landHere d 9 t [rv t, iv (σ10 t 7)] σ19 (fun r21 σ21 => (Q 1 σ21))))) ∧ (r19 = 0 → (Q 0 σ19))))))))))))))))))) ∧ (r10 = 0 → (Q 0 σ10)))))))))))))))) ∧ (r3 = 0 → (Q 0 σ3))))))))))) : Jt mX3_readChoice (d + 1) 0 t Q 0 [rv 271, iv p1, uv, uv] [] σ := by
  refine s_aload_n (i := 0) rfl (show decode cX3_readChoice 0 = .ok (.aload_n 0, 1) by decide +kernel) ?_
  refine j_iload_n (i := 1) rfl (show decode cX3_readChoice 1 = .ok (.iload_n 1, 1) by decide +kernel) ?_
  refine j_ctV (m' := mX3_readEither) (As := [iv p1]) (ci := 3) (tag := 0) (N := 0) (cw_X3_113 rfl) (show decode cX3_readChoice 2 = .ok (.invokevirtual 113, 3) by decide +kernel) rfl (Nat.le_of_ble_eq_true rfl) (by decide) okl_271 rfl rfl (Nat.le_refl _) h (fun r1 σ1 h => ?_)
  have hr1 := h.1
  have h := h.2
  refine j_if_eq (tgt := 17) hr1 (show decode cX3_readChoice 5 = .ok (.ifCond .eq 12, 3) by decide +kernel) (by decide) (fun c => ?_) (fun c => ?_)
  · have h := h.1 c
    refine j_iconst (show decode cX3_readChoice 17 = .ok (.iconst 0, 1) by decide +kernel) ?_
    exact j_ret (rokZ (show decode cX3_readChoice 18 = .ok (.ireturn, 1) by decide +kernel) rfl (Or.inl rfl)) ⟨rfl, rfl, h⟩
  · have h := h.2 c
    refine s_aload_n (i := 0) rfl (show decode cX3_readChoice 8 = .ok (.aload_n 0, 1) by decide +kernel) ?_
    refine j_bipush (n := 116) (by decide +kernel) (show decode cX3_readChoice 9 = .ok (.bipush 116, 2) by decide +kernel) ?_
    refine j_ctV (m' := mX3_take) (As := [iv 116]) (ci := 3) (tag := 0) (N := 0) (cw_X3_69 rfl) (show decode cX3_readChoice 11 = .ok (.invokevirtual 69, 3) by decide +kernel) rfl (Nat.le_of_ble_eq_true rfl) (by decide) okl_271 rfl rfl (Nat.le_refl _) h (fun r3 σ3 h => ?_)
    have hr3 := h.1
    have h := h.2
    refine j_if_ne (tgt := 19) hr3 (show decode cX3_readChoice 14 = .ok (.ifCond .ne 5, 3) by decide +kernel) (by decide) (fun c => ?_) (fun c => ?_)
    · have h := h.1 c
      refine s_aload_n (i := 0) rfl (show decode cX3_readChoice 19 = .ok (.aload_n 0, 1) by decide +kernel) ?_
      refine gf_X3_25 (x := t) rfl (show decode cX3_readChoice 20 = .ok (.getfield 25, 3) by decide +kernel) okl_271 rfl ?_
      have hb4 := h.1
      have h := h.2
      refine gf_X3_63 rfl (show decode cX3_readChoice 23 = .ok (.getfield 63, 3) by decide +kernel) hb4 ?_
      refine s_ist_n (i := 2) (L' := [rv 271, iv p1, iv (σ3 t 7), uv]) rfl (by decide) (show decode cX3_readChoice 26 = .ok (.istore_n 2, 1) by decide +kernel) ?_
      refine s_aload_n (i := 0) rfl (show decode cX3_readChoice 27 = .ok (.aload_n 0, 1) by decide +kernel) ?_
      refine gf_X3_25 (x := t) rfl (show decode cX3_readChoice 28 = .ok (.getfield 25, 3) by decide +kernel) okl_271 rfl ?_
      refine j_bipush (n := 9) (by decide +kernel) (show decode cX3_readChoice 31 = .ok (.bipush 9, 2) by decide +kernel) ?_
      refine j_iconst (show decode cX3_readChoice 33 = .ok (.iconst 0, 1) by decide +kernel) ?_
      have hb6 := h.1
      have h := h.2
      refine j_ctVv (m' := mX8_addCode) (As := [iv 9, iv 0]) (ci := 8) (N := 0) (cw_X3_100 rfl) (show decode cX3_readChoice 34 = .ok (.invokevirtual 100, 3) by decide +kernel) rfl (Nat.le_of_ble_eq_true rfl) hb6 rfl rfl (Nat.le_refl _) h (fun r6 σ6 h => ?_)
      refine s_aload_n (i := 0) rfl (show decode cX3_readChoice 37 = .ok (.aload_n 0, 1) by decide +kernel) ?_
      refine j_iload_n (i := 1) rfl (show decode cX3_readChoice 38 = .ok (.iload_n 1, 1) by decide +kernel) ?_
      refine j_ctV (m' := mX3_readSum) (As := [iv p1]) (ci := 3) (tag := 0) (N := 0) (cw_X3_66 rfl) (show decode cX3_readChoice 39 = .ok (.invokevirtual 66, 3) by decide +kernel) rfl (Nat.le_of_ble_eq_true rfl) (by decide) okl_271 rfl rfl (Nat.le_refl _) h (fun r8 σ8 h => ?_)
      have hr8 := h.1
      have h := h.2
      refine j_if_eq (tgt := 54) hr8 (show decode cX3_readChoice 42 = .ok (.ifCond .eq 12, 3) by decide +kernel) (by decide) (fun c => ?_) (fun c => ?_)
      · have h := h.1 c
        refine j_iconst (show decode cX3_readChoice 54 = .ok (.iconst 0, 1) by decide +kernel) ?_
        exact j_ret (rokZ (show decode cX3_readChoice 55 = .ok (.ireturn, 1) by decide +kernel) rfl (Or.inl rfl)) ⟨rfl, rfl, h⟩
      · have h := h.2 c
        refine s_aload_n (i := 0) rfl (show decode cX3_readChoice 45 = .ok (.aload_n 0, 1) by decide +kernel) ?_
        refine j_bipush (n := 117) (by decide +kernel) (show decode cX3_readChoice 46 = .ok (.bipush 117, 2) by decide +kernel) ?_
        refine j_ctV (m' := mX3_take) (As := [iv 117]) (ci := 3) (tag := 0) (N := 0) (cw_X3_69 rfl) (show decode cX3_readChoice 48 = .ok (.invokevirtual 69, 3) by decide +kernel) rfl (Nat.le_of_ble_eq_true rfl) (by decide) okl_271 rfl rfl (Nat.le_refl _) h (fun r10 σ10 h => ?_)
        have hr10 := h.1
        have h := h.2
        refine j_if_ne (tgt := 56) hr10 (show decode cX3_readChoice 51 = .ok (.ifCond .ne 5, 3) by decide +kernel) (by decide) (fun c => ?_) (fun c => ?_)
        · have h := h.1 c
          refine s_aload_n (i := 0) rfl (show decode cX3_readChoice 56 = .ok (.aload_n 0, 1) by decide +kernel) ?_
          refine gf_X3_25 (x := t) rfl (show decode cX3_readChoice 57 = .ok (.getfield 25, 3) by decide +kernel) okl_271 rfl ?_
          have hb11 := h.1
          have h := h.2
          refine gf_X3_63 rfl (show decode cX3_readChoice 60 = .ok (.getfield 63, 3) by decide +kernel) hb11 ?_
          refine s_ist_n (i := 3) (L' := [rv 271, iv p1, iv (σ3 t 7), iv (σ10 t 7)]) rfl (by decide) (show decode cX3_readChoice 63 = .ok (.istore_n 3, 1) by decide +kernel) ?_
          refine s_aload_n (i := 0) rfl (show decode cX3_readChoice 64 = .ok (.aload_n 0, 1) by decide +kernel) ?_
          refine gf_X3_25 (x := t) rfl (show decode cX3_readChoice 65 = .ok (.getfield 25, 3) by decide +kernel) okl_271 rfl ?_
          refine j_bipush (n := 8) (by decide +kernel) (show decode cX3_readChoice 68 = .ok (.bipush 8, 2) by decide +kernel) ?_
          refine j_iconst (show decode cX3_readChoice 70 = .ok (.iconst 0, 1) by decide +kernel) ?_
          have hb13 := h.1
          have h := h.2
          refine j_ctVv (m' := mX8_addCode) (As := [iv 8, iv 0]) (ci := 8) (N := 0) (cw_X3_100 rfl) (show decode cX3_readChoice 71 = .ok (.invokevirtual 100, 3) by decide +kernel) rfl (Nat.le_of_ble_eq_true rfl) hb13 rfl rfl (Nat.le_refl _) h (fun r13 σ13 h => ?_)
          refine s_aload_n (i := 0) rfl (show decode cX3_readChoice 74 = .ok (.aload_n 0, 1) by decide +kernel) ?_
          refine gf_X3_25 (x := t) rfl (show decode cX3_readChoice 75 = .ok (.getfield 25, 3) by decide +kernel) okl_271 rfl ?_
          refine j_iload_n (i := 2) rfl (show decode cX3_readChoice 78 = .ok (.iload_n 2, 1) by decide +kernel) ?_
          have hb15 := h.1
          have h := h.2
          refine j_ctVv (m' := mX8_landHere) (As := [iv (σ3 t 7)]) (ci := 8) (N := 0) (cw_X3_116 rfl) (show decode cX3_readChoice 79 = .ok (.invokevirtual 116, 3) by decide +kernel) rfl (Nat.le_of_ble_eq_true rfl) hb15 rfl rfl (Nat.le_refl _) h (fun r15 σ15 h => ?_)
          refine s_aload_n (i := 0) rfl (show decode cX3_readChoice 82 = .ok (.aload_n 0, 1) by decide +kernel) ?_
          refine j_iload_n (i := 1) rfl (show decode cX3_readChoice 83 = .ok (.iload_n 1, 1) by decide +kernel) ?_
          refine j_ctV (m' := mX3_readSum) (As := [iv p1]) (ci := 3) (tag := 0) (N := 0) (cw_X3_66 rfl) (show decode cX3_readChoice 84 = .ok (.invokevirtual 66, 3) by decide +kernel) rfl (Nat.le_of_ble_eq_true rfl) (by decide) okl_271 rfl rfl (Nat.le_refl _) h (fun r17 σ17 h => ?_)
          have hr17 := h.1
          have h := h.2
          refine j_if_eq (tgt := 99) hr17 (show decode cX3_readChoice 87 = .ok (.ifCond .eq 12, 3) by decide +kernel) (by decide) (fun c => ?_) (fun c => ?_)
          · have h := h.1 c
            refine j_iconst (show decode cX3_readChoice 99 = .ok (.iconst 0, 1) by decide +kernel) ?_
            exact j_ret (rokZ (show decode cX3_readChoice 100 = .ok (.ireturn, 1) by decide +kernel) rfl (Or.inl rfl)) ⟨rfl, rfl, h⟩
          · have h := h.2 c
            refine s_aload_n (i := 0) rfl (show decode cX3_readChoice 90 = .ok (.aload_n 0, 1) by decide +kernel) ?_
            refine j_bipush (n := 118) (by decide +kernel) (show decode cX3_readChoice 91 = .ok (.bipush 118, 2) by decide +kernel) ?_
            refine j_ctV (m' := mX3_take) (As := [iv 118]) (ci := 3) (tag := 0) (N := 0) (cw_X3_69 rfl) (show decode cX3_readChoice 93 = .ok (.invokevirtual 69, 3) by decide +kernel) rfl (Nat.le_of_ble_eq_true rfl) (by decide) okl_271 rfl rfl (Nat.le_refl _) h (fun r19 σ19 h => ?_)
            have hr19 := h.1
            have h := h.2
            refine j_if_ne (tgt := 101) hr19 (show decode cX3_readChoice 96 = .ok (.ifCond .ne 5, 3) by decide +kernel) (by decide) (fun c => ?_) (fun c => ?_)
            · have h := h.1 c
              refine s_aload_n (i := 0) rfl (show decode cX3_readChoice 101 = .ok (.aload_n 0, 1) by decide +kernel) ?_
              refine gf_X3_25 (x := t) rfl (show decode cX3_readChoice 102 = .ok (.getfield 25, 3) by decide +kernel) okl_271 rfl ?_
              refine j_iload_n (i := 3) rfl (show decode cX3_readChoice 105 = .ok (.iload_n 3, 1) by decide +kernel) ?_
              have hb21 := h.1
              have h := h.2
              refine j_ctVv (m' := mX8_landHere) (As := [iv (σ10 t 7)]) (ci := 8) (N := 0) (cw_X3_116 rfl) (show decode cX3_readChoice 106 = .ok (.invokevirtual 116, 3) by decide +kernel) rfl (Nat.le_of_ble_eq_true rfl) hb21 rfl rfl (Nat.le_refl _) h (fun r21 σ21 h => ?_)
              refine j_iconst (show decode cX3_readChoice 109 = .ok (.iconst 1, 1) by decide +kernel) ?_
              exact j_ret (rokZ (show decode cX3_readChoice 110 = .ok (.ireturn, 1) by decide +kernel) rfl (Or.inr rfl)) ⟨rfl, rfl, h⟩
            · have h := h.2 c
              refine j_iconst (show decode cX3_readChoice 99 = .ok (.iconst 0, 1) by decide +kernel) ?_
              exact j_ret (rokZ (show decode cX3_readChoice 100 = .ok (.ireturn, 1) by decide +kernel) rfl (Or.inl rfl)) ⟨rfl, rfl, h⟩
        · have h := h.2 c
          refine j_iconst (show decode cX3_readChoice 54 = .ok (.iconst 0, 1) by decide +kernel) ?_
          exact j_ret (rokZ (show decode cX3_readChoice 55 = .ok (.ireturn, 1) by decide +kernel) rfl (Or.inl rfl)) ⟨rfl, rfl, h⟩
    · have h := h.2 c
      refine j_iconst (show decode cX3_readChoice 17 = .ok (.iconst 0, 1) by decide +kernel) ?_
      exact j_ret (rokZ (show decode cX3_readChoice 18 = .ok (.ireturn, 1) by decide +kernel) rfl (Or.inl rfl)) ⟨rfl, rfl, h⟩
theorem c_X3_readChoice {d : Nat} {t : Int} {Q : Int → jM → Prop} {σ : jM} {p1 : Int} (h : Ct mX3_readEither d 0 t [rv 271, iv p1] σ (fun r1 σ1 => ((inR r1) ∧ ((r1 = 0 → (Q 0 σ1)) ∧ (¬ r1 = 0 → (Ct mX3_take d 0 t [rv 271, iv 116] σ1 (fun r3 σ3 => ((inR r3) ∧ ((¬ r3 = 0 → ((ob (GG t) t 8) ∧ ((ob (GG t) t 8) ∧ (Ct mX8_addCode d 9 t [rv t, iv 9, iv 0] σ3 (fun r6 σ6 => (Ct mX3_readSum d 0 t [rv 271, iv p1] σ6 (fun r8 σ8 => ((inR r8) ∧ ((r8 = 0 → (Q 0 σ8)) ∧ (¬ r8 = 0 → (Ct mX3_take d 0 t [rv 271, iv 117] σ8 (fun r10 σ10 => ((inR r10) ∧ ((¬ r10 = 0 → ((ob (GG t) t 8) ∧ ((ob (GG t) t 8) ∧ (Ct mX8_addCode d 9 t [rv t, iv 8, iv 0] σ10 (fun r13 σ13 => ((ob (GG t) t 8) ∧ (Ct mX8_landHere d 9 t [rv t, iv (σ3 t 7)] σ13 (fun r15 σ15 => (Ct mX3_readSum d 0 t [rv 271, iv p1] σ15 (fun r17 σ17 => ((inR r17) ∧ ((r17 = 0 → (Q 0 σ17)) ∧ (¬ r17 = 0 → (Ct mX3_take d 0 t [rv 271, iv 118] σ17 (fun r19 σ19 => ((inR r19) ∧ ((¬ r19 = 0 → ((ob (GG t) t 8) ∧ (Ct mX8_landHere d 9 t [rv t, iv (σ10 t 7)] σ19 (fun r21 σ21 => (Q 1 σ21))))) ∧ (r19 = 0 → (Q 0 σ19))))))))))))))))))) ∧ (r10 = 0 → (Q 0 σ10)))))))))))))))) ∧ (r3 = 0 → (Q 0 σ3))))))))))) : Ct mX3_readChoice (d + 1) 0 t [rv 271, iv p1] σ Q := Ct_of (by decide +kernel) (Nat.le_of_ble_eq_true rfl) (b_X3_readChoice_0 h)
set_option maxRecDepth 4000 in
theorem b_X3_readEither_12 {d : Nat} {t : Int} {Q : Int → jM → Prop} {σ : jM} {p1 v2 : Int} (h : (inR v2) ∧ ((300 ≤ v2 → (Q 1 σ)) ∧ (v2 < 300 → ((inR (σ 271 6)) ∧ ((¬ (σ 271 6) = 120 → (Q 1 σ)) ∧ ((σ 271 6) = 120 → (Ct mX3_advance d 9 t [rv 271] σ (fun r3 σ3 => (Ct mX3_readBoth d 0 t [rv 271, iv p1] σ3 (fun r4 σ4 => ((inR r4) ∧ ((¬ r4 = 0 → ((ob (GG t) t 8) ∧ (Ct mX8_addCode d 9 t [rv t, iv 25, iv 0] σ4 (fun r6 σ6 => (Jt mX3_readEither (d + 1) 0 t Q 12 [rv 271, iv p1, iv (v2 + 1)] [] σ6))))) ∧ (r4 = 0 → (Q 0 σ4)))))))))))))) : Jt mX3_readEither (d + 1) 0 t Q 12 [rv 271, iv p1, iv v2] [] σ := by
  refine j_iload_n (i := 2) rfl (show decode cX3_readEither 12 = .ok (.iload_n 2, 1) by decide +kernel) ?_
  refine j_sipush (n := 300) (by decide +kernel) (show decode cX3_readEither 13 = .ok (.sipush 300, 3) by decide +kernel) ?_
  have hr0 := h.1
  have h := h.2
  refine j_icmp_ge (tgt := 58) hr0 (inl (by decide)) (show decode cX3_readEither 16 = .ok (.if_icmp .ge 42, 3) by decide +kernel) (by decide) (fun c => ?_) (fun c => ?_)
  · have h := h.1 c
    refine j_iconst (show decode cX3_readEither 58 = .ok (.iconst 1, 1) by decide +kernel) ?_
    exact j_ret (rokZ (show decode cX3_readEither 59 = .ok (.ireturn, 1) by decide +kernel) rfl (Or.inr rfl)) ⟨rfl, rfl, h⟩
  · have h := h.2 c
    refine s_aload_n (i := 0) rfl (show decode cX3_readEither 19 = .ok (.aload_n 0, 1) by decide +kernel) ?_
    refine gf_X3_40 rfl (show decode cX3_readEither 20 = .ok (.getfield 40, 3) by decide +kernel) okl_271 ?_
    refine j_bipush (n := 120) (by decide +kernel) (show decode cX3_readEither 23 = .ok (.bipush 120, 2) by decide +kernel) ?_
    have hr1 := h.1
    have h := h.2
    refine j_icmp_ne (tgt := 58) hr1 (inl (by decide)) (show decode cX3_readEither 25 = .ok (.if_icmp .ne 33, 3) by decide +kernel) (by decide) (fun c => ?_) (fun c => ?_)
    · have h := h.1 c
      refine j_iconst (show decode cX3_readEither 58 = .ok (.iconst 1, 1) by decide +kernel) ?_
      exact j_ret (rokZ (show decode cX3_readEither 59 = .ok (.ireturn, 1) by decide +kernel) rfl (Or.inr rfl)) ⟨rfl, rfl, h⟩
    · have h := h.2 c
      refine s_aload_n (i := 0) rfl (show decode cX3_readEither 28 = .ok (.aload_n 0, 1) by decide +kernel) ?_
      refine j_ctVv (m' := mX3_advance) (As := []) (ci := 3) (N := 0) (cw_X3_37 rfl) (show decode cX3_readEither 29 = .ok (.invokevirtual 37, 3) by decide +kernel) rfl (Nat.le_of_ble_eq_true rfl) okl_271 rfl rfl (Nat.le_refl _) h (fun r3 σ3 h => ?_)
      refine s_aload_n (i := 0) rfl (show decode cX3_readEither 32 = .ok (.aload_n 0, 1) by decide +kernel) ?_
      refine j_iload_n (i := 1) rfl (show decode cX3_readEither 33 = .ok (.iload_n 1, 1) by decide +kernel) ?_
      refine j_ctV (m' := mX3_readBoth) (As := [iv p1]) (ci := 3) (tag := 0) (N := 0) (cw_X3_120 rfl) (show decode cX3_readEither 34 = .ok (.invokevirtual 120, 3) by decide +kernel) rfl (Nat.le_of_ble_eq_true rfl) (by decide) okl_271 rfl rfl (Nat.le_refl _) h (fun r4 σ4 h => ?_)
      have hr4 := h.1
      have h := h.2
      refine j_if_ne (tgt := 42) hr4 (show decode cX3_readEither 37 = .ok (.ifCond .ne 5, 3) by decide +kernel) (by decide) (fun c => ?_) (fun c => ?_)
      · have h := h.1 c
        refine s_aload_n (i := 0) rfl (show decode cX3_readEither 42 = .ok (.aload_n 0, 1) by decide +kernel) ?_
        refine gf_X3_25 (x := t) rfl (show decode cX3_readEither 43 = .ok (.getfield 25, 3) by decide +kernel) okl_271 rfl ?_
        refine j_bipush (n := 25) (by decide +kernel) (show decode cX3_readEither 46 = .ok (.bipush 25, 2) by decide +kernel) ?_
        refine j_iconst (show decode cX3_readEither 48 = .ok (.iconst 0, 1) by decide +kernel) ?_
        have hb6 := h.1
        have h := h.2
        refine j_ctVv (m' := mX8_addCode) (As := [iv 25, iv 0]) (ci := 8) (N := 0) (cw_X3_100 rfl) (show decode cX3_readEither 49 = .ok (.invokevirtual 100, 3) by decide +kernel) rfl (Nat.le_of_ble_eq_true rfl) hb6 rfl rfl (Nat.le_refl _) h (fun r6 σ6 h => ?_)
        refine s_iinc (i := 2) rfl (L' := [rv 271, iv p1, iv (v2 + 1)]) rfl (show decode cX3_readEither 52 = .ok (.iinc 2 1, 3) by decide +kernel) ?_
        refine j_goto (tgt := 12) (show decode cX3_readEither 55 = .ok (.goto (-43), 3) by decide +kernel) (by decide) ?_
        exact h
      · have h := h.2 c
        refine j_iconst (show decode cX3_readEither 40 = .ok (.iconst 0, 1) by decide +kernel) ?_
        exact j_ret (rokZ (show decode cX3_readEither 41 = .ok (.ireturn, 1) by decide +kernel) rfl (Or.inl rfl)) ⟨rfl, rfl, h⟩
set_option maxRecDepth 4000 in
theorem b_X3_readEither_0 {d : Nat} {t : Int} {Q : Int → jM → Prop} {σ : jM} {p1 : Int} (h : Ct mX3_readBoth d 0 t [rv 271, iv p1] σ (fun r1 σ1 => ((inR r1) ∧ ((¬ r1 = 0 → (Jt mX3_readEither (d + 1) 0 t Q 12 [rv 271, iv p1, iv 0] [] σ1)) ∧ (r1 = 0 → (Q 0 σ1)))))) : Jt mX3_readEither (d + 1) 0 t Q 0 [rv 271, iv p1, uv] [] σ := by
  refine s_aload_n (i := 0) rfl (show decode cX3_readEither 0 = .ok (.aload_n 0, 1) by decide +kernel) ?_
  refine j_iload_n (i := 1) rfl (show decode cX3_readEither 1 = .ok (.iload_n 1, 1) by decide +kernel) ?_
  refine j_ctV (m' := mX3_readBoth) (As := [iv p1]) (ci := 3) (tag := 0) (N := 0) (cw_X3_120 rfl) (show decode cX3_readEither 2 = .ok (.invokevirtual 120, 3) by decide +kernel) rfl (Nat.le_of_ble_eq_true rfl) (by decide) okl_271 rfl rfl (Nat.le_refl _) h (fun r1 σ1 h => ?_)
  have hr1 := h.1
  have h := h.2
  refine j_if_ne (tgt := 10) hr1 (show decode cX3_readEither 5 = .ok (.ifCond .ne 5, 3) by decide +kernel) (by decide) (fun c => ?_) (fun c => ?_)
  · have h := h.1 c
    refine j_iconst (show decode cX3_readEither 10 = .ok (.iconst 0, 1) by decide +kernel) ?_
    refine s_ist_n (i := 2) (L' := [rv 271, iv p1, iv 0]) rfl (by decide) (show decode cX3_readEither 11 = .ok (.istore_n 2, 1) by decide +kernel) ?_
    exact h
  · have h := h.2 c
    refine j_iconst (show decode cX3_readEither 8 = .ok (.iconst 0, 1) by decide +kernel) ?_
    exact j_ret (rokZ (show decode cX3_readEither 9 = .ok (.ireturn, 1) by decide +kernel) rfl (Or.inl rfl)) ⟨rfl, rfl, h⟩
theorem c_X3_readEither {d : Nat} {t : Int} {Q : Int → jM → Prop} {σ : jM} {p1 : Int} (h : Ct mX3_readBoth d 0 t [rv 271, iv p1] σ (fun r1 σ1 => ((inR r1) ∧ ((¬ r1 = 0 → (Jt mX3_readEither (d + 1) 0 t Q 12 [rv 271, iv p1, iv 0] [] σ1)) ∧ (r1 = 0 → (Q 0 σ1)))))) : Ct mX3_readEither (d + 1) 0 t [rv 271, iv p1] σ Q := Ct_of (by decide +kernel) (Nat.le_of_ble_eq_true rfl) (b_X3_readEither_0 h)
set_option maxRecDepth 4000 in
theorem b_X3_readBoth_12 {d : Nat} {t : Int} {Q : Int → jM → Prop} {σ : jM} {p1 v2 : Int} (h : (inR v2) ∧ ((300 ≤ v2 → (Q 1 σ)) ∧ (v2 < 300 → ((inR (σ 271 6)) ∧ ((¬ (σ 271 6) = 119 → (Q 1 σ)) ∧ ((σ 271 6) = 119 → (Ct mX3_advance d 9 t [rv 271] σ (fun r3 σ3 => (Ct mX3_readAsk d 0 t [rv 271, iv p1] σ3 (fun r4 σ4 => ((inR r4) ∧ ((¬ r4 = 0 → ((ob (GG t) t 8) ∧ (Ct mX8_addCode d 9 t [rv t, iv 24, iv 0] σ4 (fun r6 σ6 => (Jt mX3_readBoth (d + 1) 0 t Q 12 [rv 271, iv p1, iv (v2 + 1)] [] σ6))))) ∧ (r4 = 0 → (Q 0 σ4)))))))))))))) : Jt mX3_readBoth (d + 1) 0 t Q 12 [rv 271, iv p1, iv v2] [] σ := by
  refine j_iload_n (i := 2) rfl (show decode cX3_readBoth 12 = .ok (.iload_n 2, 1) by decide +kernel) ?_
  refine j_sipush (n := 300) (by decide +kernel) (show decode cX3_readBoth 13 = .ok (.sipush 300, 3) by decide +kernel) ?_
  have hr0 := h.1
  have h := h.2
  refine j_icmp_ge (tgt := 58) hr0 (inl (by decide)) (show decode cX3_readBoth 16 = .ok (.if_icmp .ge 42, 3) by decide +kernel) (by decide) (fun c => ?_) (fun c => ?_)
  · have h := h.1 c
    refine j_iconst (show decode cX3_readBoth 58 = .ok (.iconst 1, 1) by decide +kernel) ?_
    exact j_ret (rokZ (show decode cX3_readBoth 59 = .ok (.ireturn, 1) by decide +kernel) rfl (Or.inr rfl)) ⟨rfl, rfl, h⟩
  · have h := h.2 c
    refine s_aload_n (i := 0) rfl (show decode cX3_readBoth 19 = .ok (.aload_n 0, 1) by decide +kernel) ?_
    refine gf_X3_40 rfl (show decode cX3_readBoth 20 = .ok (.getfield 40, 3) by decide +kernel) okl_271 ?_
    refine j_bipush (n := 119) (by decide +kernel) (show decode cX3_readBoth 23 = .ok (.bipush 119, 2) by decide +kernel) ?_
    have hr1 := h.1
    have h := h.2
    refine j_icmp_ne (tgt := 58) hr1 (inl (by decide)) (show decode cX3_readBoth 25 = .ok (.if_icmp .ne 33, 3) by decide +kernel) (by decide) (fun c => ?_) (fun c => ?_)
    · have h := h.1 c
      refine j_iconst (show decode cX3_readBoth 58 = .ok (.iconst 1, 1) by decide +kernel) ?_
      exact j_ret (rokZ (show decode cX3_readBoth 59 = .ok (.ireturn, 1) by decide +kernel) rfl (Or.inr rfl)) ⟨rfl, rfl, h⟩
    · have h := h.2 c
      refine s_aload_n (i := 0) rfl (show decode cX3_readBoth 28 = .ok (.aload_n 0, 1) by decide +kernel) ?_
      refine j_ctVv (m' := mX3_advance) (As := []) (ci := 3) (N := 0) (cw_X3_37 rfl) (show decode cX3_readBoth 29 = .ok (.invokevirtual 37, 3) by decide +kernel) rfl (Nat.le_of_ble_eq_true rfl) okl_271 rfl rfl (Nat.le_refl _) h (fun r3 σ3 h => ?_)
      refine s_aload_n (i := 0) rfl (show decode cX3_readBoth 32 = .ok (.aload_n 0, 1) by decide +kernel) ?_
      refine j_iload_n (i := 1) rfl (show decode cX3_readBoth 33 = .ok (.iload_n 1, 1) by decide +kernel) ?_
      refine j_ctV (m' := mX3_readAsk) (As := [iv p1]) (ci := 3) (tag := 0) (N := 0) (cw_X3_123 rfl) (show decode cX3_readBoth 34 = .ok (.invokevirtual 123, 3) by decide +kernel) rfl (Nat.le_of_ble_eq_true rfl) (by decide) okl_271 rfl rfl (Nat.le_refl _) h (fun r4 σ4 h => ?_)
      have hr4 := h.1
      have h := h.2
      refine j_if_ne (tgt := 42) hr4 (show decode cX3_readBoth 37 = .ok (.ifCond .ne 5, 3) by decide +kernel) (by decide) (fun c => ?_) (fun c => ?_)
      · have h := h.1 c
        refine s_aload_n (i := 0) rfl (show decode cX3_readBoth 42 = .ok (.aload_n 0, 1) by decide +kernel) ?_
        refine gf_X3_25 (x := t) rfl (show decode cX3_readBoth 43 = .ok (.getfield 25, 3) by decide +kernel) okl_271 rfl ?_
        refine j_bipush (n := 24) (by decide +kernel) (show decode cX3_readBoth 46 = .ok (.bipush 24, 2) by decide +kernel) ?_
        refine j_iconst (show decode cX3_readBoth 48 = .ok (.iconst 0, 1) by decide +kernel) ?_
        have hb6 := h.1
        have h := h.2
        refine j_ctVv (m' := mX8_addCode) (As := [iv 24, iv 0]) (ci := 8) (N := 0) (cw_X3_100 rfl) (show decode cX3_readBoth 49 = .ok (.invokevirtual 100, 3) by decide +kernel) rfl (Nat.le_of_ble_eq_true rfl) hb6 rfl rfl (Nat.le_refl _) h (fun r6 σ6 h => ?_)
        refine s_iinc (i := 2) rfl (L' := [rv 271, iv p1, iv (v2 + 1)]) rfl (show decode cX3_readBoth 52 = .ok (.iinc 2 1, 3) by decide +kernel) ?_
        refine j_goto (tgt := 12) (show decode cX3_readBoth 55 = .ok (.goto (-43), 3) by decide +kernel) (by decide) ?_
        exact h
      · have h := h.2 c
        refine j_iconst (show decode cX3_readBoth 40 = .ok (.iconst 0, 1) by decide +kernel) ?_
        exact j_ret (rokZ (show decode cX3_readBoth 41 = .ok (.ireturn, 1) by decide +kernel) rfl (Or.inl rfl)) ⟨rfl, rfl, h⟩
set_option maxRecDepth 4000 in
theorem b_X3_readBoth_0 {d : Nat} {t : Int} {Q : Int → jM → Prop} {σ : jM} {p1 : Int} (h : Ct mX3_readAsk d 0 t [rv 271, iv p1] σ (fun r1 σ1 => ((inR r1) ∧ ((¬ r1 = 0 → (Jt mX3_readBoth (d + 1) 0 t Q 12 [rv 271, iv p1, iv 0] [] σ1)) ∧ (r1 = 0 → (Q 0 σ1)))))) : Jt mX3_readBoth (d + 1) 0 t Q 0 [rv 271, iv p1, uv] [] σ := by
  refine s_aload_n (i := 0) rfl (show decode cX3_readBoth 0 = .ok (.aload_n 0, 1) by decide +kernel) ?_
  refine j_iload_n (i := 1) rfl (show decode cX3_readBoth 1 = .ok (.iload_n 1, 1) by decide +kernel) ?_
  refine j_ctV (m' := mX3_readAsk) (As := [iv p1]) (ci := 3) (tag := 0) (N := 0) (cw_X3_123 rfl) (show decode cX3_readBoth 2 = .ok (.invokevirtual 123, 3) by decide +kernel) rfl (Nat.le_of_ble_eq_true rfl) (by decide) okl_271 rfl rfl (Nat.le_refl _) h (fun r1 σ1 h => ?_)
  have hr1 := h.1
  have h := h.2
  refine j_if_ne (tgt := 10) hr1 (show decode cX3_readBoth 5 = .ok (.ifCond .ne 5, 3) by decide +kernel) (by decide) (fun c => ?_) (fun c => ?_)
  · have h := h.1 c
    refine j_iconst (show decode cX3_readBoth 10 = .ok (.iconst 0, 1) by decide +kernel) ?_
    refine s_ist_n (i := 2) (L' := [rv 271, iv p1, iv 0]) rfl (by decide) (show decode cX3_readBoth 11 = .ok (.istore_n 2, 1) by decide +kernel) ?_
    exact h
  · have h := h.2 c
    refine j_iconst (show decode cX3_readBoth 8 = .ok (.iconst 0, 1) by decide +kernel) ?_
    exact j_ret (rokZ (show decode cX3_readBoth 9 = .ok (.ireturn, 1) by decide +kernel) rfl (Or.inl rfl)) ⟨rfl, rfl, h⟩
theorem c_X3_readBoth {d : Nat} {t : Int} {Q : Int → jM → Prop} {σ : jM} {p1 : Int} (h : Ct mX3_readAsk d 0 t [rv 271, iv p1] σ (fun r1 σ1 => ((inR r1) ∧ ((¬ r1 = 0 → (Jt mX3_readBoth (d + 1) 0 t Q 12 [rv 271, iv p1, iv 0] [] σ1)) ∧ (r1 = 0 → (Q 0 σ1)))))) : Ct mX3_readBoth (d + 1) 0 t [rv 271, iv p1] σ Q := Ct_of (by decide +kernel) (Nat.le_of_ble_eq_true rfl) (b_X3_readBoth_0 h)
set_option maxRecDepth 4000 in
theorem b_X3_readAsk_0 {d : Nat} {t : Int} {Q : Int → jM → Prop} {σ : jM} {p1 : Int} (h : (inR (σ 271 6)) ∧ ((¬ (σ 271 6) = 121 → (Ct mX3_readSum d 0 t [rv 271, iv p1] σ (fun r2 σ2 => ((inR r2) ∧ ((¬ r2 = 0 → (Ct mX3_relation d 0 t [rv 271] σ2 (fun r4 σ4 => ((inR r4) ∧ ((¬ r4 = (-1) → (Ct mX3_advance d 9 t [rv 271] σ4 (fun r6 σ6 => (Ct mX3_readSum d 0 t [rv 271, iv p1] σ6 (fun r7 σ7 => ((inR r7) ∧ ((¬ r7 = 0 → ((ob (GG t) t 8) ∧ (Ct mX8_addCode d 9 t [rv t, iv r4, iv 0] σ7 (fun r9 σ9 => (Q 1 σ9))))) ∧ (r7 = 0 → (Q 0 σ7))))))))) ∧ (r4 = (-1) → (Ct mX3_failed d 0 t [rv 271, iv 1] σ4 (fun r11 σ11 => ((r11 = 0 ∨ r11 = 1) ∧ (Q r11 σ11)))))))))) ∧ (r2 = 0 → (Q 0 σ2))))))) ∧ ((σ 271 6) = 121 → ((inR p1) ∧ ((p1 < 8 → (Ct mX3_advance d 9 t [rv 271] σ (fun r14 σ14 => (Ct mX3_readAsk d 0 t [rv 271, iv (p1 + 1)] σ14 (fun r15 σ15 => ((inR r15) ∧ ((¬ r15 = 0 → ((ob (GG t) t 8) ∧ (Ct mX8_addCode d 9 t [rv t, iv 13, iv 0] σ15 (fun r17 σ17 => (Q 1 σ17))))) ∧ (r15 = 0 → (Q 0 σ15))))))))) ∧ (8 ≤ p1 → (Ct mX3_failed d 0 t [rv 271, iv 3] σ (fun r19 σ19 => ((r19 = 0 ∨ r19 = 1) ∧ (Q r19 σ19)))))))))) : Jt mX3_readAsk (d + 1) 0 t Q 0 [rv 271, iv p1, uv] [] σ := by
  refine s_aload_n (i := 0) rfl (show decode cX3_readAsk 0 = .ok (.aload_n 0, 1) by decide +kernel) ?_
  refine gf_X3_40 rfl (show decode cX3_readAsk 1 = .ok (.getfield 40, 3) by decide +kernel) okl_271 ?_
  refine j_bipush (n := 121) (by decide +kernel) (show decode cX3_readAsk 4 = .ok (.bipush 121, 2) by decide +kernel) ?_
  have hr0 := h.1
  have h := h.2
  refine j_icmp_ne (tgt := 49) hr0 (inl (by decide)) (show decode cX3_readAsk 6 = .ok (.if_icmp .ne 43, 3) by decide +kernel) (by decide) (fun c => ?_) (fun c => ?_)
  · have h := h.1 c
    refine s_aload_n (i := 0) rfl (show decode cX3_readAsk 49 = .ok (.aload_n 0, 1) by decide +kernel) ?_
    refine j_iload_n (i := 1) rfl (show decode cX3_readAsk 50 = .ok (.iload_n 1, 1) by decide +kernel) ?_
    refine j_ctV (m' := mX3_readSum) (As := [iv p1]) (ci := 3) (tag := 0) (N := 0) (cw_X3_66 rfl) (show decode cX3_readAsk 51 = .ok (.invokevirtual 66, 3) by decide +kernel) rfl (Nat.le_of_ble_eq_true rfl) (by decide) okl_271 rfl rfl (Nat.le_refl _) h (fun r2 σ2 h => ?_)
    have hr2 := h.1
    have h := h.2
    refine j_if_ne (tgt := 59) hr2 (show decode cX3_readAsk 54 = .ok (.ifCond .ne 5, 3) by decide +kernel) (by decide) (fun c => ?_) (fun c => ?_)
    · have h := h.1 c
      refine s_aload_n (i := 0) rfl (show decode cX3_readAsk 59 = .ok (.aload_n 0, 1) by decide +kernel) ?_
      refine j_ctV (m' := mX3_relation) (As := []) (ci := 3) (tag := 0) (N := 0) (cw_X3_126 rfl) (show decode cX3_readAsk 60 = .ok (.invokevirtual 126, 3) by decide +kernel) rfl (Nat.le_of_ble_eq_true rfl) (by decide) okl_271 rfl rfl (Nat.le_refl _) h (fun r4 σ4 h => ?_)
      refine s_ist_n (i := 2) (L' := [rv 271, iv p1, iv r4]) rfl (by decide) (show decode cX3_readAsk 63 = .ok (.istore_n 2, 1) by decide +kernel) ?_
      refine j_iload_n (i := 2) rfl (show decode cX3_readAsk 64 = .ok (.iload_n 2, 1) by decide +kernel) ?_
      refine j_iconst (show decode cX3_readAsk 65 = .ok (.iconst (-1), 1) by decide +kernel) ?_
      have hr4 := h.1
      have h := h.2
      refine j_icmp_ne (tgt := 75) hr4 (inl (by decide)) (show decode cX3_readAsk 66 = .ok (.if_icmp .ne 9, 3) by decide +kernel) (by decide) (fun c => ?_) (fun c => ?_)
      · have h := h.1 c
        refine s_aload_n (i := 0) rfl (show decode cX3_readAsk 75 = .ok (.aload_n 0, 1) by decide +kernel) ?_
        refine j_ctVv (m' := mX3_advance) (As := []) (ci := 3) (N := 0) (cw_X3_37 rfl) (show decode cX3_readAsk 76 = .ok (.invokevirtual 37, 3) by decide +kernel) rfl (Nat.le_of_ble_eq_true rfl) okl_271 rfl rfl (Nat.le_refl _) h (fun r6 σ6 h => ?_)
        refine s_aload_n (i := 0) rfl (show decode cX3_readAsk 79 = .ok (.aload_n 0, 1) by decide +kernel) ?_
        refine j_iload_n (i := 1) rfl (show decode cX3_readAsk 80 = .ok (.iload_n 1, 1) by decide +kernel) ?_
        refine j_ctV (m' := mX3_readSum) (As := [iv p1]) (ci := 3) (tag := 0) (N := 0) (cw_X3_66 rfl) (show decode cX3_readAsk 81 = .ok (.invokevirtual 66, 3) by decide +kernel) rfl (Nat.le_of_ble_eq_true rfl) (by decide) okl_271 rfl rfl (Nat.le_refl _) h (fun r7 σ7 h => ?_)
        have hr7 := h.1
        have h := h.2
        refine j_if_ne (tgt := 89) hr7 (show decode cX3_readAsk 84 = .ok (.ifCond .ne 5, 3) by decide +kernel) (by decide) (fun c => ?_) (fun c => ?_)
        · have h := h.1 c
          refine s_aload_n (i := 0) rfl (show decode cX3_readAsk 89 = .ok (.aload_n 0, 1) by decide +kernel) ?_
          refine gf_X3_25 (x := t) rfl (show decode cX3_readAsk 90 = .ok (.getfield 25, 3) by decide +kernel) okl_271 rfl ?_
          refine j_iload_n (i := 2) rfl (show decode cX3_readAsk 93 = .ok (.iload_n 2, 1) by decide +kernel) ?_
          refine j_iconst (show decode cX3_readAsk 94 = .ok (.iconst 0, 1) by decide +kernel) ?_
          have hb9 := h.1
          have h := h.2
          refine j_ctVv (m' := mX8_addCode) (As := [iv r4, iv 0]) (ci := 8) (N := 0) (cw_X3_100 rfl) (show decode cX3_readAsk 95 = .ok (.invokevirtual 100, 3) by decide +kernel) rfl (Nat.le_of_ble_eq_true rfl) hb9 rfl rfl (Nat.le_refl _) h (fun r9 σ9 h => ?_)
          refine j_iconst (show decode cX3_readAsk 98 = .ok (.iconst 1, 1) by decide +kernel) ?_
          exact j_ret (rokZ (show decode cX3_readAsk 99 = .ok (.ireturn, 1) by decide +kernel) rfl (Or.inr rfl)) ⟨rfl, rfl, h⟩
        · have h := h.2 c
          refine j_iconst (show decode cX3_readAsk 87 = .ok (.iconst 0, 1) by decide +kernel) ?_
          exact j_ret (rokZ (show decode cX3_readAsk 88 = .ok (.ireturn, 1) by decide +kernel) rfl (Or.inl rfl)) ⟨rfl, rfl, h⟩
      · have h := h.2 c
        refine s_aload_n (i := 0) rfl (show decode cX3_readAsk 69 = .ok (.aload_n 0, 1) by decide +kernel) ?_
        refine j_iconst (show decode cX3_readAsk 70 = .ok (.iconst 1, 1) by decide +kernel) ?_
        refine j_ctV (m' := mX3_failed) (As := [iv 1]) (ci := 3) (tag := 0) (N := 0) (cw_X3_50 rfl) (show decode cX3_readAsk 71 = .ok (.invokevirtual 50, 3) by decide +kernel) rfl (Nat.le_of_ble_eq_true rfl) (by decide) okl_271 rfl rfl (Nat.le_refl _) h (fun r11 σ11 h => ?_)
        have hz11 := h.1
        have h := h.2
        exact j_ret (rokZ (show decode cX3_readAsk 74 = .ok (.ireturn, 1) by decide +kernel) rfl hz11) ⟨rfl, rfl, h⟩
    · have h := h.2 c
      refine j_iconst (show decode cX3_readAsk 57 = .ok (.iconst 0, 1) by decide +kernel) ?_
      exact j_ret (rokZ (show decode cX3_readAsk 58 = .ok (.ireturn, 1) by decide +kernel) rfl (Or.inl rfl)) ⟨rfl, rfl, h⟩
  · have h := h.2 c
    refine j_iload_n (i := 1) rfl (show decode cX3_readAsk 9 = .ok (.iload_n 1, 1) by decide +kernel) ?_
    refine j_bipush (n := 8) (by decide +kernel) (show decode cX3_readAsk 10 = .ok (.bipush 8, 2) by decide +kernel) ?_
    have hr12 := h.1
    have h := h.2
    refine j_icmp_lt (tgt := 21) hr12 (inl (by decide)) (show decode cX3_readAsk 12 = .ok (.if_icmp .lt 9, 3) by decide +kernel) (by decide) (fun c => ?_) (fun c => ?_)
    · have h := h.1 c
      refine s_aload_n (i := 0) rfl (show decode cX3_readAsk 21 = .ok (.aload_n 0, 1) by decide +kernel) ?_
      refine j_ctVv (m' := mX3_advance) (As := []) (ci := 3) (N := 0) (cw_X3_37 rfl) (show decode cX3_readAsk 22 = .ok (.invokevirtual 37, 3) by decide +kernel) rfl (Nat.le_of_ble_eq_true rfl) okl_271 rfl rfl (Nat.le_refl _) h (fun r14 σ14 h => ?_)
      refine s_aload_n (i := 0) rfl (show decode cX3_readAsk 25 = .ok (.aload_n 0, 1) by decide +kernel) ?_
      refine j_iload_n (i := 1) rfl (show decode cX3_readAsk 26 = .ok (.iload_n 1, 1) by decide +kernel) ?_
      refine j_iconst (show decode cX3_readAsk 27 = .ok (.iconst 1, 1) by decide +kernel) ?_
      refine j_iadd (show decode cX3_readAsk 28 = .ok (.iadd, 1) by decide +kernel) ?_
      refine j_ctV (m' := mX3_readAsk) (As := [iv (p1 + 1)]) (ci := 3) (tag := 0) (N := 0) (cw_X3_123 rfl) (show decode cX3_readAsk 29 = .ok (.invokevirtual 123, 3) by decide +kernel) rfl (Nat.le_of_ble_eq_true rfl) (by decide) okl_271 rfl rfl (Nat.le_refl _) h (fun r15 σ15 h => ?_)
      have hr15 := h.1
      have h := h.2
      refine j_if_ne (tgt := 37) hr15 (show decode cX3_readAsk 32 = .ok (.ifCond .ne 5, 3) by decide +kernel) (by decide) (fun c => ?_) (fun c => ?_)
      · have h := h.1 c
        refine s_aload_n (i := 0) rfl (show decode cX3_readAsk 37 = .ok (.aload_n 0, 1) by decide +kernel) ?_
        refine gf_X3_25 (x := t) rfl (show decode cX3_readAsk 38 = .ok (.getfield 25, 3) by decide +kernel) okl_271 rfl ?_
        refine j_bipush (n := 13) (by decide +kernel) (show decode cX3_readAsk 41 = .ok (.bipush 13, 2) by decide +kernel) ?_
        refine j_iconst (show decode cX3_readAsk 43 = .ok (.iconst 0, 1) by decide +kernel) ?_
        have hb17 := h.1
        have h := h.2
        refine j_ctVv (m' := mX8_addCode) (As := [iv 13, iv 0]) (ci := 8) (N := 0) (cw_X3_100 rfl) (show decode cX3_readAsk 44 = .ok (.invokevirtual 100, 3) by decide +kernel) rfl (Nat.le_of_ble_eq_true rfl) hb17 rfl rfl (Nat.le_refl _) h (fun r17 σ17 h => ?_)
        refine j_iconst (show decode cX3_readAsk 47 = .ok (.iconst 1, 1) by decide +kernel) ?_
        exact j_ret (rokZ (show decode cX3_readAsk 48 = .ok (.ireturn, 1) by decide +kernel) rfl (Or.inr rfl)) ⟨rfl, rfl, h⟩
      · have h := h.2 c
        refine j_iconst (show decode cX3_readAsk 35 = .ok (.iconst 0, 1) by decide +kernel) ?_
        exact j_ret (rokZ (show decode cX3_readAsk 36 = .ok (.ireturn, 1) by decide +kernel) rfl (Or.inl rfl)) ⟨rfl, rfl, h⟩
    · have h := h.2 c
      refine s_aload_n (i := 0) rfl (show decode cX3_readAsk 15 = .ok (.aload_n 0, 1) by decide +kernel) ?_
      refine j_iconst (show decode cX3_readAsk 16 = .ok (.iconst 3, 1) by decide +kernel) ?_
      refine j_ctV (m' := mX3_failed) (As := [iv 3]) (ci := 3) (tag := 0) (N := 0) (cw_X3_50 rfl) (show decode cX3_readAsk 17 = .ok (.invokevirtual 50, 3) by decide +kernel) rfl (Nat.le_of_ble_eq_true rfl) (by decide) okl_271 rfl rfl (Nat.le_refl _) h (fun r19 σ19 h => ?_)
      have hz19 := h.1
      have h := h.2
      exact j_ret (rokZ (show decode cX3_readAsk 20 = .ok (.ireturn, 1) by decide +kernel) rfl hz19) ⟨rfl, rfl, h⟩
theorem c_X3_readAsk {d : Nat} {t : Int} {Q : Int → jM → Prop} {σ : jM} {p1 : Int} (h : (inR (σ 271 6)) ∧ ((¬ (σ 271 6) = 121 → (Ct mX3_readSum d 0 t [rv 271, iv p1] σ (fun r2 σ2 => ((inR r2) ∧ ((¬ r2 = 0 → (Ct mX3_relation d 0 t [rv 271] σ2 (fun r4 σ4 => ((inR r4) ∧ ((¬ r4 = (-1) → (Ct mX3_advance d 9 t [rv 271] σ4 (fun r6 σ6 => (Ct mX3_readSum d 0 t [rv 271, iv p1] σ6 (fun r7 σ7 => ((inR r7) ∧ ((¬ r7 = 0 → ((ob (GG t) t 8) ∧ (Ct mX8_addCode d 9 t [rv t, iv r4, iv 0] σ7 (fun r9 σ9 => (Q 1 σ9))))) ∧ (r7 = 0 → (Q 0 σ7))))))))) ∧ (r4 = (-1) → (Ct mX3_failed d 0 t [rv 271, iv 1] σ4 (fun r11 σ11 => ((r11 = 0 ∨ r11 = 1) ∧ (Q r11 σ11)))))))))) ∧ (r2 = 0 → (Q 0 σ2))))))) ∧ ((σ 271 6) = 121 → ((inR p1) ∧ ((p1 < 8 → (Ct mX3_advance d 9 t [rv 271] σ (fun r14 σ14 => (Ct mX3_readAsk d 0 t [rv 271, iv (p1 + 1)] σ14 (fun r15 σ15 => ((inR r15) ∧ ((¬ r15 = 0 → ((ob (GG t) t 8) ∧ (Ct mX8_addCode d 9 t [rv t, iv 13, iv 0] σ15 (fun r17 σ17 => (Q 1 σ17))))) ∧ (r15 = 0 → (Q 0 σ15))))))))) ∧ (8 ≤ p1 → (Ct mX3_failed d 0 t [rv 271, iv 3] σ (fun r19 σ19 => ((r19 = 0 ∨ r19 = 1) ∧ (Q r19 σ19)))))))))) : Ct mX3_readAsk (d + 1) 0 t [rv 271, iv p1] σ Q := Ct_of (by decide +kernel) (Nat.le_of_ble_eq_true rfl) (b_X3_readAsk_0 h)
set_option maxRecDepth 4000 in
theorem b_X3_relation_0 {d : Nat} {t : Int} {Q : Int → jM → Prop} {σ : jM} (h : (inR (σ 271 6)) ∧ (((σ 271 6) ≠ 3 ∧ (σ 271 6) ≠ 4 ∧ (σ 271 6) ≠ 35 ∧ (σ 271 6) ≠ 60 ∧ (σ 271 6) ≠ 61 ∧ (σ 271 6) ≠ 62 → (Q (-1) σ)) ∧ ((σ 271 6) = 3 → (Q 19 σ)) ∧ ((σ 271 6) = 4 → (Q 21 σ)) ∧ ((σ 271 6) = 35 → (Q 23 σ)) ∧ ((σ 271 6) = 60 → (Q 18 σ)) ∧ ((σ 271 6) = 61 → (Q 22 σ)) ∧ ((σ 271 6) = 62 → (Q 20 σ)))) : Jt mX3_relation (d) 0 t Q 0 [rv 271] [] σ := by
  refine s_aload_n (i := 0) rfl (show decode cX3_relation 0 = .ok (.aload_n 0, 1) by decide +kernel) ?_
  refine gf_X3_40 rfl (show decode cX3_relation 1 = .ok (.getfield 40, 3) by decide +kernel) okl_271 ?_
  have hr0 := h.1
  have h := h.2
  rcases (show ((σ 271 6) ≠ 3 ∧ (σ 271 6) ≠ 4 ∧ (σ 271 6) ≠ 35 ∧ (σ 271 6) ≠ 60 ∧ (σ 271 6) ≠ 61 ∧ (σ 271 6) ≠ 62) ∨ (σ 271 6) = 3 ∨ (σ 271 6) = 4 ∨ (σ 271 6) = 35 ∨ (σ 271 6) = 60 ∨ (σ 271 6) = 61 ∨ (σ 271 6) = 62 by omega) with c | c | c | c | c | c | c
  · refine j_lookup (off := 78) (tgt := 82) hr0 (show decode cX3_relation 4 = .ok (.lookupswitch 78 #[(3, 63), (4, 69), (35, 75), (60, 60), (61, 72), (62, 66)], 60) by decide +kernel) (by decide +kernel) (by simp [Op.lookupswitch.offset, Ne.symm c.1, Ne.symm c.2.1, Ne.symm c.2.2.1, Ne.symm c.2.2.2.1, Ne.symm c.2.2.2.2.1, Ne.symm c.2.2.2.2.2]) (by decide) ?_
    have h := h.1 c
    refine j_iconst (show decode cX3_relation 82 = .ok (.iconst (-1), 1) by decide +kernel) ?_
    exact j_ret (rokI (show decode cX3_relation 83 = .ok (.ireturn, 1) by decide +kernel) rfl) ⟨rfl, rfl, h⟩
  · refine j_lookup (off := 63) (tgt := 67) hr0 (show decode cX3_relation 4 = .ok (.lookupswitch 78 #[(3, 63), (4, 69), (35, 75), (60, 60), (61, 72), (62, 66)], 60) by decide +kernel) (by decide +kernel) (by rw [c]; rfl) (by decide) ?_
    have h := h.2.1 c
    refine j_bipush (n := 19) (by decide +kernel) (show decode cX3_relation 67 = .ok (.bipush 19, 2) by decide +kernel) ?_
    exact j_ret (rokI (show decode cX3_relation 69 = .ok (.ireturn, 1) by decide +kernel) rfl) ⟨rfl, rfl, h⟩
  · refine j_lookup (off := 69) (tgt := 73) hr0 (show decode cX3_relation 4 = .ok (.lookupswitch 78 #[(3, 63), (4, 69), (35, 75), (60, 60), (61, 72), (62, 66)], 60) by decide +kernel) (by decide +kernel) (by rw [c]; rfl) (by decide) ?_
    have h := h.2.2.1 c
    refine j_bipush (n := 21) (by decide +kernel) (show decode cX3_relation 73 = .ok (.bipush 21, 2) by decide +kernel) ?_
    exact j_ret (rokI (show decode cX3_relation 75 = .ok (.ireturn, 1) by decide +kernel) rfl) ⟨rfl, rfl, h⟩
  · refine j_lookup (off := 75) (tgt := 79) hr0 (show decode cX3_relation 4 = .ok (.lookupswitch 78 #[(3, 63), (4, 69), (35, 75), (60, 60), (61, 72), (62, 66)], 60) by decide +kernel) (by decide +kernel) (by rw [c]; rfl) (by decide) ?_
    have h := h.2.2.2.1 c
    refine j_bipush (n := 23) (by decide +kernel) (show decode cX3_relation 79 = .ok (.bipush 23, 2) by decide +kernel) ?_
    exact j_ret (rokI (show decode cX3_relation 81 = .ok (.ireturn, 1) by decide +kernel) rfl) ⟨rfl, rfl, h⟩
  · refine j_lookup (off := 60) (tgt := 64) hr0 (show decode cX3_relation 4 = .ok (.lookupswitch 78 #[(3, 63), (4, 69), (35, 75), (60, 60), (61, 72), (62, 66)], 60) by decide +kernel) (by decide +kernel) (by rw [c]; rfl) (by decide) ?_
    have h := h.2.2.2.2.1 c
    refine j_bipush (n := 18) (by decide +kernel) (show decode cX3_relation 64 = .ok (.bipush 18, 2) by decide +kernel) ?_
    exact j_ret (rokI (show decode cX3_relation 66 = .ok (.ireturn, 1) by decide +kernel) rfl) ⟨rfl, rfl, h⟩
  · refine j_lookup (off := 72) (tgt := 76) hr0 (show decode cX3_relation 4 = .ok (.lookupswitch 78 #[(3, 63), (4, 69), (35, 75), (60, 60), (61, 72), (62, 66)], 60) by decide +kernel) (by decide +kernel) (by rw [c]; rfl) (by decide) ?_
    have h := h.2.2.2.2.2.1 c
    refine j_bipush (n := 22) (by decide +kernel) (show decode cX3_relation 76 = .ok (.bipush 22, 2) by decide +kernel) ?_
    exact j_ret (rokI (show decode cX3_relation 78 = .ok (.ireturn, 1) by decide +kernel) rfl) ⟨rfl, rfl, h⟩
  · refine j_lookup (off := 66) (tgt := 70) hr0 (show decode cX3_relation 4 = .ok (.lookupswitch 78 #[(3, 63), (4, 69), (35, 75), (60, 60), (61, 72), (62, 66)], 60) by decide +kernel) (by decide +kernel) (by rw [c]; rfl) (by decide) ?_
    have h := h.2.2.2.2.2.2 c
    refine j_bipush (n := 20) (by decide +kernel) (show decode cX3_relation 70 = .ok (.bipush 20, 2) by decide +kernel) ?_
    exact j_ret (rokI (show decode cX3_relation 72 = .ok (.ireturn, 1) by decide +kernel) rfl) ⟨rfl, rfl, h⟩
theorem c_X3_relation {d : Nat} {t : Int} {Q : Int → jM → Prop} {σ : jM} (h : (inR (σ 271 6)) ∧ (((σ 271 6) ≠ 3 ∧ (σ 271 6) ≠ 4 ∧ (σ 271 6) ≠ 35 ∧ (σ 271 6) ≠ 60 ∧ (σ 271 6) ≠ 61 ∧ (σ 271 6) ≠ 62 → (Q (-1) σ)) ∧ ((σ 271 6) = 3 → (Q 19 σ)) ∧ ((σ 271 6) = 4 → (Q 21 σ)) ∧ ((σ 271 6) = 35 → (Q 23 σ)) ∧ ((σ 271 6) = 60 → (Q 18 σ)) ∧ ((σ 271 6) = 61 → (Q 22 σ)) ∧ ((σ 271 6) = 62 → (Q 20 σ)))) : Ct mX3_relation (d) 0 t [rv 271] σ Q := Ct_of (by decide +kernel) (Nat.le_of_ble_eq_true rfl) (b_X3_relation_0 h)
set_option maxRecDepth 4000 in
theorem b_X3_advance_196 {d : Nat} {t : Int} {Q : Int → jM → Prop} {σ : jM} (h : Q 0 σ) : Jt mX3_advance (d + 1) 9 t Q 196 [rv 271] [] σ := by
  exact j_ret (rokV (show decode cX3_advance 196 = .ok (.return_, 1) by decide +kernel) rfl) ⟨rfl, rfl, h⟩
set_option maxRecDepth 4000 in
theorem b_X3_advance_193 {d : Nat} {t : Int} {Q : Int → jM → Prop} {σ : jM} {u0 : Int} (h : ∀ σ1 : jM, σ1 = up σ 271 8 u0 → (Jt mX3_advance (d + 1) 9 t Q 196 [rv 271] [] σ1)) : Jt mX3_advance (d + 1) 9 t Q 193 [rv 271] [iv u0, rv 271] σ := by
  refine pf_X3_34 rfl (show decode cX3_advance 193 = .ok (.putfield 34, 3) by decide +kernel) okl_271 ?_
  obtain ⟨σ1, eσ1⟩ : ∃ z : jM, z = up σ 271 8 u0 := ⟨_, rfl⟩
  refine j_sig eσ1 ?_
  have h := h σ1 eσ1
  exact h
set_option maxRecDepth 4000 in
theorem b_X3_advance_178 {d : Nat} {t : Int} {Q : Int → jM → Prop} {σ : jM} (h : Jt mX3_advance (d + 1) 9 t Q 193 [rv 271] [iv ((σ 271 7) + 2), rv 271] σ) : Jt mX3_advance (d + 1) 9 t Q 178 [rv 271] [rv 271] σ := by
  refine s_aload_n (i := 0) rfl (show decode cX3_advance 178 = .ok (.aload_n 0, 1) by decide +kernel) ?_
  refine gf_X3_47 rfl (show decode cX3_advance 179 = .ok (.getfield 47, 3) by decide +kernel) okl_271 ?_
  refine j_iconst (show decode cX3_advance 182 = .ok (.iconst 2, 1) by decide +kernel) ?_
  refine j_iadd (show decode cX3_advance 183 = .ok (.iadd, 1) by decide +kernel) ?_
  refine j_goto (tgt := 193) (show decode cX3_advance 184 = .ok (.goto 9, 3) by decide +kernel) (by decide) ?_
  exact h
set_option maxRecDepth 4000 in
theorem b_X3_advance_60 {d : Nat} {t : Int} {Q : Int → jM → Prop} {σ : jM} (h : ∀ σ1 : jM, σ1 = up σ 271 8 ((σ 271 7) + 1) → ((inR (σ1 271 7)) ∧ ((inR (σ1 271 1)) ∧ (((σ1 271 7) < (σ1 271 1) → (((0 : Int) ≤ (σ1 271 7) ∧ (σ1 271 7) < 300) ∧ (Ct mX3_isDigit d 0 t [iv (σ1 272 (σ1 271 7))] σ1 (fun r4 σ4 => ((inR r4) ∧ ((r4 = 0 → (((0 : Int) ≤ (σ4 271 7) ∧ (σ4 271 7) < 300) ∧ (Ct mX3_isLetter d 0 t [iv (σ4 272 (σ4 271 7))] σ4 (fun r6 σ6 => ((inR r6) ∧ ((r6 = 0 → (Ct mX3_signAt d 0 t [rv 271, iv (σ6 271 7)] σ6 (fun r8 σ8 => (∀ σ9 : jM, σ9 = up σ8 271 6 r8 → ((inR (σ9 271 6)) ∧ (((σ9 271 6) = 3 → (Jt mX3_advance (d + 1) 9 t Q 178 [rv 271] [rv 271] σ9)) ∧ (¬ (σ9 271 6) = 3 → ((inR (σ9 271 6)) ∧ ((¬ (σ9 271 6) = 4 → (Jt mX3_advance (d + 1) 9 t Q 193 [rv 271] [iv ((σ9 271 7) + 1), rv 271] σ9)) ∧ ((σ9 271 6) = 4 → (Jt mX3_advance (d + 1) 9 t Q 178 [rv 271] [rv 271] σ9))))))))))) ∧ (¬ r6 = 0 → (Ct mX3_readWord d 9 t [rv 271] σ6 (fun r12 σ12 => (Jt mX3_advance (d + 1) 9 t Q 196 [rv 271] [] σ12)))))))))) ∧ (¬ r4 = 0 → (Ct mX3_readDigits d 9 t [rv 271] σ4 (fun r13 σ13 => (Jt mX3_advance (d + 1) 9 t Q 196 [rv 271] [] σ13)))))))))) ∧ ((σ1 271 1) ≤ (σ1 271 7) → (∀ σ14 : jM, σ14 = up σ1 271 7 (σ1 271 1) → (∀ σ15 : jM, σ15 = up σ14 271 8 (σ14 271 1) → (∀ σ16 : jM, σ16 = up σ15 271 6 0 → (Jt mX3_advance (d + 1) 9 t Q 196 [rv 271] [] σ16))))))))) : Jt mX3_advance (d + 1) 9 t Q 60 [rv 271] [] σ := by
  refine s_aload_n (i := 0) rfl (show decode cX3_advance 60 = .ok (.aload_n 0, 1) by decide +kernel) ?_
  refine s_aload_n (i := 0) rfl (show decode cX3_advance 61 = .ok (.aload_n 0, 1) by decide +kernel) ?_
  refine gf_X3_47 rfl (show decode cX3_advance 62 = .ok (.getfield 47, 3) by decide +kernel) okl_271 ?_
  refine j_iconst (show decode cX3_advance 65 = .ok (.iconst 1, 1) by decide +kernel) ?_
  refine j_iadd (show decode cX3_advance 66 = .ok (.iadd, 1) by decide +kernel) ?_
  refine pf_X3_34 rfl (show decode cX3_advance 67 = .ok (.putfield 34, 3) by decide +kernel) okl_271 ?_
  obtain ⟨σ1, eσ1⟩ : ∃ z : jM, z = up σ 271 8 ((σ 271 7) + 1) := ⟨_, rfl⟩
  refine j_sig eσ1 ?_
  have h := h σ1 eσ1
  refine s_aload_n (i := 0) rfl (show decode cX3_advance 70 = .ok (.aload_n 0, 1) by decide +kernel) ?_
  refine gf_X3_47 rfl (show decode cX3_advance 71 = .ok (.getfield 47, 3) by decide +kernel) okl_271 ?_
  refine s_aload_n (i := 0) rfl (show decode cX3_advance 74 = .ok (.aload_n 0, 1) by decide +kernel) ?_
  refine gf_X3_22 rfl (show decode cX3_advance 75 = .ok (.getfield 22, 3) by decide +kernel) okl_271 ?_
  have hr1 := h.1
  have h := h.2
  have hr2 := h.1
  have h := h.2
  refine j_icmp_lt (tgt := 105) hr1 hr2 (show decode cX3_advance 78 = .ok (.if_icmp .lt 27, 3) by decide +kernel) (by decide) (fun c => ?_) (fun c => ?_)
  · have h := h.1 c
    refine s_aload_n (i := 0) rfl (show decode cX3_advance 105 = .ok (.aload_n 0, 1) by decide +kernel) ?_
    refine gf_X3_11 (x := 272) rfl (show decode cX3_advance 106 = .ok (.getfield 11, 3) by decide +kernel) okl_271 rfl ?_
    refine s_aload_n (i := 0) rfl (show decode cX3_advance 109 = .ok (.aload_n 0, 1) by decide +kernel) ?_
    refine gf_X3_47 rfl (show decode cX3_advance 110 = .ok (.getfield 47, 3) by decide +kernel) okl_271 ?_
    refine s_iald (show decode cX3_advance 113 = .ok (.iaload, 1) by decide +kernel) okl_272 h.1 ?_
    have h := h.2
    refine j_ctS (m' := mX3_isDigit) (As := [iv (σ1 272 (σ1 271 7))]) (tag := 0) (cw_X3_130 rfl) (show decode cX3_advance 114 = .ok (.invokestatic 130, 3) by decide +kernel) rfl (Nat.le_of_ble_eq_true rfl) (by decide) (Nat.le_refl _) h (fun r4 σ4 h => ?_)
    have hr4 := h.1
    have h := h.2
    refine j_if_eq (tgt := 127) hr4 (show decode cX3_advance 117 = .ok (.ifCond .eq 10, 3) by decide +kernel) (by decide) (fun c => ?_) (fun c => ?_)
    · have h := h.1 c
      refine s_aload_n (i := 0) rfl (show decode cX3_advance 127 = .ok (.aload_n 0, 1) by decide +kernel) ?_
      refine gf_X3_11 (x := 272) rfl (show decode cX3_advance 128 = .ok (.getfield 11, 3) by decide +kernel) okl_271 rfl ?_
      refine s_aload_n (i := 0) rfl (show decode cX3_advance 131 = .ok (.aload_n 0, 1) by decide +kernel) ?_
      refine gf_X3_47 rfl (show decode cX3_advance 132 = .ok (.getfield 47, 3) by decide +kernel) okl_271 ?_
      refine s_iald (show decode cX3_advance 135 = .ok (.iaload, 1) by decide +kernel) okl_272 h.1 ?_
      have h := h.2
      refine j_ctS (m' := mX3_isLetter) (As := [iv (σ4 272 (σ4 271 7))]) (tag := 0) (cw_X3_136 rfl) (show decode cX3_advance 136 = .ok (.invokestatic 136, 3) by decide +kernel) rfl (Nat.le_of_ble_eq_true rfl) (by decide) (Nat.le_refl _) h (fun r6 σ6 h => ?_)
      have hr6 := h.1
      have h := h.2
      refine j_if_eq (tgt := 149) hr6 (show decode cX3_advance 139 = .ok (.ifCond .eq 10, 3) by decide +kernel) (by decide) (fun c => ?_) (fun c => ?_)
      · have h := h.1 c
        refine s_aload_n (i := 0) rfl (show decode cX3_advance 149 = .ok (.aload_n 0, 1) by decide +kernel) ?_
        refine s_aload_n (i := 0) rfl (show decode cX3_advance 150 = .ok (.aload_n 0, 1) by decide +kernel) ?_
        refine s_aload_n (i := 0) rfl (show decode cX3_advance 151 = .ok (.aload_n 0, 1) by decide +kernel) ?_
        refine gf_X3_47 rfl (show decode cX3_advance 152 = .ok (.getfield 47, 3) by decide +kernel) okl_271 ?_
        refine j_ctV (m' := mX3_signAt) (As := [iv (σ6 271 7)]) (ci := 3) (tag := 0) (N := 0) (cw_X3_142 rfl) (show decode cX3_advance 155 = .ok (.invokevirtual 142, 3) by decide +kernel) rfl (Nat.le_of_ble_eq_true rfl) (by decide) okl_271 rfl rfl (Nat.le_refl _) h (fun r8 σ8 h => ?_)
        refine pf_X3_40 rfl (show decode cX3_advance 158 = .ok (.putfield 40, 3) by decide +kernel) okl_271 ?_
        obtain ⟨σ9, eσ9⟩ : ∃ z : jM, z = up σ8 271 6 r8 := ⟨_, rfl⟩
        refine j_sig eσ9 ?_
        have h := h σ9 eσ9
        refine s_aload_n (i := 0) rfl (show decode cX3_advance 161 = .ok (.aload_n 0, 1) by decide +kernel) ?_
        refine s_aload_n (i := 0) rfl (show decode cX3_advance 162 = .ok (.aload_n 0, 1) by decide +kernel) ?_
        refine gf_X3_40 rfl (show decode cX3_advance 163 = .ok (.getfield 40, 3) by decide +kernel) okl_271 ?_
        refine j_iconst (show decode cX3_advance 166 = .ok (.iconst 3, 1) by decide +kernel) ?_
        have hr9 := h.1
        have h := h.2
        refine j_icmp_eq (tgt := 178) hr9 (inl (by decide)) (show decode cX3_advance 167 = .ok (.if_icmp .eq 11, 3) by decide +kernel) (by decide) (fun c => ?_) (fun c => ?_)
        · have h := h.1 c
          exact h
        · have h := h.2 c
          refine s_aload_n (i := 0) rfl (show decode cX3_advance 170 = .ok (.aload_n 0, 1) by decide +kernel) ?_
          refine gf_X3_40 rfl (show decode cX3_advance 171 = .ok (.getfield 40, 3) by decide +kernel) okl_271 ?_
          refine j_iconst (show decode cX3_advance 174 = .ok (.iconst 4, 1) by decide +kernel) ?_
          have hr10 := h.1
          have h := h.2
          refine j_icmp_ne (tgt := 187) hr10 (inl (by decide)) (show decode cX3_advance 175 = .ok (.if_icmp .ne 12, 3) by decide +kernel) (by decide) (fun c => ?_) (fun c => ?_)
          · have h := h.1 c
            refine s_aload_n (i := 0) rfl (show decode cX3_advance 187 = .ok (.aload_n 0, 1) by decide +kernel) ?_
            refine gf_X3_47 rfl (show decode cX3_advance 188 = .ok (.getfield 47, 3) by decide +kernel) okl_271 ?_
            refine j_iconst (show decode cX3_advance 191 = .ok (.iconst 1, 1) by decide +kernel) ?_
            refine j_iadd (show decode cX3_advance 192 = .ok (.iadd, 1) by decide +kernel) ?_
            exact h
          · have h := h.2 c
            exact h
      · have h := h.2 c
        refine s_aload_n (i := 0) rfl (show decode cX3_advance 142 = .ok (.aload_n 0, 1) by decide +kernel) ?_
        refine j_ctVv (m' := mX3_readWord) (As := []) (ci := 3) (N := 0) (cw_X3_139 rfl) (show decode cX3_advance 143 = .ok (.invokevirtual 139, 3) by decide +kernel) rfl (Nat.le_of_ble_eq_true rfl) okl_271 rfl rfl (Nat.le_refl _) h (fun r12 σ12 h => ?_)
        refine j_goto (tgt := 196) (show decode cX3_advance 146 = .ok (.goto 50, 3) by decide +kernel) (by decide) ?_
        exact h
    · have h := h.2 c
      refine s_aload_n (i := 0) rfl (show decode cX3_advance 120 = .ok (.aload_n 0, 1) by decide +kernel) ?_
      refine j_ctVv (m' := mX3_readDigits) (As := []) (ci := 3) (N := 0) (cw_X3_133 rfl) (show decode cX3_advance 121 = .ok (.invokevirtual 133, 3) by decide +kernel) rfl (Nat.le_of_ble_eq_true rfl) okl_271 rfl rfl (Nat.le_refl _) h (fun r13 σ13 h => ?_)
      refine j_goto (tgt := 196) (show decode cX3_advance 124 = .ok (.goto 72, 3) by decide +kernel) (by decide) ?_
      exact h
  · have h := h.2 c
    refine s_aload_n (i := 0) rfl (show decode cX3_advance 81 = .ok (.aload_n 0, 1) by decide +kernel) ?_
    refine s_aload_n (i := 0) rfl (show decode cX3_advance 82 = .ok (.aload_n 0, 1) by decide +kernel) ?_
    refine gf_X3_22 rfl (show decode cX3_advance 83 = .ok (.getfield 22, 3) by decide +kernel) okl_271 ?_
    refine pf_X3_47 rfl (show decode cX3_advance 86 = .ok (.putfield 47, 3) by decide +kernel) okl_271 ?_
    obtain ⟨σ14, eσ14⟩ : ∃ z : jM, z = up σ1 271 7 (σ1 271 1) := ⟨_, rfl⟩
    refine j_sig eσ14 ?_
    have h := h σ14 eσ14
    refine s_aload_n (i := 0) rfl (show decode cX3_advance 89 = .ok (.aload_n 0, 1) by decide +kernel) ?_
    refine s_aload_n (i := 0) rfl (show decode cX3_advance 90 = .ok (.aload_n 0, 1) by decide +kernel) ?_
    refine gf_X3_22 rfl (show decode cX3_advance 91 = .ok (.getfield 22, 3) by decide +kernel) okl_271 ?_
    refine pf_X3_34 rfl (show decode cX3_advance 94 = .ok (.putfield 34, 3) by decide +kernel) okl_271 ?_
    obtain ⟨σ15, eσ15⟩ : ∃ z : jM, z = up σ14 271 8 (σ14 271 1) := ⟨_, rfl⟩
    refine j_sig eσ15 ?_
    have h := h σ15 eσ15
    refine s_aload_n (i := 0) rfl (show decode cX3_advance 97 = .ok (.aload_n 0, 1) by decide +kernel) ?_
    refine j_iconst (show decode cX3_advance 98 = .ok (.iconst 0, 1) by decide +kernel) ?_
    refine pf_X3_40 rfl (show decode cX3_advance 99 = .ok (.putfield 40, 3) by decide +kernel) okl_271 ?_
    obtain ⟨σ16, eσ16⟩ : ∃ z : jM, z = up σ15 271 6 0 := ⟨_, rfl⟩
    refine j_sig eσ16 ?_
    have h := h σ16 eσ16
    refine j_goto (tgt := 196) (show decode cX3_advance 102 = .ok (.goto 94, 3) by decide +kernel) (by decide) ?_
    exact h
set_option maxRecDepth 4000 in
theorem b_X3_advance_47 {d : Nat} {t : Int} {Q : Int → jM → Prop} {σ : jM} (h : ∀ σ1 : jM, σ1 = up σ 271 7 ((σ 271 7) + 1) → (Jt mX3_advance (d + 1) 9 t Q 8 [rv 271] [] σ1)) : Jt mX3_advance (d + 1) 9 t Q 47 [rv 271] [] σ := by
  refine s_aload_n (i := 0) rfl (show decode cX3_advance 47 = .ok (.aload_n 0, 1) by decide +kernel) ?_
  refine j_dup (show (2 : Nat) ≠ 1 by decide) (show decode cX3_advance 48 = .ok (.dup, 1) by decide +kernel) ?_
  refine gf_X3_47 rfl (show decode cX3_advance 49 = .ok (.getfield 47, 3) by decide +kernel) okl_271 ?_
  refine j_iconst (show decode cX3_advance 52 = .ok (.iconst 1, 1) by decide +kernel) ?_
  refine j_iadd (show decode cX3_advance 53 = .ok (.iadd, 1) by decide +kernel) ?_
  refine pf_X3_47 rfl (show decode cX3_advance 54 = .ok (.putfield 47, 3) by decide +kernel) okl_271 ?_
  obtain ⟨σ1, eσ1⟩ : ∃ z : jM, z = up σ 271 7 ((σ 271 7) + 1) := ⟨_, rfl⟩
  refine j_sig eσ1 ?_
  have h := h σ1 eσ1
  refine j_goto (tgt := 8) (show decode cX3_advance 57 = .ok (.goto (-49), 3) by decide +kernel) (by decide) ?_
  exact h
set_option maxRecDepth 4000 in
theorem b_X3_advance_8 {d : Nat} {t : Int} {Q : Int → jM → Prop} {σ : jM} (h : (inR (σ 271 7)) ∧ ((inR (σ 271 1)) ∧ (((σ 271 1) ≤ (σ 271 7) → (Jt mX3_advance (d + 1) 9 t Q 60 [rv 271] [] σ)) ∧ ((σ 271 7) < (σ 271 1) → (((0 : Int) ≤ (σ 271 7) ∧ (σ 271 7) < 300) ∧ ((inR (σ 272 (σ 271 7))) ∧ (((σ 272 (σ 271 7)) = 32 → (Jt mX3_advance (d + 1) 9 t Q 47 [rv 271] [] σ)) ∧ (¬ (σ 272 (σ 271 7)) = 32 → (((0 : Int) ≤ (σ 271 7) ∧ (σ 271 7) < 300) ∧ ((inR (σ 272 (σ 271 7))) ∧ ((¬ (σ 272 (σ 271 7)) = 10 → (Jt mX3_advance (d + 1) 9 t Q 60 [rv 271] [] σ)) ∧ ((σ 272 (σ 271 7)) = 10 → (Jt mX3_advance (d + 1) 9 t Q 47 [rv 271] [] σ))))))))))))) : Jt mX3_advance (d + 1) 9 t Q 8 [rv 271] [] σ := by
  refine s_aload_n (i := 0) rfl (show decode cX3_advance 8 = .ok (.aload_n 0, 1) by decide +kernel) ?_
  refine gf_X3_47 rfl (show decode cX3_advance 9 = .ok (.getfield 47, 3) by decide +kernel) okl_271 ?_
  refine s_aload_n (i := 0) rfl (show decode cX3_advance 12 = .ok (.aload_n 0, 1) by decide +kernel) ?_
  refine gf_X3_22 rfl (show decode cX3_advance 13 = .ok (.getfield 22, 3) by decide +kernel) okl_271 ?_
  have hr0 := h.1
  have h := h.2
  have hr1 := h.1
  have h := h.2
  refine j_icmp_ge (tgt := 60) hr0 hr1 (show decode cX3_advance 16 = .ok (.if_icmp .ge 44, 3) by decide +kernel) (by decide) (fun c => ?_) (fun c => ?_)
  · have h := h.1 c
    exact h
  · have h := h.2 c
    refine s_aload_n (i := 0) rfl (show decode cX3_advance 19 = .ok (.aload_n 0, 1) by decide +kernel) ?_
    refine gf_X3_11 (x := 272) rfl (show decode cX3_advance 20 = .ok (.getfield 11, 3) by decide +kernel) okl_271 rfl ?_
    refine s_aload_n (i := 0) rfl (show decode cX3_advance 23 = .ok (.aload_n 0, 1) by decide +kernel) ?_
    refine gf_X3_47 rfl (show decode cX3_advance 24 = .ok (.getfield 47, 3) by decide +kernel) okl_271 ?_
    refine s_iald (show decode cX3_advance 27 = .ok (.iaload, 1) by decide +kernel) okl_272 h.1 ?_
    have h := h.2
    refine j_bipush (n := 32) (by decide +kernel) (show decode cX3_advance 28 = .ok (.bipush 32, 2) by decide +kernel) ?_
    have hr2 := h.1
    have h := h.2
    refine j_icmp_eq (tgt := 47) hr2 (inl (by decide)) (show decode cX3_advance 30 = .ok (.if_icmp .eq 17, 3) by decide +kernel) (by decide) (fun c => ?_) (fun c => ?_)
    · have h := h.1 c
      exact h
    · have h := h.2 c
      refine s_aload_n (i := 0) rfl (show decode cX3_advance 33 = .ok (.aload_n 0, 1) by decide +kernel) ?_
      refine gf_X3_11 (x := 272) rfl (show decode cX3_advance 34 = .ok (.getfield 11, 3) by decide +kernel) okl_271 rfl ?_
      refine s_aload_n (i := 0) rfl (show decode cX3_advance 37 = .ok (.aload_n 0, 1) by decide +kernel) ?_
      refine gf_X3_47 rfl (show decode cX3_advance 38 = .ok (.getfield 47, 3) by decide +kernel) okl_271 ?_
      refine s_iald (show decode cX3_advance 41 = .ok (.iaload, 1) by decide +kernel) okl_272 h.1 ?_
      have h := h.2
      refine j_bipush (n := 10) (by decide +kernel) (show decode cX3_advance 42 = .ok (.bipush 10, 2) by decide +kernel) ?_
      have hr3 := h.1
      have h := h.2
      refine j_icmp_ne (tgt := 60) hr3 (inl (by decide)) (show decode cX3_advance 44 = .ok (.if_icmp .ne 16, 3) by decide +kernel) (by decide) (fun c => ?_) (fun c => ?_)
      · have h := h.1 c
        exact h
      · have h := h.2 c
        exact h
set_option maxRecDepth 4000 in
theorem b_X3_advance_0 {d : Nat} {t : Int} {Q : Int → jM → Prop} {σ : jM} (h : ∀ σ1 : jM, σ1 = up σ 271 7 (σ 271 8) → (Jt mX3_advance (d + 1) 9 t Q 8 [rv 271] [] σ1)) : Jt mX3_advance (d + 1) 9 t Q 0 [rv 271] [] σ := by
  refine s_aload_n (i := 0) rfl (show decode cX3_advance 0 = .ok (.aload_n 0, 1) by decide +kernel) ?_
  refine s_aload_n (i := 0) rfl (show decode cX3_advance 1 = .ok (.aload_n 0, 1) by decide +kernel) ?_
  refine gf_X3_34 rfl (show decode cX3_advance 2 = .ok (.getfield 34, 3) by decide +kernel) okl_271 ?_
  refine pf_X3_47 rfl (show decode cX3_advance 5 = .ok (.putfield 47, 3) by decide +kernel) okl_271 ?_
  obtain ⟨σ1, eσ1⟩ : ∃ z : jM, z = up σ 271 7 (σ 271 8) := ⟨_, rfl⟩
  refine j_sig eσ1 ?_
  have h := h σ1 eσ1
  exact h
theorem c_X3_advance {d : Nat} {t : Int} {Q : Int → jM → Prop} {σ : jM} (h : ∀ σ1 : jM, σ1 = up σ 271 7 (σ 271 8) → (Jt mX3_advance (d + 1) 9 t Q 8 [rv 271] [] σ1)) : Ct mX3_advance (d + 1) 9 t [rv 271] σ Q := Ct_of (by decide +kernel) (Nat.le_of_ble_eq_true rfl) (b_X3_advance_0 h)
set_option maxRecDepth 4000 in
theorem b_X3_readDigits_18 {d : Nat} {t : Int} {Q : Int → jM → Prop} {σ : jM} (h : (inR (σ 271 8)) ∧ ((inR (σ 271 1)) ∧ (((σ 271 1) ≤ (σ 271 8) → (Q 0 σ)) ∧ ((σ 271 8) < (σ 271 1) → (((0 : Int) ≤ (σ 271 8) ∧ (σ 271 8) < 300) ∧ (Ct mX3_isDigit d 0 t [iv (σ 272 (σ 271 8))] σ (fun r3 σ3 => ((inR r3) ∧ ((r3 = 0 → (Q 0 σ3)) ∧ (¬ r3 = 0 → (((0 : Int) ≤ (σ3 271 8) ∧ (σ3 271 8) < 300) ∧ ((inR ((((σ3 271 9) * 10) + (σ3 272 (σ3 271 8))) - 48)) ∧ (∀ σ6 : jM, σ6 = up σ3 271 9 (min 10000 ((((σ3 271 9) * 10) + (σ3 272 (σ3 271 8))) - 48)) → (∀ σ7 : jM, σ7 = up σ6 271 8 ((σ6 271 8) + 1) → (Jt mX3_readDigits (d + 1) 9 t Q 18 [rv 271] [] σ7))))))))))))))) : Jt mX3_readDigits (d + 1) 9 t Q 18 [rv 271] [] σ := by
  refine s_aload_n (i := 0) rfl (show decode cX3_readDigits 18 = .ok (.aload_n 0, 1) by decide +kernel) ?_
  refine gf_X3_34 rfl (show decode cX3_readDigits 19 = .ok (.getfield 34, 3) by decide +kernel) okl_271 ?_
  refine s_aload_n (i := 0) rfl (show decode cX3_readDigits 22 = .ok (.aload_n 0, 1) by decide +kernel) ?_
  refine gf_X3_22 rfl (show decode cX3_readDigits 23 = .ok (.getfield 22, 3) by decide +kernel) okl_271 ?_
  have hr0 := h.1
  have h := h.2
  have hr1 := h.1
  have h := h.2
  refine j_icmp_ge (tgt := 87) hr0 hr1 (show decode cX3_readDigits 26 = .ok (.if_icmp .ge 61, 3) by decide +kernel) (by decide) (fun c => ?_) (fun c => ?_)
  · have h := h.1 c
    exact j_ret (rokV (show decode cX3_readDigits 87 = .ok (.return_, 1) by decide +kernel) rfl) ⟨rfl, rfl, h⟩
  · have h := h.2 c
    refine s_aload_n (i := 0) rfl (show decode cX3_readDigits 29 = .ok (.aload_n 0, 1) by decide +kernel) ?_
    refine gf_X3_11 (x := 272) rfl (show decode cX3_readDigits 30 = .ok (.getfield 11, 3) by decide +kernel) okl_271 rfl ?_
    refine s_aload_n (i := 0) rfl (show decode cX3_readDigits 33 = .ok (.aload_n 0, 1) by decide +kernel) ?_
    refine gf_X3_34 rfl (show decode cX3_readDigits 34 = .ok (.getfield 34, 3) by decide +kernel) okl_271 ?_
    refine s_iald (show decode cX3_readDigits 37 = .ok (.iaload, 1) by decide +kernel) okl_272 h.1 ?_
    have h := h.2
    refine j_ctS (m' := mX3_isDigit) (As := [iv (σ 272 (σ 271 8))]) (tag := 0) (cw_X3_130 rfl) (show decode cX3_readDigits 38 = .ok (.invokestatic 130, 3) by decide +kernel) rfl (Nat.le_of_ble_eq_true rfl) (by decide) (Nat.le_refl _) h (fun r3 σ3 h => ?_)
    have hr3 := h.1
    have h := h.2
    refine j_if_eq (tgt := 87) hr3 (show decode cX3_readDigits 41 = .ok (.ifCond .eq 46, 3) by decide +kernel) (by decide) (fun c => ?_) (fun c => ?_)
    · have h := h.1 c
      exact j_ret (rokV (show decode cX3_readDigits 87 = .ok (.return_, 1) by decide +kernel) rfl) ⟨rfl, rfl, h⟩
    · have h := h.2 c
      refine s_aload_n (i := 0) rfl (show decode cX3_readDigits 44 = .ok (.aload_n 0, 1) by decide +kernel) ?_
      refine j_sipush (n := 10000) (by decide +kernel) (show decode cX3_readDigits 45 = .ok (.sipush 10000, 3) by decide +kernel) ?_
      refine s_aload_n (i := 0) rfl (show decode cX3_readDigits 48 = .ok (.aload_n 0, 1) by decide +kernel) ?_
      refine gf_X3_88 rfl (show decode cX3_readDigits 49 = .ok (.getfield 88, 3) by decide +kernel) okl_271 ?_
      refine j_bipush (n := 10) (by decide +kernel) (show decode cX3_readDigits 52 = .ok (.bipush 10, 2) by decide +kernel) ?_
      refine j_imul (show decode cX3_readDigits 54 = .ok (.imul, 1) by decide +kernel) ?_
      refine s_aload_n (i := 0) rfl (show decode cX3_readDigits 55 = .ok (.aload_n 0, 1) by decide +kernel) ?_
      refine gf_X3_11 (x := 272) rfl (show decode cX3_readDigits 56 = .ok (.getfield 11, 3) by decide +kernel) okl_271 rfl ?_
      refine s_aload_n (i := 0) rfl (show decode cX3_readDigits 59 = .ok (.aload_n 0, 1) by decide +kernel) ?_
      refine gf_X3_34 rfl (show decode cX3_readDigits 60 = .ok (.getfield 34, 3) by decide +kernel) okl_271 ?_
      refine s_iald (show decode cX3_readDigits 63 = .ok (.iaload, 1) by decide +kernel) okl_272 h.1 ?_
      have h := h.2
      refine j_iadd (show decode cX3_readDigits 64 = .ok (.iadd, 1) by decide +kernel) ?_
      refine j_bipush (n := 48) (by decide +kernel) (show decode cX3_readDigits 65 = .ok (.bipush 48, 2) by decide +kernel) ?_
      refine j_isub (show decode cX3_readDigits 67 = .ok (.isub, 1) by decide +kernel) ?_
      have hr4 := h.1
      have h := h.2
      refine j_min (tt_in 578 (by decide +kernel) rfl) (by omega) (Nat.le_of_ble_eq_true rfl) (inl (by decide)) hr4 (show decode cX3_readDigits 68 = .ok (.invokestatic 146, 3) by decide +kernel) ?_
      refine pf_X3_88 rfl (show decode cX3_readDigits 71 = .ok (.putfield 88, 3) by decide +kernel) okl_271 ?_
      obtain ⟨σ6, eσ6⟩ : ∃ z : jM, z = up σ3 271 9 (min 10000 ((((σ3 271 9) * 10) + (σ3 272 (σ3 271 8))) - 48)) := ⟨_, rfl⟩
      refine j_sig eσ6 ?_
      have h := h σ6 eσ6
      refine s_aload_n (i := 0) rfl (show decode cX3_readDigits 74 = .ok (.aload_n 0, 1) by decide +kernel) ?_
      refine j_dup (show (2 : Nat) ≠ 1 by decide) (show decode cX3_readDigits 75 = .ok (.dup, 1) by decide +kernel) ?_
      refine gf_X3_34 rfl (show decode cX3_readDigits 76 = .ok (.getfield 34, 3) by decide +kernel) okl_271 ?_
      refine j_iconst (show decode cX3_readDigits 79 = .ok (.iconst 1, 1) by decide +kernel) ?_
      refine j_iadd (show decode cX3_readDigits 80 = .ok (.iadd, 1) by decide +kernel) ?_
      refine pf_X3_34 rfl (show decode cX3_readDigits 81 = .ok (.putfield 34, 3) by decide +kernel) okl_271 ?_
      obtain ⟨σ7, eσ7⟩ : ∃ z : jM, z = up σ6 271 8 ((σ6 271 8) + 1) := ⟨_, rfl⟩
      refine j_sig eσ7 ?_
      have h := h σ7 eσ7
      refine j_goto (tgt := 18) (show decode cX3_readDigits 84 = .ok (.goto (-66), 3) by decide +kernel) (by decide) ?_
      exact h
set_option maxRecDepth 4000 in
theorem b_X3_readDigits_0 {d : Nat} {t : Int} {Q : Int → jM → Prop} {σ : jM} (h : ∀ σ1 : jM, σ1 = up σ 271 6 1 → (∀ σ2 : jM, σ2 = up σ1 271 9 0 → (∀ σ3 : jM, σ3 = up σ2 271 8 (σ2 271 7) → (Jt mX3_readDigits (d + 1) 9 t Q 18 [rv 271] [] σ3)))) : Jt mX3_readDigits (d + 1) 9 t Q 0 [rv 271] [] σ := by
  refine s_aload_n (i := 0) rfl (show decode cX3_readDigits 0 = .ok (.aload_n 0, 1) by decide +kernel) ?_
  refine j_iconst (show decode cX3_readDigits 1 = .ok (.iconst 1, 1) by decide +kernel) ?_
  refine pf_X3_40 rfl (show decode cX3_readDigits 2 = .ok (.putfield 40, 3) by decide +kernel) okl_271 ?_
  obtain ⟨σ1, eσ1⟩ : ∃ z : jM, z = up σ 271 6 1 := ⟨_, rfl⟩
  refine j_sig eσ1 ?_
  have h := h σ1 eσ1
  refine s_aload_n (i := 0) rfl (show decode cX3_readDigits 5 = .ok (.aload_n 0, 1) by decide +kernel) ?_
  refine j_iconst (show decode cX3_readDigits 6 = .ok (.iconst 0, 1) by decide +kernel) ?_
  refine pf_X3_88 rfl (show decode cX3_readDigits 7 = .ok (.putfield 88, 3) by decide +kernel) okl_271 ?_
  obtain ⟨σ2, eσ2⟩ : ∃ z : jM, z = up σ1 271 9 0 := ⟨_, rfl⟩
  refine j_sig eσ2 ?_
  have h := h σ2 eσ2
  refine s_aload_n (i := 0) rfl (show decode cX3_readDigits 10 = .ok (.aload_n 0, 1) by decide +kernel) ?_
  refine s_aload_n (i := 0) rfl (show decode cX3_readDigits 11 = .ok (.aload_n 0, 1) by decide +kernel) ?_
  refine gf_X3_47 rfl (show decode cX3_readDigits 12 = .ok (.getfield 47, 3) by decide +kernel) okl_271 ?_
  refine pf_X3_34 rfl (show decode cX3_readDigits 15 = .ok (.putfield 34, 3) by decide +kernel) okl_271 ?_
  obtain ⟨σ3, eσ3⟩ : ∃ z : jM, z = up σ2 271 8 (σ2 271 7) := ⟨_, rfl⟩
  refine j_sig eσ3 ?_
  have h := h σ3 eσ3
  exact h
theorem c_X3_readDigits {d : Nat} {t : Int} {Q : Int → jM → Prop} {σ : jM} (h : ∀ σ1 : jM, σ1 = up σ 271 6 1 → (∀ σ2 : jM, σ2 = up σ1 271 9 0 → (∀ σ3 : jM, σ3 = up σ2 271 8 (σ2 271 7) → (Jt mX3_readDigits (d + 1) 9 t Q 18 [rv 271] [] σ3)))) : Ct mX3_readDigits (d + 1) 9 t [rv 271] σ Q := Ct_of (by decide +kernel) (Nat.le_of_ble_eq_true rfl) (b_X3_readDigits_0 h)
set_option maxRecDepth 4000 in
theorem b_X3_signAt_181 {d : Nat} {t : Int} {Q : Int → jM → Prop} {σ : jM} {p1 v2 u0 : Int} (h : Q u0 σ) : Jt mX3_signAt (d) 0 t Q 181 [rv 271, iv p1, iv v2] [iv u0] σ := by
  exact j_ret (rokI (show decode cX3_signAt 181 = .ok (.ireturn, 1) by decide +kernel) rfl) ⟨rfl, rfl, h⟩
set_option maxRecDepth 4000 in
theorem b_X3_signAt_170 {d : Nat} {t : Int} {Q : Int → jM → Prop} {σ : jM} {p1 v2 u0 : Int} (h : Q u0 σ) : Jt mX3_signAt (d) 0 t Q 170 [rv 271, iv p1, iv v2] [iv u0] σ := by
  exact j_ret (rokI (show decode cX3_signAt 170 = .ok (.ireturn, 1) by decide +kernel) rfl) ⟨rfl, rfl, h⟩
set_option maxRecDepth 4000 in
theorem b_X3_signAt_28 {d : Nat} {t : Int} {Q : Int → jM → Prop} {σ : jM} {p1 u0 : Int} (h : ((0 : Int) ≤ p1 ∧ p1 < 300) ∧ ((inR (σ 272 p1)) ∧ (((σ 272 p1) < 35 ∨ 62 < (σ 272 p1) → (Q 2 σ)) ∧ ((σ 272 p1) = 35 → (((0 : Int) ≤ p1 ∧ p1 < 300) ∧ (Q (σ 272 p1) σ))) ∧ ((σ 272 p1) = 36 → (Q 2 σ)) ∧ ((σ 272 p1) = 37 → (Q 2 σ)) ∧ ((σ 272 p1) = 38 → (Q 2 σ)) ∧ ((σ 272 p1) = 39 → (Q 2 σ)) ∧ ((σ 272 p1) = 40 → (((0 : Int) ≤ p1 ∧ p1 < 300) ∧ (Q (σ 272 p1) σ))) ∧ ((σ 272 p1) = 41 → (((0 : Int) ≤ p1 ∧ p1 < 300) ∧ (Q (σ 272 p1) σ))) ∧ ((σ 272 p1) = 42 → (((0 : Int) ≤ p1 ∧ p1 < 300) ∧ (Q (σ 272 p1) σ))) ∧ ((σ 272 p1) = 43 → (((0 : Int) ≤ p1 ∧ p1 < 300) ∧ (Q (σ 272 p1) σ))) ∧ ((σ 272 p1) = 44 → (Q 2 σ)) ∧ ((σ 272 p1) = 45 → (((0 : Int) ≤ p1 ∧ p1 < 300) ∧ (Q (σ 272 p1) σ))) ∧ ((σ 272 p1) = 46 → (Q 2 σ)) ∧ ((σ 272 p1) = 47 → (((0 : Int) ≤ p1 ∧ p1 < 300) ∧ (Q (σ 272 p1) σ))) ∧ ((σ 272 p1) = 48 → (Q 2 σ)) ∧ ((σ 272 p1) = 49 → (Q 2 σ)) ∧ ((σ 272 p1) = 50 → (Q 2 σ)) ∧ ((σ 272 p1) = 51 → (Q 2 σ)) ∧ ((σ 272 p1) = 52 → (Q 2 σ)) ∧ ((σ 272 p1) = 53 → (Q 2 σ)) ∧ ((σ 272 p1) = 54 → (Q 2 σ)) ∧ ((σ 272 p1) = 55 → (Q 2 σ)) ∧ ((σ 272 p1) = 56 → (Q 2 σ)) ∧ ((σ 272 p1) = 57 → (Q 2 σ)) ∧ ((σ 272 p1) = 58 → (Q 2 σ)) ∧ ((σ 272 p1) = 59 → (((0 : Int) ≤ p1 ∧ p1 < 300) ∧ (Q (σ 272 p1) σ))) ∧ ((σ 272 p1) = 60 → ((inR u0) ∧ ((u0 = 0 → (Jt mX3_signAt (d) 0 t Q 170 [rv 271, iv p1, iv u0] [iv 60] σ)) ∧ (¬ u0 = 0 → (Jt mX3_signAt (d) 0 t Q 170 [rv 271, iv p1, iv u0] [iv 3] σ))))) ∧ ((σ 272 p1) = 61 → (((0 : Int) ≤ p1 ∧ p1 < 300) ∧ (Q (σ 272 p1) σ))) ∧ ((σ 272 p1) = 62 → ((inR u0) ∧ ((u0 = 0 → (Jt mX3_signAt (d) 0 t Q 181 [rv 271, iv p1, iv u0] [iv 62] σ)) ∧ (¬ u0 = 0 → (Jt mX3_signAt (d) 0 t Q 181 [rv 271, iv p1, iv u0] [iv 4] σ)))))))) : Jt mX3_signAt (d) 0 t Q 28 [rv 271, iv p1, uv] [iv u0] σ := by
  refine s_ist_n (i := 2) (L' := [rv 271, iv p1, iv u0]) rfl (by decide) (show decode cX3_signAt 28 = .ok (.istore_n 2, 1) by decide +kernel) ?_
  refine s_aload_n (i := 0) rfl (show decode cX3_signAt 29 = .ok (.aload_n 0, 1) by decide +kernel) ?_
  refine gf_X3_11 (x := 272) rfl (show decode cX3_signAt 30 = .ok (.getfield 11, 3) by decide +kernel) okl_271 rfl ?_
  refine j_iload_n (i := 1) rfl (show decode cX3_signAt 33 = .ok (.iload_n 1, 1) by decide +kernel) ?_
  refine s_iald (show decode cX3_signAt 34 = .ok (.iaload, 1) by decide +kernel) okl_272 h.1 ?_
  have h := h.2
  have hr0 := h.1
  have h := h.2
  rcases (show ((σ 272 p1) < 35 ∨ 62 < (σ 272 p1)) ∨ (σ 272 p1) = 35 ∨ (σ 272 p1) = 36 ∨ (σ 272 p1) = 37 ∨ (σ 272 p1) = 38 ∨ (σ 272 p1) = 39 ∨ (σ 272 p1) = 40 ∨ (σ 272 p1) = 41 ∨ (σ 272 p1) = 42 ∨ (σ 272 p1) = 43 ∨ (σ 272 p1) = 44 ∨ (σ 272 p1) = 45 ∨ (σ 272 p1) = 46 ∨ (σ 272 p1) = 47 ∨ (σ 272 p1) = 48 ∨ (σ 272 p1) = 49 ∨ (σ 272 p1) = 50 ∨ (σ 272 p1) = 51 ∨ (σ 272 p1) = 52 ∨ (σ 272 p1) = 53 ∨ (σ 272 p1) = 54 ∨ (σ 272 p1) = 55 ∨ (σ 272 p1) = 56 ∨ (σ 272 p1) = 57 ∨ (σ 272 p1) = 58 ∨ (σ 272 p1) = 59 ∨ (σ 272 p1) = 60 ∨ (σ 272 p1) = 61 ∨ (σ 272 p1) = 62 by omega) with c | c | c | c | c | c | c | c | c | c | c | c | c | c | c | c | c | c | c | c | c | c | c | c | c | c | c | c | c
  · refine j_tableOut (tgt := 189) hr0 (show decode cX3_signAt 35 = .ok (.tableswitch 154 35 62 #[147, 154, 154, 154, 154, 147, 147, 147, 147, 154, 147, 154, 147, 154, 154, 154, 154, 154, 154, 154, 154, 154, 154, 154, 147, 125, 147, 136], 125) by decide +kernel) c (by decide) ?_
    have h := h.1 c
    refine j_iconst (show decode cX3_signAt 189 = .ok (.iconst 2, 1) by decide +kernel) ?_
    exact j_ret (rokI (show decode cX3_signAt 190 = .ok (.ireturn, 1) by decide +kernel) rfl) ⟨rfl, rfl, h⟩
  · refine j_tableIn (tgt := 182) hr0 (show decode cX3_signAt 35 = .ok (.tableswitch 154 35 62 #[147, 154, 154, 154, 154, 147, 147, 147, 147, 154, 147, 154, 147, 154, 154, 154, 154, 154, 154, 154, 154, 154, 154, 154, 147, 125, 147, 136], 125) by decide +kernel) (by omega) (by omega) (by rw [c]; rfl) (by decide) ?_
    have h := h.2.1 c
    refine s_aload_n (i := 0) rfl (show decode cX3_signAt 182 = .ok (.aload_n 0, 1) by decide +kernel) ?_
    refine gf_X3_11 (x := 272) rfl (show decode cX3_signAt 183 = .ok (.getfield 11, 3) by decide +kernel) okl_271 rfl ?_
    refine j_iload_n (i := 1) rfl (show decode cX3_signAt 186 = .ok (.iload_n 1, 1) by decide +kernel) ?_
    refine s_iald (show decode cX3_signAt 187 = .ok (.iaload, 1) by decide +kernel) okl_272 h.1 ?_
    have h := h.2
    exact j_ret (rokI (show decode cX3_signAt 188 = .ok (.ireturn, 1) by decide +kernel) rfl) ⟨rfl, rfl, h⟩
  · refine j_tableIn (tgt := 189) hr0 (show decode cX3_signAt 35 = .ok (.tableswitch 154 35 62 #[147, 154, 154, 154, 154, 147, 147, 147, 147, 154, 147, 154, 147, 154, 154, 154, 154, 154, 154, 154, 154, 154, 154, 154, 147, 125, 147, 136], 125) by decide +kernel) (by omega) (by omega) (by rw [c]; rfl) (by decide) ?_
    have h := h.2.2.1 c
    refine j_iconst (show decode cX3_signAt 189 = .ok (.iconst 2, 1) by decide +kernel) ?_
    exact j_ret (rokI (show decode cX3_signAt 190 = .ok (.ireturn, 1) by decide +kernel) rfl) ⟨rfl, rfl, h⟩
  · refine j_tableIn (tgt := 189) hr0 (show decode cX3_signAt 35 = .ok (.tableswitch 154 35 62 #[147, 154, 154, 154, 154, 147, 147, 147, 147, 154, 147, 154, 147, 154, 154, 154, 154, 154, 154, 154, 154, 154, 154, 154, 147, 125, 147, 136], 125) by decide +kernel) (by omega) (by omega) (by rw [c]; rfl) (by decide) ?_
    have h := h.2.2.2.1 c
    refine j_iconst (show decode cX3_signAt 189 = .ok (.iconst 2, 1) by decide +kernel) ?_
    exact j_ret (rokI (show decode cX3_signAt 190 = .ok (.ireturn, 1) by decide +kernel) rfl) ⟨rfl, rfl, h⟩
  · refine j_tableIn (tgt := 189) hr0 (show decode cX3_signAt 35 = .ok (.tableswitch 154 35 62 #[147, 154, 154, 154, 154, 147, 147, 147, 147, 154, 147, 154, 147, 154, 154, 154, 154, 154, 154, 154, 154, 154, 154, 154, 147, 125, 147, 136], 125) by decide +kernel) (by omega) (by omega) (by rw [c]; rfl) (by decide) ?_
    have h := h.2.2.2.2.1 c
    refine j_iconst (show decode cX3_signAt 189 = .ok (.iconst 2, 1) by decide +kernel) ?_
    exact j_ret (rokI (show decode cX3_signAt 190 = .ok (.ireturn, 1) by decide +kernel) rfl) ⟨rfl, rfl, h⟩
  · refine j_tableIn (tgt := 189) hr0 (show decode cX3_signAt 35 = .ok (.tableswitch 154 35 62 #[147, 154, 154, 154, 154, 147, 147, 147, 147, 154, 147, 154, 147, 154, 154, 154, 154, 154, 154, 154, 154, 154, 154, 154, 147, 125, 147, 136], 125) by decide +kernel) (by omega) (by omega) (by rw [c]; rfl) (by decide) ?_
    have h := h.2.2.2.2.2.1 c
    refine j_iconst (show decode cX3_signAt 189 = .ok (.iconst 2, 1) by decide +kernel) ?_
    exact j_ret (rokI (show decode cX3_signAt 190 = .ok (.ireturn, 1) by decide +kernel) rfl) ⟨rfl, rfl, h⟩
  · refine j_tableIn (tgt := 182) hr0 (show decode cX3_signAt 35 = .ok (.tableswitch 154 35 62 #[147, 154, 154, 154, 154, 147, 147, 147, 147, 154, 147, 154, 147, 154, 154, 154, 154, 154, 154, 154, 154, 154, 154, 154, 147, 125, 147, 136], 125) by decide +kernel) (by omega) (by omega) (by rw [c]; rfl) (by decide) ?_
    have h := h.2.2.2.2.2.2.1 c
    refine s_aload_n (i := 0) rfl (show decode cX3_signAt 182 = .ok (.aload_n 0, 1) by decide +kernel) ?_
    refine gf_X3_11 (x := 272) rfl (show decode cX3_signAt 183 = .ok (.getfield 11, 3) by decide +kernel) okl_271 rfl ?_
    refine j_iload_n (i := 1) rfl (show decode cX3_signAt 186 = .ok (.iload_n 1, 1) by decide +kernel) ?_
    refine s_iald (show decode cX3_signAt 187 = .ok (.iaload, 1) by decide +kernel) okl_272 h.1 ?_
    have h := h.2
    exact j_ret (rokI (show decode cX3_signAt 188 = .ok (.ireturn, 1) by decide +kernel) rfl) ⟨rfl, rfl, h⟩
  · refine j_tableIn (tgt := 182) hr0 (show decode cX3_signAt 35 = .ok (.tableswitch 154 35 62 #[147, 154, 154, 154, 154, 147, 147, 147, 147, 154, 147, 154, 147, 154, 154, 154, 154, 154, 154, 154, 154, 154, 154, 154, 147, 125, 147, 136], 125) by decide +kernel) (by omega) (by omega) (by rw [c]; rfl) (by decide) ?_
    have h := h.2.2.2.2.2.2.2.1 c
    refine s_aload_n (i := 0) rfl (show decode cX3_signAt 182 = .ok (.aload_n 0, 1) by decide +kernel) ?_
    refine gf_X3_11 (x := 272) rfl (show decode cX3_signAt 183 = .ok (.getfield 11, 3) by decide +kernel) okl_271 rfl ?_
    refine j_iload_n (i := 1) rfl (show decode cX3_signAt 186 = .ok (.iload_n 1, 1) by decide +kernel) ?_
    refine s_iald (show decode cX3_signAt 187 = .ok (.iaload, 1) by decide +kernel) okl_272 h.1 ?_
    have h := h.2
    exact j_ret (rokI (show decode cX3_signAt 188 = .ok (.ireturn, 1) by decide +kernel) rfl) ⟨rfl, rfl, h⟩
  · refine j_tableIn (tgt := 182) hr0 (show decode cX3_signAt 35 = .ok (.tableswitch 154 35 62 #[147, 154, 154, 154, 154, 147, 147, 147, 147, 154, 147, 154, 147, 154, 154, 154, 154, 154, 154, 154, 154, 154, 154, 154, 147, 125, 147, 136], 125) by decide +kernel) (by omega) (by omega) (by rw [c]; rfl) (by decide) ?_
    have h := h.2.2.2.2.2.2.2.2.1 c
    refine s_aload_n (i := 0) rfl (show decode cX3_signAt 182 = .ok (.aload_n 0, 1) by decide +kernel) ?_
    refine gf_X3_11 (x := 272) rfl (show decode cX3_signAt 183 = .ok (.getfield 11, 3) by decide +kernel) okl_271 rfl ?_
    refine j_iload_n (i := 1) rfl (show decode cX3_signAt 186 = .ok (.iload_n 1, 1) by decide +kernel) ?_
    refine s_iald (show decode cX3_signAt 187 = .ok (.iaload, 1) by decide +kernel) okl_272 h.1 ?_
    have h := h.2
    exact j_ret (rokI (show decode cX3_signAt 188 = .ok (.ireturn, 1) by decide +kernel) rfl) ⟨rfl, rfl, h⟩
  · refine j_tableIn (tgt := 182) hr0 (show decode cX3_signAt 35 = .ok (.tableswitch 154 35 62 #[147, 154, 154, 154, 154, 147, 147, 147, 147, 154, 147, 154, 147, 154, 154, 154, 154, 154, 154, 154, 154, 154, 154, 154, 147, 125, 147, 136], 125) by decide +kernel) (by omega) (by omega) (by rw [c]; rfl) (by decide) ?_
    have h := h.2.2.2.2.2.2.2.2.2.1 c
    refine s_aload_n (i := 0) rfl (show decode cX3_signAt 182 = .ok (.aload_n 0, 1) by decide +kernel) ?_
    refine gf_X3_11 (x := 272) rfl (show decode cX3_signAt 183 = .ok (.getfield 11, 3) by decide +kernel) okl_271 rfl ?_
    refine j_iload_n (i := 1) rfl (show decode cX3_signAt 186 = .ok (.iload_n 1, 1) by decide +kernel) ?_
    refine s_iald (show decode cX3_signAt 187 = .ok (.iaload, 1) by decide +kernel) okl_272 h.1 ?_
    have h := h.2
    exact j_ret (rokI (show decode cX3_signAt 188 = .ok (.ireturn, 1) by decide +kernel) rfl) ⟨rfl, rfl, h⟩
  · refine j_tableIn (tgt := 189) hr0 (show decode cX3_signAt 35 = .ok (.tableswitch 154 35 62 #[147, 154, 154, 154, 154, 147, 147, 147, 147, 154, 147, 154, 147, 154, 154, 154, 154, 154, 154, 154, 154, 154, 154, 154, 147, 125, 147, 136], 125) by decide +kernel) (by omega) (by omega) (by rw [c]; rfl) (by decide) ?_
    have h := h.2.2.2.2.2.2.2.2.2.2.1 c
    refine j_iconst (show decode cX3_signAt 189 = .ok (.iconst 2, 1) by decide +kernel) ?_
    exact j_ret (rokI (show decode cX3_signAt 190 = .ok (.ireturn, 1) by decide +kernel) rfl) ⟨rfl, rfl, h⟩
  · refine j_tableIn (tgt := 182) hr0 (show decode cX3_signAt 35 = .ok (.tableswitch 154 35 62 #[147, 154, 154, 154, 154, 147, 147, 147, 147, 154, 147, 154, 147, 154, 154, 154, 154, 154, 154, 154, 154, 154, 154, 154, 147, 125, 147, 136], 125) by decide +kernel) (by omega) (by omega) (by rw [c]; rfl) (by decide) ?_
    have h := h.2.2.2.2.2.2.2.2.2.2.2.1 c
    refine s_aload_n (i := 0) rfl (show decode cX3_signAt 182 = .ok (.aload_n 0, 1) by decide +kernel) ?_
    refine gf_X3_11 (x := 272) rfl (show decode cX3_signAt 183 = .ok (.getfield 11, 3) by decide +kernel) okl_271 rfl ?_
    refine j_iload_n (i := 1) rfl (show decode cX3_signAt 186 = .ok (.iload_n 1, 1) by decide +kernel) ?_
    refine s_iald (show decode cX3_signAt 187 = .ok (.iaload, 1) by decide +kernel) okl_272 h.1 ?_
    have h := h.2
    exact j_ret (rokI (show decode cX3_signAt 188 = .ok (.ireturn, 1) by decide +kernel) rfl) ⟨rfl, rfl, h⟩
  · refine j_tableIn (tgt := 189) hr0 (show decode cX3_signAt 35 = .ok (.tableswitch 154 35 62 #[147, 154, 154, 154, 154, 147, 147, 147, 147, 154, 147, 154, 147, 154, 154, 154, 154, 154, 154, 154, 154, 154, 154, 154, 147, 125, 147, 136], 125) by decide +kernel) (by omega) (by omega) (by rw [c]; rfl) (by decide) ?_
    have h := h.2.2.2.2.2.2.2.2.2.2.2.2.1 c
    refine j_iconst (show decode cX3_signAt 189 = .ok (.iconst 2, 1) by decide +kernel) ?_
    exact j_ret (rokI (show decode cX3_signAt 190 = .ok (.ireturn, 1) by decide +kernel) rfl) ⟨rfl, rfl, h⟩
  · refine j_tableIn (tgt := 182) hr0 (show decode cX3_signAt 35 = .ok (.tableswitch 154 35 62 #[147, 154, 154, 154, 154, 147, 147, 147, 147, 154, 147, 154, 147, 154, 154, 154, 154, 154, 154, 154, 154, 154, 154, 154, 147, 125, 147, 136], 125) by decide +kernel) (by omega) (by omega) (by rw [c]; rfl) (by decide) ?_
    have h := h.2.2.2.2.2.2.2.2.2.2.2.2.2.1 c
    refine s_aload_n (i := 0) rfl (show decode cX3_signAt 182 = .ok (.aload_n 0, 1) by decide +kernel) ?_
    refine gf_X3_11 (x := 272) rfl (show decode cX3_signAt 183 = .ok (.getfield 11, 3) by decide +kernel) okl_271 rfl ?_
    refine j_iload_n (i := 1) rfl (show decode cX3_signAt 186 = .ok (.iload_n 1, 1) by decide +kernel) ?_
    refine s_iald (show decode cX3_signAt 187 = .ok (.iaload, 1) by decide +kernel) okl_272 h.1 ?_
    have h := h.2
    exact j_ret (rokI (show decode cX3_signAt 188 = .ok (.ireturn, 1) by decide +kernel) rfl) ⟨rfl, rfl, h⟩
  · refine j_tableIn (tgt := 189) hr0 (show decode cX3_signAt 35 = .ok (.tableswitch 154 35 62 #[147, 154, 154, 154, 154, 147, 147, 147, 147, 154, 147, 154, 147, 154, 154, 154, 154, 154, 154, 154, 154, 154, 154, 154, 147, 125, 147, 136], 125) by decide +kernel) (by omega) (by omega) (by rw [c]; rfl) (by decide) ?_
    have h := h.2.2.2.2.2.2.2.2.2.2.2.2.2.2.1 c
    refine j_iconst (show decode cX3_signAt 189 = .ok (.iconst 2, 1) by decide +kernel) ?_
    exact j_ret (rokI (show decode cX3_signAt 190 = .ok (.ireturn, 1) by decide +kernel) rfl) ⟨rfl, rfl, h⟩
  · refine j_tableIn (tgt := 189) hr0 (show decode cX3_signAt 35 = .ok (.tableswitch 154 35 62 #[147, 154, 154, 154, 154, 147, 147, 147, 147, 154, 147, 154, 147, 154, 154, 154, 154, 154, 154, 154, 154, 154, 154, 154, 147, 125, 147, 136], 125) by decide +kernel) (by omega) (by omega) (by rw [c]; rfl) (by decide) ?_
    have h := h.2.2.2.2.2.2.2.2.2.2.2.2.2.2.2.1 c
    refine j_iconst (show decode cX3_signAt 189 = .ok (.iconst 2, 1) by decide +kernel) ?_
    exact j_ret (rokI (show decode cX3_signAt 190 = .ok (.ireturn, 1) by decide +kernel) rfl) ⟨rfl, rfl, h⟩
  · refine j_tableIn (tgt := 189) hr0 (show decode cX3_signAt 35 = .ok (.tableswitch 154 35 62 #[147, 154, 154, 154, 154, 147, 147, 147, 147, 154, 147, 154, 147, 154, 154, 154, 154, 154, 154, 154, 154, 154, 154, 154, 147, 125, 147, 136], 125) by decide +kernel) (by omega) (by omega) (by rw [c]; rfl) (by decide) ?_
    have h := h.2.2.2.2.2.2.2.2.2.2.2.2.2.2.2.2.1 c
    refine j_iconst (show decode cX3_signAt 189 = .ok (.iconst 2, 1) by decide +kernel) ?_
    exact j_ret (rokI (show decode cX3_signAt 190 = .ok (.ireturn, 1) by decide +kernel) rfl) ⟨rfl, rfl, h⟩
  · refine j_tableIn (tgt := 189) hr0 (show decode cX3_signAt 35 = .ok (.tableswitch 154 35 62 #[147, 154, 154, 154, 154, 147, 147, 147, 147, 154, 147, 154, 147, 154, 154, 154, 154, 154, 154, 154, 154, 154, 154, 154, 147, 125, 147, 136], 125) by decide +kernel) (by omega) (by omega) (by rw [c]; rfl) (by decide) ?_
    have h := h.2.2.2.2.2.2.2.2.2.2.2.2.2.2.2.2.2.1 c
    refine j_iconst (show decode cX3_signAt 189 = .ok (.iconst 2, 1) by decide +kernel) ?_
    exact j_ret (rokI (show decode cX3_signAt 190 = .ok (.ireturn, 1) by decide +kernel) rfl) ⟨rfl, rfl, h⟩
  · refine j_tableIn (tgt := 189) hr0 (show decode cX3_signAt 35 = .ok (.tableswitch 154 35 62 #[147, 154, 154, 154, 154, 147, 147, 147, 147, 154, 147, 154, 147, 154, 154, 154, 154, 154, 154, 154, 154, 154, 154, 154, 147, 125, 147, 136], 125) by decide +kernel) (by omega) (by omega) (by rw [c]; rfl) (by decide) ?_
    have h := h.2.2.2.2.2.2.2.2.2.2.2.2.2.2.2.2.2.2.1 c
    refine j_iconst (show decode cX3_signAt 189 = .ok (.iconst 2, 1) by decide +kernel) ?_
    exact j_ret (rokI (show decode cX3_signAt 190 = .ok (.ireturn, 1) by decide +kernel) rfl) ⟨rfl, rfl, h⟩
  · refine j_tableIn (tgt := 189) hr0 (show decode cX3_signAt 35 = .ok (.tableswitch 154 35 62 #[147, 154, 154, 154, 154, 147, 147, 147, 147, 154, 147, 154, 147, 154, 154, 154, 154, 154, 154, 154, 154, 154, 154, 154, 147, 125, 147, 136], 125) by decide +kernel) (by omega) (by omega) (by rw [c]; rfl) (by decide) ?_
    have h := h.2.2.2.2.2.2.2.2.2.2.2.2.2.2.2.2.2.2.2.1 c
    refine j_iconst (show decode cX3_signAt 189 = .ok (.iconst 2, 1) by decide +kernel) ?_
    exact j_ret (rokI (show decode cX3_signAt 190 = .ok (.ireturn, 1) by decide +kernel) rfl) ⟨rfl, rfl, h⟩
  · refine j_tableIn (tgt := 189) hr0 (show decode cX3_signAt 35 = .ok (.tableswitch 154 35 62 #[147, 154, 154, 154, 154, 147, 147, 147, 147, 154, 147, 154, 147, 154, 154, 154, 154, 154, 154, 154, 154, 154, 154, 154, 147, 125, 147, 136], 125) by decide +kernel) (by omega) (by omega) (by rw [c]; rfl) (by decide) ?_
    have h := h.2.2.2.2.2.2.2.2.2.2.2.2.2.2.2.2.2.2.2.2.1 c
    refine j_iconst (show decode cX3_signAt 189 = .ok (.iconst 2, 1) by decide +kernel) ?_
    exact j_ret (rokI (show decode cX3_signAt 190 = .ok (.ireturn, 1) by decide +kernel) rfl) ⟨rfl, rfl, h⟩
  · refine j_tableIn (tgt := 189) hr0 (show decode cX3_signAt 35 = .ok (.tableswitch 154 35 62 #[147, 154, 154, 154, 154, 147, 147, 147, 147, 154, 147, 154, 147, 154, 154, 154, 154, 154, 154, 154, 154, 154, 154, 154, 147, 125, 147, 136], 125) by decide +kernel) (by omega) (by omega) (by rw [c]; rfl) (by decide) ?_
    have h := h.2.2.2.2.2.2.2.2.2.2.2.2.2.2.2.2.2.2.2.2.2.1 c
    refine j_iconst (show decode cX3_signAt 189 = .ok (.iconst 2, 1) by decide +kernel) ?_
    exact j_ret (rokI (show decode cX3_signAt 190 = .ok (.ireturn, 1) by decide +kernel) rfl) ⟨rfl, rfl, h⟩
  · refine j_tableIn (tgt := 189) hr0 (show decode cX3_signAt 35 = .ok (.tableswitch 154 35 62 #[147, 154, 154, 154, 154, 147, 147, 147, 147, 154, 147, 154, 147, 154, 154, 154, 154, 154, 154, 154, 154, 154, 154, 154, 147, 125, 147, 136], 125) by decide +kernel) (by omega) (by omega) (by rw [c]; rfl) (by decide) ?_
    have h := h.2.2.2.2.2.2.2.2.2.2.2.2.2.2.2.2.2.2.2.2.2.2.1 c
    refine j_iconst (show decode cX3_signAt 189 = .ok (.iconst 2, 1) by decide +kernel) ?_
    exact j_ret (rokI (show decode cX3_signAt 190 = .ok (.ireturn, 1) by decide +kernel) rfl) ⟨rfl, rfl, h⟩
  · refine j_tableIn (tgt := 189) hr0 (show decode cX3_signAt 35 = .ok (.tableswitch 154 35 62 #[147, 154, 154, 154, 154, 147, 147, 147, 147, 154, 147, 154, 147, 154, 154, 154, 154, 154, 154, 154, 154, 154, 154, 154, 147, 125, 147, 136], 125) by decide +kernel) (by omega) (by omega) (by rw [c]; rfl) (by decide) ?_
    have h := h.2.2.2.2.2.2.2.2.2.2.2.2.2.2.2.2.2.2.2.2.2.2.2.1 c
    refine j_iconst (show decode cX3_signAt 189 = .ok (.iconst 2, 1) by decide +kernel) ?_
    exact j_ret (rokI (show decode cX3_signAt 190 = .ok (.ireturn, 1) by decide +kernel) rfl) ⟨rfl, rfl, h⟩
  · refine j_tableIn (tgt := 189) hr0 (show decode cX3_signAt 35 = .ok (.tableswitch 154 35 62 #[147, 154, 154, 154, 154, 147, 147, 147, 147, 154, 147, 154, 147, 154, 154, 154, 154, 154, 154, 154, 154, 154, 154, 154, 147, 125, 147, 136], 125) by decide +kernel) (by omega) (by omega) (by rw [c]; rfl) (by decide) ?_
    have h := h.2.2.2.2.2.2.2.2.2.2.2.2.2.2.2.2.2.2.2.2.2.2.2.2.1 c
    refine j_iconst (show decode cX3_signAt 189 = .ok (.iconst 2, 1) by decide +kernel) ?_
    exact j_ret (rokI (show decode cX3_signAt 190 = .ok (.ireturn, 1) by decide +kernel) rfl) ⟨rfl, rfl, h⟩
  · refine j_tableIn (tgt := 182) hr0 (show decode cX3_signAt 35 = .ok (.tableswitch 154 35 62 #[147, 154, 154, 154, 154, 147, 147, 147, 147, 154, 147, 154, 147, 154, 154, 154, 154, 154, 154, 154, 154, 154, 154, 154, 147, 125, 147, 136], 125) by decide +kernel) (by omega) (by omega) (by rw [c]; rfl) (by decide) ?_
    have h := h.2.2.2.2.2.2.2.2.2.2.2.2.2.2.2.2.2.2.2.2.2.2.2.2.2.1 c
    refine s_aload_n (i := 0) rfl (show decode cX3_signAt 182 = .ok (.aload_n 0, 1) by decide +kernel) ?_
    refine gf_X3_11 (x := 272) rfl (show decode cX3_signAt 183 = .ok (.getfield 11, 3) by decide +kernel) okl_271 rfl ?_
    refine j_iload_n (i := 1) rfl (show decode cX3_signAt 186 = .ok (.iload_n 1, 1) by decide +kernel) ?_
    refine s_iald (show decode cX3_signAt 187 = .ok (.iaload, 1) by decide +kernel) okl_272 h.1 ?_
    have h := h.2
    exact j_ret (rokI (show decode cX3_signAt 188 = .ok (.ireturn, 1) by decide +kernel) rfl) ⟨rfl, rfl, h⟩
  · refine j_tableIn (tgt := 160) hr0 (show decode cX3_signAt 35 = .ok (.tableswitch 154 35 62 #[147, 154, 154, 154, 154, 147, 147, 147, 147, 154, 147, 154, 147, 154, 154, 154, 154, 154, 154, 154, 154, 154, 154, 154, 147, 125, 147, 136], 125) by decide +kernel) (by omega) (by omega) (by rw [c]; rfl) (by decide) ?_
    have h := h.2.2.2.2.2.2.2.2.2.2.2.2.2.2.2.2.2.2.2.2.2.2.2.2.2.2.1 c
    refine j_iload_n (i := 2) rfl (show decode cX3_signAt 160 = .ok (.iload_n 2, 1) by decide +kernel) ?_
    have hr1 := h.1
    have h := h.2
    refine j_if_eq (tgt := 168) hr1 (show decode cX3_signAt 161 = .ok (.ifCond .eq 7, 3) by decide +kernel) (by decide) (fun c => ?_) (fun c => ?_)
    · have h := h.1 c
      refine j_bipush (n := 60) (by decide +kernel) (show decode cX3_signAt 168 = .ok (.bipush 60, 2) by decide +kernel) ?_
      exact h
    · have h := h.2 c
      refine j_iconst (show decode cX3_signAt 164 = .ok (.iconst 3, 1) by decide +kernel) ?_
      refine j_goto (tgt := 170) (show decode cX3_signAt 165 = .ok (.goto 5, 3) by decide +kernel) (by decide) ?_
      exact h
  · refine j_tableIn (tgt := 182) hr0 (show decode cX3_signAt 35 = .ok (.tableswitch 154 35 62 #[147, 154, 154, 154, 154, 147, 147, 147, 147, 154, 147, 154, 147, 154, 154, 154, 154, 154, 154, 154, 154, 154, 154, 154, 147, 125, 147, 136], 125) by decide +kernel) (by omega) (by omega) (by rw [c]; rfl) (by decide) ?_
    have h := h.2.2.2.2.2.2.2.2.2.2.2.2.2.2.2.2.2.2.2.2.2.2.2.2.2.2.2.1 c
    refine s_aload_n (i := 0) rfl (show decode cX3_signAt 182 = .ok (.aload_n 0, 1) by decide +kernel) ?_
    refine gf_X3_11 (x := 272) rfl (show decode cX3_signAt 183 = .ok (.getfield 11, 3) by decide +kernel) okl_271 rfl ?_
    refine j_iload_n (i := 1) rfl (show decode cX3_signAt 186 = .ok (.iload_n 1, 1) by decide +kernel) ?_
    refine s_iald (show decode cX3_signAt 187 = .ok (.iaload, 1) by decide +kernel) okl_272 h.1 ?_
    have h := h.2
    exact j_ret (rokI (show decode cX3_signAt 188 = .ok (.ireturn, 1) by decide +kernel) rfl) ⟨rfl, rfl, h⟩
  · refine j_tableIn (tgt := 171) hr0 (show decode cX3_signAt 35 = .ok (.tableswitch 154 35 62 #[147, 154, 154, 154, 154, 147, 147, 147, 147, 154, 147, 154, 147, 154, 154, 154, 154, 154, 154, 154, 154, 154, 154, 154, 147, 125, 147, 136], 125) by decide +kernel) (by omega) (by omega) (by rw [c]; rfl) (by decide) ?_
    have h := h.2.2.2.2.2.2.2.2.2.2.2.2.2.2.2.2.2.2.2.2.2.2.2.2.2.2.2.2 c
    refine j_iload_n (i := 2) rfl (show decode cX3_signAt 171 = .ok (.iload_n 2, 1) by decide +kernel) ?_
    have hr2 := h.1
    have h := h.2
    refine j_if_eq (tgt := 179) hr2 (show decode cX3_signAt 172 = .ok (.ifCond .eq 7, 3) by decide +kernel) (by decide) (fun c => ?_) (fun c => ?_)
    · have h := h.1 c
      refine j_bipush (n := 62) (by decide +kernel) (show decode cX3_signAt 179 = .ok (.bipush 62, 2) by decide +kernel) ?_
      exact h
    · have h := h.2 c
      refine j_iconst (show decode cX3_signAt 175 = .ok (.iconst 4, 1) by decide +kernel) ?_
      refine j_goto (tgt := 181) (show decode cX3_signAt 176 = .ok (.goto 5, 3) by decide +kernel) (by decide) ?_
      exact h
set_option maxRecDepth 4000 in
theorem b_X3_signAt_0 {d : Nat} {t : Int} {Q : Int → jM → Prop} {σ : jM} {p1 : Int} (h : (inR (p1 + 1)) ∧ ((inR (σ 271 1)) ∧ (((σ 271 1) ≤ (p1 + 1) → (Jt mX3_signAt (d) 0 t Q 28 [rv 271, iv p1, uv] [iv 0] σ)) ∧ ((p1 + 1) < (σ 271 1) → (((0 : Int) ≤ (p1 + 1) ∧ (p1 + 1) < 300) ∧ ((inR (σ 272 (p1 + 1))) ∧ ((¬ (σ 272 (p1 + 1)) = 61 → (Jt mX3_signAt (d) 0 t Q 28 [rv 271, iv p1, uv] [iv 0] σ)) ∧ ((σ 272 (p1 + 1)) = 61 → (Jt mX3_signAt (d) 0 t Q 28 [rv 271, iv p1, uv] [iv 1] σ))))))))) : Jt mX3_signAt (d) 0 t Q 0 [rv 271, iv p1, uv] [] σ := by
  refine j_iload_n (i := 1) rfl (show decode cX3_signAt 0 = .ok (.iload_n 1, 1) by decide +kernel) ?_
  refine j_iconst (show decode cX3_signAt 1 = .ok (.iconst 1, 1) by decide +kernel) ?_
  refine j_iadd (show decode cX3_signAt 2 = .ok (.iadd, 1) by decide +kernel) ?_
  refine s_aload_n (i := 0) rfl (show decode cX3_signAt 3 = .ok (.aload_n 0, 1) by decide +kernel) ?_
  refine gf_X3_22 rfl (show decode cX3_signAt 4 = .ok (.getfield 22, 3) by decide +kernel) okl_271 ?_
  have hr0 := h.1
  have h := h.2
  have hr1 := h.1
  have h := h.2
  refine j_icmp_ge (tgt := 27) hr0 hr1 (show decode cX3_signAt 7 = .ok (.if_icmp .ge 20, 3) by decide +kernel) (by decide) (fun c => ?_) (fun c => ?_)
  · have h := h.1 c
    refine j_iconst (show decode cX3_signAt 27 = .ok (.iconst 0, 1) by decide +kernel) ?_
    exact h
  · have h := h.2 c
    refine s_aload_n (i := 0) rfl (show decode cX3_signAt 10 = .ok (.aload_n 0, 1) by decide +kernel) ?_
    refine gf_X3_11 (x := 272) rfl (show decode cX3_signAt 11 = .ok (.getfield 11, 3) by decide +kernel) okl_271 rfl ?_
    refine j_iload_n (i := 1) rfl (show decode cX3_signAt 14 = .ok (.iload_n 1, 1) by decide +kernel) ?_
    refine j_iconst (show decode cX3_signAt 15 = .ok (.iconst 1, 1) by decide +kernel) ?_
    refine j_iadd (show decode cX3_signAt 16 = .ok (.iadd, 1) by decide +kernel) ?_
    refine s_iald (show decode cX3_signAt 17 = .ok (.iaload, 1) by decide +kernel) okl_272 h.1 ?_
    have h := h.2
    refine j_bipush (n := 61) (by decide +kernel) (show decode cX3_signAt 18 = .ok (.bipush 61, 2) by decide +kernel) ?_
    have hr2 := h.1
    have h := h.2
    refine j_icmp_ne (tgt := 27) hr2 (inl (by decide)) (show decode cX3_signAt 20 = .ok (.if_icmp .ne 7, 3) by decide +kernel) (by decide) (fun c => ?_) (fun c => ?_)
    · have h := h.1 c
      refine j_iconst (show decode cX3_signAt 27 = .ok (.iconst 0, 1) by decide +kernel) ?_
      exact h
    · have h := h.2 c
      refine j_iconst (show decode cX3_signAt 23 = .ok (.iconst 1, 1) by decide +kernel) ?_
      refine j_goto (tgt := 28) (show decode cX3_signAt 24 = .ok (.goto 4, 3) by decide +kernel) (by decide) ?_
      exact h
theorem c_X3_signAt {d : Nat} {t : Int} {Q : Int → jM → Prop} {σ : jM} {p1 : Int} (h : (inR (p1 + 1)) ∧ ((inR (σ 271 1)) ∧ (((σ 271 1) ≤ (p1 + 1) → (Jt mX3_signAt (d) 0 t Q 28 [rv 271, iv p1, uv] [iv 0] σ)) ∧ ((p1 + 1) < (σ 271 1) → (((0 : Int) ≤ (p1 + 1) ∧ (p1 + 1) < 300) ∧ ((inR (σ 272 (p1 + 1))) ∧ ((¬ (σ 272 (p1 + 1)) = 61 → (Jt mX3_signAt (d) 0 t Q 28 [rv 271, iv p1, uv] [iv 0] σ)) ∧ ((σ 272 (p1 + 1)) = 61 → (Jt mX3_signAt (d) 0 t Q 28 [rv 271, iv p1, uv] [iv 1] σ))))))))) : Ct mX3_signAt (d) 0 t [rv 271, iv p1] σ Q := Ct_of (by decide +kernel) (Nat.le_of_ble_eq_true rfl) (b_X3_signAt_0 h)
set_option maxRecDepth 4000 in
theorem b_X3_isDigit_0 {d : Nat} {t : Int} {Q : Int → jM → Prop} {σ : jM} {p0 : Int} (h : (inR p0) ∧ ((p0 < 48 → (Q 0 σ)) ∧ (48 ≤ p0 → ((inR p0) ∧ ((57 < p0 → (Q 0 σ)) ∧ (p0 ≤ 57 → (Q 1 σ))))))) : Jt mX3_isDigit (d) 0 t Q 0 [iv p0] [] σ := by
  refine j_iload_n (i := 0) rfl (show decode cX3_isDigit 0 = .ok (.iload_n 0, 1) by decide +kernel) ?_
  refine j_bipush (n := 48) (by decide +kernel) (show decode cX3_isDigit 1 = .ok (.bipush 48, 2) by decide +kernel) ?_
  have hr0 := h.1
  have h := h.2
  refine j_icmp_lt (tgt := 16) hr0 (inl (by decide)) (show decode cX3_isDigit 3 = .ok (.if_icmp .lt 13, 3) by decide +kernel) (by decide) (fun c => ?_) (fun c => ?_)
  · have h := h.1 c
    refine j_iconst (show decode cX3_isDigit 16 = .ok (.iconst 0, 1) by decide +kernel) ?_
    exact j_ret (rokZ (show decode cX3_isDigit 17 = .ok (.ireturn, 1) by decide +kernel) rfl (Or.inl rfl)) ⟨rfl, rfl, h⟩
  · have h := h.2 c
    refine j_iload_n (i := 0) rfl (show decode cX3_isDigit 6 = .ok (.iload_n 0, 1) by decide +kernel) ?_
    refine j_bipush (n := 57) (by decide +kernel) (show decode cX3_isDigit 7 = .ok (.bipush 57, 2) by decide +kernel) ?_
    have hr1 := h.1
    have h := h.2
    refine j_icmp_gt (tgt := 16) hr1 (inl (by decide)) (show decode cX3_isDigit 9 = .ok (.if_icmp .gt 7, 3) by decide +kernel) (by decide) (fun c => ?_) (fun c => ?_)
    · have h := h.1 c
      refine j_iconst (show decode cX3_isDigit 16 = .ok (.iconst 0, 1) by decide +kernel) ?_
      exact j_ret (rokZ (show decode cX3_isDigit 17 = .ok (.ireturn, 1) by decide +kernel) rfl (Or.inl rfl)) ⟨rfl, rfl, h⟩
    · have h := h.2 c
      refine j_iconst (show decode cX3_isDigit 12 = .ok (.iconst 1, 1) by decide +kernel) ?_
      refine j_goto (tgt := 17) (show decode cX3_isDigit 13 = .ok (.goto 4, 3) by decide +kernel) (by decide) ?_
      exact j_ret (rokZ (show decode cX3_isDigit 17 = .ok (.ireturn, 1) by decide +kernel) rfl (Or.inr rfl)) ⟨rfl, rfl, h⟩
theorem c_X3_isDigit {d : Nat} {t : Int} {Q : Int → jM → Prop} {σ : jM} {p0 : Int} (h : (inR p0) ∧ ((p0 < 48 → (Q 0 σ)) ∧ (48 ≤ p0 → ((inR p0) ∧ ((57 < p0 → (Q 0 σ)) ∧ (p0 ≤ 57 → (Q 1 σ))))))) : Ct mX3_isDigit (d) 0 t [iv p0] σ Q := Ct_of (by decide +kernel) (Nat.le_of_ble_eq_true rfl) (b_X3_isDigit_0 h)
set_option maxRecDepth 4000 in
theorem b_X3_isLetter_0 {d : Nat} {t : Int} {Q : Int → jM → Prop} {σ : jM} {p0 : Int} (h : (inR p0) ∧ ((p0 < 97 → ((inR p0) ∧ ((p0 < 65 → (Q 0 σ)) ∧ (65 ≤ p0 → ((inR p0) ∧ ((90 < p0 → (Q 0 σ)) ∧ (p0 ≤ 90 → (Q 1 σ)))))))) ∧ (97 ≤ p0 → ((inR p0) ∧ ((p0 ≤ 122 → (Q 1 σ)) ∧ (122 < p0 → ((inR p0) ∧ ((p0 < 65 → (Q 0 σ)) ∧ (65 ≤ p0 → ((inR p0) ∧ ((90 < p0 → (Q 0 σ)) ∧ (p0 ≤ 90 → (Q 1 σ))))))))))))) : Jt mX3_isLetter (d) 0 t Q 0 [iv p0] [] σ := by
  refine j_iload_n (i := 0) rfl (show decode cX3_isLetter 0 = .ok (.iload_n 0, 1) by decide +kernel) ?_
  refine j_bipush (n := 97) (by decide +kernel) (show decode cX3_isLetter 1 = .ok (.bipush 97, 2) by decide +kernel) ?_
  have hr0 := h.1
  have h := h.2
  refine j_icmp_lt (tgt := 12) hr0 (inl (by decide)) (show decode cX3_isLetter 3 = .ok (.if_icmp .lt 9, 3) by decide +kernel) (by decide) (fun c => ?_) (fun c => ?_)
  · have h := h.1 c
    refine j_iload_n (i := 0) rfl (show decode cX3_isLetter 12 = .ok (.iload_n 0, 1) by decide +kernel) ?_
    refine j_bipush (n := 65) (by decide +kernel) (show decode cX3_isLetter 13 = .ok (.bipush 65, 2) by decide +kernel) ?_
    have hr1 := h.1
    have h := h.2
    refine j_icmp_lt (tgt := 28) hr1 (inl (by decide)) (show decode cX3_isLetter 15 = .ok (.if_icmp .lt 13, 3) by decide +kernel) (by decide) (fun c => ?_) (fun c => ?_)
    · have h := h.1 c
      refine j_iconst (show decode cX3_isLetter 28 = .ok (.iconst 0, 1) by decide +kernel) ?_
      exact j_ret (rokZ (show decode cX3_isLetter 29 = .ok (.ireturn, 1) by decide +kernel) rfl (Or.inl rfl)) ⟨rfl, rfl, h⟩
    · have h := h.2 c
      refine j_iload_n (i := 0) rfl (show decode cX3_isLetter 18 = .ok (.iload_n 0, 1) by decide +kernel) ?_
      refine j_bipush (n := 90) (by decide +kernel) (show decode cX3_isLetter 19 = .ok (.bipush 90, 2) by decide +kernel) ?_
      have hr2 := h.1
      have h := h.2
      refine j_icmp_gt (tgt := 28) hr2 (inl (by decide)) (show decode cX3_isLetter 21 = .ok (.if_icmp .gt 7, 3) by decide +kernel) (by decide) (fun c => ?_) (fun c => ?_)
      · have h := h.1 c
        refine j_iconst (show decode cX3_isLetter 28 = .ok (.iconst 0, 1) by decide +kernel) ?_
        exact j_ret (rokZ (show decode cX3_isLetter 29 = .ok (.ireturn, 1) by decide +kernel) rfl (Or.inl rfl)) ⟨rfl, rfl, h⟩
      · have h := h.2 c
        refine j_iconst (show decode cX3_isLetter 24 = .ok (.iconst 1, 1) by decide +kernel) ?_
        refine j_goto (tgt := 29) (show decode cX3_isLetter 25 = .ok (.goto 4, 3) by decide +kernel) (by decide) ?_
        exact j_ret (rokZ (show decode cX3_isLetter 29 = .ok (.ireturn, 1) by decide +kernel) rfl (Or.inr rfl)) ⟨rfl, rfl, h⟩
  · have h := h.2 c
    refine j_iload_n (i := 0) rfl (show decode cX3_isLetter 6 = .ok (.iload_n 0, 1) by decide +kernel) ?_
    refine j_bipush (n := 122) (by decide +kernel) (show decode cX3_isLetter 7 = .ok (.bipush 122, 2) by decide +kernel) ?_
    have hr3 := h.1
    have h := h.2
    refine j_icmp_le (tgt := 24) hr3 (inl (by decide)) (show decode cX3_isLetter 9 = .ok (.if_icmp .le 15, 3) by decide +kernel) (by decide) (fun c => ?_) (fun c => ?_)
    · have h := h.1 c
      refine j_iconst (show decode cX3_isLetter 24 = .ok (.iconst 1, 1) by decide +kernel) ?_
      refine j_goto (tgt := 29) (show decode cX3_isLetter 25 = .ok (.goto 4, 3) by decide +kernel) (by decide) ?_
      exact j_ret (rokZ (show decode cX3_isLetter 29 = .ok (.ireturn, 1) by decide +kernel) rfl (Or.inr rfl)) ⟨rfl, rfl, h⟩
    · have h := h.2 c
      refine j_iload_n (i := 0) rfl (show decode cX3_isLetter 12 = .ok (.iload_n 0, 1) by decide +kernel) ?_
      refine j_bipush (n := 65) (by decide +kernel) (show decode cX3_isLetter 13 = .ok (.bipush 65, 2) by decide +kernel) ?_
      have hr4 := h.1
      have h := h.2
      refine j_icmp_lt (tgt := 28) hr4 (inl (by decide)) (show decode cX3_isLetter 15 = .ok (.if_icmp .lt 13, 3) by decide +kernel) (by decide) (fun c => ?_) (fun c => ?_)
      · have h := h.1 c
        refine j_iconst (show decode cX3_isLetter 28 = .ok (.iconst 0, 1) by decide +kernel) ?_
        exact j_ret (rokZ (show decode cX3_isLetter 29 = .ok (.ireturn, 1) by decide +kernel) rfl (Or.inl rfl)) ⟨rfl, rfl, h⟩
      · have h := h.2 c
        refine j_iload_n (i := 0) rfl (show decode cX3_isLetter 18 = .ok (.iload_n 0, 1) by decide +kernel) ?_
        refine j_bipush (n := 90) (by decide +kernel) (show decode cX3_isLetter 19 = .ok (.bipush 90, 2) by decide +kernel) ?_
        have hr5 := h.1
        have h := h.2
        refine j_icmp_gt (tgt := 28) hr5 (inl (by decide)) (show decode cX3_isLetter 21 = .ok (.if_icmp .gt 7, 3) by decide +kernel) (by decide) (fun c => ?_) (fun c => ?_)
        · have h := h.1 c
          refine j_iconst (show decode cX3_isLetter 28 = .ok (.iconst 0, 1) by decide +kernel) ?_
          exact j_ret (rokZ (show decode cX3_isLetter 29 = .ok (.ireturn, 1) by decide +kernel) rfl (Or.inl rfl)) ⟨rfl, rfl, h⟩
        · have h := h.2 c
          refine j_iconst (show decode cX3_isLetter 24 = .ok (.iconst 1, 1) by decide +kernel) ?_
          refine j_goto (tgt := 29) (show decode cX3_isLetter 25 = .ok (.goto 4, 3) by decide +kernel) (by decide) ?_
          exact j_ret (rokZ (show decode cX3_isLetter 29 = .ok (.ireturn, 1) by decide +kernel) rfl (Or.inr rfl)) ⟨rfl, rfl, h⟩
theorem c_X3_isLetter {d : Nat} {t : Int} {Q : Int → jM → Prop} {σ : jM} {p0 : Int} (h : (inR p0) ∧ ((p0 < 97 → ((inR p0) ∧ ((p0 < 65 → (Q 0 σ)) ∧ (65 ≤ p0 → ((inR p0) ∧ ((90 < p0 → (Q 0 σ)) ∧ (p0 ≤ 90 → (Q 1 σ)))))))) ∧ (97 ≤ p0 → ((inR p0) ∧ ((p0 ≤ 122 → (Q 1 σ)) ∧ (122 < p0 → ((inR p0) ∧ ((p0 < 65 → (Q 0 σ)) ∧ (65 ≤ p0 → ((inR p0) ∧ ((90 < p0 → (Q 0 σ)) ∧ (p0 ≤ 90 → (Q 1 σ))))))))))))) : Ct mX3_isLetter (d) 0 t [iv p0] σ Q := Ct_of (by decide +kernel) (Nat.le_of_ble_eq_true rfl) (b_X3_isLetter_0 h)
