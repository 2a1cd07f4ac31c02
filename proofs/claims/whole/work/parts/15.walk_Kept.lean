/-! ===== walks (printed by wip/whole/gen_blocks.py) ===== -/
set_option maxRecDepth 4000 in
theorem b_X7_remember_0 {d : Nat} {t : Int} {Q : Int → jM → Prop} {σ : jM} {a0 p1 : Int} (h0 : ob (GG t) a0 7) (h1 : ob (GG t) p1 1) (h : (inR ((σ a0 1) + (σ a0 2))) ∧ (((0 : Int) ≤ (Int.tmod ((σ a0 1) + (σ a0 2)) 30) ∧ (Int.tmod ((σ a0 1) + (σ a0 2)) 30) < 30) ∧ (Ct mX1_copyFrom d 9 t [rv ((a0 + 1) + 1 + 4 * (Int.tmod ((σ a0 1) + (σ a0 2)) 30)), rv p1] σ (fun r3 σ3 => ((inR (σ3 a0 2)) ∧ ((30 ≤ (σ3 a0 2) → ((inR ((σ3 a0 1) + 1)) ∧ (∀ σ6 : jM, σ6 = up σ3 a0 1 (Int.tmod ((σ3 a0 1) + 1) 30) → (Q 0 σ6)))) ∧ ((σ3 a0 2) < 30 → (∀ σ7 : jM, σ7 = up σ3 a0 2 ((σ3 a0 2) + 1) → (Q 0 σ7))))))))) : Jt mX7_remember (d + 1) 9 t Q 0 [rv a0, rv p1] [] σ := by
  refine s_aload_n (i := 0) rfl (show decode cX7_remember 0 = .ok (.aload_n 0, 1) by decide +kernel) ?_
  refine gf_X7_11 (x := (a0 + 1)) rfl (show decode cX7_remember 1 = .ok (.getfield 11, 3) by decide +kernel) h0 (gr_7_0 h0) ?_
  refine s_aload_n (i := 0) rfl (show decode cX7_remember 4 = .ok (.aload_n 0, 1) by decide +kernel) ?_
  refine gf_X7_16 rfl (show decode cX7_remember 5 = .ok (.getfield 16, 3) by decide +kernel) h0 ?_
  refine s_aload_n (i := 0) rfl (show decode cX7_remember 8 = .ok (.aload_n 0, 1) by decide +kernel) ?_
  refine gf_X7_20 rfl (show decode cX7_remember 9 = .ok (.getfield 20, 3) by decide +kernel) h0 ?_
  refine j_iadd (show decode cX7_remember 12 = .ok (.iadd, 1) by decide +kernel) ?_
  refine j_bipush (n := 30) (by decide +kernel) (show decode cX7_remember 13 = .ok (.bipush 30, 2) by decide +kernel) ?_
  have hr0 := h.1
  have h := h.2
  refine j_irem hr0 (inl (by decide)) (by decide) (show decode cX7_remember 15 = .ok (.irem, 1) by decide +kernel) ?_
  have hb1 := h.1
  have h := h.2
  refine s_aald4 (x := ((a0 + 1) + 1 + 4 * (Int.tmod ((σ a0 1) + (σ a0 2)) 30))) (show decode cX7_remember 16 = .ok (.aaload, 1) by decide +kernel) (ok_7_0 h0) hb1 rfl ?_
  refine s_aload_n (i := 1) rfl (show decode cX7_remember 17 = .ok (.aload_n 1, 1) by decide +kernel) ?_
  refine j_ctVv (m' := mX1_copyFrom) (As := [rv p1]) (ci := 1) (N := 0) (cw_X7_23 rfl) (show decode cX7_remember 18 = .ok (.invokevirtual 23, 3) by decide +kernel) rfl (Nat.le_of_ble_eq_true rfl) (ok_4 (ok_7_0 h0) hb1.1 hb1.2) rfl rfl (Nat.le_refl _) h (fun r3 σ3 h => ?_)
  refine s_aload_n (i := 0) rfl (show decode cX7_remember 21 = .ok (.aload_n 0, 1) by decide +kernel) ?_
  refine gf_X7_20 rfl (show decode cX7_remember 22 = .ok (.getfield 20, 3) by decide +kernel) h0 ?_
  refine j_bipush (n := 30) (by decide +kernel) (show decode cX7_remember 25 = .ok (.bipush 30, 2) by decide +kernel) ?_
  have hr3 := h.1
  have h := h.2
  refine j_icmp_ge (tgt := 43) hr3 (inl (by decide)) (show decode cX7_remember 27 = .ok (.if_icmp .ge 16, 3) by decide +kernel) (by decide) (fun c => ?_) (fun c => ?_)
  · have h := h.1 c
    refine s_aload_n (i := 0) rfl (show decode cX7_remember 43 = .ok (.aload_n 0, 1) by decide +kernel) ?_
    refine s_aload_n (i := 0) rfl (show decode cX7_remember 44 = .ok (.aload_n 0, 1) by decide +kernel) ?_
    refine gf_X7_16 rfl (show decode cX7_remember 45 = .ok (.getfield 16, 3) by decide +kernel) h0 ?_
    refine j_iconst (show decode cX7_remember 48 = .ok (.iconst 1, 1) by decide +kernel) ?_
    refine j_iadd (show decode cX7_remember 49 = .ok (.iadd, 1) by decide +kernel) ?_
    refine j_bipush (n := 30) (by decide +kernel) (show decode cX7_remember 50 = .ok (.bipush 30, 2) by decide +kernel) ?_
    have hr4 := h.1
    have h := h.2
    refine j_irem hr4 (inl (by decide)) (by decide) (show decode cX7_remember 52 = .ok (.irem, 1) by decide +kernel) ?_
    refine pf_X7_16 rfl (show decode cX7_remember 53 = .ok (.putfield 16, 3) by decide +kernel) h0 ?_
    obtain ⟨σ6, eσ6⟩ : ∃ z : jM, z = up σ3 a0 1 (Int.tmod ((σ3 a0 1) + 1) 30) := ⟨_, rfl⟩
    refine j_sig eσ6 ?_
    have h := h σ6 eσ6
    exact j_ret (rokV (show decode cX7_remember 56 = .ok (.return_, 1) by decide +kernel) rfl) ⟨rfl, rfl, h⟩
  · have h := h.2 c
    refine s_aload_n (i := 0) rfl (show decode cX7_remember 30 = .ok (.aload_n 0, 1) by decide +kernel) ?_
    refine j_dup (show (2 : Nat) ≠ 1 by decide) (show decode cX7_remember 31 = .ok (.dup, 1) by decide +kernel) ?_
    refine gf_X7_20 rfl (show decode cX7_remember 32 = .ok (.getfield 20, 3) by decide +kernel) h0 ?_
    refine j_iconst (show decode cX7_remember 35 = .ok (.iconst 1, 1) by decide +kernel) ?_
    refine j_iadd (show decode cX7_remember 36 = .ok (.iadd, 1) by decide +kernel) ?_
    refine pf_X7_20 rfl (show decode cX7_remember 37 = .ok (.putfield 20, 3) by decide +kernel) h0 ?_
    obtain ⟨σ7, eσ7⟩ : ∃ z : jM, z = up σ3 a0 2 ((σ3 a0 2) + 1) := ⟨_, rfl⟩
    refine j_sig eσ7 ?_
    have h := h σ7 eσ7
    refine j_goto (tgt := 56) (show decode cX7_remember 40 = .ok (.goto 16, 3) by decide +kernel) (by decide) ?_
    exact j_ret (rokV (show decode cX7_remember 56 = .ok (.return_, 1) by decide +kernel) rfl) ⟨rfl, rfl, h⟩
theorem c_X7_remember {d : Nat} {t : Int} {Q : Int → jM → Prop} {σ : jM} {a0 p1 : Int} (h0 : ob (GG t) a0 7) (h1 : ob (GG t) p1 1) (h : (inR ((σ a0 1) + (σ a0 2))) ∧ (((0 : Int) ≤ (Int.tmod ((σ a0 1) + (σ a0 2)) 30) ∧ (Int.tmod ((σ a0 1) + (σ a0 2)) 30) < 30) ∧ (Ct mX1_copyFrom d 9 t [rv ((a0 + 1) + 1 + 4 * (Int.tmod ((σ a0 1) + (σ a0 2)) 30)), rv p1] σ (fun r3 σ3 => ((inR (σ3 a0 2)) ∧ ((30 ≤ (σ3 a0 2) → ((inR ((σ3 a0 1) + 1)) ∧ (∀ σ6 : jM, σ6 = up σ3 a0 1 (Int.tmod ((σ3 a0 1) + 1) 30) → (Q 0 σ6)))) ∧ ((σ3 a0 2) < 30 → (∀ σ7 : jM, σ7 = up σ3 a0 2 ((σ3 a0 2) + 1) → (Q 0 σ7))))))))) : Ct mX7_remember (d + 1) 9 t [rv a0, rv p1] σ Q := Ct_of (by decide +kernel) (Nat.le_of_ble_eq_true rfl) (b_X7_remember_0 h0 h1 h)
set_option maxRecDepth 4000 in
theorem b_X7_takeBack_0 {d : Nat} {t : Int} {Q : Int → jM → Prop} {σ : jM} {a0 p1 : Int} (h0 : ob (GG t) a0 7) (h1 : ob (GG t) p1 1) (h : (inR (σ a0 2)) ∧ ((¬ (σ a0 2) = 0 → (∀ σ2 : jM, σ2 = up σ a0 2 ((σ a0 2) - 1) → ((inR ((σ2 a0 1) + (σ2 a0 2))) ∧ (((0 : Int) ≤ (Int.tmod ((σ2 a0 1) + (σ2 a0 2)) 30) ∧ (Int.tmod ((σ2 a0 1) + (σ2 a0 2)) 30) < 30) ∧ (Ct mX1_copyFrom d 9 t [rv p1, rv ((a0 + 1) + 1 + 4 * (Int.tmod ((σ2 a0 1) + (σ2 a0 2)) 30))] σ2 (fun r5 σ5 => (Q 1 σ5))))))) ∧ ((σ a0 2) = 0 → (Q 0 σ)))) : Jt mX7_takeBack (d + 1) 0 t Q 0 [rv a0, rv p1] [] σ := by
  refine s_aload_n (i := 0) rfl (show decode cX7_takeBack 0 = .ok (.aload_n 0, 1) by decide +kernel) ?_
  refine gf_X7_20 rfl (show decode cX7_takeBack 1 = .ok (.getfield 20, 3) by decide +kernel) h0 ?_
  have hr0 := h.1
  have h := h.2
  refine j_if_ne (tgt := 9) hr0 (show decode cX7_takeBack 4 = .ok (.ifCond .ne 5, 3) by decide +kernel) (by decide) (fun c => ?_) (fun c => ?_)
  · have h := h.1 c
    refine s_aload_n (i := 0) rfl (show decode cX7_takeBack 9 = .ok (.aload_n 0, 1) by decide +kernel) ?_
    refine j_dup (show (2 : Nat) ≠ 1 by decide) (show decode cX7_takeBack 10 = .ok (.dup, 1) by decide +kernel) ?_
    refine gf_X7_20 rfl (show decode cX7_takeBack 11 = .ok (.getfield 20, 3) by decide +kernel) h0 ?_
    refine j_iconst (show decode cX7_takeBack 14 = .ok (.iconst 1, 1) by decide +kernel) ?_
    refine j_isub (show decode cX7_takeBack 15 = .ok (.isub, 1) by decide +kernel) ?_
    refine pf_X7_20 rfl (show decode cX7_takeBack 16 = .ok (.putfield 20, 3) by decide +kernel) h0 ?_
    obtain ⟨σ2, eσ2⟩ : ∃ z : jM, z = up σ a0 2 ((σ a0 2) - 1) := ⟨_, rfl⟩
    refine j_sig eσ2 ?_
    have h := h σ2 eσ2
    refine s_aload_n (i := 1) rfl (show decode cX7_takeBack 19 = .ok (.aload_n 1, 1) by decide +kernel) ?_
    refine s_aload_n (i := 0) rfl (show decode cX7_takeBack 20 = .ok (.aload_n 0, 1) by decide +kernel) ?_
    refine gf_X7_11 (x := (a0 + 1)) rfl (show decode cX7_takeBack 21 = .ok (.getfield 11, 3) by decide +kernel) h0 (gr_7_0 h0) ?_
    refine s_aload_n (i := 0) rfl (show decode cX7_takeBack 24 = .ok (.aload_n 0, 1) by decide +kernel) ?_
    refine gf_X7_16 rfl (show decode cX7_takeBack 25 = .ok (.getfield 16, 3) by decide +kernel) h0 ?_
    refine s_aload_n (i := 0) rfl (show decode cX7_takeBack 28 = .ok (.aload_n 0, 1) by decide +kernel) ?_
    refine gf_X7_20 rfl (show decode cX7_takeBack 29 = .ok (.getfield 20, 3) by decide +kernel) h0 ?_
    refine j_iadd (show decode cX7_takeBack 32 = .ok (.iadd, 1) by decide +kernel) ?_
    refine j_bipush (n := 30) (by decide +kernel) (show decode cX7_takeBack 33 = .ok (.bipush 30, 2) by decide +kernel) ?_
    have hr2 := h.1
    have h := h.2
    refine j_irem hr2 (inl (by decide)) (by decide) (show decode cX7_takeBack 35 = .ok (.irem, 1) by decide +kernel) ?_
    have hb3 := h.1
    have h := h.2
    refine s_aald4 (x := ((a0 + 1) + 1 + 4 * (Int.tmod ((σ2 a0 1) + (σ2 a0 2)) 30))) (show decode cX7_takeBack 36 = .ok (.aaload, 1) by decide +kernel) (ok_7_0 h0) hb3 rfl ?_
    refine j_ctVv (m' := mX1_copyFrom) (As := [rv ((a0 + 1) + 1 + 4 * (Int.tmod ((σ2 a0 1) + (σ2 a0 2)) 30))]) (ci := 1) (N := 0) (cw_X7_23 rfl) (show decode cX7_takeBack 37 = .ok (.invokevirtual 23, 3) by decide +kernel) rfl (Nat.le_of_ble_eq_true rfl) h1 rfl rfl (Nat.le_refl _) h (fun r5 σ5 h => ?_)
    refine j_iconst (show decode cX7_takeBack 40 = .ok (.iconst 1, 1) by decide +kernel) ?_
    exact j_ret (rokZ (show decode cX7_takeBack 41 = .ok (.ireturn, 1) by decide +kernel) rfl (Or.inr rfl)) ⟨rfl, rfl, h⟩
  · have h := h.2 c
    refine j_iconst (show decode cX7_takeBack 7 = .ok (.iconst 0, 1) by decide +kernel) ?_
    exact j_ret (rokZ (show decode cX7_takeBack 8 = .ok (.ireturn, 1) by decide +kernel) rfl (Or.inl rfl)) ⟨rfl, rfl, h⟩
theorem c_X7_takeBack {d : Nat} {t : Int} {Q : Int → jM → Prop} {σ : jM} {a0 p1 : Int} (h0 : ob (GG t) a0 7) (h1 : ob (GG t) p1 1) (h : (inR (σ a0 2)) ∧ ((¬ (σ a0 2) = 0 → (∀ σ2 : jM, σ2 = up σ a0 2 ((σ a0 2) - 1) → ((inR ((σ2 a0 1) + (σ2 a0 2))) ∧ (((0 : Int) ≤ (Int.tmod ((σ2 a0 1) + (σ2 a0 2)) 30) ∧ (Int.tmod ((σ2 a0 1) + (σ2 a0 2)) 30) < 30) ∧ (Ct mX1_copyFrom d 9 t [rv p1, rv ((a0 + 1) + 1 + 4 * (Int.tmod ((σ2 a0 1) + (σ2 a0 2)) 30))] σ2 (fun r5 σ5 => (Q 1 σ5))))))) ∧ ((σ a0 2) = 0 → (Q 0 σ)))) : Ct mX7_takeBack (d + 1) 0 t [rv a0, rv p1] σ Q := Ct_of (by decide +kernel) (Nat.le_of_ble_eq_true rfl) (b_X7_takeBack_0 h0 h1 h)
set_option maxRecDepth 4000 in
theorem b_X7_copyFrom_18 {d : Nat} {t : Int} {Q : Int → jM → Prop} {σ : jM} {a0 p1 v2 : Int} (h0 : ob (GG t) a0 7) (h1 : ob (GG t) p1 7) (h : (inR v2) ∧ ((inR (σ a0 2)) ∧ (((σ a0 2) ≤ v2 → (Q 0 σ)) ∧ (v2 < (σ a0 2) → ((inR ((σ a0 1) + v2)) ∧ (((0 : Int) ≤ (Int.tmod ((σ a0 1) + v2) 30) ∧ (Int.tmod ((σ a0 1) + v2) 30) < 30) ∧ (((0 : Int) ≤ (Int.tmod ((σ a0 1) + v2) 30) ∧ (Int.tmod ((σ a0 1) + v2) 30) < 30) ∧ (Ct mX1_copyFrom d 9 t [rv ((a0 + 1) + 1 + 4 * (Int.tmod ((σ a0 1) + v2) 30)), rv ((p1 + 1) + 1 + 4 * (Int.tmod ((σ a0 1) + v2) 30))] σ (fun r6 σ6 => (Jt mX7_copyFrom (d + 1) 9 t Q 18 [rv a0, rv p1, iv (v2 + 1), uv] [] σ6)))))))))) : Jt mX7_copyFrom (d + 1) 9 t Q 18 [rv a0, rv p1, iv v2, uv] [] σ := by
  refine j_iload_n (i := 2) rfl (show decode cX7_copyFrom 18 = .ok (.iload_n 2, 1) by decide +kernel) ?_
  refine s_aload_n (i := 0) rfl (show decode cX7_copyFrom 19 = .ok (.aload_n 0, 1) by decide +kernel) ?_
  refine gf_X7_20 rfl (show decode cX7_copyFrom 20 = .ok (.getfield 20, 3) by decide +kernel) h0 ?_
  have hr0 := h.1
  have h := h.2
  have hr1 := h.1
  have h := h.2
  refine j_icmp_ge (tgt := 57) hr0 hr1 (show decode cX7_copyFrom 23 = .ok (.if_icmp .ge 34, 3) by decide +kernel) (by decide) (fun c => ?_) (fun c => ?_)
  · have h := h.1 c
    exact j_ret (rokV (show decode cX7_copyFrom 57 = .ok (.return_, 1) by decide +kernel) rfl) ⟨rfl, rfl, h⟩
  · have h := h.2 c
    refine s_aload_n (i := 0) rfl (show decode cX7_copyFrom 26 = .ok (.aload_n 0, 1) by decide +kernel) ?_
    refine gf_X7_16 rfl (show decode cX7_copyFrom 27 = .ok (.getfield 16, 3) by decide +kernel) h0 ?_
    refine j_iload_n (i := 2) rfl (show decode cX7_copyFrom 30 = .ok (.iload_n 2, 1) by decide +kernel) ?_
    refine j_iadd (show decode cX7_copyFrom 31 = .ok (.iadd, 1) by decide +kernel) ?_
    refine j_bipush (n := 30) (by decide +kernel) (show decode cX7_copyFrom 32 = .ok (.bipush 30, 2) by decide +kernel) ?_
    have hr2 := h.1
    have h := h.2
    refine j_irem hr2 (inl (by decide)) (by decide) (show decode cX7_copyFrom 34 = .ok (.irem, 1) by decide +kernel) ?_
    refine s_ist_n (i := 3) (L' := [rv a0, rv p1, iv v2, iv (Int.tmod ((σ a0 1) + v2) 30)]) rfl (by decide) (show decode cX7_copyFrom 35 = .ok (.istore_n 3, 1) by decide +kernel) ?_
    refine s_aload_n (i := 0) rfl (show decode cX7_copyFrom 36 = .ok (.aload_n 0, 1) by decide +kernel) ?_
    refine gf_X7_11 (x := (a0 + 1)) rfl (show decode cX7_copyFrom 37 = .ok (.getfield 11, 3) by decide +kernel) h0 (gr_7_0 h0) ?_
    refine j_iload_n (i := 3) rfl (show decode cX7_copyFrom 40 = .ok (.iload_n 3, 1) by decide +kernel) ?_
    have hb3 := h.1
    have h := h.2
    refine s_aald4 (x := ((a0 + 1) + 1 + 4 * (Int.tmod ((σ a0 1) + v2) 30))) (show decode cX7_copyFrom 41 = .ok (.aaload, 1) by decide +kernel) (ok_7_0 h0) hb3 rfl ?_
    refine s_aload_n (i := 1) rfl (show decode cX7_copyFrom 42 = .ok (.aload_n 1, 1) by decide +kernel) ?_
    refine gf_X7_11 (x := (p1 + 1)) rfl (show decode cX7_copyFrom 43 = .ok (.getfield 11, 3) by decide +kernel) h1 (gr_7_0 h1) ?_
    refine j_iload_n (i := 3) rfl (show decode cX7_copyFrom 46 = .ok (.iload_n 3, 1) by decide +kernel) ?_
    have hb4 := h.1
    have h := h.2
    refine s_aald4 (x := ((p1 + 1) + 1 + 4 * (Int.tmod ((σ a0 1) + v2) 30))) (show decode cX7_copyFrom 47 = .ok (.aaload, 1) by decide +kernel) (ok_7_0 h1) hb4 rfl ?_
    refine j_ctVv (m' := mX1_copyFrom) (As := [rv ((p1 + 1) + 1 + 4 * (Int.tmod ((σ a0 1) + v2) 30))]) (ci := 1) (N := 0) (cw_X7_23 rfl) (show decode cX7_copyFrom 48 = .ok (.invokevirtual 23, 3) by decide +kernel) rfl (Nat.le_of_ble_eq_true rfl) (ok_4 (ok_7_0 h0) hb3.1 hb3.2) rfl rfl (Nat.le_refl _) h (fun r6 σ6 h => ?_)
    refine s_iinc (i := 2) rfl (L' := [rv a0, rv p1, iv (v2 + 1), iv (Int.tmod ((σ a0 1) + v2) 30)]) rfl (show decode cX7_copyFrom 51 = .ok (.iinc 2 1, 3) by decide +kernel) ?_
    refine j_goto (tgt := 18) (show decode cX7_copyFrom 54 = .ok (.goto (-36), 3) by decide +kernel) (by decide) ?_
    refine j_drop 3 ?_
    exact h
set_option maxRecDepth 4000 in
theorem b_X7_copyFrom_0 {d : Nat} {t : Int} {Q : Int → jM → Prop} {σ : jM} {a0 p1 : Int} (h0 : ob (GG t) a0 7) (h1 : ob (GG t) p1 7) (h : ∀ σ1 : jM, σ1 = up σ a0 1 (σ p1 1) → (∀ σ2 : jM, σ2 = up σ1 a0 2 (σ1 p1 2) → (Jt mX7_copyFrom (d + 1) 9 t Q 18 [rv a0, rv p1, iv 0, uv] [] σ2))) : Jt mX7_copyFrom (d + 1) 9 t Q 0 [rv a0, rv p1, uv, uv] [] σ := by
  refine s_aload_n (i := 0) rfl (show decode cX7_copyFrom 0 = .ok (.aload_n 0, 1) by decide +kernel) ?_
  refine s_aload_n (i := 1) rfl (show decode cX7_copyFrom 1 = .ok (.aload_n 1, 1) by decide +kernel) ?_
  refine gf_X7_16 rfl (show decode cX7_copyFrom 2 = .ok (.getfield 16, 3) by decide +kernel) h1 ?_
  refine pf_X7_16 rfl (show decode cX7_copyFrom 5 = .ok (.putfield 16, 3) by decide +kernel) h0 ?_
  obtain ⟨σ1, eσ1⟩ : ∃ z : jM, z = up σ a0 1 (σ p1 1) := ⟨_, rfl⟩
  refine j_sig eσ1 ?_
  have h := h σ1 eσ1
  refine s_aload_n (i := 0) rfl (show decode cX7_copyFrom 8 = .ok (.aload_n 0, 1) by decide +kernel) ?_
  refine s_aload_n (i := 1) rfl (show decode cX7_copyFrom 9 = .ok (.aload_n 1, 1) by decide +kernel) ?_
  refine gf_X7_20 rfl (show decode cX7_copyFrom 10 = .ok (.getfield 20, 3) by decide +kernel) h1 ?_
  refine pf_X7_20 rfl (show decode cX7_copyFrom 13 = .ok (.putfield 20, 3) by decide +kernel) h0 ?_
  obtain ⟨σ2, eσ2⟩ : ∃ z : jM, z = up σ1 a0 2 (σ1 p1 2) := ⟨_, rfl⟩
  refine j_sig eσ2 ?_
  have h := h σ2 eσ2
  refine j_iconst (show decode cX7_copyFrom 16 = .ok (.iconst 0, 1) by decide +kernel) ?_
  refine s_ist_n (i := 2) (L' := [rv a0, rv p1, iv 0, uv]) rfl (by decide) (show decode cX7_copyFrom 17 = .ok (.istore_n 2, 1) by decide +kernel) ?_
  exact h
theorem c_X7_copyFrom {d : Nat} {t : Int} {Q : Int → jM → Prop} {σ : jM} {a0 p1 : Int} (h0 : ob (GG t) a0 7) (h1 : ob (GG t) p1 7) (h : ∀ σ1 : jM, σ1 = up σ a0 1 (σ p1 1) → (∀ σ2 : jM, σ2 = up σ1 a0 2 (σ1 p1 2) → (Jt mX7_copyFrom (d + 1) 9 t Q 18 [rv a0, rv p1, iv 0, uv] [] σ2))) : Ct mX7_copyFrom (d + 1) 9 t [rv a0, rv p1] σ Q := Ct_of (by decide +kernel) (Nat.le_of_ble_eq_true rfl) (b_X7_copyFrom_0 h0 h1 h)
set_option maxRecDepth 4000 in
theorem b_X8_forget_0 {d : Nat} {t : Int} {Q : Int → jM → Prop} {σ : jM} {a0 : Int} (h0 : ob (GG t) a0 8) (h : ∀ σ1 : jM, σ1 = up σ a0 6 0 → (∀ σ2 : jM, σ2 = up σ1 a0 7 0 → (((0 : Int) ≤ 0 ∧ (0 : Int) < 2) ∧ (∀ σ4 : jM, σ4 = up σ2 (a0 + 5) 0 (-1) → (((0 : Int) ≤ 1 ∧ (1 : Int) < 2) ∧ (∀ σ6 : jM, σ6 = up σ4 (a0 + 5) 1 (-1) → (Q 0 σ6))))))) : Jt mX8_forget (d) 9 t Q 0 [rv a0] [] σ := by
  refine s_aload_n (i := 0) rfl (show decode cX8_forget 0 = .ok (.aload_n 0, 1) by decide +kernel) ?_
  refine j_iconst (show decode cX8_forget 1 = .ok (.iconst 0, 1) by decide +kernel) ?_
  refine pf_X8_30 rfl (show decode cX8_forget 2 = .ok (.putfield 30, 3) by decide +kernel) h0 ?_
  obtain ⟨σ1, eσ1⟩ : ∃ z : jM, z = up σ a0 6 0 := ⟨_, rfl⟩
  refine j_sig eσ1 ?_
  have h := h σ1 eσ1
  refine s_aload_n (i := 0) rfl (show decode cX8_forget 5 = .ok (.aload_n 0, 1) by decide +kernel) ?_
  refine j_iconst (show decode cX8_forget 6 = .ok (.iconst 0, 1) by decide +kernel) ?_
  refine pf_X8_34 rfl (show decode cX8_forget 7 = .ok (.putfield 34, 3) by decide +kernel) h0 ?_
  obtain ⟨σ2, eσ2⟩ : ∃ z : jM, z = up σ1 a0 7 0 := ⟨_, rfl⟩
  refine j_sig eσ2 ?_
  have h := h σ2 eσ2
  refine s_aload_n (i := 0) rfl (show decode cX8_forget 10 = .ok (.aload_n 0, 1) by decide +kernel) ?_
  refine gf_X8_24 (x := (a0 + 5)) rfl (show decode cX8_forget 11 = .ok (.getfield 24, 3) by decide +kernel) h0 (gr_8_4 h0) ?_
  refine j_iconst (show decode cX8_forget 14 = .ok (.iconst 0, 1) by decide +kernel) ?_
  refine j_iconst (show decode cX8_forget 15 = .ok (.iconst (-1), 1) by decide +kernel) ?_
  have hb2 := h.1
  have h := h.2
  refine s_iast (show decode cX8_forget 16 = .ok (.iastore, 1) by decide +kernel) (ok_8_4 h0) hb2 ?_
  obtain ⟨σ4, eσ4⟩ : ∃ z : jM, z = up σ2 (a0 + 5) 0 (-1) := ⟨_, rfl⟩
  refine j_sig eσ4 ?_
  have h := h σ4 eσ4
  refine s_aload_n (i := 0) rfl (show decode cX8_forget 17 = .ok (.aload_n 0, 1) by decide +kernel) ?_
  refine gf_X8_24 (x := (a0 + 5)) rfl (show decode cX8_forget 18 = .ok (.getfield 24, 3) by decide +kernel) h0 (gr_8_4 h0) ?_
  refine j_iconst (show decode cX8_forget 21 = .ok (.iconst 1, 1) by decide +kernel) ?_
  refine j_iconst (show decode cX8_forget 22 = .ok (.iconst (-1), 1) by decide +kernel) ?_
  have hb4 := h.1
  have h := h.2
  refine s_iast (show decode cX8_forget 23 = .ok (.iastore, 1) by decide +kernel) (ok_8_4 h0) hb4 ?_
  obtain ⟨σ6, eσ6⟩ : ∃ z : jM, z = up σ4 (a0 + 5) 1 (-1) := ⟨_, rfl⟩
  refine j_sig eσ6 ?_
  have h := h σ6 eσ6
  exact j_ret (rokV (show decode cX8_forget 24 = .ok (.return_, 1) by decide +kernel) rfl) ⟨rfl, rfl, h⟩
theorem c_X8_forget {d : Nat} {t : Int} {Q : Int → jM → Prop} {σ : jM} {a0 : Int} (h0 : ob (GG t) a0 8) (h : ∀ σ1 : jM, σ1 = up σ a0 6 0 → (∀ σ2 : jM, σ2 = up σ1 a0 7 0 → (((0 : Int) ≤ 0 ∧ (0 : Int) < 2) ∧ (∀ σ4 : jM, σ4 = up σ2 (a0 + 5) 0 (-1) → (((0 : Int) ≤ 1 ∧ (1 : Int) < 2) ∧ (∀ σ6 : jM, σ6 = up σ4 (a0 + 5) 1 (-1) → (Q 0 σ6))))))) : Ct mX8_forget (d) 9 t [rv a0] σ Q := Ct_of (by decide +kernel) (Nat.le_of_ble_eq_true rfl) (b_X8_forget_0 h0 h)
set_option maxRecDepth 4000 in
theorem b_X8_addClause_0 {d : Nat} {t : Int} {Q : Int → jM → Prop} {σ : jM} {a0 p1 p2 p3 : Int} (h0 : ob (GG t) a0 8) (h : (inR (σ a0 6)) ∧ ((24 ≤ (σ a0 6) → (Q 0 σ)) ∧ ((σ a0 6) < 24 → (((0 : Int) ≤ (σ a0 6) ∧ (σ a0 6) < 24) ∧ (∀ σ3 : jM, σ3 = up σ (a0 + 1) (σ a0 6) p1 → (((0 : Int) ≤ (σ3 a0 6) ∧ (σ3 a0 6) < 24) ∧ (∀ σ5 : jM, σ5 = up σ3 (a0 + 2) (σ3 a0 6) p2 → (((0 : Int) ≤ (σ5 a0 6) ∧ (σ5 a0 6) < 24) ∧ (∀ σ7 : jM, σ7 = up σ5 (a0 + 3) (σ5 a0 6) p3 → (∀ σ8 : jM, σ8 = up σ7 a0 6 ((σ7 a0 6) + 1) → (Q 0 σ8))))))))))) : Jt mX8_addClause (d) 9 t Q 0 [rv a0, iv p1, iv p2, iv p3] [] σ := by
  refine s_aload_n (i := 0) rfl (show decode cX8_addClause 0 = .ok (.aload_n 0, 1) by decide +kernel) ?_
  refine gf_X8_30 rfl (show decode cX8_addClause 1 = .ok (.getfield 30, 3) by decide +kernel) h0 ?_
  refine j_bipush (n := 24) (by decide +kernel) (show decode cX8_addClause 4 = .ok (.bipush 24, 2) by decide +kernel) ?_
  have hr0 := h.1
  have h := h.2
  refine j_icmp_ge (tgt := 49) hr0 (inl (by decide)) (show decode cX8_addClause 6 = .ok (.if_icmp .ge 43, 3) by decide +kernel) (by decide) (fun c => ?_) (fun c => ?_)
  · have h := h.1 c
    exact j_ret (rokV (show decode cX8_addClause 49 = .ok (.return_, 1) by decide +kernel) rfl) ⟨rfl, rfl, h⟩
  · have h := h.2 c
    refine s_aload_n (i := 0) rfl (show decode cX8_addClause 9 = .ok (.aload_n 0, 1) by decide +kernel) ?_
    refine gf_X8_11 (x := (a0 + 1)) rfl (show decode cX8_addClause 10 = .ok (.getfield 11, 3) by decide +kernel) h0 (gr_8_0 h0) ?_
    refine s_aload_n (i := 0) rfl (show decode cX8_addClause 13 = .ok (.aload_n 0, 1) by decide +kernel) ?_
    refine gf_X8_30 rfl (show decode cX8_addClause 14 = .ok (.getfield 30, 3) by decide +kernel) h0 ?_
    refine j_iload_n (i := 1) rfl (show decode cX8_addClause 17 = .ok (.iload_n 1, 1) by decide +kernel) ?_
    have hb1 := h.1
    have h := h.2
    refine s_iast (show decode cX8_addClause 18 = .ok (.iastore, 1) by decide +kernel) (ok_8_0 h0) hb1 ?_
    obtain ⟨σ3, eσ3⟩ : ∃ z : jM, z = up σ (a0 + 1) (σ a0 6) p1 := ⟨_, rfl⟩
    refine j_sig eσ3 ?_
    have h := h σ3 eσ3
    refine s_aload_n (i := 0) rfl (show decode cX8_addClause 19 = .ok (.aload_n 0, 1) by decide +kernel) ?_
    refine gf_X8_15 (x := (a0 + 2)) rfl (show decode cX8_addClause 20 = .ok (.getfield 15, 3) by decide +kernel) h0 (gr_8_1 h0) ?_
    refine s_aload_n (i := 0) rfl (show decode cX8_addClause 23 = .ok (.aload_n 0, 1) by decide +kernel) ?_
    refine gf_X8_30 rfl (show decode cX8_addClause 24 = .ok (.getfield 30, 3) by decide +kernel) h0 ?_
    refine j_iload_n (i := 2) rfl (show decode cX8_addClause 27 = .ok (.iload_n 2, 1) by decide +kernel) ?_
    have hb3 := h.1
    have h := h.2
    refine s_iast (show decode cX8_addClause 28 = .ok (.iastore, 1) by decide +kernel) (ok_8_1 h0) hb3 ?_
    obtain ⟨σ5, eσ5⟩ : ∃ z : jM, z = up σ3 (a0 + 2) (σ3 a0 6) p2 := ⟨_, rfl⟩
    refine j_sig eσ5 ?_
    have h := h σ5 eσ5
    refine s_aload_n (i := 0) rfl (show decode cX8_addClause 29 = .ok (.aload_n 0, 1) by decide +kernel) ?_
    refine gf_X8_18 (x := (a0 + 3)) rfl (show decode cX8_addClause 30 = .ok (.getfield 18, 3) by decide +kernel) h0 (gr_8_2 h0) ?_
    refine s_aload_n (i := 0) rfl (show decode cX8_addClause 33 = .ok (.aload_n 0, 1) by decide +kernel) ?_
    refine gf_X8_30 rfl (show decode cX8_addClause 34 = .ok (.getfield 30, 3) by decide +kernel) h0 ?_
    refine j_iload_n (i := 3) rfl (show decode cX8_addClause 37 = .ok (.iload_n 3, 1) by decide +kernel) ?_
    have hb5 := h.1
    have h := h.2
    refine s_iast (show decode cX8_addClause 38 = .ok (.iastore, 1) by decide +kernel) (ok_8_2 h0) hb5 ?_
    obtain ⟨σ7, eσ7⟩ : ∃ z : jM, z = up σ5 (a0 + 3) (σ5 a0 6) p3 := ⟨_, rfl⟩
    refine j_sig eσ7 ?_
    have h := h σ7 eσ7
    refine s_aload_n (i := 0) rfl (show decode cX8_addClause 39 = .ok (.aload_n 0, 1) by decide +kernel) ?_
    refine j_dup (show (2 : Nat) ≠ 1 by decide) (show decode cX8_addClause 40 = .ok (.dup, 1) by decide +kernel) ?_
    refine gf_X8_30 rfl (show decode cX8_addClause 41 = .ok (.getfield 30, 3) by decide +kernel) h0 ?_
    refine j_iconst (show decode cX8_addClause 44 = .ok (.iconst 1, 1) by decide +kernel) ?_
    refine j_iadd (show decode cX8_addClause 45 = .ok (.iadd, 1) by decide +kernel) ?_
    refine pf_X8_30 rfl (show decode cX8_addClause 46 = .ok (.putfield 30, 3) by decide +kernel) h0 ?_
    obtain ⟨σ8, eσ8⟩ : ∃ z : jM, z = up σ7 a0 6 ((σ7 a0 6) + 1) := ⟨_, rfl⟩
    refine j_sig eσ8 ?_
    have h := h σ8 eσ8
    exact j_ret (rokV (show decode cX8_addClause 49 = .ok (.return_, 1) by decide +kernel) rfl) ⟨rfl, rfl, h⟩
theorem c_X8_addClause {d : Nat} {t : Int} {Q : Int → jM → Prop} {σ : jM} {a0 p1 p2 p3 : Int} (h0 : ob (GG t) a0 8) (h : (inR (σ a0 6)) ∧ ((24 ≤ (σ a0 6) → (Q 0 σ)) ∧ ((σ a0 6) < 24 → (((0 : Int) ≤ (σ a0 6) ∧ (σ a0 6) < 24) ∧ (∀ σ3 : jM, σ3 = up σ (a0 + 1) (σ a0 6) p1 → (((0 : Int) ≤ (σ3 a0 6) ∧ (σ3 a0 6) < 24) ∧ (∀ σ5 : jM, σ5 = up σ3 (a0 + 2) (σ3 a0 6) p2 → (((0 : Int) ≤ (σ5 a0 6) ∧ (σ5 a0 6) < 24) ∧ (∀ σ7 : jM, σ7 = up σ5 (a0 + 3) (σ5 a0 6) p3 → (∀ σ8 : jM, σ8 = up σ7 a0 6 ((σ7 a0 6) + 1) → (Q 0 σ8))))))))))) : Ct mX8_addClause (d) 9 t [rv a0, iv p1, iv p2, iv p3] σ Q := Ct_of (by decide +kernel) (Nat.le_of_ble_eq_true rfl) (b_X8_addClause_0 h0 h)
set_option maxRecDepth 4000 in
theorem b_X8_addCode_0 {d : Nat} {t : Int} {Q : Int → jM → Prop} {σ : jM} {a0 p1 p2 : Int} (h0 : ob (GG t) a0 8) (h : (inR (σ a0 7)) ∧ ((300 ≤ (σ a0 7) → (Q 0 σ)) ∧ ((σ a0 7) < 300 → (((0 : Int) ≤ (σ a0 7) ∧ (σ a0 7) < 300) ∧ (∀ σ3 : jM, σ3 = up σ (a0 + 4) (σ a0 7) (i_or (i_shl p2 5) p1) → (∀ σ4 : jM, σ4 = up σ3 a0 7 ((σ3 a0 7) + 1) → (Q 0 σ4))))))) : Jt mX8_addCode (d) 9 t Q 0 [rv a0, iv p1, iv p2] [] σ := by
  refine s_aload_n (i := 0) rfl (show decode cX8_addCode 0 = .ok (.aload_n 0, 1) by decide +kernel) ?_
  refine gf_X8_34 rfl (show decode cX8_addCode 1 = .ok (.getfield 34, 3) by decide +kernel) h0 ?_
  refine j_sipush (n := 300) (by decide +kernel) (show decode cX8_addCode 4 = .ok (.sipush 300, 3) by decide +kernel) ?_
  have hr0 := h.1
  have h := h.2
  refine j_icmp_ge (tgt := 34) hr0 (inl (by decide)) (show decode cX8_addCode 7 = .ok (.if_icmp .ge 27, 3) by decide +kernel) (by decide) (fun c => ?_) (fun c => ?_)
  · have h := h.1 c
    exact j_ret (rokV (show decode cX8_addCode 34 = .ok (.return_, 1) by decide +kernel) rfl) ⟨rfl, rfl, h⟩
  · have h := h.2 c
    refine s_aload_n (i := 0) rfl (show decode cX8_addCode 10 = .ok (.aload_n 0, 1) by decide +kernel) ?_
    refine gf_X8_21 (x := (a0 + 4)) rfl (show decode cX8_addCode 11 = .ok (.getfield 21, 3) by decide +kernel) h0 (gr_8_3 h0) ?_
    refine s_aload_n (i := 0) rfl (show decode cX8_addCode 14 = .ok (.aload_n 0, 1) by decide +kernel) ?_
    refine gf_X8_34 rfl (show decode cX8_addCode 15 = .ok (.getfield 34, 3) by decide +kernel) h0 ?_
    refine j_iload_n (i := 2) rfl (show decode cX8_addCode 18 = .ok (.iload_n 2, 1) by decide +kernel) ?_
    refine j_iconst (show decode cX8_addCode 19 = .ok (.iconst 5, 1) by decide +kernel) ?_
    refine j_ishl (show decode cX8_addCode 20 = .ok (.ishl, 1) by decide +kernel) ?_
    refine j_iload_n (i := 1) rfl (show decode cX8_addCode 21 = .ok (.iload_n 1, 1) by decide +kernel) ?_
    refine j_ior (show decode cX8_addCode 22 = .ok (.ior, 1) by decide +kernel) ?_
    have hb1 := h.1
    have h := h.2
    refine s_iast (show decode cX8_addCode 23 = .ok (.iastore, 1) by decide +kernel) (ok_8_3 h0) hb1 ?_
    obtain ⟨σ3, eσ3⟩ : ∃ z : jM, z = up σ (a0 + 4) (σ a0 7) (i_or (i_shl p2 5) p1) := ⟨_, rfl⟩
    refine j_sig eσ3 ?_
    have h := h σ3 eσ3
    refine s_aload_n (i := 0) rfl (show decode cX8_addCode 24 = .ok (.aload_n 0, 1) by decide +kernel) ?_
    refine j_dup (show (2 : Nat) ≠ 1 by decide) (show decode cX8_addCode 25 = .ok (.dup, 1) by decide +kernel) ?_
    refine gf_X8_34 rfl (show decode cX8_addCode 26 = .ok (.getfield 34, 3) by decide +kernel) h0 ?_
    refine j_iconst (show decode cX8_addCode 29 = .ok (.iconst 1, 1) by decide +kernel) ?_
    refine j_iadd (show decode cX8_addCode 30 = .ok (.iadd, 1) by decide +kernel) ?_
    refine pf_X8_34 rfl (show decode cX8_addCode 31 = .ok (.putfield 34, 3) by decide +kernel) h0 ?_
    obtain ⟨σ4, eσ4⟩ : ∃ z : jM, z = up σ3 a0 7 ((σ3 a0 7) + 1) := ⟨_, rfl⟩
    refine j_sig eσ4 ?_
    have h := h σ4 eσ4
    exact j_ret (rokV (show decode cX8_addCode 34 = .ok (.return_, 1) by decide +kernel) rfl) ⟨rfl, rfl, h⟩
theorem c_X8_addCode {d : Nat} {t : Int} {Q : Int → jM → Prop} {σ : jM} {a0 p1 p2 : Int} (h0 : ob (GG t) a0 8) (h : (inR (σ a0 7)) ∧ ((300 ≤ (σ a0 7) → (Q 0 σ)) ∧ ((σ a0 7) < 300 → (((0 : Int) ≤ (σ a0 7) ∧ (σ a0 7) < 300) ∧ (∀ σ3 : jM, σ3 = up σ (a0 + 4) (σ a0 7) (i_or (i_shl p2 5) p1) → (∀ σ4 : jM, σ4 = up σ3 a0 7 ((σ3 a0 7) + 1) → (Q 0 σ4))))))) : Ct mX8_addCode (d) 9 t [rv a0, iv p1, iv p2] σ Q := Ct_of (by decide +kernel) (Nat.le_of_ble_eq_true rfl) (b_X8_addCode_0 h0 h)
set_option maxRecDepth 4000 in
theorem b_X8_landHere_0 {d : Nat} {t : Int} {Q : Int → jM → Prop} {σ : jM} {a0 p1 : Int} (h0 : ob (GG t) a0 8) (h : (inR p1) ∧ ((p1 < 0 → (Q 0 σ)) ∧ (0 ≤ p1 → ((inR p1) ∧ ((inR (σ a0 7)) ∧ (((σ a0 7) ≤ p1 → (Q 0 σ)) ∧ (p1 < (σ a0 7) → (((0 : Int) ≤ p1 ∧ p1 < 300) ∧ (((0 : Int) ≤ p1 ∧ p1 < 300) ∧ (∀ σ5 : jM, σ5 = up σ (a0 + 4) p1 (i_or (i_shl (σ a0 7) 5) (i_and (σ (a0 + 4) p1) 31)) → (Q 0 σ5))))))))))) : Jt mX8_landHere (d) 9 t Q 0 [rv a0, iv p1] [] σ := by
  refine j_iload_n (i := 1) rfl (show decode cX8_landHere 0 = .ok (.iload_n 1, 1) by decide +kernel) ?_
  have hr0 := h.1
  have h := h.2
  refine j_if_lt (tgt := 34) hr0 (show decode cX8_landHere 1 = .ok (.ifCond .lt 33, 3) by decide +kernel) (by decide) (fun c => ?_) (fun c => ?_)
  · have h := h.1 c
    exact j_ret (rokV (show decode cX8_landHere 34 = .ok (.return_, 1) by decide +kernel) rfl) ⟨rfl, rfl, h⟩
  · have h := h.2 c
    refine j_iload_n (i := 1) rfl (show decode cX8_landHere 4 = .ok (.iload_n 1, 1) by decide +kernel) ?_
    refine s_aload_n (i := 0) rfl (show decode cX8_landHere 5 = .ok (.aload_n 0, 1) by decide +kernel) ?_
    refine gf_X8_34 rfl (show decode cX8_landHere 6 = .ok (.getfield 34, 3) by decide +kernel) h0 ?_
    have hr1 := h.1
    have h := h.2
    have hr2 := h.1
    have h := h.2
    refine j_icmp_ge (tgt := 34) hr1 hr2 (show decode cX8_landHere 9 = .ok (.if_icmp .ge 25, 3) by decide +kernel) (by decide) (fun c => ?_) (fun c => ?_)
    · have h := h.1 c
      exact j_ret (rokV (show decode cX8_landHere 34 = .ok (.return_, 1) by decide +kernel) rfl) ⟨rfl, rfl, h⟩
    · have h := h.2 c
      refine s_aload_n (i := 0) rfl (show decode cX8_landHere 12 = .ok (.aload_n 0, 1) by decide +kernel) ?_
      refine gf_X8_21 (x := (a0 + 4)) rfl (show decode cX8_landHere 13 = .ok (.getfield 21, 3) by decide +kernel) h0 (gr_8_3 h0) ?_
      refine j_iload_n (i := 1) rfl (show decode cX8_landHere 16 = .ok (.iload_n 1, 1) by decide +kernel) ?_
      refine s_aload_n (i := 0) rfl (show decode cX8_landHere 17 = .ok (.aload_n 0, 1) by decide +kernel) ?_
      refine gf_X8_34 rfl (show decode cX8_landHere 18 = .ok (.getfield 34, 3) by decide +kernel) h0 ?_
      refine j_iconst (show decode cX8_landHere 21 = .ok (.iconst 5, 1) by decide +kernel) ?_
      refine j_ishl (show decode cX8_landHere 22 = .ok (.ishl, 1) by decide +kernel) ?_
      refine s_aload_n (i := 0) rfl (show decode cX8_landHere 23 = .ok (.aload_n 0, 1) by decide +kernel) ?_
      refine gf_X8_21 (x := (a0 + 4)) rfl (show decode cX8_landHere 24 = .ok (.getfield 21, 3) by decide +kernel) h0 (gr_8_3 h0) ?_
      refine j_iload_n (i := 1) rfl (show decode cX8_landHere 27 = .ok (.iload_n 1, 1) by decide +kernel) ?_
      refine s_iald (show decode cX8_landHere 28 = .ok (.iaload, 1) by decide +kernel) (ok_8_3 h0) h.1 ?_
      have h := h.2
      refine j_bipush (n := 31) (by decide +kernel) (show decode cX8_landHere 29 = .ok (.bipush 31, 2) by decide +kernel) ?_
      refine j_iand (show decode cX8_landHere 31 = .ok (.iand, 1) by decide +kernel) ?_
      refine j_ior (show decode cX8_landHere 32 = .ok (.ior, 1) by decide +kernel) ?_
      have hb3 := h.1
      have h := h.2
      refine s_iast (show decode cX8_landHere 33 = .ok (.iastore, 1) by decide +kernel) (ok_8_3 h0) hb3 ?_
      obtain ⟨σ5, eσ5⟩ : ∃ z : jM, z = up σ (a0 + 4) p1 (i_or (i_shl (σ a0 7) 5) (i_and (σ (a0 + 4) p1) 31)) := ⟨_, rfl⟩
      refine j_sig eσ5 ?_
      have h := h σ5 eσ5
      exact j_ret (rokV (show decode cX8_landHere 34 = .ok (.return_, 1) by decide +kernel) rfl) ⟨rfl, rfl, h⟩
theorem c_X8_landHere {d : Nat} {t : Int} {Q : Int → jM → Prop} {σ : jM} {a0 p1 : Int} (h0 : ob (GG t) a0 8) (h : (inR p1) ∧ ((p1 < 0 → (Q 0 σ)) ∧ (0 ≤ p1 → ((inR p1) ∧ ((inR (σ a0 7)) ∧ (((σ a0 7) ≤ p1 → (Q 0 σ)) ∧ (p1 < (σ a0 7) → (((0 : Int) ≤ p1 ∧ p1 < 300) ∧ (((0 : Int) ≤ p1 ∧ p1 < 300) ∧ (∀ σ5 : jM, σ5 = up σ (a0 + 4) p1 (i_or (i_shl (σ a0 7) 5) (i_and (σ (a0 + 4) p1) 31)) → (Q 0 σ5))))))))))) : Ct mX8_landHere (d) 9 t [rv a0, iv p1] σ Q := Ct_of (by decide +kernel) (Nat.le_of_ble_eq_true rfl) (b_X8_landHere_0 h0 h)
set_option maxRecDepth 4000 in
theorem b_X9_copyFrom_0 {d : Nat} {t : Int} {Q : Int → jM → Prop} {σ : jM} {a0 p1 : Int} (h0 : ob (GG t) a0 9) (h1 : ob (GG t) p1 9) (h : ∀ σ1 : jM, σ1 = cpy σ (p1 + 1) 0 (a0 + 1) 0 12 → (∀ σ2 : jM, σ2 = up σ1 a0 1 (σ1 p1 1) → (Q 0 σ2))) : Jt mX9_copyFrom (d + 2) 9 t Q 0 [rv a0, rv p1] [] σ := by
  refine s_aload_n (i := 1) rfl (show decode cX9_copyFrom 0 = .ok (.aload_n 1, 1) by decide +kernel) ?_
  refine gf_X9_11 (x := (p1 + 1)) rfl (show decode cX9_copyFrom 1 = .ok (.getfield 11, 3) by decide +kernel) h1 (gr_9_0 h1) ?_
  refine j_iconst (show decode cX9_copyFrom 4 = .ok (.iconst 0, 1) by decide +kernel) ?_
  refine s_aload_n (i := 0) rfl (show decode cX9_copyFrom 5 = .ok (.aload_n 0, 1) by decide +kernel) ?_
  refine gf_X9_11 (x := (a0 + 1)) rfl (show decode cX9_copyFrom 6 = .ok (.getfield 11, 3) by decide +kernel) h0 (gr_9_0 h0) ?_
  refine j_iconst (show decode cX9_copyFrom 9 = .ok (.iconst 0, 1) by decide +kernel) ?_
  refine j_bipush (n := 12) (by decide +kernel) (show decode cX9_copyFrom 10 = .ok (.bipush 12, 2) by decide +kernel) ?_
  refine j_copy1 (tt_in 506 (by decide +kernel) rfl) (by omega) (Nat.le_of_ble_eq_true rfl) (ok_9_0 h1) (ok_9_0 h0) (arN (t := t) (ok_9_0 h1) (by decide)) (arN (t := t) (ok_9_0 h0) (by decide)) (by decide) (show decode cX9_copyFrom 12 = .ok (.invokestatic 19, 3) by decide +kernel) ?_
  obtain ⟨σ1, eσ1⟩ : ∃ z : jM, z = cpy σ (p1 + 1) 0 (a0 + 1) 0 12 := ⟨_, rfl⟩
  refine j_sig eσ1 ?_
  have h := h σ1 eσ1
  refine s_aload_n (i := 0) rfl (show decode cX9_copyFrom 15 = .ok (.aload_n 0, 1) by decide +kernel) ?_
  refine s_aload_n (i := 1) rfl (show decode cX9_copyFrom 16 = .ok (.aload_n 1, 1) by decide +kernel) ?_
  refine gf_X9_15 rfl (show decode cX9_copyFrom 17 = .ok (.getfield 15, 3) by decide +kernel) h1 ?_
  refine pf_X9_15 rfl (show decode cX9_copyFrom 20 = .ok (.putfield 15, 3) by decide +kernel) h0 ?_
  obtain ⟨σ2, eσ2⟩ : ∃ z : jM, z = up σ1 a0 1 (σ1 p1 1) := ⟨_, rfl⟩
  refine j_sig eσ2 ?_
  have h := h σ2 eσ2
  exact j_ret (rokV (show decode cX9_copyFrom 23 = .ok (.return_, 1) by decide +kernel) rfl) ⟨rfl, rfl, h⟩
theorem c_X9_copyFrom {d : Nat} {t : Int} {Q : Int → jM → Prop} {σ : jM} {a0 p1 : Int} (h0 : ob (GG t) a0 9) (h1 : ob (GG t) p1 9) (h : ∀ σ1 : jM, σ1 = cpy σ (p1 + 1) 0 (a0 + 1) 0 12 → (∀ σ2 : jM, σ2 = up σ1 a0 1 (σ1 p1 1) → (Q 0 σ2))) : Ct mX9_copyFrom (d + 2) 9 t [rv a0, rv p1] σ Q := Ct_of (by decide +kernel) (Nat.le_of_ble_eq_true rfl) (b_X9_copyFrom_0 h0 h1 h)
set_option maxRecDepth 4000 in
theorem b_X9_wrongWithout_4 {d : Nat} {t : Int} {Q : Int → jM → Prop} {σ : jM} {a0 p1 v2 v3 : Int} (h0 : ob (GG t) a0 9) (h : (inR v3) ∧ ((inR (σ a0 1)) ∧ (((σ a0 1) ≤ v3 → (Q (-1) σ)) ∧ (v3 < (σ a0 1) → ((inR v3) ∧ ((inR p1) ∧ ((¬ v3 = p1 → (((0 : Int) ≤ v3 ∧ v3 < 12) ∧ (((0 : Int) ≤ v2 ∧ v2 < 12) ∧ ((inR (σ (a0 + 1) v3)) ∧ ((inR (σ (a0 + 1) v2)) ∧ (((σ (a0 + 1) v3) ≤ (σ (a0 + 1) v2) → (Q v3 σ)) ∧ ((σ (a0 + 1) v2) < (σ (a0 + 1) v3) → (Ct mX9_isSumWithout d 0 t [rv a0, iv v3, iv p1] σ (fun r7 σ7 => ((inR r7) ∧ ((¬ r7 = 0 → (Jt mX9_wrongWithout (d + 1) 0 t Q 4 [rv a0, iv p1, iv v3, iv (v3 + 1)] [] σ7)) ∧ (r7 = 0 → (Q v3 σ7))))))))))))) ∧ (v3 = p1 → (Jt mX9_wrongWithout (d + 1) 0 t Q 4 [rv a0, iv p1, iv v2, iv (v3 + 1)] [] σ))))))))) : Jt mX9_wrongWithout (d + 1) 0 t Q 4 [rv a0, iv p1, iv v2, iv v3] [] σ := by
  refine j_iload_n (i := 3) rfl (show decode cX9_wrongWithout 4 = .ok (.iload_n 3, 1) by decide +kernel) ?_
  refine s_aload_n (i := 0) rfl (show decode cX9_wrongWithout 5 = .ok (.aload_n 0, 1) by decide +kernel) ?_
  refine gf_X9_15 rfl (show decode cX9_wrongWithout 6 = .ok (.getfield 15, 3) by decide +kernel) h0 ?_
  have hr0 := h.1
  have h := h.2
  have hr1 := h.1
  have h := h.2
  refine j_icmp_ge (tgt := 54) hr0 hr1 (show decode cX9_wrongWithout 9 = .ok (.if_icmp .ge 45, 3) by decide +kernel) (by decide) (fun c => ?_) (fun c => ?_)
  · have h := h.1 c
    refine j_iconst (show decode cX9_wrongWithout 54 = .ok (.iconst (-1), 1) by decide +kernel) ?_
    exact j_ret (rokI (show decode cX9_wrongWithout 55 = .ok (.ireturn, 1) by decide +kernel) rfl) ⟨rfl, rfl, h⟩
  · have h := h.2 c
    refine j_iload_n (i := 3) rfl (show decode cX9_wrongWithout 12 = .ok (.iload_n 3, 1) by decide +kernel) ?_
    refine j_iload_n (i := 1) rfl (show decode cX9_wrongWithout 13 = .ok (.iload_n 1, 1) by decide +kernel) ?_
    have hr2 := h.1
    have h := h.2
    have hr3 := h.1
    have h := h.2
    refine j_icmp_ne (tgt := 20) hr2 hr3 (show decode cX9_wrongWithout 14 = .ok (.if_icmp .ne 6, 3) by decide +kernel) (by decide) (fun c => ?_) (fun c => ?_)
    · have h := h.1 c
      refine s_aload_n (i := 0) rfl (show decode cX9_wrongWithout 20 = .ok (.aload_n 0, 1) by decide +kernel) ?_
      refine gf_X9_11 (x := (a0 + 1)) rfl (show decode cX9_wrongWithout 21 = .ok (.getfield 11, 3) by decide +kernel) h0 (gr_9_0 h0) ?_
      refine j_iload_n (i := 3) rfl (show decode cX9_wrongWithout 24 = .ok (.iload_n 3, 1) by decide +kernel) ?_
      refine s_iald (show decode cX9_wrongWithout 25 = .ok (.iaload, 1) by decide +kernel) (ok_9_0 h0) h.1 ?_
      have h := h.2
      refine s_aload_n (i := 0) rfl (show decode cX9_wrongWithout 26 = .ok (.aload_n 0, 1) by decide +kernel) ?_
      refine gf_X9_11 (x := (a0 + 1)) rfl (show decode cX9_wrongWithout 27 = .ok (.getfield 11, 3) by decide +kernel) h0 (gr_9_0 h0) ?_
      refine j_iload_n (i := 2) rfl (show decode cX9_wrongWithout 30 = .ok (.iload_n 2, 1) by decide +kernel) ?_
      refine s_iald (show decode cX9_wrongWithout 31 = .ok (.iaload, 1) by decide +kernel) (ok_9_0 h0) h.1 ?_
      have h := h.2
      have hr4 := h.1
      have h := h.2
      have hr5 := h.1
      have h := h.2
      refine j_icmp_le (tgt := 44) hr4 hr5 (show decode cX9_wrongWithout 32 = .ok (.if_icmp .le 12, 3) by decide +kernel) (by decide) (fun c => ?_) (fun c => ?_)
      · have h := h.1 c
        refine j_iload_n (i := 3) rfl (show decode cX9_wrongWithout 44 = .ok (.iload_n 3, 1) by decide +kernel) ?_
        exact j_ret (rokI (show decode cX9_wrongWithout 45 = .ok (.ireturn, 1) by decide +kernel) rfl) ⟨rfl, rfl, h⟩
      · have h := h.2 c
        refine s_aload_n (i := 0) rfl (show decode cX9_wrongWithout 35 = .ok (.aload_n 0, 1) by decide +kernel) ?_
        refine j_iload_n (i := 3) rfl (show decode cX9_wrongWithout 36 = .ok (.iload_n 3, 1) by decide +kernel) ?_
        refine j_iload_n (i := 1) rfl (show decode cX9_wrongWithout 37 = .ok (.iload_n 1, 1) by decide +kernel) ?_
        refine j_ctV (m' := mX9_isSumWithout) (As := [iv v3, iv p1]) (ci := 9) (tag := 0) (N := 0) (cw_X9_25 rfl) (show decode cX9_wrongWithout 38 = .ok (.invokevirtual 25, 3) by decide +kernel) rfl (Nat.le_of_ble_eq_true rfl) (by decide) h0 rfl rfl (Nat.le_refl _) h (fun r7 σ7 h => ?_)
        have hr7 := h.1
        have h := h.2
        refine j_if_ne (tgt := 46) hr7 (show decode cX9_wrongWithout 41 = .ok (.ifCond .ne 5, 3) by decide +kernel) (by decide) (fun c => ?_) (fun c => ?_)
        · have h := h.1 c
          refine j_iload_n (i := 3) rfl (show decode cX9_wrongWithout 46 = .ok (.iload_n 3, 1) by decide +kernel) ?_
          refine s_ist_n (i := 2) (L' := [rv a0, iv p1, iv v3, iv v3]) rfl (by decide) (show decode cX9_wrongWithout 47 = .ok (.istore_n 2, 1) by decide +kernel) ?_
          refine s_iinc (i := 3) rfl (L' := [rv a0, iv p1, iv v3, iv (v3 + 1)]) rfl (show decode cX9_wrongWithout 48 = .ok (.iinc 3 1, 3) by decide +kernel) ?_
          refine j_goto (tgt := 4) (show decode cX9_wrongWithout 51 = .ok (.goto (-47), 3) by decide +kernel) (by decide) ?_
          exact h
        · have h := h.2 c
          refine j_iload_n (i := 3) rfl (show decode cX9_wrongWithout 44 = .ok (.iload_n 3, 1) by decide +kernel) ?_
          exact j_ret (rokI (show decode cX9_wrongWithout 45 = .ok (.ireturn, 1) by decide +kernel) rfl) ⟨rfl, rfl, h⟩
    · have h := h.2 c
      refine j_goto (tgt := 48) (show decode cX9_wrongWithout 17 = .ok (.goto 31, 3) by decide +kernel) (by decide) ?_
      refine s_iinc (i := 3) rfl (L' := [rv a0, iv p1, iv v2, iv (v3 + 1)]) rfl (show decode cX9_wrongWithout 48 = .ok (.iinc 3 1, 3) by decide +kernel) ?_
      refine j_goto (tgt := 4) (show decode cX9_wrongWithout 51 = .ok (.goto (-47), 3) by decide +kernel) (by decide) ?_
      exact h
set_option maxRecDepth 4000 in
theorem b_X9_wrongWithout_0 {d : Nat} {t : Int} {Q : Int → jM → Prop} {σ : jM} {a0 p1 : Int} (h0 : ob (GG t) a0 9) (h : Jt mX9_wrongWithout (d + 1) 0 t Q 4 [rv a0, iv p1, iv 0, iv 1] [] σ) : Jt mX9_wrongWithout (d + 1) 0 t Q 0 [rv a0, iv p1, uv, uv] [] σ := by
  refine j_iconst (show decode cX9_wrongWithout 0 = .ok (.iconst 0, 1) by decide +kernel) ?_
  refine s_ist_n (i := 2) (L' := [rv a0, iv p1, iv 0, uv]) rfl (by decide) (show decode cX9_wrongWithout 1 = .ok (.istore_n 2, 1) by decide +kernel) ?_
  refine j_iconst (show decode cX9_wrongWithout 2 = .ok (.iconst 1, 1) by decide +kernel) ?_
  refine s_ist_n (i := 3) (L' := [rv a0, iv p1, iv 0, iv 1]) rfl (by decide) (show decode cX9_wrongWithout 3 = .ok (.istore_n 3, 1) by decide +kernel) ?_
  exact h
theorem c_X9_wrongWithout {d : Nat} {t : Int} {Q : Int → jM → Prop} {σ : jM} {a0 p1 : Int} (h0 : ob (GG t) a0 9) (h : Jt mX9_wrongWithout (d + 1) 0 t Q 4 [rv a0, iv p1, iv 0, iv 1] [] σ) : Ct mX9_wrongWithout (d + 1) 0 t [rv a0, iv p1] σ Q := Ct_of (by decide +kernel) (Nat.le_of_ble_eq_true rfl) (b_X9_wrongWithout_0 h0 h)
set_option maxRecDepth 4000 in
theorem b_X9_isSumWithout_10 {d : Nat} {t : Int} {Q : Int → jM → Prop} {σ : jM} {a0 p1 p2 v3 v4 : Int} (h0 : ob (GG t) a0 9) (h : (inR v4) ∧ ((inR p1) ∧ ((p1 ≤ v4 → (Jt mX9_isSumWithout (d) 0 t Q 2 [rv a0, iv p1, iv p2, iv (v3 + 1), uv] [] σ)) ∧ (v4 < p1 → ((inR v3) ∧ ((inR p2) ∧ ((v3 = p2 → (Jt mX9_isSumWithout (d) 0 t Q 10 [rv a0, iv p1, iv p2, iv v3, iv (v4 + 1)] [] σ)) ∧ (¬ v3 = p2 → ((inR v4) ∧ ((inR p2) ∧ ((v4 = p2 → (Jt mX9_isSumWithout (d) 0 t Q 10 [rv a0, iv p1, iv p2, iv v3, iv (v4 + 1)] [] σ)) ∧ (¬ v4 = p2 → (((0 : Int) ≤ v3 ∧ v3 < 12) ∧ (((0 : Int) ≤ v4 ∧ v4 < 12) ∧ (((0 : Int) ≤ p1 ∧ p1 < 12) ∧ ((inR ((σ (a0 + 1) v3) + (σ (a0 + 1) v4))) ∧ ((inR (σ (a0 + 1) p1)) ∧ ((¬ ((σ (a0 + 1) v3) + (σ (a0 + 1) v4)) = (σ (a0 + 1) p1) → (Jt mX9_isSumWithout (d) 0 t Q 10 [rv a0, iv p1, iv p2, iv v3, iv (v4 + 1)] [] σ)) ∧ (((σ (a0 + 1) v3) + (σ (a0 + 1) v4)) = (σ (a0 + 1) p1) → (Q 1 σ)))))))))))))))))))) : Jt mX9_isSumWithout (d) 0 t Q 10 [rv a0, iv p1, iv p2, iv v3, iv v4] [] σ := by
  refine j_iload (i := 4) rfl (show decode cX9_isSumWithout 10 = .ok (.iload 4, 2) by decide +kernel) ?_
  refine j_iload_n (i := 1) rfl (show decode cX9_isSumWithout 12 = .ok (.iload_n 1, 1) by decide +kernel) ?_
  have hr0 := h.1
  have h := h.2
  have hr1 := h.1
  have h := h.2
  refine j_icmp_ge (tgt := 58) hr0 hr1 (show decode cX9_isSumWithout 13 = .ok (.if_icmp .ge 45, 3) by decide +kernel) (by decide) (fun c => ?_) (fun c => ?_)
  · have h := h.1 c
    refine s_iinc (i := 3) rfl (L' := [rv a0, iv p1, iv p2, iv (v3 + 1), iv v4]) rfl (show decode cX9_isSumWithout 58 = .ok (.iinc 3 1, 3) by decide +kernel) ?_
    refine j_goto (tgt := 2) (show decode cX9_isSumWithout 61 = .ok (.goto (-59), 3) by decide +kernel) (by decide) ?_
    refine j_drop 4 ?_
    exact h
  · have h := h.2 c
    refine j_iload_n (i := 3) rfl (show decode cX9_isSumWithout 16 = .ok (.iload_n 3, 1) by decide +kernel) ?_
    refine j_iload_n (i := 2) rfl (show decode cX9_isSumWithout 17 = .ok (.iload_n 2, 1) by decide +kernel) ?_
    have hr2 := h.1
    have h := h.2
    have hr3 := h.1
    have h := h.2
    refine j_icmp_eq (tgt := 52) hr2 hr3 (show decode cX9_isSumWithout 18 = .ok (.if_icmp .eq 34, 3) by decide +kernel) (by decide) (fun c => ?_) (fun c => ?_)
    · have h := h.1 c
      refine s_iinc (i := 4) rfl (L' := [rv a0, iv p1, iv p2, iv v3, iv (v4 + 1)]) rfl (show decode cX9_isSumWithout 52 = .ok (.iinc 4 1, 3) by decide +kernel) ?_
      refine j_goto (tgt := 10) (show decode cX9_isSumWithout 55 = .ok (.goto (-45), 3) by decide +kernel) (by decide) ?_
      exact h
    · have h := h.2 c
      refine j_iload (i := 4) rfl (show decode cX9_isSumWithout 21 = .ok (.iload 4, 2) by decide +kernel) ?_
      refine j_iload_n (i := 2) rfl (show decode cX9_isSumWithout 23 = .ok (.iload_n 2, 1) by decide +kernel) ?_
      have hr4 := h.1
      have h := h.2
      have hr5 := h.1
      have h := h.2
      refine j_icmp_eq (tgt := 52) hr4 hr5 (show decode cX9_isSumWithout 24 = .ok (.if_icmp .eq 28, 3) by decide +kernel) (by decide) (fun c => ?_) (fun c => ?_)
      · have h := h.1 c
        refine s_iinc (i := 4) rfl (L' := [rv a0, iv p1, iv p2, iv v3, iv (v4 + 1)]) rfl (show decode cX9_isSumWithout 52 = .ok (.iinc 4 1, 3) by decide +kernel) ?_
        refine j_goto (tgt := 10) (show decode cX9_isSumWithout 55 = .ok (.goto (-45), 3) by decide +kernel) (by decide) ?_
        exact h
      · have h := h.2 c
        refine s_aload_n (i := 0) rfl (show decode cX9_isSumWithout 27 = .ok (.aload_n 0, 1) by decide +kernel) ?_
        refine gf_X9_11 (x := (a0 + 1)) rfl (show decode cX9_isSumWithout 28 = .ok (.getfield 11, 3) by decide +kernel) h0 (gr_9_0 h0) ?_
        refine j_iload_n (i := 3) rfl (show decode cX9_isSumWithout 31 = .ok (.iload_n 3, 1) by decide +kernel) ?_
        refine s_iald (show decode cX9_isSumWithout 32 = .ok (.iaload, 1) by decide +kernel) (ok_9_0 h0) h.1 ?_
        have h := h.2
        refine s_aload_n (i := 0) rfl (show decode cX9_isSumWithout 33 = .ok (.aload_n 0, 1) by decide +kernel) ?_
        refine gf_X9_11 (x := (a0 + 1)) rfl (show decode cX9_isSumWithout 34 = .ok (.getfield 11, 3) by decide +kernel) h0 (gr_9_0 h0) ?_
        refine j_iload (i := 4) rfl (show decode cX9_isSumWithout 37 = .ok (.iload 4, 2) by decide +kernel) ?_
        refine s_iald (show decode cX9_isSumWithout 39 = .ok (.iaload, 1) by decide +kernel) (ok_9_0 h0) h.1 ?_
        have h := h.2
        refine j_iadd (show decode cX9_isSumWithout 40 = .ok (.iadd, 1) by decide +kernel) ?_
        refine s_aload_n (i := 0) rfl (show decode cX9_isSumWithout 41 = .ok (.aload_n 0, 1) by decide +kernel) ?_
        refine gf_X9_11 (x := (a0 + 1)) rfl (show decode cX9_isSumWithout 42 = .ok (.getfield 11, 3) by decide +kernel) h0 (gr_9_0 h0) ?_
        refine j_iload_n (i := 1) rfl (show decode cX9_isSumWithout 45 = .ok (.iload_n 1, 1) by decide +kernel) ?_
        refine s_iald (show decode cX9_isSumWithout 46 = .ok (.iaload, 1) by decide +kernel) (ok_9_0 h0) h.1 ?_
        have h := h.2
        have hr6 := h.1
        have h := h.2
        have hr7 := h.1
        have h := h.2
        refine j_icmp_ne (tgt := 52) hr6 hr7 (show decode cX9_isSumWithout 47 = .ok (.if_icmp .ne 5, 3) by decide +kernel) (by decide) (fun c => ?_) (fun c => ?_)
        · have h := h.1 c
          refine s_iinc (i := 4) rfl (L' := [rv a0, iv p1, iv p2, iv v3, iv (v4 + 1)]) rfl (show decode cX9_isSumWithout 52 = .ok (.iinc 4 1, 3) by decide +kernel) ?_
          refine j_goto (tgt := 10) (show decode cX9_isSumWithout 55 = .ok (.goto (-45), 3) by decide +kernel) (by decide) ?_
          exact h
        · have h := h.2 c
          refine j_iconst (show decode cX9_isSumWithout 50 = .ok (.iconst 1, 1) by decide +kernel) ?_
          exact j_ret (rokZ (show decode cX9_isSumWithout 51 = .ok (.ireturn, 1) by decide +kernel) rfl (Or.inr rfl)) ⟨rfl, rfl, h⟩
set_option maxRecDepth 4000 in
theorem b_X9_isSumWithout_2 {d : Nat} {t : Int} {Q : Int → jM → Prop} {σ : jM} {a0 p1 p2 v3 : Int} (h0 : ob (GG t) a0 9) (h : (inR v3) ∧ ((inR p1) ∧ ((p1 ≤ v3 → (Q 0 σ)) ∧ (v3 < p1 → (Jt mX9_isSumWithout (d) 0 t Q 10 [rv a0, iv p1, iv p2, iv v3, iv v3] [] σ))))) : Jt mX9_isSumWithout (d) 0 t Q 2 [rv a0, iv p1, iv p2, iv v3, uv] [] σ := by
  refine j_iload_n (i := 3) rfl (show decode cX9_isSumWithout 2 = .ok (.iload_n 3, 1) by decide +kernel) ?_
  refine j_iload_n (i := 1) rfl (show decode cX9_isSumWithout 3 = .ok (.iload_n 1, 1) by decide +kernel) ?_
  have hr0 := h.1
  have h := h.2
  have hr1 := h.1
  have h := h.2
  refine j_icmp_ge (tgt := 64) hr0 hr1 (show decode cX9_isSumWithout 4 = .ok (.if_icmp .ge 60, 3) by decide +kernel) (by decide) (fun c => ?_) (fun c => ?_)
  · have h := h.1 c
    refine j_iconst (show decode cX9_isSumWithout 64 = .ok (.iconst 0, 1) by decide +kernel) ?_
    exact j_ret (rokZ (show decode cX9_isSumWithout 65 = .ok (.ireturn, 1) by decide +kernel) rfl (Or.inl rfl)) ⟨rfl, rfl, h⟩
  · have h := h.2 c
    refine j_iload_n (i := 3) rfl (show decode cX9_isSumWithout 7 = .ok (.iload_n 3, 1) by decide +kernel) ?_
    refine s_ist (i := 4) (L' := [rv a0, iv p1, iv p2, iv v3, iv v3]) rfl (by decide) (show decode cX9_isSumWithout 8 = .ok (.istore 4, 2) by decide +kernel) ?_
    exact h
set_option maxRecDepth 4000 in
theorem b_X9_isSumWithout_0 {d : Nat} {t : Int} {Q : Int → jM → Prop} {σ : jM} {a0 p1 p2 : Int} (h0 : ob (GG t) a0 9) (h : Jt mX9_isSumWithout (d) 0 t Q 2 [rv a0, iv p1, iv p2, iv 0, uv] [] σ) : Jt mX9_isSumWithout (d) 0 t Q 0 [rv a0, iv p1, iv p2, uv, uv] [] σ := by
  refine j_iconst (show decode cX9_isSumWithout 0 = .ok (.iconst 0, 1) by decide +kernel) ?_
  refine s_ist_n (i := 3) (L' := [rv a0, iv p1, iv p2, iv 0, uv]) rfl (by decide) (show decode cX9_isSumWithout 1 = .ok (.istore_n 3, 1) by decide +kernel) ?_
  exact h
theorem c_X9_isSumWithout {d : Nat} {t : Int} {Q : Int → jM → Prop} {σ : jM} {a0 p1 p2 : Int} (h0 : ob (GG t) a0 9) (h : Jt mX9_isSumWithout (d) 0 t Q 2 [rv a0, iv p1, iv p2, iv 0, uv] [] σ) : Ct mX9_isSumWithout (d) 0 t [rv a0, iv p1, iv p2] σ Q := Ct_of (by decide +kernel) (Nat.le_of_ble_eq_true rfl) (b_X9_isSumWithout_0 h0 h)
set_option maxRecDepth 4000 in
theorem b_X9_goesByTheLast_2 {d : Nat} {t : Int} {Q : Int → jM → Prop} {σ : jM} {a0 v1 : Int} (h0 : ob (GG t) a0 9) (h : (inR v1) ∧ ((inR (σ a0 1)) ∧ (((σ a0 1) ≤ v1 → (Q 1 σ)) ∧ (v1 < (σ a0 1) → (((0 : Int) ≤ v1 ∧ v1 < 12) ∧ (((0 : Int) ≤ (v1 - 1) ∧ (v1 - 1) < 12) ∧ (Ct mX9_stands d 0 t [rv a0, iv v1, iv ((σ (a0 + 1) v1) - (σ (a0 + 1) (v1 - 1)))] σ (fun r3 σ3 => ((inR r3) ∧ ((¬ r3 = 0 → (Jt mX9_goesByTheLast (d + 1) 0 t Q 2 [rv a0, iv (v1 + 1)] [] σ3)) ∧ (r3 = 0 → (Q 0 σ3)))))))))))) : Jt mX9_goesByTheLast (d + 1) 0 t Q 2 [rv a0, iv v1] [] σ := by
  refine j_iload_n (i := 1) rfl (show decode cX9_goesByTheLast 2 = .ok (.iload_n 1, 1) by decide +kernel) ?_
  refine s_aload_n (i := 0) rfl (show decode cX9_goesByTheLast 3 = .ok (.aload_n 0, 1) by decide +kernel) ?_
  refine gf_X9_15 rfl (show decode cX9_goesByTheLast 4 = .ok (.getfield 15, 3) by decide +kernel) h0 ?_
  have hr0 := h.1
  have h := h.2
  have hr1 := h.1
  have h := h.2
  refine j_icmp_ge (tgt := 41) hr0 hr1 (show decode cX9_goesByTheLast 7 = .ok (.if_icmp .ge 34, 3) by decide +kernel) (by decide) (fun c => ?_) (fun c => ?_)
  · have h := h.1 c
    refine j_iconst (show decode cX9_goesByTheLast 41 = .ok (.iconst 1, 1) by decide +kernel) ?_
    exact j_ret (rokZ (show decode cX9_goesByTheLast 42 = .ok (.ireturn, 1) by decide +kernel) rfl (Or.inr rfl)) ⟨rfl, rfl, h⟩
  · have h := h.2 c
    refine s_aload_n (i := 0) rfl (show decode cX9_goesByTheLast 10 = .ok (.aload_n 0, 1) by decide +kernel) ?_
    refine j_iload_n (i := 1) rfl (show decode cX9_goesByTheLast 11 = .ok (.iload_n 1, 1) by decide +kernel) ?_
    refine s_aload_n (i := 0) rfl (show decode cX9_goesByTheLast 12 = .ok (.aload_n 0, 1) by decide +kernel) ?_
    refine gf_X9_11 (x := (a0 + 1)) rfl (show decode cX9_goesByTheLast 13 = .ok (.getfield 11, 3) by decide +kernel) h0 (gr_9_0 h0) ?_
    refine j_iload_n (i := 1) rfl (show decode cX9_goesByTheLast 16 = .ok (.iload_n 1, 1) by decide +kernel) ?_
    refine s_iald (show decode cX9_goesByTheLast 17 = .ok (.iaload, 1) by decide +kernel) (ok_9_0 h0) h.1 ?_
    have h := h.2
    refine s_aload_n (i := 0) rfl (show decode cX9_goesByTheLast 18 = .ok (.aload_n 0, 1) by decide +kernel) ?_
    refine gf_X9_11 (x := (a0 + 1)) rfl (show decode cX9_goesByTheLast 19 = .ok (.getfield 11, 3) by decide +kernel) h0 (gr_9_0 h0) ?_
    refine j_iload_n (i := 1) rfl (show decode cX9_goesByTheLast 22 = .ok (.iload_n 1, 1) by decide +kernel) ?_
    refine j_iconst (show decode cX9_goesByTheLast 23 = .ok (.iconst 1, 1) by decide +kernel) ?_
    refine j_isub (show decode cX9_goesByTheLast 24 = .ok (.isub, 1) by decide +kernel) ?_
    refine s_iald (show decode cX9_goesByTheLast 25 = .ok (.iaload, 1) by decide +kernel) (ok_9_0 h0) h.1 ?_
    have h := h.2
    refine j_isub (show decode cX9_goesByTheLast 26 = .ok (.isub, 1) by decide +kernel) ?_
    refine j_ctV (m' := mX9_stands) (As := [iv v1, iv ((σ (a0 + 1) v1) - (σ (a0 + 1) (v1 - 1)))]) (ci := 9) (tag := 0) (N := 0) (cw_X9_29 rfl) (show decode cX9_goesByTheLast 27 = .ok (.invokevirtual 29, 3) by decide +kernel) rfl (Nat.le_of_ble_eq_true rfl) (by decide) h0 rfl rfl (Nat.le_refl _) h (fun r3 σ3 h => ?_)
    have hr3 := h.1
    have h := h.2
    refine j_if_ne (tgt := 35) hr3 (show decode cX9_goesByTheLast 30 = .ok (.ifCond .ne 5, 3) by decide +kernel) (by decide) (fun c => ?_) (fun c => ?_)
    · have h := h.1 c
      refine s_iinc (i := 1) rfl (L' := [rv a0, iv (v1 + 1)]) rfl (show decode cX9_goesByTheLast 35 = .ok (.iinc 1 1, 3) by decide +kernel) ?_
      refine j_goto (tgt := 2) (show decode cX9_goesByTheLast 38 = .ok (.goto (-36), 3) by decide +kernel) (by decide) ?_
      exact h
    · have h := h.2 c
      refine j_iconst (show decode cX9_goesByTheLast 33 = .ok (.iconst 0, 1) by decide +kernel) ?_
      exact j_ret (rokZ (show decode cX9_goesByTheLast 34 = .ok (.ireturn, 1) by decide +kernel) rfl (Or.inl rfl)) ⟨rfl, rfl, h⟩
set_option maxRecDepth 4000 in
theorem b_X9_goesByTheLast_0 {d : Nat} {t : Int} {Q : Int → jM → Prop} {σ : jM} {a0 : Int} (h0 : ob (GG t) a0 9) (h : Jt mX9_goesByTheLast (d + 1) 0 t Q 2 [rv a0, iv 1] [] σ) : Jt mX9_goesByTheLast (d + 1) 0 t Q 0 [rv a0, uv] [] σ := by
  refine j_iconst (show decode cX9_goesByTheLast 0 = .ok (.iconst 1, 1) by decide +kernel) ?_
  refine s_ist_n (i := 1) (L' := [rv a0, iv 1]) rfl (by decide) (show decode cX9_goesByTheLast 1 = .ok (.istore_n 1, 1) by decide +kernel) ?_
  exact h
theorem c_X9_goesByTheLast {d : Nat} {t : Int} {Q : Int → jM → Prop} {σ : jM} {a0 : Int} (h0 : ob (GG t) a0 9) (h : Jt mX9_goesByTheLast (d + 1) 0 t Q 2 [rv a0, iv 1] [] σ) : Ct mX9_goesByTheLast (d + 1) 0 t [rv a0] σ Q := Ct_of (by decide +kernel) (Nat.le_of_ble_eq_true rfl) (b_X9_goesByTheLast_0 h0 h)
set_option maxRecDepth 4000 in
theorem b_X9_doublings_4 {d : Nat} {t : Int} {Q : Int → jM → Prop} {σ : jM} {a0 v1 v2 : Int} (h0 : ob (GG t) a0 9) (h : (inR v2) ∧ ((inR (σ a0 1)) ∧ (((σ a0 1) ≤ v2 → (Q v1 σ)) ∧ (v2 < (σ a0 1) → (((0 : Int) ≤ v2 ∧ v2 < 12) ∧ ((inR (σ (a0 + 1) v2)) ∧ ((inR (Int.tmod (σ (a0 + 1) v2) 2)) ∧ ((¬ (Int.tmod (σ (a0 + 1) v2) 2) = 0 → (Jt mX9_doublings (d + 1) 0 t Q 4 [rv a0, iv v1, iv (v2 + 1)] [] σ)) ∧ ((Int.tmod (σ (a0 + 1) v2) 2) = 0 → (((0 : Int) ≤ v2 ∧ v2 < 12) ∧ ((inR (σ (a0 + 1) v2)) ∧ (Ct mX9_stands d 0 t [rv a0, iv v2, iv (Int.tdiv (σ (a0 + 1) v2) 2)] σ (fun r6 σ6 => ((inR r6) ∧ ((r6 = 0 → (Jt mX9_doublings (d + 1) 0 t Q 4 [rv a0, iv v1, iv (v2 + 1)] [] σ6)) ∧ (¬ r6 = 0 → (Jt mX9_doublings (d + 1) 0 t Q 4 [rv a0, iv (v1 + 1), iv (v2 + 1)] [] σ6))))))))))))))))) : Jt mX9_doublings (d + 1) 0 t Q 4 [rv a0, iv v1, iv v2] [] σ := by
  refine j_iload_n (i := 2) rfl (show decode cX9_doublings 4 = .ok (.iload_n 2, 1) by decide +kernel) ?_
  refine s_aload_n (i := 0) rfl (show decode cX9_doublings 5 = .ok (.aload_n 0, 1) by decide +kernel) ?_
  refine gf_X9_15 rfl (show decode cX9_doublings 6 = .ok (.getfield 15, 3) by decide +kernel) h0 ?_
  have hr0 := h.1
  have h := h.2
  have hr1 := h.1
  have h := h.2
  refine j_icmp_ge (tgt := 48) hr0 hr1 (show decode cX9_doublings 9 = .ok (.if_icmp .ge 39, 3) by decide +kernel) (by decide) (fun c => ?_) (fun c => ?_)
  · have h := h.1 c
    refine j_iload_n (i := 1) rfl (show decode cX9_doublings 48 = .ok (.iload_n 1, 1) by decide +kernel) ?_
    exact j_ret (rokI (show decode cX9_doublings 49 = .ok (.ireturn, 1) by decide +kernel) rfl) ⟨rfl, rfl, h⟩
  · have h := h.2 c
    refine s_aload_n (i := 0) rfl (show decode cX9_doublings 12 = .ok (.aload_n 0, 1) by decide +kernel) ?_
    refine gf_X9_11 (x := (a0 + 1)) rfl (show decode cX9_doublings 13 = .ok (.getfield 11, 3) by decide +kernel) h0 (gr_9_0 h0) ?_
    refine j_iload_n (i := 2) rfl (show decode cX9_doublings 16 = .ok (.iload_n 2, 1) by decide +kernel) ?_
    refine s_iald (show decode cX9_doublings 17 = .ok (.iaload, 1) by decide +kernel) (ok_9_0 h0) h.1 ?_
    have h := h.2
    refine j_iconst (show decode cX9_doublings 18 = .ok (.iconst 2, 1) by decide +kernel) ?_
    have hr2 := h.1
    have h := h.2
    refine j_irem hr2 (inl (by decide)) (by decide) (show decode cX9_doublings 19 = .ok (.irem, 1) by decide +kernel) ?_
    have hr3 := h.1
    have h := h.2
    refine j_if_ne (tgt := 42) hr3 (show decode cX9_doublings 20 = .ok (.ifCond .ne 22, 3) by decide +kernel) (by decide) (fun c => ?_) (fun c => ?_)
    · have h := h.1 c
      refine s_iinc (i := 2) rfl (L' := [rv a0, iv v1, iv (v2 + 1)]) rfl (show decode cX9_doublings 42 = .ok (.iinc 2 1, 3) by decide +kernel) ?_
      refine j_goto (tgt := 4) (show decode cX9_doublings 45 = .ok (.goto (-41), 3) by decide +kernel) (by decide) ?_
      exact h
    · have h := h.2 c
      refine s_aload_n (i := 0) rfl (show decode cX9_doublings 23 = .ok (.aload_n 0, 1) by decide +kernel) ?_
      refine j_iload_n (i := 2) rfl (show decode cX9_doublings 24 = .ok (.iload_n 2, 1) by decide +kernel) ?_
      refine s_aload_n (i := 0) rfl (show decode cX9_doublings 25 = .ok (.aload_n 0, 1) by decide +kernel) ?_
      refine gf_X9_11 (x := (a0 + 1)) rfl (show decode cX9_doublings 26 = .ok (.getfield 11, 3) by decide +kernel) h0 (gr_9_0 h0) ?_
      refine j_iload_n (i := 2) rfl (show decode cX9_doublings 29 = .ok (.iload_n 2, 1) by decide +kernel) ?_
      refine s_iald (show decode cX9_doublings 30 = .ok (.iaload, 1) by decide +kernel) (ok_9_0 h0) h.1 ?_
      have h := h.2
      refine j_iconst (show decode cX9_doublings 31 = .ok (.iconst 2, 1) by decide +kernel) ?_
      have hr4 := h.1
      have h := h.2
      refine j_idiv hr4 (inl (by decide)) (by decide) (show decode cX9_doublings 32 = .ok (.idiv, 1) by decide +kernel) ?_
      refine j_ctV (m' := mX9_stands) (As := [iv v2, iv (Int.tdiv (σ (a0 + 1) v2) 2)]) (ci := 9) (tag := 0) (N := 0) (cw_X9_29 rfl) (show decode cX9_doublings 33 = .ok (.invokevirtual 29, 3) by decide +kernel) rfl (Nat.le_of_ble_eq_true rfl) (by decide) h0 rfl rfl (Nat.le_refl _) h (fun r6 σ6 h => ?_)
      have hr6 := h.1
      have h := h.2
      refine j_if_eq (tgt := 42) hr6 (show decode cX9_doublings 36 = .ok (.ifCond .eq 6, 3) by decide +kernel) (by decide) (fun c => ?_) (fun c => ?_)
      · have h := h.1 c
        refine s_iinc (i := 2) rfl (L' := [rv a0, iv v1, iv (v2 + 1)]) rfl (show decode cX9_doublings 42 = .ok (.iinc 2 1, 3) by decide +kernel) ?_
        refine j_goto (tgt := 4) (show decode cX9_doublings 45 = .ok (.goto (-41), 3) by decide +kernel) (by decide) ?_
        exact h
      · have h := h.2 c
        refine s_iinc (i := 1) rfl (L' := [rv a0, iv (v1 + 1), iv v2]) rfl (show decode cX9_doublings 39 = .ok (.iinc 1 1, 3) by decide +kernel) ?_
        refine s_iinc (i := 2) rfl (L' := [rv a0, iv (v1 + 1), iv (v2 + 1)]) rfl (show decode cX9_doublings 42 = .ok (.iinc 2 1, 3) by decide +kernel) ?_
        refine j_goto (tgt := 4) (show decode cX9_doublings 45 = .ok (.goto (-41), 3) by decide +kernel) (by decide) ?_
        exact h
set_option maxRecDepth 4000 in
theorem b_X9_doublings_0 {d : Nat} {t : Int} {Q : Int → jM → Prop} {σ : jM} {a0 : Int} (h0 : ob (GG t) a0 9) (h : Jt mX9_doublings (d + 1) 0 t Q 4 [rv a0, iv 0, iv 1] [] σ) : Jt mX9_doublings (d + 1) 0 t Q 0 [rv a0, uv, uv] [] σ := by
  refine j_iconst (show decode cX9_doublings 0 = .ok (.iconst 0, 1) by decide +kernel) ?_
  refine s_ist_n (i := 1) (L' := [rv a0, iv 0, uv]) rfl (by decide) (show decode cX9_doublings 1 = .ok (.istore_n 1, 1) by decide +kernel) ?_
  refine j_iconst (show decode cX9_doublings 2 = .ok (.iconst 1, 1) by decide +kernel) ?_
  refine s_ist_n (i := 2) (L' := [rv a0, iv 0, iv 1]) rfl (by decide) (show decode cX9_doublings 3 = .ok (.istore_n 2, 1) by decide +kernel) ?_
  exact h
theorem c_X9_doublings {d : Nat} {t : Int} {Q : Int → jM → Prop} {σ : jM} {a0 : Int} (h0 : ob (GG t) a0 9) (h : Jt mX9_doublings (d + 1) 0 t Q 4 [rv a0, iv 0, iv 1] [] σ) : Ct mX9_doublings (d + 1) 0 t [rv a0] σ Q := Ct_of (by decide +kernel) (Nat.le_of_ble_eq_true rfl) (b_X9_doublings_0 h0 h)
set_option maxRecDepth 4000 in
theorem b_X9_stands_2 {d : Nat} {t : Int} {Q : Int → jM → Prop} {σ : jM} {a0 p1 p2 v3 : Int} (h0 : ob (GG t) a0 9) (h : (inR v3) ∧ ((inR p1) ∧ ((p1 ≤ v3 → (Q 0 σ)) ∧ (v3 < p1 → (((0 : Int) ≤ v3 ∧ v3 < 12) ∧ ((inR (σ (a0 + 1) v3)) ∧ ((inR p2) ∧ ((¬ (σ (a0 + 1) v3) = p2 → (Jt mX9_stands (d) 0 t Q 2 [rv a0, iv p1, iv p2, iv (v3 + 1)] [] σ)) ∧ ((σ (a0 + 1) v3) = p2 → (Q 1 σ)))))))))) : Jt mX9_stands (d) 0 t Q 2 [rv a0, iv p1, iv p2, iv v3] [] σ := by
  refine j_iload_n (i := 3) rfl (show decode cX9_stands 2 = .ok (.iload_n 3, 1) by decide +kernel) ?_
  refine j_iload_n (i := 1) rfl (show decode cX9_stands 3 = .ok (.iload_n 1, 1) by decide +kernel) ?_
  have hr0 := h.1
  have h := h.2
  have hr1 := h.1
  have h := h.2
  refine j_icmp_ge (tgt := 25) hr0 hr1 (show decode cX9_stands 4 = .ok (.if_icmp .ge 21, 3) by decide +kernel) (by decide) (fun c => ?_) (fun c => ?_)
  · have h := h.1 c
    refine j_iconst (show decode cX9_stands 25 = .ok (.iconst 0, 1) by decide +kernel) ?_
    exact j_ret (rokZ (show decode cX9_stands 26 = .ok (.ireturn, 1) by decide +kernel) rfl (Or.inl rfl)) ⟨rfl, rfl, h⟩
  · have h := h.2 c
    refine s_aload_n (i := 0) rfl (show decode cX9_stands 7 = .ok (.aload_n 0, 1) by decide +kernel) ?_
    refine gf_X9_11 (x := (a0 + 1)) rfl (show decode cX9_stands 8 = .ok (.getfield 11, 3) by decide +kernel) h0 (gr_9_0 h0) ?_
    refine j_iload_n (i := 3) rfl (show decode cX9_stands 11 = .ok (.iload_n 3, 1) by decide +kernel) ?_
    refine s_iald (show decode cX9_stands 12 = .ok (.iaload, 1) by decide +kernel) (ok_9_0 h0) h.1 ?_
    have h := h.2
    refine j_iload_n (i := 2) rfl (show decode cX9_stands 13 = .ok (.iload_n 2, 1) by decide +kernel) ?_
    have hr2 := h.1
    have h := h.2
    have hr3 := h.1
    have h := h.2
    refine j_icmp_ne (tgt := 19) hr2 hr3 (show decode cX9_stands 14 = .ok (.if_icmp .ne 5, 3) by decide +kernel) (by decide) (fun c => ?_) (fun c => ?_)
    · have h := h.1 c
      refine s_iinc (i := 3) rfl (L' := [rv a0, iv p1, iv p2, iv (v3 + 1)]) rfl (show decode cX9_stands 19 = .ok (.iinc 3 1, 3) by decide +kernel) ?_
      refine j_goto (tgt := 2) (show decode cX9_stands 22 = .ok (.goto (-20), 3) by decide +kernel) (by decide) ?_
      exact h
    · have h := h.2 c
      refine j_iconst (show decode cX9_stands 17 = .ok (.iconst 1, 1) by decide +kernel) ?_
      exact j_ret (rokZ (show decode cX9_stands 18 = .ok (.ireturn, 1) by decide +kernel) rfl (Or.inr rfl)) ⟨rfl, rfl, h⟩
set_option maxRecDepth 4000 in
theorem b_X9_stands_0 {d : Nat} {t : Int} {Q : Int → jM → Prop} {σ : jM} {a0 p1 p2 : Int} (h0 : ob (GG t) a0 9) (h : Jt mX9_stands (d) 0 t Q 2 [rv a0, iv p1, iv p2, iv 0] [] σ) : Jt mX9_stands (d) 0 t Q 0 [rv a0, iv p1, iv p2, uv] [] σ := by
  refine j_iconst (show decode cX9_stands 0 = .ok (.iconst 0, 1) by decide +kernel) ?_
  refine s_ist_n (i := 3) (L' := [rv a0, iv p1, iv p2, iv 0]) rfl (by decide) (show decode cX9_stands 1 = .ok (.istore_n 3, 1) by decide +kernel) ?_
  exact h
theorem c_X9_stands {d : Nat} {t : Int} {Q : Int → jM → Prop} {σ : jM} {a0 p1 p2 : Int} (h0 : ob (GG t) a0 9) (h : Jt mX9_stands (d) 0 t Q 2 [rv a0, iv p1, iv p2, iv 0] [] σ) : Ct mX9_stands (d) 0 t [rv a0, iv p1, iv p2] σ Q := Ct_of (by decide +kernel) (Nat.le_of_ble_eq_true rfl) (b_X9_stands_0 h0 h)
set_option maxRecDepth 4000 in
theorem b_X10_copyFrom_0 {d : Nat} {t : Int} {Q : Int → jM → Prop} {σ : jM} {a0 p1 : Int} (h0 : ob (GG t) a0 10) (h1 : ob (GG t) p1 10) (h : Ct mX1_copyFrom (d + 1) 9 t [rv (a0 + 1), rv (p1 + 1)] σ (fun r1 σ1 => (Ct mX7_copyFrom (d + 1) 9 t [rv (a0 + 5), rv (p1 + 5)] σ1 (fun r2 σ2 => (Ct mX9_copyFrom (d + 1) 9 t [rv (a0 + 127), rv (p1 + 127)] σ2 (fun r3 σ3 => (∀ σ4 : jM, σ4 = cpy σ3 (p1 + 129) 0 (a0 + 129) 0 4 → (∀ σ5 : jM, σ5 = cpy σ4 (p1 + 130) 0 (a0 + 130) 0 8 → (∀ σ6 : jM, σ6 = cpy σ5 (p1 + 131) 0 (a0 + 131) 0 8 → (∀ σ7 : jM, σ7 = up σ6 a0 6 (σ6 p1 6) → (∀ σ8 : jM, σ8 = up σ7 a0 7 (σ7 p1 7) → (∀ σ9 : jM, σ9 = up σ8 a0 8 (σ8 p1 8) → (∀ σ10 : jM, σ10 = up σ9 a0 9 (σ9 p1 9) → (Q 0 σ10)))))))))))))) : Jt mX10_copyFrom (d + 2) 9 t Q 0 [rv a0, rv p1] [] σ := by
  refine s_aload_n (i := 0) rfl (show decode cX10_copyFrom 0 = .ok (.aload_n 0, 1) by decide +kernel) ?_
  refine gf_X10_12 (x := (a0 + 1)) rfl (show decode cX10_copyFrom 1 = .ok (.getfield 12, 3) by decide +kernel) h0 (gr_10_0 h0) ?_
  refine s_aload_n (i := 1) rfl (show decode cX10_copyFrom 4 = .ok (.aload_n 1, 1) by decide +kernel) ?_
  refine gf_X10_12 (x := (p1 + 1)) rfl (show decode cX10_copyFrom 5 = .ok (.getfield 12, 3) by decide +kernel) h1 (gr_10_0 h1) ?_
  refine j_ctVv (m' := mX1_copyFrom) (As := [rv (p1 + 1)]) (ci := 1) (N := 0) (cw_X10_46 rfl) (show decode cX10_copyFrom 8 = .ok (.invokevirtual 46, 3) by decide +kernel) rfl (Nat.le_of_ble_eq_true rfl) (ok_10_0 h0) rfl rfl (Nat.le_refl _) h (fun r1 σ1 h => ?_)
  refine s_aload_n (i := 0) rfl (show decode cX10_copyFrom 11 = .ok (.aload_n 0, 1) by decide +kernel) ?_
  refine gf_X10_21 (x := (a0 + 5)) rfl (show decode cX10_copyFrom 12 = .ok (.getfield 21, 3) by decide +kernel) h0 (gr_10_1 h0) ?_
  refine s_aload_n (i := 1) rfl (show decode cX10_copyFrom 15 = .ok (.aload_n 1, 1) by decide +kernel) ?_
  refine gf_X10_21 (x := (p1 + 5)) rfl (show decode cX10_copyFrom 16 = .ok (.getfield 21, 3) by decide +kernel) h1 (gr_10_1 h1) ?_
  refine j_ctVv (m' := mX7_copyFrom) (As := [rv (p1 + 5)]) (ci := 7) (N := 0) (cw_X10_50 rfl) (show decode cX10_copyFrom 19 = .ok (.invokevirtual 50, 3) by decide +kernel) rfl (Nat.le_of_ble_eq_true rfl) (ok_10_1 h0) rfl rfl (Nat.le_refl _) h (fun r2 σ2 h => ?_)
  refine s_aload_n (i := 0) rfl (show decode cX10_copyFrom 22 = .ok (.aload_n 0, 1) by decide +kernel) ?_
  refine gf_X10_28 (x := (a0 + 127)) rfl (show decode cX10_copyFrom 23 = .ok (.getfield 28, 3) by decide +kernel) h0 (gr_10_2 h0) ?_
  refine s_aload_n (i := 1) rfl (show decode cX10_copyFrom 26 = .ok (.aload_n 1, 1) by decide +kernel) ?_
  refine gf_X10_28 (x := (p1 + 127)) rfl (show decode cX10_copyFrom 27 = .ok (.getfield 28, 3) by decide +kernel) h1 (gr_10_2 h1) ?_
  refine j_ctVv (m' := mX9_copyFrom) (As := [rv (p1 + 127)]) (ci := 9) (N := 0) (cw_X10_53 rfl) (show decode cX10_copyFrom 30 = .ok (.invokevirtual 53, 3) by decide +kernel) rfl (Nat.le_of_ble_eq_true rfl) (ok_10_2 h0) rfl rfl (Nat.le_refl _) h (fun r3 σ3 h => ?_)
  refine s_aload_n (i := 1) rfl (show decode cX10_copyFrom 33 = .ok (.aload_n 1, 1) by decide +kernel) ?_
  refine gf_X10_32 (x := (p1 + 129)) rfl (show decode cX10_copyFrom 34 = .ok (.getfield 32, 3) by decide +kernel) h1 (gr_10_3 h1) ?_
  refine j_iconst (show decode cX10_copyFrom 37 = .ok (.iconst 0, 1) by decide +kernel) ?_
  refine s_aload_n (i := 0) rfl (show decode cX10_copyFrom 38 = .ok (.aload_n 0, 1) by decide +kernel) ?_
  refine gf_X10_32 (x := (a0 + 129)) rfl (show decode cX10_copyFrom 39 = .ok (.getfield 32, 3) by decide +kernel) h0 (gr_10_3 h0) ?_
  refine j_iconst (show decode cX10_copyFrom 42 = .ok (.iconst 0, 1) by decide +kernel) ?_
  refine j_iconst (show decode cX10_copyFrom 43 = .ok (.iconst 4, 1) by decide +kernel) ?_
  refine j_copy1 (tt_in 507 (by decide +kernel) rfl) (by omega) (Nat.le_of_ble_eq_true rfl) (ok_10_3 h1) (ok_10_3 h0) (arN (t := t) (ok_10_3 h1) (by decide)) (arN (t := t) (ok_10_3 h0) (by decide)) (by decide) (show decode cX10_copyFrom 44 = .ok (.invokestatic 56, 3) by decide +kernel) ?_
  obtain ⟨σ4, eσ4⟩ : ∃ z : jM, z = cpy σ3 (p1 + 129) 0 (a0 + 129) 0 4 := ⟨_, rfl⟩
  refine j_sig eσ4 ?_
  have h := h σ4 eσ4
  refine s_aload_n (i := 1) rfl (show decode cX10_copyFrom 47 = .ok (.aload_n 1, 1) by decide +kernel) ?_
  refine gf_X10_36 (x := (p1 + 130)) rfl (show decode cX10_copyFrom 48 = .ok (.getfield 36, 3) by decide +kernel) h1 (gr_10_4 h1) ?_
  refine j_iconst (show decode cX10_copyFrom 51 = .ok (.iconst 0, 1) by decide +kernel) ?_
  refine s_aload_n (i := 0) rfl (show decode cX10_copyFrom 52 = .ok (.aload_n 0, 1) by decide +kernel) ?_
  refine gf_X10_36 (x := (a0 + 130)) rfl (show decode cX10_copyFrom 53 = .ok (.getfield 36, 3) by decide +kernel) h0 (gr_10_4 h0) ?_
  refine j_iconst (show decode cX10_copyFrom 56 = .ok (.iconst 0, 1) by decide +kernel) ?_
  refine j_bipush (n := 8) (by decide +kernel) (show decode cX10_copyFrom 57 = .ok (.bipush 8, 2) by decide +kernel) ?_
  refine j_copy1 (tt_in 507 (by decide +kernel) rfl) (by omega) (Nat.le_of_ble_eq_true rfl) (ok_10_4 h1) (ok_10_4 h0) (arN (t := t) (ok_10_4 h1) (by decide)) (arN (t := t) (ok_10_4 h0) (by decide)) (by decide) (show decode cX10_copyFrom 59 = .ok (.invokestatic 56, 3) by decide +kernel) ?_
  obtain ⟨σ5, eσ5⟩ : ∃ z : jM, z = cpy σ4 (p1 + 130) 0 (a0 + 130) 0 8 := ⟨_, rfl⟩
  refine j_sig eσ5 ?_
  have h := h σ5 eσ5
  refine s_aload_n (i := 1) rfl (show decode cX10_copyFrom 62 = .ok (.aload_n 1, 1) by decide +kernel) ?_
  refine gf_X10_39 (x := (p1 + 131)) rfl (show decode cX10_copyFrom 63 = .ok (.getfield 39, 3) by decide +kernel) h1 (gr_10_5 h1) ?_
  refine j_iconst (show decode cX10_copyFrom 66 = .ok (.iconst 0, 1) by decide +kernel) ?_
  refine s_aload_n (i := 0) rfl (show decode cX10_copyFrom 67 = .ok (.aload_n 0, 1) by decide +kernel) ?_
  refine gf_X10_39 (x := (a0 + 131)) rfl (show decode cX10_copyFrom 68 = .ok (.getfield 39, 3) by decide +kernel) h0 (gr_10_5 h0) ?_
  refine j_iconst (show decode cX10_copyFrom 71 = .ok (.iconst 0, 1) by decide +kernel) ?_
  refine j_bipush (n := 8) (by decide +kernel) (show decode cX10_copyFrom 72 = .ok (.bipush 8, 2) by decide +kernel) ?_
  refine j_copy1 (tt_in 507 (by decide +kernel) rfl) (by omega) (Nat.le_of_ble_eq_true rfl) (ok_10_5 h1) (ok_10_5 h0) (arN (t := t) (ok_10_5 h1) (by decide)) (arN (t := t) (ok_10_5 h0) (by decide)) (by decide) (show decode cX10_copyFrom 74 = .ok (.invokestatic 56, 3) by decide +kernel) ?_
  obtain ⟨σ6, eσ6⟩ : ∃ z : jM, z = cpy σ5 (p1 + 131) 0 (a0 + 131) 0 8 := ⟨_, rfl⟩
  refine j_sig eσ6 ?_
  have h := h σ6 eσ6
  refine s_aload_n (i := 0) rfl (show decode cX10_copyFrom 77 = .ok (.aload_n 0, 1) by decide +kernel) ?_
  refine s_aload_n (i := 1) rfl (show decode cX10_copyFrom 78 = .ok (.aload_n 1, 1) by decide +kernel) ?_
  refine gf_X10_62 rfl (show decode cX10_copyFrom 79 = .ok (.getfield 62, 3) by decide +kernel) h1 ?_
  refine pf_X10_62 rfl (show decode cX10_copyFrom 82 = .ok (.putfield 62, 3) by decide +kernel) h0 ?_
  obtain ⟨σ7, eσ7⟩ : ∃ z : jM, z = up σ6 a0 6 (σ6 p1 6) := ⟨_, rfl⟩
  refine j_sig eσ7 ?_
  have h := h σ7 eσ7
  refine s_aload_n (i := 0) rfl (show decode cX10_copyFrom 85 = .ok (.aload_n 0, 1) by decide +kernel) ?_
  refine s_aload_n (i := 1) rfl (show decode cX10_copyFrom 86 = .ok (.aload_n 1, 1) by decide +kernel) ?_
  refine gf_X10_42 rfl (show decode cX10_copyFrom 87 = .ok (.getfield 42, 3) by decide +kernel) h1 ?_
  refine pf_X10_42 rfl (show decode cX10_copyFrom 90 = .ok (.putfield 42, 3) by decide +kernel) h0 ?_
  obtain ⟨σ8, eσ8⟩ : ∃ z : jM, z = up σ7 a0 7 (σ7 p1 7) := ⟨_, rfl⟩
  refine j_sig eσ8 ?_
  have h := h σ8 eσ8
  refine s_aload_n (i := 0) rfl (show decode cX10_copyFrom 93 = .ok (.aload_n 0, 1) by decide +kernel) ?_
  refine s_aload_n (i := 1) rfl (show decode cX10_copyFrom 94 = .ok (.aload_n 1, 1) by decide +kernel) ?_
  refine gf_X10_65 rfl (show decode cX10_copyFrom 95 = .ok (.getfield 65, 3) by decide +kernel) h1 ?_
  refine pf_X10_65 rfl (show decode cX10_copyFrom 98 = .ok (.putfield 65, 3) by decide +kernel) h0 ?_
  obtain ⟨σ9, eσ9⟩ : ∃ z : jM, z = up σ8 a0 8 (σ8 p1 8) := ⟨_, rfl⟩
  refine j_sig eσ9 ?_
  have h := h σ9 eσ9
  refine s_aload_n (i := 0) rfl (show decode cX10_copyFrom 101 = .ok (.aload_n 0, 1) by decide +kernel) ?_
  refine s_aload_n (i := 1) rfl (show decode cX10_copyFrom 102 = .ok (.aload_n 1, 1) by decide +kernel) ?_
  refine gf_X10_68 rfl (show decode cX10_copyFrom 103 = .ok (.getfield 68, 3) by decide +kernel) h1 ?_
  refine pf_X10_68 rfl (show decode cX10_copyFrom 106 = .ok (.putfield 68, 3) by decide +kernel) h0 ?_
  obtain ⟨σ10, eσ10⟩ : ∃ z : jM, z = up σ9 a0 9 (σ9 p1 9) := ⟨_, rfl⟩
  refine j_sig eσ10 ?_
  have h := h σ10 eσ10
  exact j_ret (rokV (show decode cX10_copyFrom 109 = .ok (.return_, 1) by decide +kernel) rfl) ⟨rfl, rfl, h⟩
theorem c_X10_copyFrom {d : Nat} {t : Int} {Q : Int → jM → Prop} {σ : jM} {a0 p1 : Int} (h0 : ob (GG t) a0 10) (h1 : ob (GG t) p1 10) (h : Ct mX1_copyFrom (d + 1) 9 t [rv (a0 + 1), rv (p1 + 1)] σ (fun r1 σ1 => (Ct mX7_copyFrom (d + 1) 9 t [rv (a0 + 5), rv (p1 + 5)] σ1 (fun r2 σ2 => (Ct mX9_copyFrom (d + 1) 9 t [rv (a0 + 127), rv (p1 + 127)] σ2 (fun r3 σ3 => (∀ σ4 : jM, σ4 = cpy σ3 (p1 + 129) 0 (a0 + 129) 0 4 → (∀ σ5 : jM, σ5 = cpy σ4 (p1 + 130) 0 (a0 + 130) 0 8 → (∀ σ6 : jM, σ6 = cpy σ5 (p1 + 131) 0 (a0 + 131) 0 8 → (∀ σ7 : jM, σ7 = up σ6 a0 6 (σ6 p1 6) → (∀ σ8 : jM, σ8 = up σ7 a0 7 (σ7 p1 7) → (∀ σ9 : jM, σ9 = up σ8 a0 8 (σ8 p1 8) → (∀ σ10 : jM, σ10 = up σ9 a0 9 (σ9 p1 9) → (Q 0 σ10)))))))))))))) : Ct mX10_copyFrom (d + 2) 9 t [rv a0, rv p1] σ Q := Ct_of (by decide +kernel) (Nat.le_of_ble_eq_true rfl) (b_X10_copyFrom_0 h0 h1 h)
