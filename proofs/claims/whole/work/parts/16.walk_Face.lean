/-! ===== walks (printed by wip/whole/gen_blocks.py) ===== -/
set_option maxRecDepth 4000 in
theorem b_X11_feed_0 {d : Nat} {t : Int} {Q : Int → jM → Prop} {σ : jM} {p1 p2 p3 p4 p5 : Int} (h : Ct mX3_hasRoom d 0 t [rv 271] σ (fun r1 σ1 => ((inR r1) ∧ ((¬ r1 = 0 → (Ct mX3_addFour d 9 t [rv 271, iv p1] σ1 (fun r3 σ3 => (Ct mX3_addFour d 9 t [rv 271, iv p2] σ3 (fun r4 σ4 => (Ct mX3_addFour d 9 t [rv 271, iv p3] σ4 (fun r5 σ5 => (Ct mX3_addFour d 9 t [rv 271, iv p4] σ5 (fun r6 σ6 => (Ct mX3_addFour d 9 t [rv 271, iv p5] σ6 (fun r7 σ7 => (Q (σ7 271 1) σ7)))))))))))) ∧ (r1 = 0 → (Q (-1) σ1)))))) : Jt mX11_feed (d + 1) 0 t Q 0 [rv 1, iv p1, iv p2, iv p3, iv p4, iv p5] [] σ := by
  refine s_aload_n (i := 0) rfl (show decode cX11_feed 0 = .ok (.aload_n 0, 1) by decide +kernel) ?_
  refine gf_X11_35 (x := 271) rfl (show decode cX11_feed 1 = .ok (.getfield 35, 3) by decide +kernel) okl_1 rfl ?_
  refine j_ctV (m' := mX3_hasRoom) (As := []) (ci := 3) (tag := 0) (N := 0) (cw_X11_86 rfl) (show decode cX11_feed 4 = .ok (.invokevirtual 86, 3) by decide +kernel) rfl (Nat.le_of_ble_eq_true rfl) (by decide) okl_271 rfl rfl (Nat.le_refl _) h (fun r1 σ1 h => ?_)
  have hr1 := h.1
  have h := h.2
  refine j_if_ne (tgt := 12) hr1 (show decode cX11_feed 7 = .ok (.ifCond .ne 5, 3) by decide +kernel) (by decide) (fun c => ?_) (fun c => ?_)
  · have h := h.1 c
    refine s_aload_n (i := 0) rfl (show decode cX11_feed 12 = .ok (.aload_n 0, 1) by decide +kernel) ?_
    refine gf_X11_35 (x := 271) rfl (show decode cX11_feed 13 = .ok (.getfield 35, 3) by decide +kernel) okl_1 rfl ?_
    refine j_iload_n (i := 1) rfl (show decode cX11_feed 16 = .ok (.iload_n 1, 1) by decide +kernel) ?_
    refine j_ctVv (m' := mX3_addFour) (As := [iv p1]) (ci := 3) (N := 0) (cw_X11_90 rfl) (show decode cX11_feed 17 = .ok (.invokevirtual 90, 3) by decide +kernel) rfl (Nat.le_of_ble_eq_true rfl) okl_271 rfl rfl (Nat.le_refl _) h (fun r3 σ3 h => ?_)
    refine s_aload_n (i := 0) rfl (show decode cX11_feed 20 = .ok (.aload_n 0, 1) by decide +kernel) ?_
    refine gf_X11_35 (x := 271) rfl (show decode cX11_feed 21 = .ok (.getfield 35, 3) by decide +kernel) okl_1 rfl ?_
    refine j_iload_n (i := 2) rfl (show decode cX11_feed 24 = .ok (.iload_n 2, 1) by decide +kernel) ?_
    refine j_ctVv (m' := mX3_addFour) (As := [iv p2]) (ci := 3) (N := 0) (cw_X11_90 rfl) (show decode cX11_feed 25 = .ok (.invokevirtual 90, 3) by decide +kernel) rfl (Nat.le_of_ble_eq_true rfl) okl_271 rfl rfl (Nat.le_refl _) h (fun r4 σ4 h => ?_)
    refine s_aload_n (i := 0) rfl (show decode cX11_feed 28 = .ok (.aload_n 0, 1) by decide +kernel) ?_
    refine gf_X11_35 (x := 271) rfl (show decode cX11_feed 29 = .ok (.getfield 35, 3) by decide +kernel) okl_1 rfl ?_
    refine j_iload_n (i := 3) rfl (show decode cX11_feed 32 = .ok (.iload_n 3, 1) by decide +kernel) ?_
    refine j_ctVv (m' := mX3_addFour) (As := [iv p3]) (ci := 3) (N := 0) (cw_X11_90 rfl) (show decode cX11_feed 33 = .ok (.invokevirtual 90, 3) by decide +kernel) rfl (Nat.le_of_ble_eq_true rfl) okl_271 rfl rfl (Nat.le_refl _) h (fun r5 σ5 h => ?_)
    refine s_aload_n (i := 0) rfl (show decode cX11_feed 36 = .ok (.aload_n 0, 1) by decide +kernel) ?_
    refine gf_X11_35 (x := 271) rfl (show decode cX11_feed 37 = .ok (.getfield 35, 3) by decide +kernel) okl_1 rfl ?_
    refine j_iload (i := 4) rfl (show decode cX11_feed 40 = .ok (.iload 4, 2) by decide +kernel) ?_
    refine j_ctVv (m' := mX3_addFour) (As := [iv p4]) (ci := 3) (N := 0) (cw_X11_90 rfl) (show decode cX11_feed 42 = .ok (.invokevirtual 90, 3) by decide +kernel) rfl (Nat.le_of_ble_eq_true rfl) okl_271 rfl rfl (Nat.le_refl _) h (fun r6 σ6 h => ?_)
    refine s_aload_n (i := 0) rfl (show decode cX11_feed 45 = .ok (.aload_n 0, 1) by decide +kernel) ?_
    refine gf_X11_35 (x := 271) rfl (show decode cX11_feed 46 = .ok (.getfield 35, 3) by decide +kernel) okl_1 rfl ?_
    refine j_iload (i := 5) rfl (show decode cX11_feed 49 = .ok (.iload 5, 2) by decide +kernel) ?_
    refine j_ctVv (m' := mX3_addFour) (As := [iv p5]) (ci := 3) (N := 0) (cw_X11_90 rfl) (show decode cX11_feed 51 = .ok (.invokevirtual 90, 3) by decide +kernel) rfl (Nat.le_of_ble_eq_true rfl) okl_271 rfl rfl (Nat.le_refl _) h (fun r7 σ7 h => ?_)
    refine s_aload_n (i := 0) rfl (show decode cX11_feed 54 = .ok (.aload_n 0, 1) by decide +kernel) ?_
    refine gf_X11_35 (x := 271) rfl (show decode cX11_feed 55 = .ok (.getfield 35, 3) by decide +kernel) okl_1 rfl ?_
    refine gf_X11_94 rfl (show decode cX11_feed 58 = .ok (.getfield 94, 3) by decide +kernel) okl_271 ?_
    exact j_ret (rokI (show decode cX11_feed 61 = .ok (.ireturn, 1) by decide +kernel) rfl) ⟨rfl, rfl, h⟩
  · have h := h.2 c
    refine j_iconst (show decode cX11_feed 10 = .ok (.iconst (-1), 1) by decide +kernel) ?_
    exact j_ret (rokI (show decode cX11_feed 11 = .ok (.ireturn, 1) by decide +kernel) rfl) ⟨rfl, rfl, h⟩
theorem c_X11_feed {d : Nat} {t : Int} {Q : Int → jM → Prop} {σ : jM} {p1 p2 p3 p4 p5 : Int} (h : Ct mX3_hasRoom d 0 t [rv 271] σ (fun r1 σ1 => ((inR r1) ∧ ((¬ r1 = 0 → (Ct mX3_addFour d 9 t [rv 271, iv p1] σ1 (fun r3 σ3 => (Ct mX3_addFour d 9 t [rv 271, iv p2] σ3 (fun r4 σ4 => (Ct mX3_addFour d 9 t [rv 271, iv p3] σ4 (fun r5 σ5 => (Ct mX3_addFour d 9 t [rv 271, iv p4] σ5 (fun r6 σ6 => (Ct mX3_addFour d 9 t [rv 271, iv p5] σ6 (fun r7 σ7 => (Q (σ7 271 1) σ7)))))))))))) ∧ (r1 = 0 → (Q (-1) σ1)))))) : Ct mX11_feed (d + 1) 0 t [rv 1, iv p1, iv p2, iv p3, iv p4, iv p5] σ Q := Ct_of (by decide +kernel) (Nat.le_of_ble_eq_true rfl) (b_X11_feed_0 h)
set_option maxRecDepth 4000 in
theorem b_X11_end_0 {d : Nat} {t : Int} {Q : Int → jM → Prop} {σ : jM} {p1 : Int} (h : (inR p1) ∧ ((p1 < 0 → (Q (-1) σ)) ∧ (0 ≤ p1 → ((inR p1) ∧ ((inR (σ 271 1)) ∧ ((p1 ≤ (σ 271 1) → (∀ σ4 : jM, σ4 = up σ 271 1 p1 → (Q p1 σ4))) ∧ ((σ 271 1) < p1 → (Q (-1) σ)))))))) : Jt mX11_end (d) 0 t Q 0 [rv 1, iv p1] [] σ := by
  refine j_iload_n (i := 1) rfl (show decode cX11_end 0 = .ok (.iload_n 1, 1) by decide +kernel) ?_
  have hr0 := h.1
  have h := h.2
  refine j_if_lt (tgt := 15) hr0 (show decode cX11_end 1 = .ok (.ifCond .lt 14, 3) by decide +kernel) (by decide) (fun c => ?_) (fun c => ?_)
  · have h := h.1 c
    refine j_iconst (show decode cX11_end 15 = .ok (.iconst (-1), 1) by decide +kernel) ?_
    exact j_ret (rokI (show decode cX11_end 16 = .ok (.ireturn, 1) by decide +kernel) rfl) ⟨rfl, rfl, h⟩
  · have h := h.2 c
    refine j_iload_n (i := 1) rfl (show decode cX11_end 4 = .ok (.iload_n 1, 1) by decide +kernel) ?_
    refine s_aload_n (i := 0) rfl (show decode cX11_end 5 = .ok (.aload_n 0, 1) by decide +kernel) ?_
    refine gf_X11_35 (x := 271) rfl (show decode cX11_end 6 = .ok (.getfield 35, 3) by decide +kernel) okl_1 rfl ?_
    refine gf_X11_94 rfl (show decode cX11_end 9 = .ok (.getfield 94, 3) by decide +kernel) okl_271 ?_
    have hr1 := h.1
    have h := h.2
    have hr2 := h.1
    have h := h.2
    refine j_icmp_le (tgt := 17) hr1 hr2 (show decode cX11_end 12 = .ok (.if_icmp .le 5, 3) by decide +kernel) (by decide) (fun c => ?_) (fun c => ?_)
    · have h := h.1 c
      refine s_aload_n (i := 0) rfl (show decode cX11_end 17 = .ok (.aload_n 0, 1) by decide +kernel) ?_
      refine gf_X11_35 (x := 271) rfl (show decode cX11_end 18 = .ok (.getfield 35, 3) by decide +kernel) okl_1 rfl ?_
      refine j_iload_n (i := 1) rfl (show decode cX11_end 21 = .ok (.iload_n 1, 1) by decide +kernel) ?_
      refine pf_X11_94 rfl (show decode cX11_end 22 = .ok (.putfield 94, 3) by decide +kernel) okl_271 ?_
      obtain ⟨σ4, eσ4⟩ : ∃ z : jM, z = up σ 271 1 p1 := ⟨_, rfl⟩
      refine j_sig eσ4 ?_
      have h := h σ4 eσ4
      refine j_iload_n (i := 1) rfl (show decode cX11_end 25 = .ok (.iload_n 1, 1) by decide +kernel) ?_
      exact j_ret (rokI (show decode cX11_end 26 = .ok (.ireturn, 1) by decide +kernel) rfl) ⟨rfl, rfl, h⟩
    · have h := h.2 c
      refine j_iconst (show decode cX11_end 15 = .ok (.iconst (-1), 1) by decide +kernel) ?_
      exact j_ret (rokI (show decode cX11_end 16 = .ok (.ireturn, 1) by decide +kernel) rfl) ⟨rfl, rfl, h⟩
theorem c_X11_end {d : Nat} {t : Int} {Q : Int → jM → Prop} {σ : jM} {p1 : Int} (h : (inR p1) ∧ ((p1 < 0 → (Q (-1) σ)) ∧ (0 ≤ p1 → ((inR p1) ∧ ((inR (σ 271 1)) ∧ ((p1 ≤ (σ 271 1) → (∀ σ4 : jM, σ4 = up σ 271 1 p1 → (Q p1 σ4))) ∧ ((σ 271 1) < p1 → (Q (-1) σ)))))))) : Ct mX11_end (d) 0 t [rv 1, iv p1] σ Q := Ct_of (by decide +kernel) (Nat.le_of_ble_eq_true rfl) (b_X11_end_0 h)
set_option maxRecDepth 4000 in
theorem b_X11_text_0 {d : Nat} {t : Int} {Q : Int → jM → Prop} {σ : jM} (h : (inR (σ 2 6)) ∧ (((σ 2 6) < 0 → (Q (-1) σ)) ∧ (0 ≤ (σ 2 6) → ((inR (σ 2 6)) ∧ (((σ 2 6) < 4 → (((0 : Int) ≤ (σ 2 6) ∧ (σ 2 6) < 4) ∧ (Ct mX3_readsInto d 0 t [rv 271, rv (293 + 7 * (σ 2 6))] σ (fun r4 σ4 => (∀ σ5 : jM, σ5 = up σ4 271 1 0 → ((inR r4) ∧ ((¬ r4 = 0 → (∀ σ7 : jM, σ7 = up σ5 2 6 ((σ5 2 6) + 1) → (Q ((σ7 2 6) - 1) σ7))) ∧ (r4 = 0 → (Q (-1) σ5))))))))) ∧ (4 ≤ (σ 2 6) → (Q (-1) σ))))))) : Jt mX11_text (d + 1) 0 t Q 0 [rv 1, uv] [] σ := by
  refine s_aload_n (i := 0) rfl (show decode cX11_text 0 = .ok (.aload_n 0, 1) by decide +kernel) ?_
  refine gf_X11_10 (x := 2) rfl (show decode cX11_text 1 = .ok (.getfield 10, 3) by decide +kernel) okl_1 rfl ?_
  refine gf_X11_98 rfl (show decode cX11_text 4 = .ok (.getfield 98, 3) by decide +kernel) okl_2 ?_
  have hr0 := h.1
  have h := h.2
  refine j_if_lt (tgt := 21) hr0 (show decode cX11_text 7 = .ok (.ifCond .lt 14, 3) by decide +kernel) (by decide) (fun c => ?_) (fun c => ?_)
  · have h := h.1 c
    refine j_iconst (show decode cX11_text 21 = .ok (.iconst (-1), 1) by decide +kernel) ?_
    exact j_ret (rokI (show decode cX11_text 22 = .ok (.ireturn, 1) by decide +kernel) rfl) ⟨rfl, rfl, h⟩
  · have h := h.2 c
    refine s_aload_n (i := 0) rfl (show decode cX11_text 10 = .ok (.aload_n 0, 1) by decide +kernel) ?_
    refine gf_X11_10 (x := 2) rfl (show decode cX11_text 11 = .ok (.getfield 10, 3) by decide +kernel) okl_1 rfl ?_
    refine gf_X11_98 rfl (show decode cX11_text 14 = .ok (.getfield 98, 3) by decide +kernel) okl_2 ?_
    refine j_iconst (show decode cX11_text 17 = .ok (.iconst 4, 1) by decide +kernel) ?_
    have hr1 := h.1
    have h := h.2
    refine j_icmp_lt (tgt := 23) hr1 (inl (by decide)) (show decode cX11_text 18 = .ok (.if_icmp .lt 5, 3) by decide +kernel) (by decide) (fun c => ?_) (fun c => ?_)
    · have h := h.1 c
      refine s_aload_n (i := 0) rfl (show decode cX11_text 23 = .ok (.aload_n 0, 1) by decide +kernel) ?_
      refine gf_X11_35 (x := 271) rfl (show decode cX11_text 24 = .ok (.getfield 35, 3) by decide +kernel) okl_1 rfl ?_
      refine s_aload_n (i := 0) rfl (show decode cX11_text 27 = .ok (.aload_n 0, 1) by decide +kernel) ?_
      refine gf_X11_28 (x := 270) rfl (show decode cX11_text 28 = .ok (.getfield 28, 3) by decide +kernel) okl_1 rfl ?_
      refine s_aload_n (i := 0) rfl (show decode cX11_text 31 = .ok (.aload_n 0, 1) by decide +kernel) ?_
      refine gf_X11_10 (x := 2) rfl (show decode cX11_text 32 = .ok (.getfield 10, 3) by decide +kernel) okl_1 rfl ?_
      refine gf_X11_98 rfl (show decode cX11_text 35 = .ok (.getfield 98, 3) by decide +kernel) okl_2 ?_
      have hb2 := h.1
      have h := h.2
      refine s_aald5 (x := (293 + 7 * (σ 2 6))) (show decode cX11_text 38 = .ok (.aaload, 1) by decide +kernel) okl_270 hb2 rfl ?_
      refine j_ctV (m' := mX3_readsInto) (As := [rv (293 + 7 * (σ 2 6))]) (ci := 3) (tag := 0) (N := 0) (cw_X11_100 rfl) (show decode cX11_text 39 = .ok (.invokevirtual 100, 3) by decide +kernel) rfl (Nat.le_of_ble_eq_true rfl) (by decide) okl_271 rfl rfl (Nat.le_refl _) h (fun r4 σ4 h => ?_)
      refine s_ist_n (i := 1) (L' := [rv 1, iv r4]) rfl (by decide) (show decode cX11_text 42 = .ok (.istore_n 1, 1) by decide +kernel) ?_
      refine s_aload_n (i := 0) rfl (show decode cX11_text 43 = .ok (.aload_n 0, 1) by decide +kernel) ?_
      refine gf_X11_35 (x := 271) rfl (show decode cX11_text 44 = .ok (.getfield 35, 3) by decide +kernel) okl_1 rfl ?_
      refine j_iconst (show decode cX11_text 47 = .ok (.iconst 0, 1) by decide +kernel) ?_
      refine pf_X11_94 rfl (show decode cX11_text 48 = .ok (.putfield 94, 3) by decide +kernel) okl_271 ?_
      obtain ⟨σ5, eσ5⟩ : ∃ z : jM, z = up σ4 271 1 0 := ⟨_, rfl⟩
      refine j_sig eσ5 ?_
      have h := h σ5 eσ5
      refine j_iload_n (i := 1) rfl (show decode cX11_text 51 = .ok (.iload_n 1, 1) by decide +kernel) ?_
      have hr5 := h.1
      have h := h.2
      refine j_if_ne (tgt := 57) hr5 (show decode cX11_text 52 = .ok (.ifCond .ne 5, 3) by decide +kernel) (by decide) (fun c => ?_) (fun c => ?_)
      · have h := h.1 c
        refine s_aload_n (i := 0) rfl (show decode cX11_text 57 = .ok (.aload_n 0, 1) by decide +kernel) ?_
        refine gf_X11_10 (x := 2) rfl (show decode cX11_text 58 = .ok (.getfield 10, 3) by decide +kernel) okl_1 rfl ?_
        refine j_dup (show (2 : Nat) ≠ 1 by decide) (show decode cX11_text 61 = .ok (.dup, 1) by decide +kernel) ?_
        refine gf_X11_98 rfl (show decode cX11_text 62 = .ok (.getfield 98, 3) by decide +kernel) okl_2 ?_
        refine j_iconst (show decode cX11_text 65 = .ok (.iconst 1, 1) by decide +kernel) ?_
        refine j_iadd (show decode cX11_text 66 = .ok (.iadd, 1) by decide +kernel) ?_
        refine pf_X11_98 rfl (show decode cX11_text 67 = .ok (.putfield 98, 3) by decide +kernel) okl_2 ?_
        obtain ⟨σ7, eσ7⟩ : ∃ z : jM, z = up σ5 2 6 ((σ5 2 6) + 1) := ⟨_, rfl⟩
        refine j_sig eσ7 ?_
        have h := h σ7 eσ7
        refine s_aload_n (i := 0) rfl (show decode cX11_text 70 = .ok (.aload_n 0, 1) by decide +kernel) ?_
        refine gf_X11_10 (x := 2) rfl (show decode cX11_text 71 = .ok (.getfield 10, 3) by decide +kernel) okl_1 rfl ?_
        refine gf_X11_98 rfl (show decode cX11_text 74 = .ok (.getfield 98, 3) by decide +kernel) okl_2 ?_
        refine j_iconst (show decode cX11_text 77 = .ok (.iconst 1, 1) by decide +kernel) ?_
        refine j_isub (show decode cX11_text 78 = .ok (.isub, 1) by decide +kernel) ?_
        exact j_ret (rokI (show decode cX11_text 79 = .ok (.ireturn, 1) by decide +kernel) rfl) ⟨rfl, rfl, h⟩
      · have h := h.2 c
        refine j_iconst (show decode cX11_text 55 = .ok (.iconst (-1), 1) by decide +kernel) ?_
        exact j_ret (rokI (show decode cX11_text 56 = .ok (.ireturn, 1) by decide +kernel) rfl) ⟨rfl, rfl, h⟩
    · have h := h.2 c
      refine j_iconst (show decode cX11_text 21 = .ok (.iconst (-1), 1) by decide +kernel) ?_
      exact j_ret (rokI (show decode cX11_text 22 = .ok (.ireturn, 1) by decide +kernel) rfl) ⟨rfl, rfl, h⟩
theorem c_X11_text {d : Nat} {t : Int} {Q : Int → jM → Prop} {σ : jM} (h : (inR (σ 2 6)) ∧ (((σ 2 6) < 0 → (Q (-1) σ)) ∧ (0 ≤ (σ 2 6) → ((inR (σ 2 6)) ∧ (((σ 2 6) < 4 → (((0 : Int) ≤ (σ 2 6) ∧ (σ 2 6) < 4) ∧ (Ct mX3_readsInto d 0 t [rv 271, rv (293 + 7 * (σ 2 6))] σ (fun r4 σ4 => (∀ σ5 : jM, σ5 = up σ4 271 1 0 → ((inR r4) ∧ ((¬ r4 = 0 → (∀ σ7 : jM, σ7 = up σ5 2 6 ((σ5 2 6) + 1) → (Q ((σ7 2 6) - 1) σ7))) ∧ (r4 = 0 → (Q (-1) σ5))))))))) ∧ (4 ≤ (σ 2 6) → (Q (-1) σ))))))) : Ct mX11_text (d + 1) 0 t [rv 1] σ Q := Ct_of (by decide +kernel) (Nat.le_of_ble_eq_true rfl) (b_X11_text_0 h)
set_option maxRecDepth 4000 in
theorem b_X11_fault_0 {d : Nat} {t : Int} {Q : Int → jM → Prop} {σ : jM} {p1 : Int} (h : (inR p1) ∧ ((p1 ≠ 0 ∧ p1 ≠ 1 → (Q (-1) σ)) ∧ (p1 = 0 → (Q (σ 271 2) σ)) ∧ (p1 = 1 → (Q (σ 271 3) σ)))) : Jt mX11_fault (d) 0 t Q 0 [rv 1, iv p1] [] σ := by
  refine j_iload_n (i := 1) rfl (show decode cX11_fault 0 = .ok (.iload_n 1, 1) by decide +kernel) ?_
  have hr0 := h.1
  have h := h.2
  rcases (show (p1 ≠ 0 ∧ p1 ≠ 1) ∨ p1 = 0 ∨ p1 = 1 by omega) with c | c | c
  · refine j_lookup (off := 43) (tgt := 44) hr0 (show decode cX11_fault 1 = .ok (.lookupswitch 43 #[(0, 27), (1, 35)], 27) by decide +kernel) (by decide +kernel) (by simp [Op.lookupswitch.offset, Ne.symm c.1, Ne.symm c.2]) (by decide) ?_
    have h := h.1 c
    refine j_iconst (show decode cX11_fault 44 = .ok (.iconst (-1), 1) by decide +kernel) ?_
    exact j_ret (rokI (show decode cX11_fault 45 = .ok (.ireturn, 1) by decide +kernel) rfl) ⟨rfl, rfl, h⟩
  · refine j_lookup (off := 27) (tgt := 28) hr0 (show decode cX11_fault 1 = .ok (.lookupswitch 43 #[(0, 27), (1, 35)], 27) by decide +kernel) (by decide +kernel) (by rw [c]; rfl) (by decide) ?_
    have h := h.2.1 c
    refine s_aload_n (i := 0) rfl (show decode cX11_fault 28 = .ok (.aload_n 0, 1) by decide +kernel) ?_
    refine gf_X11_35 (x := 271) rfl (show decode cX11_fault 29 = .ok (.getfield 35, 3) by decide +kernel) okl_1 rfl ?_
    refine gf_X11_104 rfl (show decode cX11_fault 32 = .ok (.getfield 104, 3) by decide +kernel) okl_271 ?_
    exact j_ret (rokI (show decode cX11_fault 35 = .ok (.ireturn, 1) by decide +kernel) rfl) ⟨rfl, rfl, h⟩
  · refine j_lookup (off := 35) (tgt := 36) hr0 (show decode cX11_fault 1 = .ok (.lookupswitch 43 #[(0, 27), (1, 35)], 27) by decide +kernel) (by decide +kernel) (by rw [c]; rfl) (by decide) ?_
    have h := h.2.2 c
    refine s_aload_n (i := 0) rfl (show decode cX11_fault 36 = .ok (.aload_n 0, 1) by decide +kernel) ?_
    refine gf_X11_35 (x := 271) rfl (show decode cX11_fault 37 = .ok (.getfield 35, 3) by decide +kernel) okl_1 rfl ?_
    refine gf_X11_107 rfl (show decode cX11_fault 40 = .ok (.getfield 107, 3) by decide +kernel) okl_271 ?_
    exact j_ret (rokI (show decode cX11_fault 43 = .ok (.ireturn, 1) by decide +kernel) rfl) ⟨rfl, rfl, h⟩
theorem c_X11_fault {d : Nat} {t : Int} {Q : Int → jM → Prop} {σ : jM} {p1 : Int} (h : (inR p1) ∧ ((p1 ≠ 0 ∧ p1 ≠ 1 → (Q (-1) σ)) ∧ (p1 = 0 → (Q (σ 271 2) σ)) ∧ (p1 = 1 → (Q (σ 271 3) σ)))) : Ct mX11_fault (d) 0 t [rv 1, iv p1] σ Q := Ct_of (by decide +kernel) (Nat.le_of_ble_eq_true rfl) (b_X11_fault_0 h)
set_option maxRecDepth 4000 in
theorem b_X11_by_0 {d : Nat} {t : Int} {Q : Int → jM → Prop} {σ : jM} {p1 : Int} (h : (inR p1) ∧ ((p1 = (-1) → (∀ σ2 : jM, σ2 = up σ 2 7 p1 → (Q 1 σ2))) ∧ (¬ p1 = (-1) → (Ct mX11_isText d 0 t [rv 1, iv p1] σ (fun r3 σ3 => ((inR r3) ∧ ((¬ r3 = 0 → (∀ σ5 : jM, σ5 = up σ3 2 7 p1 → (Q 1 σ5))) ∧ (r3 = 0 → (Q 0 σ3))))))))) : Jt mX11_by (d + 1) 0 t Q 0 [rv 1, iv p1] [] σ := by
  refine j_iload_n (i := 1) rfl (show decode cX11_by 0 = .ok (.iload_n 1, 1) by decide +kernel) ?_
  refine j_iconst (show decode cX11_by 1 = .ok (.iconst (-1), 1) by decide +kernel) ?_
  have hr0 := h.1
  have h := h.2
  refine j_icmp_eq (tgt := 15) hr0 (inl (by decide)) (show decode cX11_by 2 = .ok (.if_icmp .eq 13, 3) by decide +kernel) (by decide) (fun c => ?_) (fun c => ?_)
  · have h := h.1 c
    refine s_aload_n (i := 0) rfl (show decode cX11_by 15 = .ok (.aload_n 0, 1) by decide +kernel) ?_
    refine gf_X11_10 (x := 2) rfl (show decode cX11_by 16 = .ok (.getfield 10, 3) by decide +kernel) okl_1 rfl ?_
    refine j_iload_n (i := 1) rfl (show decode cX11_by 19 = .ok (.iload_n 1, 1) by decide +kernel) ?_
    refine pf_X11_114 rfl (show decode cX11_by 20 = .ok (.putfield 114, 3) by decide +kernel) okl_2 ?_
    obtain ⟨σ2, eσ2⟩ : ∃ z : jM, z = up σ 2 7 p1 := ⟨_, rfl⟩
    refine j_sig eσ2 ?_
    have h := h σ2 eσ2
    refine j_iconst (show decode cX11_by 23 = .ok (.iconst 1, 1) by decide +kernel) ?_
    exact j_ret (rokZ (show decode cX11_by 24 = .ok (.ireturn, 1) by decide +kernel) rfl (Or.inr rfl)) ⟨rfl, rfl, h⟩
  · have h := h.2 c
    refine s_aload_n (i := 0) rfl (show decode cX11_by 5 = .ok (.aload_n 0, 1) by decide +kernel) ?_
    refine j_iload_n (i := 1) rfl (show decode cX11_by 6 = .ok (.iload_n 1, 1) by decide +kernel) ?_
    refine j_ctV (m' := mX11_isText) (As := [iv p1]) (ci := 11) (tag := 0) (N := 0) (cw_X11_110 rfl) (show decode cX11_by 7 = .ok (.invokevirtual 110, 3) by decide +kernel) rfl (Nat.le_of_ble_eq_true rfl) (by decide) okl_1 rfl rfl (Nat.le_refl _) h (fun r3 σ3 h => ?_)
    have hr3 := h.1
    have h := h.2
    refine j_if_ne (tgt := 15) hr3 (show decode cX11_by 10 = .ok (.ifCond .ne 5, 3) by decide +kernel) (by decide) (fun c => ?_) (fun c => ?_)
    · have h := h.1 c
      refine s_aload_n (i := 0) rfl (show decode cX11_by 15 = .ok (.aload_n 0, 1) by decide +kernel) ?_
      refine gf_X11_10 (x := 2) rfl (show decode cX11_by 16 = .ok (.getfield 10, 3) by decide +kernel) okl_1 rfl ?_
      refine j_iload_n (i := 1) rfl (show decode cX11_by 19 = .ok (.iload_n 1, 1) by decide +kernel) ?_
      refine pf_X11_114 rfl (show decode cX11_by 20 = .ok (.putfield 114, 3) by decide +kernel) okl_2 ?_
      obtain ⟨σ5, eσ5⟩ : ∃ z : jM, z = up σ3 2 7 p1 := ⟨_, rfl⟩
      refine j_sig eσ5 ?_
      have h := h σ5 eσ5
      refine j_iconst (show decode cX11_by 23 = .ok (.iconst 1, 1) by decide +kernel) ?_
      exact j_ret (rokZ (show decode cX11_by 24 = .ok (.ireturn, 1) by decide +kernel) rfl (Or.inr rfl)) ⟨rfl, rfl, h⟩
    · have h := h.2 c
      refine j_iconst (show decode cX11_by 13 = .ok (.iconst 0, 1) by decide +kernel) ?_
      exact j_ret (rokZ (show decode cX11_by 14 = .ok (.ireturn, 1) by decide +kernel) rfl (Or.inl rfl)) ⟨rfl, rfl, h⟩
theorem c_X11_by {d : Nat} {t : Int} {Q : Int → jM → Prop} {σ : jM} {p1 : Int} (h : (inR p1) ∧ ((p1 = (-1) → (∀ σ2 : jM, σ2 = up σ 2 7 p1 → (Q 1 σ2))) ∧ (¬ p1 = (-1) → (Ct mX11_isText d 0 t [rv 1, iv p1] σ (fun r3 σ3 => ((inR r3) ∧ ((¬ r3 = 0 → (∀ σ5 : jM, σ5 = up σ3 2 7 p1 → (Q 1 σ5))) ∧ (r3 = 0 → (Q 0 σ3))))))))) : Ct mX11_by (d + 1) 0 t [rv 1, iv p1] σ Q := Ct_of (by decide +kernel) (Nat.le_of_ble_eq_true rfl) (b_X11_by_0 h)
set_option maxRecDepth 4000 in
theorem b_X11_isText_0 {d : Nat} {t : Int} {Q : Int → jM → Prop} {σ : jM} {p1 : Int} (h : (inR p1) ∧ ((p1 < 0 → (Q 0 σ)) ∧ (0 ≤ p1 → ((inR p1) ∧ ((inR (σ 2 6)) ∧ (((σ 2 6) ≤ p1 → (Q 0 σ)) ∧ (p1 < (σ 2 6) → ((inR p1) ∧ ((4 ≤ p1 → (Q 0 σ)) ∧ (p1 < 4 → (Q 1 σ))))))))))) : Jt mX11_isText (d) 0 t Q 0 [rv 1, iv p1] [] σ := by
  refine j_iload_n (i := 1) rfl (show decode cX11_isText 0 = .ok (.iload_n 1, 1) by decide +kernel) ?_
  have hr0 := h.1
  have h := h.2
  refine j_if_lt (tgt := 24) hr0 (show decode cX11_isText 1 = .ok (.ifCond .lt 23, 3) by decide +kernel) (by decide) (fun c => ?_) (fun c => ?_)
  · have h := h.1 c
    refine j_iconst (show decode cX11_isText 24 = .ok (.iconst 0, 1) by decide +kernel) ?_
    exact j_ret (rokZ (show decode cX11_isText 25 = .ok (.ireturn, 1) by decide +kernel) rfl (Or.inl rfl)) ⟨rfl, rfl, h⟩
  · have h := h.2 c
    refine j_iload_n (i := 1) rfl (show decode cX11_isText 4 = .ok (.iload_n 1, 1) by decide +kernel) ?_
    refine s_aload_n (i := 0) rfl (show decode cX11_isText 5 = .ok (.aload_n 0, 1) by decide +kernel) ?_
    refine gf_X11_10 (x := 2) rfl (show decode cX11_isText 6 = .ok (.getfield 10, 3) by decide +kernel) okl_1 rfl ?_
    refine gf_X11_98 rfl (show decode cX11_isText 9 = .ok (.getfield 98, 3) by decide +kernel) okl_2 ?_
    have hr1 := h.1
    have h := h.2
    have hr2 := h.1
    have h := h.2
    refine j_icmp_ge (tgt := 24) hr1 hr2 (show decode cX11_isText 12 = .ok (.if_icmp .ge 12, 3) by decide +kernel) (by decide) (fun c => ?_) (fun c => ?_)
    · have h := h.1 c
      refine j_iconst (show decode cX11_isText 24 = .ok (.iconst 0, 1) by decide +kernel) ?_
      exact j_ret (rokZ (show decode cX11_isText 25 = .ok (.ireturn, 1) by decide +kernel) rfl (Or.inl rfl)) ⟨rfl, rfl, h⟩
    · have h := h.2 c
      refine j_iload_n (i := 1) rfl (show decode cX11_isText 15 = .ok (.iload_n 1, 1) by decide +kernel) ?_
      refine j_iconst (show decode cX11_isText 16 = .ok (.iconst 4, 1) by decide +kernel) ?_
      have hr3 := h.1
      have h := h.2
      refine j_icmp_ge (tgt := 24) hr3 (inl (by decide)) (show decode cX11_isText 17 = .ok (.if_icmp .ge 7, 3) by decide +kernel) (by decide) (fun c => ?_) (fun c => ?_)
      · have h := h.1 c
        refine j_iconst (show decode cX11_isText 24 = .ok (.iconst 0, 1) by decide +kernel) ?_
        exact j_ret (rokZ (show decode cX11_isText 25 = .ok (.ireturn, 1) by decide +kernel) rfl (Or.inl rfl)) ⟨rfl, rfl, h⟩
      · have h := h.2 c
        refine j_iconst (show decode cX11_isText 20 = .ok (.iconst 1, 1) by decide +kernel) ?_
        refine j_goto (tgt := 25) (show decode cX11_isText 21 = .ok (.goto 4, 3) by decide +kernel) (by decide) ?_
        exact j_ret (rokZ (show decode cX11_isText 25 = .ok (.ireturn, 1) by decide +kernel) rfl (Or.inr rfl)) ⟨rfl, rfl, h⟩
theorem c_X11_isText {d : Nat} {t : Int} {Q : Int → jM → Prop} {σ : jM} {p1 : Int} (h : (inR p1) ∧ ((p1 < 0 → (Q 0 σ)) ∧ (0 ≤ p1 → ((inR p1) ∧ ((inR (σ 2 6)) ∧ (((σ 2 6) ≤ p1 → (Q 0 σ)) ∧ (p1 < (σ 2 6) → ((inR p1) ∧ ((4 ≤ p1 → (Q 0 σ)) ∧ (p1 < 4 → (Q 1 σ))))))))))) : Ct mX11_isText (d) 0 t [rv 1, iv p1] σ Q := Ct_of (by decide +kernel) (Nat.le_of_ble_eq_true rfl) (b_X11_isText_0 h)
set_option maxRecDepth 4000 in
theorem b_X11_ruler_0 {d : Nat} {t : Int} {Q : Int → jM → Prop} {σ : jM} (h : Ct mX11_isText d 0 t [rv 1, iv (σ 2 7)] σ (fun r1 σ1 => ((inR r1) ∧ ((r1 = 0 → (Q 0 σ1)) ∧ (¬ r1 = 0 → (((0 : Int) ≤ (σ1 2 7) ∧ (σ1 2 7) < 4) ∧ (Q (293 + 7 * (σ1 2 7)) σ1))))))) : Jt mX11_ruler (d + 1) 2 t Q 0 [rv 1] [] σ := by
  refine s_aload_n (i := 0) rfl (show decode cX11_ruler 0 = .ok (.aload_n 0, 1) by decide +kernel) ?_
  refine s_aload_n (i := 0) rfl (show decode cX11_ruler 1 = .ok (.aload_n 0, 1) by decide +kernel) ?_
  refine gf_X11_10 (x := 2) rfl (show decode cX11_ruler 2 = .ok (.getfield 10, 3) by decide +kernel) okl_1 rfl ?_
  refine gf_X11_114 rfl (show decode cX11_ruler 5 = .ok (.getfield 114, 3) by decide +kernel) okl_2 ?_
  refine j_ctV (m' := mX11_isText) (As := [iv (σ 2 7)]) (ci := 11) (tag := 0) (N := 0) (cw_X11_110 rfl) (show decode cX11_ruler 8 = .ok (.invokevirtual 110, 3) by decide +kernel) rfl (Nat.le_of_ble_eq_true rfl) (by decide) okl_1 rfl rfl (Nat.le_refl _) h (fun r1 σ1 h => ?_)
  have hr1 := h.1
  have h := h.2
  refine j_if_eq (tgt := 29) hr1 (show decode cX11_ruler 11 = .ok (.ifCond .eq 18, 3) by decide +kernel) (by decide) (fun c => ?_) (fun c => ?_)
  · have h := h.1 c
    refine j_null (show decode cX11_ruler 29 = .ok (.aconst_null, 1) by decide +kernel) ?_
    exact j_ret (rokA (show decode cX11_ruler 30 = .ok (.areturn, 1) by decide +kernel) rfl) ⟨rfl, rfl, h⟩
  · have h := h.2 c
    refine s_aload_n (i := 0) rfl (show decode cX11_ruler 14 = .ok (.aload_n 0, 1) by decide +kernel) ?_
    refine gf_X11_28 (x := 270) rfl (show decode cX11_ruler 15 = .ok (.getfield 28, 3) by decide +kernel) okl_1 rfl ?_
    refine s_aload_n (i := 0) rfl (show decode cX11_ruler 18 = .ok (.aload_n 0, 1) by decide +kernel) ?_
    refine gf_X11_10 (x := 2) rfl (show decode cX11_ruler 19 = .ok (.getfield 10, 3) by decide +kernel) okl_1 rfl ?_
    refine gf_X11_114 rfl (show decode cX11_ruler 22 = .ok (.getfield 114, 3) by decide +kernel) okl_2 ?_
    have hb2 := h.1
    have h := h.2
    refine s_aald5 (x := (293 + 7 * (σ1 2 7))) (show decode cX11_ruler 25 = .ok (.aaload, 1) by decide +kernel) okl_270 hb2 rfl ?_
    refine j_goto (tgt := 30) (show decode cX11_ruler 26 = .ok (.goto 4, 3) by decide +kernel) (by decide) ?_
    exact j_ret (rokA (show decode cX11_ruler 30 = .ok (.areturn, 1) by decide +kernel) rfl) ⟨rfl, rfl, h⟩
theorem c_X11_ruler {d : Nat} {t : Int} {Q : Int → jM → Prop} {σ : jM} (h : Ct mX11_isText d 0 t [rv 1, iv (σ 2 7)] σ (fun r1 σ1 => ((inR r1) ∧ ((r1 = 0 → (Q 0 σ1)) ∧ (¬ r1 = 0 → (((0 : Int) ≤ (σ1 2 7) ∧ (σ1 2 7) < 4) ∧ (Q (293 + 7 * (σ1 2 7)) σ1))))))) : Ct mX11_ruler (d + 1) 2 t [rv 1] σ Q := Ct_of (by decide +kernel) (Nat.le_of_ble_eq_true rfl) (b_X11_ruler_0 h)
set_option maxRecDepth 4000 in
theorem b_X11_join_0 {d : Nat} {t : Int} {Q : Int → jM → Prop} {σ : jM} {p1 p2 : Int} (h : Ct mX1_joinable d 0 t [rv 3, iv p1, iv p2] σ (fun r1 σ1 => ((inR r1) ∧ ((¬ r1 = 0 → (Ct mX7_remember d 9 t [rv 7, rv 3] σ1 (fun r3 σ3 => (Ct mX1_unite d 0 t [rv 3, iv p1, iv p2] σ3 (fun r4 σ4 => (Q r4 σ4)))))) ∧ (r1 = 0 → (Q (-1) σ1)))))) : Jt mX11_join (d + 1) 0 t Q 0 [rv 1, iv p1, iv p2] [] σ := by
  refine s_aload_n (i := 0) rfl (show decode cX11_join 0 = .ok (.aload_n 0, 1) by decide +kernel) ?_
  refine gf_X11_10 (x := 2) rfl (show decode cX11_join 1 = .ok (.getfield 10, 3) by decide +kernel) okl_1 rfl ?_
  refine gf_X11_75 (x := 3) rfl (show decode cX11_join 4 = .ok (.getfield 75, 3) by decide +kernel) okl_2 (gr_10_0 okl_2) ?_
  refine j_iload_n (i := 1) rfl (show decode cX11_join 7 = .ok (.iload_n 1, 1) by decide +kernel) ?_
  refine j_iload_n (i := 2) rfl (show decode cX11_join 8 = .ok (.iload_n 2, 1) by decide +kernel) ?_
  refine j_ctV (m' := mX1_joinable) (As := [iv p1, iv p2]) (ci := 1) (tag := 0) (N := 0) (cw_X11_117 rfl) (show decode cX11_join 9 = .ok (.invokevirtual 117, 3) by decide +kernel) rfl (Nat.le_of_ble_eq_true rfl) (by decide) okl_3 rfl rfl (Nat.le_refl _) h (fun r1 σ1 h => ?_)
  have hr1 := h.1
  have h := h.2
  refine j_if_ne (tgt := 17) hr1 (show decode cX11_join 12 = .ok (.ifCond .ne 5, 3) by decide +kernel) (by decide) (fun c => ?_) (fun c => ?_)
  · have h := h.1 c
    refine s_aload_n (i := 0) rfl (show decode cX11_join 17 = .ok (.aload_n 0, 1) by decide +kernel) ?_
    refine gf_X11_10 (x := 2) rfl (show decode cX11_join 18 = .ok (.getfield 10, 3) by decide +kernel) okl_1 rfl ?_
    refine gf_X11_121 (x := 7) rfl (show decode cX11_join 21 = .ok (.getfield 121, 3) by decide +kernel) okl_2 (gr_10_1 okl_2) ?_
    refine s_aload_n (i := 0) rfl (show decode cX11_join 24 = .ok (.aload_n 0, 1) by decide +kernel) ?_
    refine gf_X11_10 (x := 2) rfl (show decode cX11_join 25 = .ok (.getfield 10, 3) by decide +kernel) okl_1 rfl ?_
    refine gf_X11_75 (x := 3) rfl (show decode cX11_join 28 = .ok (.getfield 75, 3) by decide +kernel) okl_2 (gr_10_0 okl_2) ?_
    refine j_ctVv (m' := mX7_remember) (As := [rv 3]) (ci := 7) (N := 0) (cw_X11_125 rfl) (show decode cX11_join 31 = .ok (.invokevirtual 125, 3) by decide +kernel) rfl (Nat.le_of_ble_eq_true rfl) okl_7 rfl rfl (Nat.le_refl _) h (fun r3 σ3 h => ?_)
    refine s_aload_n (i := 0) rfl (show decode cX11_join 34 = .ok (.aload_n 0, 1) by decide +kernel) ?_
    refine gf_X11_10 (x := 2) rfl (show decode cX11_join 35 = .ok (.getfield 10, 3) by decide +kernel) okl_1 rfl ?_
    refine gf_X11_75 (x := 3) rfl (show decode cX11_join 38 = .ok (.getfield 75, 3) by decide +kernel) okl_2 (gr_10_0 okl_2) ?_
    refine j_iload_n (i := 1) rfl (show decode cX11_join 41 = .ok (.iload_n 1, 1) by decide +kernel) ?_
    refine j_iload_n (i := 2) rfl (show decode cX11_join 42 = .ok (.iload_n 2, 1) by decide +kernel) ?_
    refine j_ctV (m' := mX1_unite) (As := [iv p1, iv p2]) (ci := 1) (tag := 0) (N := 0) (cw_X11_131 rfl) (show decode cX11_join 43 = .ok (.invokevirtual 131, 3) by decide +kernel) rfl (Nat.le_of_ble_eq_true rfl) (by decide) okl_3 rfl rfl (Nat.le_refl _) h (fun r4 σ4 h => ?_)
    exact j_ret (rokI (show decode cX11_join 46 = .ok (.ireturn, 1) by decide +kernel) rfl) ⟨rfl, rfl, h⟩
  · have h := h.2 c
    refine j_iconst (show decode cX11_join 15 = .ok (.iconst (-1), 1) by decide +kernel) ?_
    exact j_ret (rokI (show decode cX11_join 16 = .ok (.ireturn, 1) by decide +kernel) rfl) ⟨rfl, rfl, h⟩
theorem c_X11_join {d : Nat} {t : Int} {Q : Int → jM → Prop} {σ : jM} {p1 p2 : Int} (h : Ct mX1_joinable d 0 t [rv 3, iv p1, iv p2] σ (fun r1 σ1 => ((inR r1) ∧ ((¬ r1 = 0 → (Ct mX7_remember d 9 t [rv 7, rv 3] σ1 (fun r3 σ3 => (Ct mX1_unite d 0 t [rv 3, iv p1, iv p2] σ3 (fun r4 σ4 => (Q r4 σ4)))))) ∧ (r1 = 0 → (Q (-1) σ1)))))) : Ct mX11_join (d + 1) 0 t [rv 1, iv p1, iv p2] σ Q := Ct_of (by decide +kernel) (Nat.le_of_ble_eq_true rfl) (b_X11_join_0 h)
set_option maxRecDepth 4000 in
theorem b_X11_pour_0 {d : Nat} {t : Int} {Q : Int → jM → Prop} {σ : jM} {p1 : Int} (h : Ct mX1_holds d 0 t [rv 3, iv p1] σ (fun r1 σ1 => ((inR r1) ∧ ((¬ r1 = 0 → (Ct mX7_remember d 9 t [rv 7, rv 3] σ1 (fun r3 σ3 => (Ct mX1_clear d 9 t [rv 3, iv p1, iv 1] σ3 (fun r4 σ4 => (Q 1 σ4)))))) ∧ (r1 = 0 → (Q 0 σ1)))))) : Jt mX11_pour (d + 1) 0 t Q 0 [rv 1, iv p1] [] σ := by
  refine s_aload_n (i := 0) rfl (show decode cX11_pour 0 = .ok (.aload_n 0, 1) by decide +kernel) ?_
  refine gf_X11_10 (x := 2) rfl (show decode cX11_pour 1 = .ok (.getfield 10, 3) by decide +kernel) okl_1 rfl ?_
  refine gf_X11_75 (x := 3) rfl (show decode cX11_pour 4 = .ok (.getfield 75, 3) by decide +kernel) okl_2 (gr_10_0 okl_2) ?_
  refine j_iload_n (i := 1) rfl (show decode cX11_pour 7 = .ok (.iload_n 1, 1) by decide +kernel) ?_
  refine j_ctV (m' := mX1_holds) (As := [iv p1]) (ci := 1) (tag := 0) (N := 0) (cw_X11_135 rfl) (show decode cX11_pour 8 = .ok (.invokevirtual 135, 3) by decide +kernel) rfl (Nat.le_of_ble_eq_true rfl) (by decide) okl_3 rfl rfl (Nat.le_refl _) h (fun r1 σ1 h => ?_)
  have hr1 := h.1
  have h := h.2
  refine j_if_ne (tgt := 16) hr1 (show decode cX11_pour 11 = .ok (.ifCond .ne 5, 3) by decide +kernel) (by decide) (fun c => ?_) (fun c => ?_)
  · have h := h.1 c
    refine s_aload_n (i := 0) rfl (show decode cX11_pour 16 = .ok (.aload_n 0, 1) by decide +kernel) ?_
    refine gf_X11_10 (x := 2) rfl (show decode cX11_pour 17 = .ok (.getfield 10, 3) by decide +kernel) okl_1 rfl ?_
    refine gf_X11_121 (x := 7) rfl (show decode cX11_pour 20 = .ok (.getfield 121, 3) by decide +kernel) okl_2 (gr_10_1 okl_2) ?_
    refine s_aload_n (i := 0) rfl (show decode cX11_pour 23 = .ok (.aload_n 0, 1) by decide +kernel) ?_
    refine gf_X11_10 (x := 2) rfl (show decode cX11_pour 24 = .ok (.getfield 10, 3) by decide +kernel) okl_1 rfl ?_
    refine gf_X11_75 (x := 3) rfl (show decode cX11_pour 27 = .ok (.getfield 75, 3) by decide +kernel) okl_2 (gr_10_0 okl_2) ?_
    refine j_ctVv (m' := mX7_remember) (As := [rv 3]) (ci := 7) (N := 0) (cw_X11_125 rfl) (show decode cX11_pour 30 = .ok (.invokevirtual 125, 3) by decide +kernel) rfl (Nat.le_of_ble_eq_true rfl) okl_7 rfl rfl (Nat.le_refl _) h (fun r3 σ3 h => ?_)
    refine s_aload_n (i := 0) rfl (show decode cX11_pour 33 = .ok (.aload_n 0, 1) by decide +kernel) ?_
    refine gf_X11_10 (x := 2) rfl (show decode cX11_pour 34 = .ok (.getfield 10, 3) by decide +kernel) okl_1 rfl ?_
    refine gf_X11_75 (x := 3) rfl (show decode cX11_pour 37 = .ok (.getfield 75, 3) by decide +kernel) okl_2 (gr_10_0 okl_2) ?_
    refine j_iload_n (i := 1) rfl (show decode cX11_pour 40 = .ok (.iload_n 1, 1) by decide +kernel) ?_
    refine j_iconst (show decode cX11_pour 41 = .ok (.iconst 1, 1) by decide +kernel) ?_
    refine j_ctVv (m' := mX1_clear) (As := [iv p1, iv 1]) (ci := 1) (N := 0) (cw_X11_138 rfl) (show decode cX11_pour 42 = .ok (.invokevirtual 138, 3) by decide +kernel) rfl (Nat.le_of_ble_eq_true rfl) okl_3 rfl rfl (Nat.le_refl _) h (fun r4 σ4 h => ?_)
    refine j_iconst (show decode cX11_pour 45 = .ok (.iconst 1, 1) by decide +kernel) ?_
    exact j_ret (rokZ (show decode cX11_pour 46 = .ok (.ireturn, 1) by decide +kernel) rfl (Or.inr rfl)) ⟨rfl, rfl, h⟩
  · have h := h.2 c
    refine j_iconst (show decode cX11_pour 14 = .ok (.iconst 0, 1) by decide +kernel) ?_
    exact j_ret (rokZ (show decode cX11_pour 15 = .ok (.ireturn, 1) by decide +kernel) rfl (Or.inl rfl)) ⟨rfl, rfl, h⟩
theorem c_X11_pour {d : Nat} {t : Int} {Q : Int → jM → Prop} {σ : jM} {p1 : Int} (h : Ct mX1_holds d 0 t [rv 3, iv p1] σ (fun r1 σ1 => ((inR r1) ∧ ((¬ r1 = 0 → (Ct mX7_remember d 9 t [rv 7, rv 3] σ1 (fun r3 σ3 => (Ct mX1_clear d 9 t [rv 3, iv p1, iv 1] σ3 (fun r4 σ4 => (Q 1 σ4)))))) ∧ (r1 = 0 → (Q 0 σ1)))))) : Ct mX11_pour (d + 1) 0 t [rv 1, iv p1] σ Q := Ct_of (by decide +kernel) (Nat.le_of_ble_eq_true rfl) (b_X11_pour_0 h)
set_option maxRecDepth 4000 in
theorem b_X11_bake_0 {d : Nat} {t : Int} {Q : Int → jM → Prop} {σ : jM} {p1 : Int} (h : Ct mX1_holds d 0 t [rv 3, iv p1] σ (fun r1 σ1 => ((inR r1) ∧ ((¬ r1 = 0 → (Ct mX7_remember d 9 t [rv 7, rv 3] σ1 (fun r3 σ3 => (Ct mX11_ruler d 2 t [rv 1] σ3 (fun r4 σ4 => (Ct mX1_sell d 0 t [rv 3, iv p1, rv 273, rv r4] σ4 (fun r5 σ5 => (Q r5 σ5)))))))) ∧ (r1 = 0 → (Q (-1) σ1)))))) : Jt mX11_bake (d + 1) 0 t Q 0 [rv 1, iv p1] [] σ := by
  refine s_aload_n (i := 0) rfl (show decode cX11_bake 0 = .ok (.aload_n 0, 1) by decide +kernel) ?_
  refine gf_X11_10 (x := 2) rfl (show decode cX11_bake 1 = .ok (.getfield 10, 3) by decide +kernel) okl_1 rfl ?_
  refine gf_X11_75 (x := 3) rfl (show decode cX11_bake 4 = .ok (.getfield 75, 3) by decide +kernel) okl_2 (gr_10_0 okl_2) ?_
  refine j_iload_n (i := 1) rfl (show decode cX11_bake 7 = .ok (.iload_n 1, 1) by decide +kernel) ?_
  refine j_ctV (m' := mX1_holds) (As := [iv p1]) (ci := 1) (tag := 0) (N := 0) (cw_X11_135 rfl) (show decode cX11_bake 8 = .ok (.invokevirtual 135, 3) by decide +kernel) rfl (Nat.le_of_ble_eq_true rfl) (by decide) okl_3 rfl rfl (Nat.le_refl _) h (fun r1 σ1 h => ?_)
  have hr1 := h.1
  have h := h.2
  refine j_if_ne (tgt := 16) hr1 (show decode cX11_bake 11 = .ok (.ifCond .ne 5, 3) by decide +kernel) (by decide) (fun c => ?_) (fun c => ?_)
  · have h := h.1 c
    refine s_aload_n (i := 0) rfl (show decode cX11_bake 16 = .ok (.aload_n 0, 1) by decide +kernel) ?_
    refine gf_X11_10 (x := 2) rfl (show decode cX11_bake 17 = .ok (.getfield 10, 3) by decide +kernel) okl_1 rfl ?_
    refine gf_X11_121 (x := 7) rfl (show decode cX11_bake 20 = .ok (.getfield 121, 3) by decide +kernel) okl_2 (gr_10_1 okl_2) ?_
    refine s_aload_n (i := 0) rfl (show decode cX11_bake 23 = .ok (.aload_n 0, 1) by decide +kernel) ?_
    refine gf_X11_10 (x := 2) rfl (show decode cX11_bake 24 = .ok (.getfield 10, 3) by decide +kernel) okl_1 rfl ?_
    refine gf_X11_75 (x := 3) rfl (show decode cX11_bake 27 = .ok (.getfield 75, 3) by decide +kernel) okl_2 (gr_10_0 okl_2) ?_
    refine j_ctVv (m' := mX7_remember) (As := [rv 3]) (ci := 7) (N := 0) (cw_X11_125 rfl) (show decode cX11_bake 30 = .ok (.invokevirtual 125, 3) by decide +kernel) rfl (Nat.le_of_ble_eq_true rfl) okl_7 rfl rfl (Nat.le_refl _) h (fun r3 σ3 h => ?_)
    refine s_aload_n (i := 0) rfl (show decode cX11_bake 33 = .ok (.aload_n 0, 1) by decide +kernel) ?_
    refine gf_X11_10 (x := 2) rfl (show decode cX11_bake 34 = .ok (.getfield 10, 3) by decide +kernel) okl_1 rfl ?_
    refine gf_X11_75 (x := 3) rfl (show decode cX11_bake 37 = .ok (.getfield 75, 3) by decide +kernel) okl_2 (gr_10_0 okl_2) ?_
    refine j_iload_n (i := 1) rfl (show decode cX11_bake 40 = .ok (.iload_n 1, 1) by decide +kernel) ?_
    refine s_aload_n (i := 0) rfl (show decode cX11_bake 41 = .ok (.aload_n 0, 1) by decide +kernel) ?_
    refine gf_X11_42 (x := 273) rfl (show decode cX11_bake 42 = .ok (.getfield 42, 3) by decide +kernel) okl_1 rfl ?_
    refine s_aload_n (i := 0) rfl (show decode cX11_bake 45 = .ok (.aload_n 0, 1) by decide +kernel) ?_
    refine j_ctV (m' := mX11_ruler) (As := []) (ci := 11) (tag := 2) (N := 0) (cw_X11_142 rfl) (show decode cX11_bake 46 = .ok (.invokevirtual 142, 3) by decide +kernel) rfl (Nat.le_of_ble_eq_true rfl) (by decide) okl_1 rfl rfl (Nat.le_refl _) h (fun r4 σ4 h => ?_)
    refine j_ctV (m' := mX1_sell) (As := [iv p1, rv 273, rv r4]) (ci := 1) (tag := 0) (N := 0) (cw_X11_146 rfl) (show decode cX11_bake 49 = .ok (.invokevirtual 146, 3) by decide +kernel) rfl (Nat.le_of_ble_eq_true rfl) (by decide) okl_3 rfl rfl (Nat.le_refl _) h (fun r5 σ5 h => ?_)
    exact j_ret (rokI (show decode cX11_bake 52 = .ok (.ireturn, 1) by decide +kernel) rfl) ⟨rfl, rfl, h⟩
  · have h := h.2 c
    refine j_iconst (show decode cX11_bake 14 = .ok (.iconst (-1), 1) by decide +kernel) ?_
    exact j_ret (rokI (show decode cX11_bake 15 = .ok (.ireturn, 1) by decide +kernel) rfl) ⟨rfl, rfl, h⟩
theorem c_X11_bake {d : Nat} {t : Int} {Q : Int → jM → Prop} {σ : jM} {p1 : Int} (h : Ct mX1_holds d 0 t [rv 3, iv p1] σ (fun r1 σ1 => ((inR r1) ∧ ((¬ r1 = 0 → (Ct mX7_remember d 9 t [rv 7, rv 3] σ1 (fun r3 σ3 => (Ct mX11_ruler d 2 t [rv 1] σ3 (fun r4 σ4 => (Ct mX1_sell d 0 t [rv 3, iv p1, rv 273, rv r4] σ4 (fun r5 σ5 => (Q r5 σ5)))))))) ∧ (r1 = 0 → (Q (-1) σ1)))))) : Ct mX11_bake (d + 1) 0 t [rv 1, iv p1] σ Q := Ct_of (by decide +kernel) (Nat.le_of_ble_eq_true rfl) (b_X11_bake_0 h)
set_option maxRecDepth 4000 in
theorem b_X11_day_0 {d : Nat} {t : Int} {Q : Int → jM → Prop} {σ : jM} {p1 : Int} (h : (inR p1) ∧ ((p1 < 1 → (Q (-1) σ)) ∧ (1 ≤ p1 → ((inR p1) ∧ ((60 < p1 → (Q (-1) σ)) ∧ (p1 ≤ 60 → ((inR ((σ 3 6) + p1)) ∧ ((((σ 3 6) + p1) ≤ 9999 → (Ct mX11_passDays d 0 t [rv 1, iv p1] σ (fun r4 σ4 => (Q r4 σ4)))) ∧ (9999 < ((σ 3 6) + p1) → (Q (-1) σ)))))))))) : Jt mX11_day (d + 1) 0 t Q 0 [rv 1, iv p1] [] σ := by
  refine j_iload_n (i := 1) rfl (show decode cX11_day 0 = .ok (.iload_n 1, 1) by decide +kernel) ?_
  refine j_iconst (show decode cX11_day 1 = .ok (.iconst 1, 1) by decide +kernel) ?_
  have hr0 := h.1
  have h := h.2
  refine j_icmp_lt (tgt := 29) hr0 (inl (by decide)) (show decode cX11_day 2 = .ok (.if_icmp .lt 27, 3) by decide +kernel) (by decide) (fun c => ?_) (fun c => ?_)
  · have h := h.1 c
    refine j_iconst (show decode cX11_day 29 = .ok (.iconst (-1), 1) by decide +kernel) ?_
    exact j_ret (rokI (show decode cX11_day 30 = .ok (.ireturn, 1) by decide +kernel) rfl) ⟨rfl, rfl, h⟩
  · have h := h.2 c
    refine j_iload_n (i := 1) rfl (show decode cX11_day 5 = .ok (.iload_n 1, 1) by decide +kernel) ?_
    refine j_bipush (n := 60) (by decide +kernel) (show decode cX11_day 6 = .ok (.bipush 60, 2) by decide +kernel) ?_
    have hr1 := h.1
    have h := h.2
    refine j_icmp_gt (tgt := 29) hr1 (inl (by decide)) (show decode cX11_day 8 = .ok (.if_icmp .gt 21, 3) by decide +kernel) (by decide) (fun c => ?_) (fun c => ?_)
    · have h := h.1 c
      refine j_iconst (show decode cX11_day 29 = .ok (.iconst (-1), 1) by decide +kernel) ?_
      exact j_ret (rokI (show decode cX11_day 30 = .ok (.ireturn, 1) by decide +kernel) rfl) ⟨rfl, rfl, h⟩
    · have h := h.2 c
      refine s_aload_n (i := 0) rfl (show decode cX11_day 11 = .ok (.aload_n 0, 1) by decide +kernel) ?_
      refine gf_X11_10 (x := 2) rfl (show decode cX11_day 12 = .ok (.getfield 10, 3) by decide +kernel) okl_1 rfl ?_
      refine gf_X11_75 (x := 3) rfl (show decode cX11_day 15 = .ok (.getfield 75, 3) by decide +kernel) okl_2 (gr_10_0 okl_2) ?_
      refine gf_X11_150 rfl (show decode cX11_day 18 = .ok (.getfield 150, 3) by decide +kernel) okl_3 ?_
      refine j_iload_n (i := 1) rfl (show decode cX11_day 21 = .ok (.iload_n 1, 1) by decide +kernel) ?_
      refine j_iadd (show decode cX11_day 22 = .ok (.iadd, 1) by decide +kernel) ?_
      refine j_sipush (n := 9999) (by decide +kernel) (show decode cX11_day 23 = .ok (.sipush 9999, 3) by decide +kernel) ?_
      have hr2 := h.1
      have h := h.2
      refine j_icmp_le (tgt := 31) hr2 (inl (by decide)) (show decode cX11_day 26 = .ok (.if_icmp .le 5, 3) by decide +kernel) (by decide) (fun c => ?_) (fun c => ?_)
      · have h := h.1 c
        refine s_aload_n (i := 0) rfl (show decode cX11_day 31 = .ok (.aload_n 0, 1) by decide +kernel) ?_
        refine j_iload_n (i := 1) rfl (show decode cX11_day 32 = .ok (.iload_n 1, 1) by decide +kernel) ?_
        refine j_ctV (m' := mX11_passDays) (As := [iv p1]) (ci := 11) (tag := 0) (N := 0) (cw_X11_153 rfl) (show decode cX11_day 33 = .ok (.invokevirtual 153, 3) by decide +kernel) rfl (Nat.le_of_ble_eq_true rfl) (by decide) okl_1 rfl rfl (Nat.le_refl _) h (fun r4 σ4 h => ?_)
        exact j_ret (rokI (show decode cX11_day 36 = .ok (.ireturn, 1) by decide +kernel) rfl) ⟨rfl, rfl, h⟩
      · have h := h.2 c
        refine j_iconst (show decode cX11_day 29 = .ok (.iconst (-1), 1) by decide +kernel) ?_
        exact j_ret (rokI (show decode cX11_day 30 = .ok (.ireturn, 1) by decide +kernel) rfl) ⟨rfl, rfl, h⟩
theorem c_X11_day {d : Nat} {t : Int} {Q : Int → jM → Prop} {σ : jM} {p1 : Int} (h : (inR p1) ∧ ((p1 < 1 → (Q (-1) σ)) ∧ (1 ≤ p1 → ((inR p1) ∧ ((60 < p1 → (Q (-1) σ)) ∧ (p1 ≤ 60 → ((inR ((σ 3 6) + p1)) ∧ ((((σ 3 6) + p1) ≤ 9999 → (Ct mX11_passDays d 0 t [rv 1, iv p1] σ (fun r4 σ4 => (Q r4 σ4)))) ∧ (9999 < ((σ 3 6) + p1) → (Q (-1) σ)))))))))) : Ct mX11_day (d + 1) 0 t [rv 1, iv p1] σ Q := Ct_of (by decide +kernel) (Nat.le_of_ble_eq_true rfl) (b_X11_day_0 h)
set_option maxRecDepth 4000 in
theorem b_X11_passDays_4 {d : Nat} {t : Int} {Q : Int → jM → Prop} {σ : jM} {p1 v2 v3 : Int} (h : (inR v3) ∧ ((inR p1) ∧ ((p1 ≤ v3 → (Q v2 σ)) ∧ (v3 < p1 → ((inR (σ 3 6)) ∧ ((9999 ≤ (σ 3 6) → (Q v2 σ)) ∧ ((σ 3 6) < 9999 → (Ct mX7_remember d 9 t [rv 7, rv 3] σ (fun r4 σ4 => (Ct mX11_ruler d 2 t [rv 1] σ4 (fun r5 σ5 => (Ct mX1_passDay d 0 t [rv 3, rv 273, rv r5] σ5 (fun r6 σ6 => (Jt mX11_passDays (d + 1) 0 t Q 4 [rv 1, iv p1, iv (v2 + r6), iv (v3 + 1)] [] σ6)))))))))))))) : Jt mX11_passDays (d + 1) 0 t Q 4 [rv 1, iv p1, iv v2, iv v3] [] σ := by
  refine j_iload_n (i := 3) rfl (show decode cX11_passDays 4 = .ok (.iload_n 3, 1) by decide +kernel) ?_
  refine j_iload_n (i := 1) rfl (show decode cX11_passDays 5 = .ok (.iload_n 1, 1) by decide +kernel) ?_
  have hr0 := h.1
  have h := h.2
  have hr1 := h.1
  have h := h.2
  refine j_icmp_ge (tgt := 69) hr0 hr1 (show decode cX11_passDays 6 = .ok (.if_icmp .ge 63, 3) by decide +kernel) (by decide) (fun c => ?_) (fun c => ?_)
  · have h := h.1 c
    refine j_iload_n (i := 2) rfl (show decode cX11_passDays 69 = .ok (.iload_n 2, 1) by decide +kernel) ?_
    exact j_ret (rokI (show decode cX11_passDays 70 = .ok (.ireturn, 1) by decide +kernel) rfl) ⟨rfl, rfl, h⟩
  · have h := h.2 c
    refine s_aload_n (i := 0) rfl (show decode cX11_passDays 9 = .ok (.aload_n 0, 1) by decide +kernel) ?_
    refine gf_X11_10 (x := 2) rfl (show decode cX11_passDays 10 = .ok (.getfield 10, 3) by decide +kernel) okl_1 rfl ?_
    refine gf_X11_75 (x := 3) rfl (show decode cX11_passDays 13 = .ok (.getfield 75, 3) by decide +kernel) okl_2 (gr_10_0 okl_2) ?_
    refine gf_X11_150 rfl (show decode cX11_passDays 16 = .ok (.getfield 150, 3) by decide +kernel) okl_3 ?_
    refine j_sipush (n := 9999) (by decide +kernel) (show decode cX11_passDays 19 = .ok (.sipush 9999, 3) by decide +kernel) ?_
    have hr2 := h.1
    have h := h.2
    refine j_icmp_ge (tgt := 69) hr2 (inl (by decide)) (show decode cX11_passDays 22 = .ok (.if_icmp .ge 47, 3) by decide +kernel) (by decide) (fun c => ?_) (fun c => ?_)
    · have h := h.1 c
      refine j_iload_n (i := 2) rfl (show decode cX11_passDays 69 = .ok (.iload_n 2, 1) by decide +kernel) ?_
      exact j_ret (rokI (show decode cX11_passDays 70 = .ok (.ireturn, 1) by decide +kernel) rfl) ⟨rfl, rfl, h⟩
    · have h := h.2 c
      refine s_aload_n (i := 0) rfl (show decode cX11_passDays 25 = .ok (.aload_n 0, 1) by decide +kernel) ?_
      refine gf_X11_10 (x := 2) rfl (show decode cX11_passDays 26 = .ok (.getfield 10, 3) by decide +kernel) okl_1 rfl ?_
      refine gf_X11_121 (x := 7) rfl (show decode cX11_passDays 29 = .ok (.getfield 121, 3) by decide +kernel) okl_2 (gr_10_1 okl_2) ?_
      refine s_aload_n (i := 0) rfl (show decode cX11_passDays 32 = .ok (.aload_n 0, 1) by decide +kernel) ?_
      refine gf_X11_10 (x := 2) rfl (show decode cX11_passDays 33 = .ok (.getfield 10, 3) by decide +kernel) okl_1 rfl ?_
      refine gf_X11_75 (x := 3) rfl (show decode cX11_passDays 36 = .ok (.getfield 75, 3) by decide +kernel) okl_2 (gr_10_0 okl_2) ?_
      refine j_ctVv (m' := mX7_remember) (As := [rv 3]) (ci := 7) (N := 0) (cw_X11_125 rfl) (show decode cX11_passDays 39 = .ok (.invokevirtual 125, 3) by decide +kernel) rfl (Nat.le_of_ble_eq_true rfl) okl_7 rfl rfl (Nat.le_refl _) h (fun r4 σ4 h => ?_)
      refine j_iload_n (i := 2) rfl (show decode cX11_passDays 42 = .ok (.iload_n 2, 1) by decide +kernel) ?_
      refine s_aload_n (i := 0) rfl (show decode cX11_passDays 43 = .ok (.aload_n 0, 1) by decide +kernel) ?_
      refine gf_X11_10 (x := 2) rfl (show decode cX11_passDays 44 = .ok (.getfield 10, 3) by decide +kernel) okl_1 rfl ?_
      refine gf_X11_75 (x := 3) rfl (show decode cX11_passDays 47 = .ok (.getfield 75, 3) by decide +kernel) okl_2 (gr_10_0 okl_2) ?_
      refine s_aload_n (i := 0) rfl (show decode cX11_passDays 50 = .ok (.aload_n 0, 1) by decide +kernel) ?_
      refine gf_X11_42 (x := 273) rfl (show decode cX11_passDays 51 = .ok (.getfield 42, 3) by decide +kernel) okl_1 rfl ?_
      refine s_aload_n (i := 0) rfl (show decode cX11_passDays 54 = .ok (.aload_n 0, 1) by decide +kernel) ?_
      refine j_ctV (m' := mX11_ruler) (As := []) (ci := 11) (tag := 2) (N := 0) (cw_X11_142 rfl) (show decode cX11_passDays 55 = .ok (.invokevirtual 142, 3) by decide +kernel) rfl (Nat.le_of_ble_eq_true rfl) (by decide) okl_1 rfl rfl (Nat.le_refl _) h (fun r5 σ5 h => ?_)
      refine j_ctV (m' := mX1_passDay) (As := [rv 273, rv r5]) (ci := 1) (tag := 0) (N := 0) (cw_X11_157 rfl) (show decode cX11_passDays 58 = .ok (.invokevirtual 157, 3) by decide +kernel) rfl (Nat.le_of_ble_eq_true rfl) (by decide) okl_3 rfl rfl (Nat.le_refl _) h (fun r6 σ6 h => ?_)
      refine j_iadd (show decode cX11_passDays 61 = .ok (.iadd, 1) by decide +kernel) ?_
      refine s_ist_n (i := 2) (L' := [rv 1, iv p1, iv (v2 + r6), iv v3]) rfl (by decide) (show decode cX11_passDays 62 = .ok (.istore_n 2, 1) by decide +kernel) ?_
      refine s_iinc (i := 3) rfl (L' := [rv 1, iv p1, iv (v2 + r6), iv (v3 + 1)]) rfl (show decode cX11_passDays 63 = .ok (.iinc 3 1, 3) by decide +kernel) ?_
      refine j_goto (tgt := 4) (show decode cX11_passDays 66 = .ok (.goto (-62), 3) by decide +kernel) (by decide) ?_
      exact h
set_option maxRecDepth 4000 in
theorem b_X11_passDays_0 {d : Nat} {t : Int} {Q : Int → jM → Prop} {σ : jM} {p1 : Int} (h : Jt mX11_passDays (d + 1) 0 t Q 4 [rv 1, iv p1, iv 0, iv 0] [] σ) : Jt mX11_passDays (d + 1) 0 t Q 0 [rv 1, iv p1, uv, uv] [] σ := by
  refine j_iconst (show decode cX11_passDays 0 = .ok (.iconst 0, 1) by decide +kernel) ?_
  refine s_ist_n (i := 2) (L' := [rv 1, iv p1, iv 0, uv]) rfl (by decide) (show decode cX11_passDays 1 = .ok (.istore_n 2, 1) by decide +kernel) ?_
  refine j_iconst (show decode cX11_passDays 2 = .ok (.iconst 0, 1) by decide +kernel) ?_
  refine s_ist_n (i := 3) (L' := [rv 1, iv p1, iv 0, iv 0]) rfl (by decide) (show decode cX11_passDays 3 = .ok (.istore_n 3, 1) by decide +kernel) ?_
  exact h
theorem c_X11_passDays {d : Nat} {t : Int} {Q : Int → jM → Prop} {σ : jM} {p1 : Int} (h : Jt mX11_passDays (d + 1) 0 t Q 4 [rv 1, iv p1, iv 0, iv 0] [] σ) : Ct mX11_passDays (d + 1) 0 t [rv 1, iv p1] σ Q := Ct_of (by decide +kernel) (Nat.le_of_ble_eq_true rfl) (b_X11_passDays_0 h)
set_option maxRecDepth 4000 in
theorem b_X11_played_20 {d : Nat} {t : Int} {Q : Int → jM → Prop} {σ : jM} {p1 v2 v3 : Int} (h : (ob (GG t) v2 8) ∧ ((inR v3) ∧ ((inR (σ v2 6)) ∧ (((σ v2 6) ≤ v3 → (Q (-1) σ)) ∧ (v3 < (σ v2 6) → ((inR v3) ∧ ((24 ≤ v3 → (Q (-1) σ)) ∧ (v3 < 24 → ((ob (GG t) v2 8) ∧ (((0 : Int) ≤ v3 ∧ v3 < 24) ∧ ((ob (GG t) v2 8) ∧ (((0 : Int) ≤ v3 ∧ v3 < 24) ∧ ((ob (GG t) v2 8) ∧ (((0 : Int) ≤ v3 ∧ v3 < 24) ∧ (Ct mX11_follows d 0 t [rv 1, iv (σ (v2 + 1) v3), iv (σ (v2 + 2) v3), iv (σ (v2 + 3) v3)] σ (fun r8 σ8 => ((inR r8) ∧ ((¬ r8 = 0 → (Jt mX11_played (d + 1) 0 t Q 20 [rv 1, iv p1, rv v2, iv (v3 + 1)] [] σ8)) ∧ (r8 = 0 → (Q v3 σ8)))))))))))))))))))) : Jt mX11_played (d + 1) 0 t Q 20 [rv 1, iv p1, rv v2, iv v3] [] σ := by
  refine j_iload_n (i := 3) rfl (show decode cX11_played 20 = .ok (.iload_n 3, 1) by decide +kernel) ?_
  refine s_aload_n (i := 2) rfl (show decode cX11_played 21 = .ok (.aload_n 2, 1) by decide +kernel) ?_
  have hb0 := h.1
  have h := h.2
  refine gf_X11_161 rfl (show decode cX11_played 22 = .ok (.getfield 161, 3) by decide +kernel) hb0 ?_
  have hr1 := h.1
  have h := h.2
  have hr2 := h.1
  have h := h.2
  refine j_icmp_ge (tgt := 67) hr1 hr2 (show decode cX11_played 25 = .ok (.if_icmp .ge 42, 3) by decide +kernel) (by decide) (fun c => ?_) (fun c => ?_)
  · have h := h.1 c
    refine j_iconst (show decode cX11_played 67 = .ok (.iconst (-1), 1) by decide +kernel) ?_
    exact j_ret (rokI (show decode cX11_played 68 = .ok (.ireturn, 1) by decide +kernel) rfl) ⟨rfl, rfl, h⟩
  · have h := h.2 c
    refine j_iload_n (i := 3) rfl (show decode cX11_played 28 = .ok (.iload_n 3, 1) by decide +kernel) ?_
    refine j_bipush (n := 24) (by decide +kernel) (show decode cX11_played 29 = .ok (.bipush 24, 2) by decide +kernel) ?_
    have hr3 := h.1
    have h := h.2
    refine j_icmp_ge (tgt := 67) hr3 (inl (by decide)) (show decode cX11_played 31 = .ok (.if_icmp .ge 36, 3) by decide +kernel) (by decide) (fun c => ?_) (fun c => ?_)
    · have h := h.1 c
      refine j_iconst (show decode cX11_played 67 = .ok (.iconst (-1), 1) by decide +kernel) ?_
      exact j_ret (rokI (show decode cX11_played 68 = .ok (.ireturn, 1) by decide +kernel) rfl) ⟨rfl, rfl, h⟩
    · have h := h.2 c
      refine s_aload_n (i := 0) rfl (show decode cX11_played 34 = .ok (.aload_n 0, 1) by decide +kernel) ?_
      refine s_aload_n (i := 2) rfl (show decode cX11_played 35 = .ok (.aload_n 2, 1) by decide +kernel) ?_
      have hb4 := h.1
      have h := h.2
      refine gf_X11_164 (x := (v2 + 1)) rfl (show decode cX11_played 36 = .ok (.getfield 164, 3) by decide +kernel) hb4 (gr_8_0 hb4) ?_
      refine j_iload_n (i := 3) rfl (show decode cX11_played 39 = .ok (.iload_n 3, 1) by decide +kernel) ?_
      refine s_iald (show decode cX11_played 40 = .ok (.iaload, 1) by decide +kernel) (ok_8_0 hb4) h.1 ?_
      have h := h.2
      refine s_aload_n (i := 2) rfl (show decode cX11_played 41 = .ok (.aload_n 2, 1) by decide +kernel) ?_
      have hb5 := h.1
      have h := h.2
      refine gf_X11_167 (x := (v2 + 2)) rfl (show decode cX11_played 42 = .ok (.getfield 167, 3) by decide +kernel) hb5 (gr_8_1 hb5) ?_
      refine j_iload_n (i := 3) rfl (show decode cX11_played 45 = .ok (.iload_n 3, 1) by decide +kernel) ?_
      refine s_iald (show decode cX11_played 46 = .ok (.iaload, 1) by decide +kernel) (ok_8_1 hb5) h.1 ?_
      have h := h.2
      refine s_aload_n (i := 2) rfl (show decode cX11_played 47 = .ok (.aload_n 2, 1) by decide +kernel) ?_
      have hb6 := h.1
      have h := h.2
      refine gf_X11_170 (x := (v2 + 3)) rfl (show decode cX11_played 48 = .ok (.getfield 170, 3) by decide +kernel) hb6 (gr_8_2 hb6) ?_
      refine j_iload_n (i := 3) rfl (show decode cX11_played 51 = .ok (.iload_n 3, 1) by decide +kernel) ?_
      refine s_iald (show decode cX11_played 52 = .ok (.iaload, 1) by decide +kernel) (ok_8_2 hb6) h.1 ?_
      have h := h.2
      refine j_ctV (m' := mX11_follows) (As := [iv (σ (v2 + 1) v3), iv (σ (v2 + 2) v3), iv (σ (v2 + 3) v3)]) (ci := 11) (tag := 0) (N := 0) (cw_X11_173 rfl) (show decode cX11_played 53 = .ok (.invokevirtual 173, 3) by decide +kernel) rfl (Nat.le_of_ble_eq_true rfl) (by decide) okl_1 rfl rfl (Nat.le_refl _) h (fun r8 σ8 h => ?_)
      have hr8 := h.1
      have h := h.2
      refine j_if_ne (tgt := 61) hr8 (show decode cX11_played 56 = .ok (.ifCond .ne 5, 3) by decide +kernel) (by decide) (fun c => ?_) (fun c => ?_)
      · have h := h.1 c
        refine s_iinc (i := 3) rfl (L' := [rv 1, iv p1, rv v2, iv (v3 + 1)]) rfl (show decode cX11_played 61 = .ok (.iinc 3 1, 3) by decide +kernel) ?_
        refine j_goto (tgt := 20) (show decode cX11_played 64 = .ok (.goto (-44), 3) by decide +kernel) (by decide) ?_
        exact h
      · have h := h.2 c
        refine j_iload_n (i := 3) rfl (show decode cX11_played 59 = .ok (.iload_n 3, 1) by decide +kernel) ?_
        exact j_ret (rokI (show decode cX11_played 60 = .ok (.ireturn, 1) by decide +kernel) rfl) ⟨rfl, rfl, h⟩
set_option maxRecDepth 4000 in
theorem b_X11_played_0 {d : Nat} {t : Int} {Q : Int → jM → Prop} {σ : jM} {p1 : Int} (h : Ct mX11_isText d 0 t [rv 1, iv p1] σ (fun r1 σ1 => ((inR r1) ∧ ((¬ r1 = 0 → (((0 : Int) ≤ p1 ∧ p1 < 4) ∧ (Jt mX11_played (d + 1) 0 t Q 20 [rv 1, iv p1, rv (293 + 7 * p1), iv 0] [] σ1))) ∧ (r1 = 0 → (Q (-2) σ1)))))) : Jt mX11_played (d + 1) 0 t Q 0 [rv 1, iv p1, uv, uv] [] σ := by
  refine s_aload_n (i := 0) rfl (show decode cX11_played 0 = .ok (.aload_n 0, 1) by decide +kernel) ?_
  refine j_iload_n (i := 1) rfl (show decode cX11_played 1 = .ok (.iload_n 1, 1) by decide +kernel) ?_
  refine j_ctV (m' := mX11_isText) (As := [iv p1]) (ci := 11) (tag := 0) (N := 0) (cw_X11_110 rfl) (show decode cX11_played 2 = .ok (.invokevirtual 110, 3) by decide +kernel) rfl (Nat.le_of_ble_eq_true rfl) (by decide) okl_1 rfl rfl (Nat.le_refl _) h (fun r1 σ1 h => ?_)
  have hr1 := h.1
  have h := h.2
  refine j_if_ne (tgt := 11) hr1 (show decode cX11_played 5 = .ok (.ifCond .ne 6, 3) by decide +kernel) (by decide) (fun c => ?_) (fun c => ?_)
  · have h := h.1 c
    refine s_aload_n (i := 0) rfl (show decode cX11_played 11 = .ok (.aload_n 0, 1) by decide +kernel) ?_
    refine gf_X11_28 (x := 270) rfl (show decode cX11_played 12 = .ok (.getfield 28, 3) by decide +kernel) okl_1 rfl ?_
    refine j_iload_n (i := 1) rfl (show decode cX11_played 15 = .ok (.iload_n 1, 1) by decide +kernel) ?_
    have hb2 := h.1
    have h := h.2
    refine s_aald5 (x := (293 + 7 * p1)) (show decode cX11_played 16 = .ok (.aaload, 1) by decide +kernel) okl_270 hb2 rfl ?_
    refine s_ast_n (i := 2) (L' := [rv 1, iv p1, rv (293 + 7 * p1), uv]) rfl (by decide) (show decode cX11_played 17 = .ok (.astore_n 2, 1) by decide +kernel) ?_
    refine j_iconst (show decode cX11_played 18 = .ok (.iconst 0, 1) by decide +kernel) ?_
    refine s_ist_n (i := 3) (L' := [rv 1, iv p1, rv (293 + 7 * p1), iv 0]) rfl (by decide) (show decode cX11_played 19 = .ok (.istore_n 3, 1) by decide +kernel) ?_
    exact h
  · have h := h.2 c
    refine j_bipush (n := -2) (by decide +kernel) (show decode cX11_played 8 = .ok (.bipush (-2), 2) by decide +kernel) ?_
    exact j_ret (rokI (show decode cX11_played 10 = .ok (.ireturn, 1) by decide +kernel) rfl) ⟨rfl, rfl, h⟩
theorem c_X11_played {d : Nat} {t : Int} {Q : Int → jM → Prop} {σ : jM} {p1 : Int} (h : Ct mX11_isText d 0 t [rv 1, iv p1] σ (fun r1 σ1 => ((inR r1) ∧ ((¬ r1 = 0 → (((0 : Int) ≤ p1 ∧ p1 < 4) ∧ (Jt mX11_played (d + 1) 0 t Q 20 [rv 1, iv p1, rv (293 + 7 * p1), iv 0] [] σ1))) ∧ (r1 = 0 → (Q (-2) σ1)))))) : Ct mX11_played (d + 1) 0 t [rv 1, iv p1] σ Q := Ct_of (by decide +kernel) (Nat.le_of_ble_eq_true rfl) (b_X11_played_0 h)
set_option maxRecDepth 4000 in
theorem b_X11_follows_0 {d : Nat} {t : Int} {Q : Int → jM → Prop} {σ : jM} {p1 p2 p3 : Int} (h : (inR p1) ∧ ((p1 < 102 ∨ 106 < p1 → (Q 1 σ)) ∧ (p1 = 102 → (Ct mX11_join d 0 t [rv 1, iv p2, iv p3] σ (fun r2 σ2 => ((inR r2) ∧ ((r2 = (-1) → (Q 0 σ2)) ∧ (¬ r2 = (-1) → (Q 1 σ2))))))) ∧ (p1 = 103 → (Ct mX11_pour d 0 t [rv 1, iv p2] σ (fun r4 σ4 => ((r4 = 0 ∨ r4 = 1) ∧ (Q r4 σ4))))) ∧ (p1 = 104 → (Ct mX11_bake d 0 t [rv 1, iv p2] σ (fun r6 σ6 => ((inR r6) ∧ ((r6 = (-1) → (Q 0 σ6)) ∧ (¬ r6 = (-1) → (Q 1 σ6))))))) ∧ (p1 = 105 → (Ct mX11_makes d 0 t [rv 1, iv p2] σ (fun r8 σ8 => ((r8 = 0 ∨ r8 = 1) ∧ (Q r8 σ8))))) ∧ (p1 = 106 → ((inR ((σ 3 6) + p2)) ∧ ((9999 < ((σ 3 6) + p2) → (Ct mX11_passDays d 0 t [rv 1, iv p2] σ (fun r11 σ11 => (Q 0 σ11)))) ∧ (((σ 3 6) + p2) ≤ 9999 → (Ct mX11_passDays d 0 t [rv 1, iv p2] σ (fun r12 σ12 => (Q 1 σ12))))))))) : Jt mX11_follows (d + 1) 0 t Q 0 [rv 1, iv p1, iv p2, iv p3, uv] [] σ := by
  refine j_iload_n (i := 1) rfl (show decode cX11_follows 0 = .ok (.iload_n 1, 1) by decide +kernel) ?_
  have hr0 := h.1
  have h := h.2
  rcases (show (p1 < 102 ∨ 106 < p1) ∨ p1 = 102 ∨ p1 = 103 ∨ p1 = 104 ∨ p1 = 105 ∨ p1 = 106 by omega) with c | c | c | c | c | c
  · refine j_tableOut (tgt := 113) hr0 (show decode cX11_follows 1 = .ok (.tableswitch 112 102 106 #[35, 51, 57, 106, 72], 35) by decide +kernel) c (by decide) ?_
    have h := h.1 c
    refine j_iconst (show decode cX11_follows 113 = .ok (.iconst 1, 1) by decide +kernel) ?_
    exact j_ret (rokZ (show decode cX11_follows 114 = .ok (.ireturn, 1) by decide +kernel) rfl (Or.inr rfl)) ⟨rfl, rfl, h⟩
  · refine j_tableIn (tgt := 36) hr0 (show decode cX11_follows 1 = .ok (.tableswitch 112 102 106 #[35, 51, 57, 106, 72], 35) by decide +kernel) (by omega) (by omega) (by rw [c]; rfl) (by decide) ?_
    have h := h.2.1 c
    refine s_aload_n (i := 0) rfl (show decode cX11_follows 36 = .ok (.aload_n 0, 1) by decide +kernel) ?_
    refine j_iload_n (i := 2) rfl (show decode cX11_follows 37 = .ok (.iload_n 2, 1) by decide +kernel) ?_
    refine j_iload_n (i := 3) rfl (show decode cX11_follows 38 = .ok (.iload_n 3, 1) by decide +kernel) ?_
    refine j_ctV (m' := mX11_join) (As := [iv p2, iv p3]) (ci := 11) (tag := 0) (N := 0) (cw_X11_177 rfl) (show decode cX11_follows 39 = .ok (.invokevirtual 177, 3) by decide +kernel) rfl (Nat.le_of_ble_eq_true rfl) (by decide) okl_1 rfl rfl (Nat.le_refl _) h (fun r2 σ2 h => ?_)
    refine j_iconst (show decode cX11_follows 42 = .ok (.iconst (-1), 1) by decide +kernel) ?_
    have hr2 := h.1
    have h := h.2
    refine j_icmp_eq (tgt := 50) hr2 (inl (by decide)) (show decode cX11_follows 43 = .ok (.if_icmp .eq 7, 3) by decide +kernel) (by decide) (fun c => ?_) (fun c => ?_)
    · have h := h.1 c
      refine j_iconst (show decode cX11_follows 50 = .ok (.iconst 0, 1) by decide +kernel) ?_
      exact j_ret (rokZ (show decode cX11_follows 51 = .ok (.ireturn, 1) by decide +kernel) rfl (Or.inl rfl)) ⟨rfl, rfl, h⟩
    · have h := h.2 c
      refine j_iconst (show decode cX11_follows 46 = .ok (.iconst 1, 1) by decide +kernel) ?_
      refine j_goto (tgt := 51) (show decode cX11_follows 47 = .ok (.goto 4, 3) by decide +kernel) (by decide) ?_
      exact j_ret (rokZ (show decode cX11_follows 51 = .ok (.ireturn, 1) by decide +kernel) rfl (Or.inr rfl)) ⟨rfl, rfl, h⟩
  · refine j_tableIn (tgt := 52) hr0 (show decode cX11_follows 1 = .ok (.tableswitch 112 102 106 #[35, 51, 57, 106, 72], 35) by decide +kernel) (by omega) (by omega) (by rw [c]; rfl) (by decide) ?_
    have h := h.2.2.1 c
    refine s_aload_n (i := 0) rfl (show decode cX11_follows 52 = .ok (.aload_n 0, 1) by decide +kernel) ?_
    refine j_iload_n (i := 2) rfl (show decode cX11_follows 53 = .ok (.iload_n 2, 1) by decide +kernel) ?_
    refine j_ctV (m' := mX11_pour) (As := [iv p2]) (ci := 11) (tag := 0) (N := 0) (cw_X11_180 rfl) (show decode cX11_follows 54 = .ok (.invokevirtual 180, 3) by decide +kernel) rfl (Nat.le_of_ble_eq_true rfl) (by decide) okl_1 rfl rfl (Nat.le_refl _) h (fun r4 σ4 h => ?_)
    have hz4 := h.1
    have h := h.2
    exact j_ret (rokZ (show decode cX11_follows 57 = .ok (.ireturn, 1) by decide +kernel) rfl hz4) ⟨rfl, rfl, h⟩
  · refine j_tableIn (tgt := 58) hr0 (show decode cX11_follows 1 = .ok (.tableswitch 112 102 106 #[35, 51, 57, 106, 72], 35) by decide +kernel) (by omega) (by omega) (by rw [c]; rfl) (by decide) ?_
    have h := h.2.2.2.1 c
    refine s_aload_n (i := 0) rfl (show decode cX11_follows 58 = .ok (.aload_n 0, 1) by decide +kernel) ?_
    refine j_iload_n (i := 2) rfl (show decode cX11_follows 59 = .ok (.iload_n 2, 1) by decide +kernel) ?_
    refine j_ctV (m' := mX11_bake) (As := [iv p2]) (ci := 11) (tag := 0) (N := 0) (cw_X11_183 rfl) (show decode cX11_follows 60 = .ok (.invokevirtual 183, 3) by decide +kernel) rfl (Nat.le_of_ble_eq_true rfl) (by decide) okl_1 rfl rfl (Nat.le_refl _) h (fun r6 σ6 h => ?_)
    refine j_iconst (show decode cX11_follows 63 = .ok (.iconst (-1), 1) by decide +kernel) ?_
    have hr6 := h.1
    have h := h.2
    refine j_icmp_eq (tgt := 71) hr6 (inl (by decide)) (show decode cX11_follows 64 = .ok (.if_icmp .eq 7, 3) by decide +kernel) (by decide) (fun c => ?_) (fun c => ?_)
    · have h := h.1 c
      refine j_iconst (show decode cX11_follows 71 = .ok (.iconst 0, 1) by decide +kernel) ?_
      exact j_ret (rokZ (show decode cX11_follows 72 = .ok (.ireturn, 1) by decide +kernel) rfl (Or.inl rfl)) ⟨rfl, rfl, h⟩
    · have h := h.2 c
      refine j_iconst (show decode cX11_follows 67 = .ok (.iconst 1, 1) by decide +kernel) ?_
      refine j_goto (tgt := 72) (show decode cX11_follows 68 = .ok (.goto 4, 3) by decide +kernel) (by decide) ?_
      exact j_ret (rokZ (show decode cX11_follows 72 = .ok (.ireturn, 1) by decide +kernel) rfl (Or.inr rfl)) ⟨rfl, rfl, h⟩
  · refine j_tableIn (tgt := 107) hr0 (show decode cX11_follows 1 = .ok (.tableswitch 112 102 106 #[35, 51, 57, 106, 72], 35) by decide +kernel) (by omega) (by omega) (by rw [c]; rfl) (by decide) ?_
    have h := h.2.2.2.2.1 c
    refine s_aload_n (i := 0) rfl (show decode cX11_follows 107 = .ok (.aload_n 0, 1) by decide +kernel) ?_
    refine j_iload_n (i := 2) rfl (show decode cX11_follows 108 = .ok (.iload_n 2, 1) by decide +kernel) ?_
    refine j_ctV (m' := mX11_makes) (As := [iv p2]) (ci := 11) (tag := 0) (N := 0) (cw_X11_186 rfl) (show decode cX11_follows 109 = .ok (.invokevirtual 186, 3) by decide +kernel) rfl (Nat.le_of_ble_eq_true rfl) (by decide) okl_1 rfl rfl (Nat.le_refl _) h (fun r8 σ8 h => ?_)
    have hz8 := h.1
    have h := h.2
    exact j_ret (rokZ (show decode cX11_follows 112 = .ok (.ireturn, 1) by decide +kernel) rfl hz8) ⟨rfl, rfl, h⟩
  · refine j_tableIn (tgt := 73) hr0 (show decode cX11_follows 1 = .ok (.tableswitch 112 102 106 #[35, 51, 57, 106, 72], 35) by decide +kernel) (by omega) (by omega) (by rw [c]; rfl) (by decide) ?_
    have h := h.2.2.2.2.2 c
    refine s_aload_n (i := 0) rfl (show decode cX11_follows 73 = .ok (.aload_n 0, 1) by decide +kernel) ?_
    refine gf_X11_10 (x := 2) rfl (show decode cX11_follows 74 = .ok (.getfield 10, 3) by decide +kernel) okl_1 rfl ?_
    refine gf_X11_75 (x := 3) rfl (show decode cX11_follows 77 = .ok (.getfield 75, 3) by decide +kernel) okl_2 (gr_10_0 okl_2) ?_
    refine gf_X11_150 rfl (show decode cX11_follows 80 = .ok (.getfield 150, 3) by decide +kernel) okl_3 ?_
    refine j_iload_n (i := 2) rfl (show decode cX11_follows 83 = .ok (.iload_n 2, 1) by decide +kernel) ?_
    refine j_iadd (show decode cX11_follows 84 = .ok (.iadd, 1) by decide +kernel) ?_
    refine j_sipush (n := 9999) (by decide +kernel) (show decode cX11_follows 85 = .ok (.sipush 9999, 3) by decide +kernel) ?_
    have hr9 := h.1
    have h := h.2
    refine j_icmp_gt (tgt := 95) hr9 (inl (by decide)) (show decode cX11_follows 88 = .ok (.if_icmp .gt 7, 3) by decide +kernel) (by decide) (fun c => ?_) (fun c => ?_)
    · have h := h.1 c
      refine j_iconst (show decode cX11_follows 95 = .ok (.iconst 0, 1) by decide +kernel) ?_
      refine s_ist (i := 4) (L' := [rv 1, iv p1, iv p2, iv p3, iv 0]) rfl (by decide) (show decode cX11_follows 96 = .ok (.istore 4, 2) by decide +kernel) ?_
      refine s_aload_n (i := 0) rfl (show decode cX11_follows 98 = .ok (.aload_n 0, 1) by decide +kernel) ?_
      refine j_iload_n (i := 2) rfl (show decode cX11_follows 99 = .ok (.iload_n 2, 1) by decide +kernel) ?_
      refine j_ctV (m' := mX11_passDays) (As := [iv p2]) (ci := 11) (tag := 0) (N := 0) (cw_X11_153 rfl) (show decode cX11_follows 100 = .ok (.invokevirtual 153, 3) by decide +kernel) rfl (Nat.le_of_ble_eq_true rfl) (by decide) okl_1 rfl rfl (Nat.le_refl _) h (fun r11 σ11 h => ?_)
      refine j_pop (show (0 : Nat) ≠ 1 by decide) (show decode cX11_follows 103 = .ok (.pop, 1) by decide +kernel) ?_
      refine j_iload (i := 4) rfl (show decode cX11_follows 104 = .ok (.iload 4, 2) by decide +kernel) ?_
      exact j_ret (rokZ (show decode cX11_follows 106 = .ok (.ireturn, 1) by decide +kernel) rfl (Or.inl rfl)) ⟨rfl, rfl, h⟩
    · have h := h.2 c
      refine j_iconst (show decode cX11_follows 91 = .ok (.iconst 1, 1) by decide +kernel) ?_
      refine j_goto (tgt := 96) (show decode cX11_follows 92 = .ok (.goto 4, 3) by decide +kernel) (by decide) ?_
      refine s_ist (i := 4) (L' := [rv 1, iv p1, iv p2, iv p3, iv 1]) rfl (by decide) (show decode cX11_follows 96 = .ok (.istore 4, 2) by decide +kernel) ?_
      refine s_aload_n (i := 0) rfl (show decode cX11_follows 98 = .ok (.aload_n 0, 1) by decide +kernel) ?_
      refine j_iload_n (i := 2) rfl (show decode cX11_follows 99 = .ok (.iload_n 2, 1) by decide +kernel) ?_
      refine j_ctV (m' := mX11_passDays) (As := [iv p2]) (ci := 11) (tag := 0) (N := 0) (cw_X11_153 rfl) (show decode cX11_follows 100 = .ok (.invokevirtual 153, 3) by decide +kernel) rfl (Nat.le_of_ble_eq_true rfl) (by decide) okl_1 rfl rfl (Nat.le_refl _) h (fun r12 σ12 h => ?_)
      refine j_pop (show (0 : Nat) ≠ 1 by decide) (show decode cX11_follows 103 = .ok (.pop, 1) by decide +kernel) ?_
      refine j_iload (i := 4) rfl (show decode cX11_follows 104 = .ok (.iload 4, 2) by decide +kernel) ?_
      exact j_ret (rokZ (show decode cX11_follows 106 = .ok (.ireturn, 1) by decide +kernel) rfl (Or.inr rfl)) ⟨rfl, rfl, h⟩
theorem c_X11_follows {d : Nat} {t : Int} {Q : Int → jM → Prop} {σ : jM} {p1 p2 p3 : Int} (h : (inR p1) ∧ ((p1 < 102 ∨ 106 < p1 → (Q 1 σ)) ∧ (p1 = 102 → (Ct mX11_join d 0 t [rv 1, iv p2, iv p3] σ (fun r2 σ2 => ((inR r2) ∧ ((r2 = (-1) → (Q 0 σ2)) ∧ (¬ r2 = (-1) → (Q 1 σ2))))))) ∧ (p1 = 103 → (Ct mX11_pour d 0 t [rv 1, iv p2] σ (fun r4 σ4 => ((r4 = 0 ∨ r4 = 1) ∧ (Q r4 σ4))))) ∧ (p1 = 104 → (Ct mX11_bake d 0 t [rv 1, iv p2] σ (fun r6 σ6 => ((inR r6) ∧ ((r6 = (-1) → (Q 0 σ6)) ∧ (¬ r6 = (-1) → (Q 1 σ6))))))) ∧ (p1 = 105 → (Ct mX11_makes d 0 t [rv 1, iv p2] σ (fun r8 σ8 => ((r8 = 0 ∨ r8 = 1) ∧ (Q r8 σ8))))) ∧ (p1 = 106 → ((inR ((σ 3 6) + p2)) ∧ ((9999 < ((σ 3 6) + p2) → (Ct mX11_passDays d 0 t [rv 1, iv p2] σ (fun r11 σ11 => (Q 0 σ11)))) ∧ (((σ 3 6) + p2) ≤ 9999 → (Ct mX11_passDays d 0 t [rv 1, iv p2] σ (fun r12 σ12 => (Q 1 σ12))))))))) : Ct mX11_follows (d + 1) 0 t [rv 1, iv p1, iv p2, iv p3] σ Q := Ct_of (by decide +kernel) (Nat.le_of_ble_eq_true rfl) (b_X11_follows_0 h)
set_option maxRecDepth 4000 in
theorem b_X11_makes_11 {d : Nat} {t : Int} {Q : Int → jM → Prop} {σ : jM} {p1 v2 v3 : Int} (h : (inR v3) ∧ ((inR v2) ∧ ((v2 < v3 → (Q 1 σ)) ∧ (v3 ≤ v2 → (Ct mX0_linkOf d 0 t [rv 275, iv p1, iv v3] σ (fun r3 σ3 => (Ct mX1_crockWith d 0 t [rv 3, iv r3] σ3 (fun r4 σ4 => ((inR r4) ∧ ((r4 = (-1) → (Ct mX1_pairWith d 0 t [rv 3, iv r3] σ4 (fun r6 σ6 => ((inR r6) ∧ ((r6 = (-1) → (Q 0 σ6)) ∧ (¬ r6 = (-1) → ((inR r6) ∧ ((inR r6) ∧ (Ct mX11_join d 0 t [rv 1, iv (Int.tdiv r6 8), iv (Int.tmod r6 8)] σ6 (fun r10 σ10 => ((inR r10) ∧ ((¬ r10 = (-1) → (Jt mX11_makes (d + 1) 0 t Q 11 [rv 1, iv p1, iv v2, iv (v3 + 1), uv, uv] [] σ10)) ∧ (r10 = (-1) → (Q 0 σ10)))))))))))))) ∧ (¬ r4 = (-1) → (Jt mX11_makes (d + 1) 0 t Q 11 [rv 1, iv p1, iv v2, iv (v3 + 1), uv, uv] [] σ4)))))))))))) : Jt mX11_makes (d + 1) 0 t Q 11 [rv 1, iv p1, iv v2, iv v3, uv, uv] [] σ := by
  refine j_iload_n (i := 3) rfl (show decode cX11_makes 11 = .ok (.iload_n 3, 1) by decide +kernel) ?_
  refine j_iload_n (i := 2) rfl (show decode cX11_makes 12 = .ok (.iload_n 2, 1) by decide +kernel) ?_
  have hr0 := h.1
  have h := h.2
  have hr1 := h.1
  have h := h.2
  refine j_icmp_gt (tgt := 92) hr0 hr1 (show decode cX11_makes 13 = .ok (.if_icmp .gt 79, 3) by decide +kernel) (by decide) (fun c => ?_) (fun c => ?_)
  · have h := h.1 c
    refine j_iconst (show decode cX11_makes 92 = .ok (.iconst 1, 1) by decide +kernel) ?_
    exact j_ret (rokZ (show decode cX11_makes 93 = .ok (.ireturn, 1) by decide +kernel) rfl (Or.inr rfl)) ⟨rfl, rfl, h⟩
  · have h := h.2 c
    refine s_aload_n (i := 0) rfl (show decode cX11_makes 16 = .ok (.aload_n 0, 1) by decide +kernel) ?_
    refine gf_X11_49 (x := 275) rfl (show decode cX11_makes 17 = .ok (.getfield 49, 3) by decide +kernel) okl_1 rfl ?_
    refine j_iload_n (i := 1) rfl (show decode cX11_makes 20 = .ok (.iload_n 1, 1) by decide +kernel) ?_
    refine j_iload_n (i := 3) rfl (show decode cX11_makes 21 = .ok (.iload_n 3, 1) by decide +kernel) ?_
    refine j_ctV (m' := mX0_linkOf) (As := [iv p1, iv v3]) (ci := 0) (tag := 0) (N := 0) (cw_X11_192 rfl) (show decode cX11_makes 22 = .ok (.invokevirtual 192, 3) by decide +kernel) rfl (Nat.le_of_ble_eq_true rfl) (by decide) okl_275 rfl rfl (Nat.le_refl _) h (fun r3 σ3 h => ?_)
    refine s_ist (i := 4) (L' := [rv 1, iv p1, iv v2, iv v3, iv r3, uv]) rfl (by decide) (show decode cX11_makes 25 = .ok (.istore 4, 2) by decide +kernel) ?_
    refine s_aload_n (i := 0) rfl (show decode cX11_makes 27 = .ok (.aload_n 0, 1) by decide +kernel) ?_
    refine gf_X11_10 (x := 2) rfl (show decode cX11_makes 28 = .ok (.getfield 10, 3) by decide +kernel) okl_1 rfl ?_
    refine gf_X11_75 (x := 3) rfl (show decode cX11_makes 31 = .ok (.getfield 75, 3) by decide +kernel) okl_2 (gr_10_0 okl_2) ?_
    refine j_iload (i := 4) rfl (show decode cX11_makes 34 = .ok (.iload 4, 2) by decide +kernel) ?_
    refine j_ctV (m' := mX1_crockWith) (As := [iv r3]) (ci := 1) (tag := 0) (N := 0) (cw_X11_195 rfl) (show decode cX11_makes 36 = .ok (.invokevirtual 195, 3) by decide +kernel) rfl (Nat.le_of_ble_eq_true rfl) (by decide) okl_3 rfl rfl (Nat.le_refl _) h (fun r4 σ4 h => ?_)
    refine j_iconst (show decode cX11_makes 39 = .ok (.iconst (-1), 1) by decide +kernel) ?_
    have hr4 := h.1
    have h := h.2
    refine j_icmp_eq (tgt := 46) hr4 (inl (by decide)) (show decode cX11_makes 40 = .ok (.if_icmp .eq 6, 3) by decide +kernel) (by decide) (fun c => ?_) (fun c => ?_)
    · have h := h.1 c
      refine s_aload_n (i := 0) rfl (show decode cX11_makes 46 = .ok (.aload_n 0, 1) by decide +kernel) ?_
      refine gf_X11_10 (x := 2) rfl (show decode cX11_makes 47 = .ok (.getfield 10, 3) by decide +kernel) okl_1 rfl ?_
      refine gf_X11_75 (x := 3) rfl (show decode cX11_makes 50 = .ok (.getfield 75, 3) by decide +kernel) okl_2 (gr_10_0 okl_2) ?_
      refine j_iload (i := 4) rfl (show decode cX11_makes 53 = .ok (.iload 4, 2) by decide +kernel) ?_
      refine j_ctV (m' := mX1_pairWith) (As := [iv r3]) (ci := 1) (tag := 0) (N := 0) (cw_X11_198 rfl) (show decode cX11_makes 55 = .ok (.invokevirtual 198, 3) by decide +kernel) rfl (Nat.le_of_ble_eq_true rfl) (by decide) okl_3 rfl rfl (Nat.le_refl _) h (fun r6 σ6 h => ?_)
      refine s_ist (i := 5) (L' := [rv 1, iv p1, iv v2, iv v3, iv r3, iv r6]) rfl (by decide) (show decode cX11_makes 58 = .ok (.istore 5, 2) by decide +kernel) ?_
      refine j_iload (i := 5) rfl (show decode cX11_makes 60 = .ok (.iload 5, 2) by decide +kernel) ?_
      refine j_iconst (show decode cX11_makes 62 = .ok (.iconst (-1), 1) by decide +kernel) ?_
      have hr6 := h.1
      have h := h.2
      refine j_icmp_eq (tgt := 84) hr6 (inl (by decide)) (show decode cX11_makes 63 = .ok (.if_icmp .eq 21, 3) by decide +kernel) (by decide) (fun c => ?_) (fun c => ?_)
      · have h := h.1 c
        refine j_iconst (show decode cX11_makes 84 = .ok (.iconst 0, 1) by decide +kernel) ?_
        exact j_ret (rokZ (show decode cX11_makes 85 = .ok (.ireturn, 1) by decide +kernel) rfl (Or.inl rfl)) ⟨rfl, rfl, h⟩
      · have h := h.2 c
        refine s_aload_n (i := 0) rfl (show decode cX11_makes 66 = .ok (.aload_n 0, 1) by decide +kernel) ?_
        refine j_iload (i := 5) rfl (show decode cX11_makes 67 = .ok (.iload 5, 2) by decide +kernel) ?_
        refine j_bipush (n := 8) (by decide +kernel) (show decode cX11_makes 69 = .ok (.bipush 8, 2) by decide +kernel) ?_
        have hr7 := h.1
        have h := h.2
        refine j_idiv hr7 (inl (by decide)) (by decide) (show decode cX11_makes 71 = .ok (.idiv, 1) by decide +kernel) ?_
        refine j_iload (i := 5) rfl (show decode cX11_makes 72 = .ok (.iload 5, 2) by decide +kernel) ?_
        refine j_bipush (n := 8) (by decide +kernel) (show decode cX11_makes 74 = .ok (.bipush 8, 2) by decide +kernel) ?_
        have hr8 := h.1
        have h := h.2
        refine j_irem hr8 (inl (by decide)) (by decide) (show decode cX11_makes 76 = .ok (.irem, 1) by decide +kernel) ?_
        refine j_ctV (m' := mX11_join) (As := [iv (Int.tdiv r6 8), iv (Int.tmod r6 8)]) (ci := 11) (tag := 0) (N := 0) (cw_X11_177 rfl) (show decode cX11_makes 77 = .ok (.invokevirtual 177, 3) by decide +kernel) rfl (Nat.le_of_ble_eq_true rfl) (by decide) okl_1 rfl rfl (Nat.le_refl _) h (fun r10 σ10 h => ?_)
        refine j_iconst (show decode cX11_makes 80 = .ok (.iconst (-1), 1) by decide +kernel) ?_
        have hr10 := h.1
        have h := h.2
        refine j_icmp_ne (tgt := 86) hr10 (inl (by decide)) (show decode cX11_makes 81 = .ok (.if_icmp .ne 5, 3) by decide +kernel) (by decide) (fun c => ?_) (fun c => ?_)
        · have h := h.1 c
          refine s_iinc (i := 3) rfl (L' := [rv 1, iv p1, iv v2, iv (v3 + 1), iv r3, iv r6]) rfl (show decode cX11_makes 86 = .ok (.iinc 3 1, 3) by decide +kernel) ?_
          refine j_goto (tgt := 11) (show decode cX11_makes 89 = .ok (.goto (-78), 3) by decide +kernel) (by decide) ?_
          refine j_drop 4 ?_
          refine j_drop 5 ?_
          exact h
        · have h := h.2 c
          refine j_iconst (show decode cX11_makes 84 = .ok (.iconst 0, 1) by decide +kernel) ?_
          exact j_ret (rokZ (show decode cX11_makes 85 = .ok (.ireturn, 1) by decide +kernel) rfl (Or.inl rfl)) ⟨rfl, rfl, h⟩
    · have h := h.2 c
      refine j_goto (tgt := 86) (show decode cX11_makes 43 = .ok (.goto 43, 3) by decide +kernel) (by decide) ?_
      refine s_iinc (i := 3) rfl (L' := [rv 1, iv p1, iv v2, iv (v3 + 1), iv r3, uv]) rfl (show decode cX11_makes 86 = .ok (.iinc 3 1, 3) by decide +kernel) ?_
      refine j_goto (tgt := 11) (show decode cX11_makes 89 = .ok (.goto (-78), 3) by decide +kernel) (by decide) ?_
      refine j_drop 4 ?_
      exact h
set_option maxRecDepth 4000 in
theorem b_X11_makes_0 {d : Nat} {t : Int} {Q : Int → jM → Prop} {σ : jM} {p1 : Int} (h : Ct mX0_joiningsOf d 0 t [rv 275, iv p1] σ (fun r1 σ1 => (Jt mX11_makes (d + 1) 0 t Q 11 [rv 1, iv p1, iv r1, iv 1, uv, uv] [] σ1))) : Jt mX11_makes (d + 1) 0 t Q 0 [rv 1, iv p1, uv, uv, uv, uv] [] σ := by
  refine s_aload_n (i := 0) rfl (show decode cX11_makes 0 = .ok (.aload_n 0, 1) by decide +kernel) ?_
  refine gf_X11_49 (x := 275) rfl (show decode cX11_makes 1 = .ok (.getfield 49, 3) by decide +kernel) okl_1 rfl ?_
  refine j_iload_n (i := 1) rfl (show decode cX11_makes 4 = .ok (.iload_n 1, 1) by decide +kernel) ?_
  refine j_ctV (m' := mX0_joiningsOf) (As := [iv p1]) (ci := 0) (tag := 0) (N := 0) (cw_X11_189 rfl) (show decode cX11_makes 5 = .ok (.invokevirtual 189, 3) by decide +kernel) rfl (Nat.le_of_ble_eq_true rfl) (by decide) okl_275 rfl rfl (Nat.le_refl _) h (fun r1 σ1 h => ?_)
  refine s_ist_n (i := 2) (L' := [rv 1, iv p1, iv r1, uv, uv, uv]) rfl (by decide) (show decode cX11_makes 8 = .ok (.istore_n 2, 1) by decide +kernel) ?_
  refine j_iconst (show decode cX11_makes 9 = .ok (.iconst 1, 1) by decide +kernel) ?_
  refine s_ist_n (i := 3) (L' := [rv 1, iv p1, iv r1, iv 1, uv, uv]) rfl (by decide) (show decode cX11_makes 10 = .ok (.istore_n 3, 1) by decide +kernel) ?_
  exact h
theorem c_X11_makes {d : Nat} {t : Int} {Q : Int → jM → Prop} {σ : jM} {p1 : Int} (h : Ct mX0_joiningsOf d 0 t [rv 275, iv p1] σ (fun r1 σ1 => (Jt mX11_makes (d + 1) 0 t Q 11 [rv 1, iv p1, iv r1, iv 1, uv, uv] [] σ1))) : Ct mX11_makes (d + 1) 0 t [rv 1, iv p1] σ Q := Ct_of (by decide +kernel) (Nat.le_of_ble_eq_true rfl) (b_X11_makes_0 h)
set_option maxRecDepth 4000 in
theorem b_X11_years_0 {d : Nat} {t : Int} {Q : Int → jM → Prop} {σ : jM} {p1 p2 : Int} (h : (inR p1) ∧ ((p1 < 0 → (Q (-1) σ)) ∧ (0 ≤ p1 → ((inR p1) ∧ ((9999 < p1 → (Q (-1) σ)) ∧ (p1 ≤ 9999 → ((inR p2) ∧ ((p2 < 1 → (Q (-1) σ)) ∧ (1 ≤ p2 → ((inR p2) ∧ ((p2 ≤ 40 → (Ct mX7_remember d 9 t [rv 7, rv 3] σ (fun r5 σ5 => (Ct mX11_ruler d 2 t [rv 1] σ5 (fun r6 σ6 => (Ct mX1_live d 9 t [rv 3, iv p1, iv p2, rv 273, rv r6] σ6 (fun r7 σ7 => (Q (σ7 3 6) σ7)))))))) ∧ (40 < p2 → (Q (-1) σ))))))))))))) : Jt mX11_years (d + 1) 0 t Q 0 [rv 1, iv p1, iv p2] [] σ := by
  refine j_iload_n (i := 1) rfl (show decode cX11_years 0 = .ok (.iload_n 1, 1) by decide +kernel) ?_
  have hr0 := h.1
  have h := h.2
  refine j_if_lt (tgt := 22) hr0 (show decode cX11_years 1 = .ok (.ifCond .lt 21, 3) by decide +kernel) (by decide) (fun c => ?_) (fun c => ?_)
  · have h := h.1 c
    refine j_iconst (show decode cX11_years 22 = .ok (.iconst (-1), 1) by decide +kernel) ?_
    exact j_ret (rokI (show decode cX11_years 23 = .ok (.ireturn, 1) by decide +kernel) rfl) ⟨rfl, rfl, h⟩
  · have h := h.2 c
    refine j_iload_n (i := 1) rfl (show decode cX11_years 4 = .ok (.iload_n 1, 1) by decide +kernel) ?_
    refine j_sipush (n := 9999) (by decide +kernel) (show decode cX11_years 5 = .ok (.sipush 9999, 3) by decide +kernel) ?_
    have hr1 := h.1
    have h := h.2
    refine j_icmp_gt (tgt := 22) hr1 (inl (by decide)) (show decode cX11_years 8 = .ok (.if_icmp .gt 14, 3) by decide +kernel) (by decide) (fun c => ?_) (fun c => ?_)
    · have h := h.1 c
      refine j_iconst (show decode cX11_years 22 = .ok (.iconst (-1), 1) by decide +kernel) ?_
      exact j_ret (rokI (show decode cX11_years 23 = .ok (.ireturn, 1) by decide +kernel) rfl) ⟨rfl, rfl, h⟩
    · have h := h.2 c
      refine j_iload_n (i := 2) rfl (show decode cX11_years 11 = .ok (.iload_n 2, 1) by decide +kernel) ?_
      refine j_iconst (show decode cX11_years 12 = .ok (.iconst 1, 1) by decide +kernel) ?_
      have hr2 := h.1
      have h := h.2
      refine j_icmp_lt (tgt := 22) hr2 (inl (by decide)) (show decode cX11_years 13 = .ok (.if_icmp .lt 9, 3) by decide +kernel) (by decide) (fun c => ?_) (fun c => ?_)
      · have h := h.1 c
        refine j_iconst (show decode cX11_years 22 = .ok (.iconst (-1), 1) by decide +kernel) ?_
        exact j_ret (rokI (show decode cX11_years 23 = .ok (.ireturn, 1) by decide +kernel) rfl) ⟨rfl, rfl, h⟩
      · have h := h.2 c
        refine j_iload_n (i := 2) rfl (show decode cX11_years 16 = .ok (.iload_n 2, 1) by decide +kernel) ?_
        refine j_bipush (n := 40) (by decide +kernel) (show decode cX11_years 17 = .ok (.bipush 40, 2) by decide +kernel) ?_
        have hr3 := h.1
        have h := h.2
        refine j_icmp_le (tgt := 24) hr3 (inl (by decide)) (show decode cX11_years 19 = .ok (.if_icmp .le 5, 3) by decide +kernel) (by decide) (fun c => ?_) (fun c => ?_)
        · have h := h.1 c
          refine s_aload_n (i := 0) rfl (show decode cX11_years 24 = .ok (.aload_n 0, 1) by decide +kernel) ?_
          refine gf_X11_10 (x := 2) rfl (show decode cX11_years 25 = .ok (.getfield 10, 3) by decide +kernel) okl_1 rfl ?_
          refine gf_X11_121 (x := 7) rfl (show decode cX11_years 28 = .ok (.getfield 121, 3) by decide +kernel) okl_2 (gr_10_1 okl_2) ?_
          refine s_aload_n (i := 0) rfl (show decode cX11_years 31 = .ok (.aload_n 0, 1) by decide +kernel) ?_
          refine gf_X11_10 (x := 2) rfl (show decode cX11_years 32 = .ok (.getfield 10, 3) by decide +kernel) okl_1 rfl ?_
          refine gf_X11_75 (x := 3) rfl (show decode cX11_years 35 = .ok (.getfield 75, 3) by decide +kernel) okl_2 (gr_10_0 okl_2) ?_
          refine j_ctVv (m' := mX7_remember) (As := [rv 3]) (ci := 7) (N := 0) (cw_X11_125 rfl) (show decode cX11_years 38 = .ok (.invokevirtual 125, 3) by decide +kernel) rfl (Nat.le_of_ble_eq_true rfl) okl_7 rfl rfl (Nat.le_refl _) h (fun r5 σ5 h => ?_)
          refine s_aload_n (i := 0) rfl (show decode cX11_years 41 = .ok (.aload_n 0, 1) by decide +kernel) ?_
          refine gf_X11_10 (x := 2) rfl (show decode cX11_years 42 = .ok (.getfield 10, 3) by decide +kernel) okl_1 rfl ?_
          refine gf_X11_75 (x := 3) rfl (show decode cX11_years 45 = .ok (.getfield 75, 3) by decide +kernel) okl_2 (gr_10_0 okl_2) ?_
          refine j_iload_n (i := 1) rfl (show decode cX11_years 48 = .ok (.iload_n 1, 1) by decide +kernel) ?_
          refine j_iload_n (i := 2) rfl (show decode cX11_years 49 = .ok (.iload_n 2, 1) by decide +kernel) ?_
          refine s_aload_n (i := 0) rfl (show decode cX11_years 50 = .ok (.aload_n 0, 1) by decide +kernel) ?_
          refine gf_X11_42 (x := 273) rfl (show decode cX11_years 51 = .ok (.getfield 42, 3) by decide +kernel) okl_1 rfl ?_
          refine s_aload_n (i := 0) rfl (show decode cX11_years 54 = .ok (.aload_n 0, 1) by decide +kernel) ?_
          refine j_ctV (m' := mX11_ruler) (As := []) (ci := 11) (tag := 2) (N := 0) (cw_X11_142 rfl) (show decode cX11_years 55 = .ok (.invokevirtual 142, 3) by decide +kernel) rfl (Nat.le_of_ble_eq_true rfl) (by decide) okl_1 rfl rfl (Nat.le_refl _) h (fun r6 σ6 h => ?_)
          refine j_ctVv (m' := mX1_live) (As := [iv p1, iv p2, rv 273, rv r6]) (ci := 1) (N := 0) (cw_X11_201 rfl) (show decode cX11_years 58 = .ok (.invokevirtual 201, 3) by decide +kernel) rfl (Nat.le_of_ble_eq_true rfl) okl_3 rfl rfl (Nat.le_refl _) h (fun r7 σ7 h => ?_)
          refine s_aload_n (i := 0) rfl (show decode cX11_years 61 = .ok (.aload_n 0, 1) by decide +kernel) ?_
          refine gf_X11_10 (x := 2) rfl (show decode cX11_years 62 = .ok (.getfield 10, 3) by decide +kernel) okl_1 rfl ?_
          refine gf_X11_75 (x := 3) rfl (show decode cX11_years 65 = .ok (.getfield 75, 3) by decide +kernel) okl_2 (gr_10_0 okl_2) ?_
          refine gf_X11_150 rfl (show decode cX11_years 68 = .ok (.getfield 150, 3) by decide +kernel) okl_3 ?_
          exact j_ret (rokI (show decode cX11_years 71 = .ok (.ireturn, 1) by decide +kernel) rfl) ⟨rfl, rfl, h⟩
        · have h := h.2 c
          refine j_iconst (show decode cX11_years 22 = .ok (.iconst (-1), 1) by decide +kernel) ?_
          exact j_ret (rokI (show decode cX11_years 23 = .ok (.ireturn, 1) by decide +kernel) rfl) ⟨rfl, rfl, h⟩
theorem c_X11_years {d : Nat} {t : Int} {Q : Int → jM → Prop} {σ : jM} {p1 p2 : Int} (h : (inR p1) ∧ ((p1 < 0 → (Q (-1) σ)) ∧ (0 ≤ p1 → ((inR p1) ∧ ((9999 < p1 → (Q (-1) σ)) ∧ (p1 ≤ 9999 → ((inR p2) ∧ ((p2 < 1 → (Q (-1) σ)) ∧ (1 ≤ p2 → ((inR p2) ∧ ((p2 ≤ 40 → (Ct mX7_remember d 9 t [rv 7, rv 3] σ (fun r5 σ5 => (Ct mX11_ruler d 2 t [rv 1] σ5 (fun r6 σ6 => (Ct mX1_live d 9 t [rv 3, iv p1, iv p2, rv 273, rv r6] σ6 (fun r7 σ7 => (Q (σ7 3 6) σ7)))))))) ∧ (40 < p2 → (Q (-1) σ))))))))))))) : Ct mX11_years (d + 1) 0 t [rv 1, iv p1, iv p2] σ Q := Ct_of (by decide +kernel) (Nat.le_of_ble_eq_true rfl) (b_X11_years_0 h)
set_option maxRecDepth 4000 in
theorem b_X11_undo_0 {d : Nat} {t : Int} {Q : Int → jM → Prop} {σ : jM} (h : Ct mX7_takeBack d 0 t [rv 7, rv 3] σ (fun r1 σ1 => ((inR r1) ∧ ((r1 = 0 → (Q (-1) σ1)) ∧ (¬ r1 = 0 → (Q (σ1 7 2) σ1)))))) : Jt mX11_undo (d + 1) 0 t Q 0 [rv 1] [] σ := by
  refine s_aload_n (i := 0) rfl (show decode cX11_undo 0 = .ok (.aload_n 0, 1) by decide +kernel) ?_
  refine gf_X11_10 (x := 2) rfl (show decode cX11_undo 1 = .ok (.getfield 10, 3) by decide +kernel) okl_1 rfl ?_
  refine gf_X11_121 (x := 7) rfl (show decode cX11_undo 4 = .ok (.getfield 121, 3) by decide +kernel) okl_2 (gr_10_1 okl_2) ?_
  refine s_aload_n (i := 0) rfl (show decode cX11_undo 7 = .ok (.aload_n 0, 1) by decide +kernel) ?_
  refine gf_X11_10 (x := 2) rfl (show decode cX11_undo 8 = .ok (.getfield 10, 3) by decide +kernel) okl_1 rfl ?_
  refine gf_X11_75 (x := 3) rfl (show decode cX11_undo 11 = .ok (.getfield 75, 3) by decide +kernel) okl_2 (gr_10_0 okl_2) ?_
  refine j_ctV (m' := mX7_takeBack) (As := [rv 3]) (ci := 7) (tag := 0) (N := 0) (cw_X11_205 rfl) (show decode cX11_undo 14 = .ok (.invokevirtual 205, 3) by decide +kernel) rfl (Nat.le_of_ble_eq_true rfl) (by decide) okl_7 rfl rfl (Nat.le_refl _) h (fun r1 σ1 h => ?_)
  have hr1 := h.1
  have h := h.2
  refine j_if_eq (tgt := 33) hr1 (show decode cX11_undo 17 = .ok (.ifCond .eq 16, 3) by decide +kernel) (by decide) (fun c => ?_) (fun c => ?_)
  · have h := h.1 c
    refine j_iconst (show decode cX11_undo 33 = .ok (.iconst (-1), 1) by decide +kernel) ?_
    exact j_ret (rokI (show decode cX11_undo 34 = .ok (.ireturn, 1) by decide +kernel) rfl) ⟨rfl, rfl, h⟩
  · have h := h.2 c
    refine s_aload_n (i := 0) rfl (show decode cX11_undo 20 = .ok (.aload_n 0, 1) by decide +kernel) ?_
    refine gf_X11_10 (x := 2) rfl (show decode cX11_undo 21 = .ok (.getfield 10, 3) by decide +kernel) okl_1 rfl ?_
    refine gf_X11_121 (x := 7) rfl (show decode cX11_undo 24 = .ok (.getfield 121, 3) by decide +kernel) okl_2 (gr_10_1 okl_2) ?_
    refine gf_X11_209 rfl (show decode cX11_undo 27 = .ok (.getfield 209, 3) by decide +kernel) okl_7 ?_
    refine j_goto (tgt := 34) (show decode cX11_undo 30 = .ok (.goto 4, 3) by decide +kernel) (by decide) ?_
    exact j_ret (rokI (show decode cX11_undo 34 = .ok (.ireturn, 1) by decide +kernel) rfl) ⟨rfl, rfl, h⟩
theorem c_X11_undo {d : Nat} {t : Int} {Q : Int → jM → Prop} {σ : jM} (h : Ct mX7_takeBack d 0 t [rv 7, rv 3] σ (fun r1 σ1 => ((inR r1) ∧ ((r1 = 0 → (Q (-1) σ1)) ∧ (¬ r1 = 0 → (Q (σ1 7 2) σ1)))))) : Ct mX11_undo (d + 1) 0 t [rv 1] σ Q := Ct_of (by decide +kernel) (Nat.le_of_ble_eq_true rfl) (b_X11_undo_0 h)
set_option maxRecDepth 4000 in
theorem b_X11_of_0 {d : Nat} {t : Int} {Q : Int → jM → Prop} {σ : jM} {p1 p2 : Int} (h : (inR p1) ∧ ((p1 < 0 → (Q (-1) σ)) ∧ (0 ≤ p1 → ((inR p1) ∧ ((p1 < 8 → ((inR p2) ∧ ((p2 < 0 ∨ 3 < p2 → (Q (-1) σ)) ∧ (p2 = 0 → (((0 : Int) ≤ p1 ∧ p1 < 8) ∧ (Q (σ 4 p1) σ))) ∧ (p2 = 1 → (((0 : Int) ≤ p1 ∧ p1 < 8) ∧ (Q (σ 5 p1) σ))) ∧ (p2 = 2 → (Ct mX11_ruler d 2 t [rv 1] σ (fun r4 σ4 => (Ct mX2_tiresOf d 0 t [rv 273, rv r4, rv 3, iv p1] σ4 (fun r5 σ5 => (Q r5 σ5)))))) ∧ (p2 = 3 → (Ct mX11_ruler d 2 t [rv 1] σ (fun r6 σ6 => (Ct mX2_priceOf d 0 t [rv 273, rv r6, rv 3, iv p1] σ6 (fun r7 σ7 => (Q r7 σ7))))))))) ∧ (8 ≤ p1 → (Q (-1) σ))))))) : Jt mX11_of (d + 1) 0 t Q 0 [rv 1, iv p1, iv p2] [] σ := by
  refine j_iload_n (i := 1) rfl (show decode cX11_of 0 = .ok (.iload_n 1, 1) by decide +kernel) ?_
  have hr0 := h.1
  have h := h.2
  refine j_if_lt (tgt := 10) hr0 (show decode cX11_of 1 = .ok (.ifCond .lt 9, 3) by decide +kernel) (by decide) (fun c => ?_) (fun c => ?_)
  · have h := h.1 c
    refine j_iconst (show decode cX11_of 10 = .ok (.iconst (-1), 1) by decide +kernel) ?_
    exact j_ret (rokI (show decode cX11_of 11 = .ok (.ireturn, 1) by decide +kernel) rfl) ⟨rfl, rfl, h⟩
  · have h := h.2 c
    refine j_iload_n (i := 1) rfl (show decode cX11_of 4 = .ok (.iload_n 1, 1) by decide +kernel) ?_
    refine j_bipush (n := 8) (by decide +kernel) (show decode cX11_of 5 = .ok (.bipush 8, 2) by decide +kernel) ?_
    have hr1 := h.1
    have h := h.2
    refine j_icmp_lt (tgt := 12) hr1 (inl (by decide)) (show decode cX11_of 7 = .ok (.if_icmp .lt 5, 3) by decide +kernel) (by decide) (fun c => ?_) (fun c => ?_)
    · have h := h.1 c
      refine j_iload_n (i := 2) rfl (show decode cX11_of 12 = .ok (.iload_n 2, 1) by decide +kernel) ?_
      have hr2 := h.1
      have h := h.2
      rcases (show (p2 < 0 ∨ 3 < p2) ∨ p2 = 0 ∨ p2 = 1 ∨ p2 = 2 ∨ p2 = 3 by omega) with c | c | c | c | c
      · refine j_tableOut (tgt := 110) hr2 (show decode cX11_of 13 = .ok (.tableswitch 97 0 3 #[31, 44, 57, 77], 31) by decide +kernel) c (by decide) ?_
        have h := h.1 c
        refine j_iconst (show decode cX11_of 110 = .ok (.iconst (-1), 1) by decide +kernel) ?_
        exact j_ret (rokI (show decode cX11_of 111 = .ok (.ireturn, 1) by decide +kernel) rfl) ⟨rfl, rfl, h⟩
      · refine j_tableIn (tgt := 44) hr2 (show decode cX11_of 13 = .ok (.tableswitch 97 0 3 #[31, 44, 57, 77], 31) by decide +kernel) (by omega) (by omega) (by rw [c]; rfl) (by decide) ?_
        have h := h.2.1 c
        refine s_aload_n (i := 0) rfl (show decode cX11_of 44 = .ok (.aload_n 0, 1) by decide +kernel) ?_
        refine gf_X11_10 (x := 2) rfl (show decode cX11_of 45 = .ok (.getfield 10, 3) by decide +kernel) okl_1 rfl ?_
        refine gf_X11_75 (x := 3) rfl (show decode cX11_of 48 = .ok (.getfield 75, 3) by decide +kernel) okl_2 (gr_10_0 okl_2) ?_
        refine gf_X11_78 (x := 4) rfl (show decode cX11_of 51 = .ok (.getfield 78, 3) by decide +kernel) okl_3 (gr_1_0 okl_3) ?_
        refine j_iload_n (i := 1) rfl (show decode cX11_of 54 = .ok (.iload_n 1, 1) by decide +kernel) ?_
        refine s_iald (show decode cX11_of 55 = .ok (.iaload, 1) by decide +kernel) okl_4 h.1 ?_
        have h := h.2
        exact j_ret (rokI (show decode cX11_of 56 = .ok (.ireturn, 1) by decide +kernel) rfl) ⟨rfl, rfl, h⟩
      · refine j_tableIn (tgt := 57) hr2 (show decode cX11_of 13 = .ok (.tableswitch 97 0 3 #[31, 44, 57, 77], 31) by decide +kernel) (by omega) (by omega) (by rw [c]; rfl) (by decide) ?_
        have h := h.2.2.1 c
        refine s_aload_n (i := 0) rfl (show decode cX11_of 57 = .ok (.aload_n 0, 1) by decide +kernel) ?_
        refine gf_X11_10 (x := 2) rfl (show decode cX11_of 58 = .ok (.getfield 10, 3) by decide +kernel) okl_1 rfl ?_
        refine gf_X11_75 (x := 3) rfl (show decode cX11_of 61 = .ok (.getfield 75, 3) by decide +kernel) okl_2 (gr_10_0 okl_2) ?_
        refine gf_X11_212 (x := 5) rfl (show decode cX11_of 64 = .ok (.getfield 212, 3) by decide +kernel) okl_3 (gr_1_1 okl_3) ?_
        refine j_iload_n (i := 1) rfl (show decode cX11_of 67 = .ok (.iload_n 1, 1) by decide +kernel) ?_
        refine s_iald (show decode cX11_of 68 = .ok (.iaload, 1) by decide +kernel) okl_5 h.1 ?_
        have h := h.2
        exact j_ret (rokI (show decode cX11_of 69 = .ok (.ireturn, 1) by decide +kernel) rfl) ⟨rfl, rfl, h⟩
      · refine j_tableIn (tgt := 70) hr2 (show decode cX11_of 13 = .ok (.tableswitch 97 0 3 #[31, 44, 57, 77], 31) by decide +kernel) (by omega) (by omega) (by rw [c]; rfl) (by decide) ?_
        have h := h.2.2.2.1 c
        refine s_aload_n (i := 0) rfl (show decode cX11_of 70 = .ok (.aload_n 0, 1) by decide +kernel) ?_
        refine gf_X11_42 (x := 273) rfl (show decode cX11_of 71 = .ok (.getfield 42, 3) by decide +kernel) okl_1 rfl ?_
        refine s_aload_n (i := 0) rfl (show decode cX11_of 74 = .ok (.aload_n 0, 1) by decide +kernel) ?_
        refine j_ctV (m' := mX11_ruler) (As := []) (ci := 11) (tag := 2) (N := 0) (cw_X11_142 rfl) (show decode cX11_of 75 = .ok (.invokevirtual 142, 3) by decide +kernel) rfl (Nat.le_of_ble_eq_true rfl) (by decide) okl_1 rfl rfl (Nat.le_refl _) h (fun r4 σ4 h => ?_)
        refine s_aload_n (i := 0) rfl (show decode cX11_of 78 = .ok (.aload_n 0, 1) by decide +kernel) ?_
        refine gf_X11_10 (x := 2) rfl (show decode cX11_of 79 = .ok (.getfield 10, 3) by decide +kernel) okl_1 rfl ?_
        refine gf_X11_75 (x := 3) rfl (show decode cX11_of 82 = .ok (.getfield 75, 3) by decide +kernel) okl_2 (gr_10_0 okl_2) ?_
        refine j_iload_n (i := 1) rfl (show decode cX11_of 85 = .ok (.iload_n 1, 1) by decide +kernel) ?_
        refine j_ctV (m' := mX2_tiresOf) (As := [rv r4, rv 3, iv p1]) (ci := 2) (tag := 0) (N := 0) (cw_X11_215 rfl) (show decode cX11_of 86 = .ok (.invokevirtual 215, 3) by decide +kernel) rfl (Nat.le_of_ble_eq_true rfl) (by decide) okl_273 rfl rfl (Nat.le_refl _) h (fun r5 σ5 h => ?_)
        exact j_ret (rokI (show decode cX11_of 89 = .ok (.ireturn, 1) by decide +kernel) rfl) ⟨rfl, rfl, h⟩
      · refine j_tableIn (tgt := 90) hr2 (show decode cX11_of 13 = .ok (.tableswitch 97 0 3 #[31, 44, 57, 77], 31) by decide +kernel) (by omega) (by omega) (by rw [c]; rfl) (by decide) ?_
        have h := h.2.2.2.2 c
        refine s_aload_n (i := 0) rfl (show decode cX11_of 90 = .ok (.aload_n 0, 1) by decide +kernel) ?_
        refine gf_X11_42 (x := 273) rfl (show decode cX11_of 91 = .ok (.getfield 42, 3) by decide +kernel) okl_1 rfl ?_
        refine s_aload_n (i := 0) rfl (show decode cX11_of 94 = .ok (.aload_n 0, 1) by decide +kernel) ?_
        refine j_ctV (m' := mX11_ruler) (As := []) (ci := 11) (tag := 2) (N := 0) (cw_X11_142 rfl) (show decode cX11_of 95 = .ok (.invokevirtual 142, 3) by decide +kernel) rfl (Nat.le_of_ble_eq_true rfl) (by decide) okl_1 rfl rfl (Nat.le_refl _) h (fun r6 σ6 h => ?_)
        refine s_aload_n (i := 0) rfl (show decode cX11_of 98 = .ok (.aload_n 0, 1) by decide +kernel) ?_
        refine gf_X11_10 (x := 2) rfl (show decode cX11_of 99 = .ok (.getfield 10, 3) by decide +kernel) okl_1 rfl ?_
        refine gf_X11_75 (x := 3) rfl (show decode cX11_of 102 = .ok (.getfield 75, 3) by decide +kernel) okl_2 (gr_10_0 okl_2) ?_
        refine j_iload_n (i := 1) rfl (show decode cX11_of 105 = .ok (.iload_n 1, 1) by decide +kernel) ?_
        refine j_ctV (m' := mX2_priceOf) (As := [rv r6, rv 3, iv p1]) (ci := 2) (tag := 0) (N := 0) (cw_X11_219 rfl) (show decode cX11_of 106 = .ok (.invokevirtual 219, 3) by decide +kernel) rfl (Nat.le_of_ble_eq_true rfl) (by decide) okl_273 rfl rfl (Nat.le_refl _) h (fun r7 σ7 h => ?_)
        exact j_ret (rokI (show decode cX11_of 109 = .ok (.ireturn, 1) by decide +kernel) rfl) ⟨rfl, rfl, h⟩
    · have h := h.2 c
      refine j_iconst (show decode cX11_of 10 = .ok (.iconst (-1), 1) by decide +kernel) ?_
      exact j_ret (rokI (show decode cX11_of 11 = .ok (.ireturn, 1) by decide +kernel) rfl) ⟨rfl, rfl, h⟩
theorem c_X11_of {d : Nat} {t : Int} {Q : Int → jM → Prop} {σ : jM} {p1 p2 : Int} (h : (inR p1) ∧ ((p1 < 0 → (Q (-1) σ)) ∧ (0 ≤ p1 → ((inR p1) ∧ ((p1 < 8 → ((inR p2) ∧ ((p2 < 0 ∨ 3 < p2 → (Q (-1) σ)) ∧ (p2 = 0 → (((0 : Int) ≤ p1 ∧ p1 < 8) ∧ (Q (σ 4 p1) σ))) ∧ (p2 = 1 → (((0 : Int) ≤ p1 ∧ p1 < 8) ∧ (Q (σ 5 p1) σ))) ∧ (p2 = 2 → (Ct mX11_ruler d 2 t [rv 1] σ (fun r4 σ4 => (Ct mX2_tiresOf d 0 t [rv 273, rv r4, rv 3, iv p1] σ4 (fun r5 σ5 => (Q r5 σ5)))))) ∧ (p2 = 3 → (Ct mX11_ruler d 2 t [rv 1] σ (fun r6 σ6 => (Ct mX2_priceOf d 0 t [rv 273, rv r6, rv 3, iv p1] σ6 (fun r7 σ7 => (Q r7 σ7))))))))) ∧ (8 ≤ p1 → (Q (-1) σ))))))) : Ct mX11_of (d + 1) 0 t [rv 1, iv p1, iv p2] σ Q := Ct_of (by decide +kernel) (Nat.le_of_ble_eq_true rfl) (b_X11_of_0 h)
set_option maxRecDepth 4000 in
theorem b_X11_is_0 {d : Nat} {t : Int} {Q : Int → jM → Prop} {σ : jM} {p1 : Int} (h : (inR p1) ∧ ((p1 < 0 ∨ 4 < p1 → (Q (-2) σ)) ∧ (p1 = 0 → (Q (σ 3 6) σ)) ∧ (p1 = 1 → (Q (σ 3 7) σ)) ∧ (p1 = 2 → (Q (σ 3 5) σ)) ∧ (p1 = 3 → (Ct mX1_fullBits d 0 t [rv 3] σ (fun r2 σ2 => (Q r2 σ2)))) ∧ (p1 = 4 → (Ct mX1_allPounds d 0 t [rv 3] σ (fun r3 σ3 => (Q r3 σ3)))))) : Jt mX11_is (d + 1) 0 t Q 0 [rv 1, iv p1] [] σ := by
  refine j_iload_n (i := 1) rfl (show decode cX11_is 0 = .ok (.iload_n 1, 1) by decide +kernel) ?_
  have hr0 := h.1
  have h := h.2
  rcases (show (p1 < 0 ∨ 4 < p1) ∨ p1 = 0 ∨ p1 = 1 ∨ p1 = 2 ∨ p1 = 3 ∨ p1 = 4 by omega) with c | c | c | c | c | c
  · refine j_tableOut (tgt := 91) hr0 (show decode cX11_is 1 = .ok (.tableswitch 90 0 4 #[35, 46, 57, 68, 79], 35) by decide +kernel) c (by decide) ?_
    have h := h.1 c
    refine j_bipush (n := -2) (by decide +kernel) (show decode cX11_is 91 = .ok (.bipush (-2), 2) by decide +kernel) ?_
    exact j_ret (rokI (show decode cX11_is 93 = .ok (.ireturn, 1) by decide +kernel) rfl) ⟨rfl, rfl, h⟩
  · refine j_tableIn (tgt := 36) hr0 (show decode cX11_is 1 = .ok (.tableswitch 90 0 4 #[35, 46, 57, 68, 79], 35) by decide +kernel) (by omega) (by omega) (by rw [c]; rfl) (by decide) ?_
    have h := h.2.1 c
    refine s_aload_n (i := 0) rfl (show decode cX11_is 36 = .ok (.aload_n 0, 1) by decide +kernel) ?_
    refine gf_X11_10 (x := 2) rfl (show decode cX11_is 37 = .ok (.getfield 10, 3) by decide +kernel) okl_1 rfl ?_
    refine gf_X11_75 (x := 3) rfl (show decode cX11_is 40 = .ok (.getfield 75, 3) by decide +kernel) okl_2 (gr_10_0 okl_2) ?_
    refine gf_X11_150 rfl (show decode cX11_is 43 = .ok (.getfield 150, 3) by decide +kernel) okl_3 ?_
    exact j_ret (rokI (show decode cX11_is 46 = .ok (.ireturn, 1) by decide +kernel) rfl) ⟨rfl, rfl, h⟩
  · refine j_tableIn (tgt := 47) hr0 (show decode cX11_is 1 = .ok (.tableswitch 90 0 4 #[35, 46, 57, 68, 79], 35) by decide +kernel) (by omega) (by omega) (by rw [c]; rfl) (by decide) ?_
    have h := h.2.2.1 c
    refine s_aload_n (i := 0) rfl (show decode cX11_is 47 = .ok (.aload_n 0, 1) by decide +kernel) ?_
    refine gf_X11_10 (x := 2) rfl (show decode cX11_is 48 = .ok (.getfield 10, 3) by decide +kernel) okl_1 rfl ?_
    refine gf_X11_75 (x := 3) rfl (show decode cX11_is 51 = .ok (.getfield 75, 3) by decide +kernel) okl_2 (gr_10_0 okl_2) ?_
    refine gf_X11_222 rfl (show decode cX11_is 54 = .ok (.getfield 222, 3) by decide +kernel) okl_3 ?_
    exact j_ret (rokI (show decode cX11_is 57 = .ok (.ireturn, 1) by decide +kernel) rfl) ⟨rfl, rfl, h⟩
  · refine j_tableIn (tgt := 58) hr0 (show decode cX11_is 1 = .ok (.tableswitch 90 0 4 #[35, 46, 57, 68, 79], 35) by decide +kernel) (by omega) (by omega) (by rw [c]; rfl) (by decide) ?_
    have h := h.2.2.2.1 c
    refine s_aload_n (i := 0) rfl (show decode cX11_is 58 = .ok (.aload_n 0, 1) by decide +kernel) ?_
    refine gf_X11_10 (x := 2) rfl (show decode cX11_is 59 = .ok (.getfield 10, 3) by decide +kernel) okl_1 rfl ?_
    refine gf_X11_75 (x := 3) rfl (show decode cX11_is 62 = .ok (.getfield 75, 3) by decide +kernel) okl_2 (gr_10_0 okl_2) ?_
    refine gf_X11_225 rfl (show decode cX11_is 65 = .ok (.getfield 225, 3) by decide +kernel) okl_3 ?_
    exact j_ret (rokI (show decode cX11_is 68 = .ok (.ireturn, 1) by decide +kernel) rfl) ⟨rfl, rfl, h⟩
  · refine j_tableIn (tgt := 69) hr0 (show decode cX11_is 1 = .ok (.tableswitch 90 0 4 #[35, 46, 57, 68, 79], 35) by decide +kernel) (by omega) (by omega) (by rw [c]; rfl) (by decide) ?_
    have h := h.2.2.2.2.1 c
    refine s_aload_n (i := 0) rfl (show decode cX11_is 69 = .ok (.aload_n 0, 1) by decide +kernel) ?_
    refine gf_X11_10 (x := 2) rfl (show decode cX11_is 70 = .ok (.getfield 10, 3) by decide +kernel) okl_1 rfl ?_
    refine gf_X11_75 (x := 3) rfl (show decode cX11_is 73 = .ok (.getfield 75, 3) by decide +kernel) okl_2 (gr_10_0 okl_2) ?_
    refine j_ctV (m' := mX1_fullBits) (As := []) (ci := 1) (tag := 0) (N := 0) (cw_X11_228 rfl) (show decode cX11_is 76 = .ok (.invokevirtual 228, 3) by decide +kernel) rfl (Nat.le_of_ble_eq_true rfl) (by decide) okl_3 rfl rfl (Nat.le_refl _) h (fun r2 σ2 h => ?_)
    exact j_ret (rokI (show decode cX11_is 79 = .ok (.ireturn, 1) by decide +kernel) rfl) ⟨rfl, rfl, h⟩
  · refine j_tableIn (tgt := 80) hr0 (show decode cX11_is 1 = .ok (.tableswitch 90 0 4 #[35, 46, 57, 68, 79], 35) by decide +kernel) (by omega) (by omega) (by rw [c]; rfl) (by decide) ?_
    have h := h.2.2.2.2.2 c
    refine s_aload_n (i := 0) rfl (show decode cX11_is 80 = .ok (.aload_n 0, 1) by decide +kernel) ?_
    refine gf_X11_10 (x := 2) rfl (show decode cX11_is 81 = .ok (.getfield 10, 3) by decide +kernel) okl_1 rfl ?_
    refine gf_X11_75 (x := 3) rfl (show decode cX11_is 84 = .ok (.getfield 75, 3) by decide +kernel) okl_2 (gr_10_0 okl_2) ?_
    refine j_ctV (m' := mX1_allPounds) (As := []) (ci := 1) (tag := 0) (N := 0) (cw_X11_232 rfl) (show decode cX11_is 87 = .ok (.invokevirtual 232, 3) by decide +kernel) rfl (Nat.le_of_ble_eq_true rfl) (by decide) okl_3 rfl rfl (Nat.le_refl _) h (fun r3 σ3 h => ?_)
    exact j_ret (rokI (show decode cX11_is 90 = .ok (.ireturn, 1) by decide +kernel) rfl) ⟨rfl, rfl, h⟩
theorem c_X11_is {d : Nat} {t : Int} {Q : Int → jM → Prop} {σ : jM} {p1 : Int} (h : (inR p1) ∧ ((p1 < 0 ∨ 4 < p1 → (Q (-2) σ)) ∧ (p1 = 0 → (Q (σ 3 6) σ)) ∧ (p1 = 1 → (Q (σ 3 7) σ)) ∧ (p1 = 2 → (Q (σ 3 5) σ)) ∧ (p1 = 3 → (Ct mX1_fullBits d 0 t [rv 3] σ (fun r2 σ2 => (Q r2 σ2)))) ∧ (p1 = 4 → (Ct mX1_allPounds d 0 t [rv 3] σ (fun r3 σ3 => (Q r3 σ3)))))) : Ct mX11_is (d + 1) 0 t [rv 1, iv p1] σ Q := Ct_of (by decide +kernel) (Nat.le_of_ble_eq_true rfl) (b_X11_is_0 h)
set_option maxRecDepth 4000 in
theorem b_X11_book_0 {d : Nat} {t : Int} {Q : Int → jM → Prop} {σ : jM} {p1 p2 : Int} (h : (inR p1) ∧ ((¬ p1 = (-1) → ((inR p1) ∧ ((p1 < 0 → (Q (-2) σ)) ∧ (0 ≤ p1 → ((inR p1) ∧ ((inR (σ 3 4)) ∧ (((σ 3 4) ≤ p1 → (Q (-2) σ)) ∧ (p1 < (σ 3 4) → ((inR p2) ∧ ((p2 < 0 → (Q (-2) σ)) ∧ (0 ≤ p2 → ((inR p2) ∧ ((p2 ≤ 3 → (Ct mX1_lineShows d 0 t [rv 3, iv p1, iv p2] σ (fun r7 σ7 => (Q r7 σ7)))) ∧ (3 < p2 → (Q (-2) σ))))))))))))))) ∧ (p1 = (-1) → (Q (σ 3 4) σ)))) : Jt mX11_book (d + 1) 0 t Q 0 [rv 1, iv p1, iv p2] [] σ := by
  refine j_iload_n (i := 1) rfl (show decode cX11_book 0 = .ok (.iload_n 1, 1) by decide +kernel) ?_
  refine j_iconst (show decode cX11_book 1 = .ok (.iconst (-1), 1) by decide +kernel) ?_
  have hr0 := h.1
  have h := h.2
  refine j_icmp_ne (tgt := 16) hr0 (inl (by decide)) (show decode cX11_book 2 = .ok (.if_icmp .ne 14, 3) by decide +kernel) (by decide) (fun c => ?_) (fun c => ?_)
  · have h := h.1 c
    refine j_iload_n (i := 1) rfl (show decode cX11_book 16 = .ok (.iload_n 1, 1) by decide +kernel) ?_
    have hr1 := h.1
    have h := h.2
    refine j_if_lt (tgt := 43) hr1 (show decode cX11_book 17 = .ok (.ifCond .lt 26, 3) by decide +kernel) (by decide) (fun c => ?_) (fun c => ?_)
    · have h := h.1 c
      refine j_bipush (n := -2) (by decide +kernel) (show decode cX11_book 43 = .ok (.bipush (-2), 2) by decide +kernel) ?_
      exact j_ret (rokI (show decode cX11_book 45 = .ok (.ireturn, 1) by decide +kernel) rfl) ⟨rfl, rfl, h⟩
    · have h := h.2 c
      refine j_iload_n (i := 1) rfl (show decode cX11_book 20 = .ok (.iload_n 1, 1) by decide +kernel) ?_
      refine s_aload_n (i := 0) rfl (show decode cX11_book 21 = .ok (.aload_n 0, 1) by decide +kernel) ?_
      refine gf_X11_10 (x := 2) rfl (show decode cX11_book 22 = .ok (.getfield 10, 3) by decide +kernel) okl_1 rfl ?_
      refine gf_X11_75 (x := 3) rfl (show decode cX11_book 25 = .ok (.getfield 75, 3) by decide +kernel) okl_2 (gr_10_0 okl_2) ?_
      refine gf_X11_235 rfl (show decode cX11_book 28 = .ok (.getfield 235, 3) by decide +kernel) okl_3 ?_
      have hr2 := h.1
      have h := h.2
      have hr3 := h.1
      have h := h.2
      refine j_icmp_ge (tgt := 43) hr2 hr3 (show decode cX11_book 31 = .ok (.if_icmp .ge 12, 3) by decide +kernel) (by decide) (fun c => ?_) (fun c => ?_)
      · have h := h.1 c
        refine j_bipush (n := -2) (by decide +kernel) (show decode cX11_book 43 = .ok (.bipush (-2), 2) by decide +kernel) ?_
        exact j_ret (rokI (show decode cX11_book 45 = .ok (.ireturn, 1) by decide +kernel) rfl) ⟨rfl, rfl, h⟩
      · have h := h.2 c
        refine j_iload_n (i := 2) rfl (show decode cX11_book 34 = .ok (.iload_n 2, 1) by decide +kernel) ?_
        have hr4 := h.1
        have h := h.2
        refine j_if_lt (tgt := 43) hr4 (show decode cX11_book 35 = .ok (.ifCond .lt 8, 3) by decide +kernel) (by decide) (fun c => ?_) (fun c => ?_)
        · have h := h.1 c
          refine j_bipush (n := -2) (by decide +kernel) (show decode cX11_book 43 = .ok (.bipush (-2), 2) by decide +kernel) ?_
          exact j_ret (rokI (show decode cX11_book 45 = .ok (.ireturn, 1) by decide +kernel) rfl) ⟨rfl, rfl, h⟩
        · have h := h.2 c
          refine j_iload_n (i := 2) rfl (show decode cX11_book 38 = .ok (.iload_n 2, 1) by decide +kernel) ?_
          refine j_iconst (show decode cX11_book 39 = .ok (.iconst 3, 1) by decide +kernel) ?_
          have hr5 := h.1
          have h := h.2
          refine j_icmp_le (tgt := 46) hr5 (inl (by decide)) (show decode cX11_book 40 = .ok (.if_icmp .le 6, 3) by decide +kernel) (by decide) (fun c => ?_) (fun c => ?_)
          · have h := h.1 c
            refine s_aload_n (i := 0) rfl (show decode cX11_book 46 = .ok (.aload_n 0, 1) by decide +kernel) ?_
            refine gf_X11_10 (x := 2) rfl (show decode cX11_book 47 = .ok (.getfield 10, 3) by decide +kernel) okl_1 rfl ?_
            refine gf_X11_75 (x := 3) rfl (show decode cX11_book 50 = .ok (.getfield 75, 3) by decide +kernel) okl_2 (gr_10_0 okl_2) ?_
            refine j_iload_n (i := 1) rfl (show decode cX11_book 53 = .ok (.iload_n 1, 1) by decide +kernel) ?_
            refine j_iload_n (i := 2) rfl (show decode cX11_book 54 = .ok (.iload_n 2, 1) by decide +kernel) ?_
            refine j_ctV (m' := mX1_lineShows) (As := [iv p1, iv p2]) (ci := 1) (tag := 0) (N := 0) (cw_X11_238 rfl) (show decode cX11_book 55 = .ok (.invokevirtual 238, 3) by decide +kernel) rfl (Nat.le_of_ble_eq_true rfl) (by decide) okl_3 rfl rfl (Nat.le_refl _) h (fun r7 σ7 h => ?_)
            exact j_ret (rokI (show decode cX11_book 58 = .ok (.ireturn, 1) by decide +kernel) rfl) ⟨rfl, rfl, h⟩
          · have h := h.2 c
            refine j_bipush (n := -2) (by decide +kernel) (show decode cX11_book 43 = .ok (.bipush (-2), 2) by decide +kernel) ?_
            exact j_ret (rokI (show decode cX11_book 45 = .ok (.ireturn, 1) by decide +kernel) rfl) ⟨rfl, rfl, h⟩
  · have h := h.2 c
    refine s_aload_n (i := 0) rfl (show decode cX11_book 5 = .ok (.aload_n 0, 1) by decide +kernel) ?_
    refine gf_X11_10 (x := 2) rfl (show decode cX11_book 6 = .ok (.getfield 10, 3) by decide +kernel) okl_1 rfl ?_
    refine gf_X11_75 (x := 3) rfl (show decode cX11_book 9 = .ok (.getfield 75, 3) by decide +kernel) okl_2 (gr_10_0 okl_2) ?_
    refine gf_X11_235 rfl (show decode cX11_book 12 = .ok (.getfield 235, 3) by decide +kernel) okl_3 ?_
    exact j_ret (rokI (show decode cX11_book 15 = .ok (.ireturn, 1) by decide +kernel) rfl) ⟨rfl, rfl, h⟩
theorem c_X11_book {d : Nat} {t : Int} {Q : Int → jM → Prop} {σ : jM} {p1 p2 : Int} (h : (inR p1) ∧ ((¬ p1 = (-1) → ((inR p1) ∧ ((p1 < 0 → (Q (-2) σ)) ∧ (0 ≤ p1 → ((inR p1) ∧ ((inR (σ 3 4)) ∧ (((σ 3 4) ≤ p1 → (Q (-2) σ)) ∧ (p1 < (σ 3 4) → ((inR p2) ∧ ((p2 < 0 → (Q (-2) σ)) ∧ (0 ≤ p2 → ((inR p2) ∧ ((p2 ≤ 3 → (Ct mX1_lineShows d 0 t [rv 3, iv p1, iv p2] σ (fun r7 σ7 => (Q r7 σ7)))) ∧ (3 < p2 → (Q (-2) σ))))))))))))))) ∧ (p1 = (-1) → (Q (σ 3 4) σ)))) : Ct mX11_book (d + 1) 0 t [rv 1, iv p1, iv p2] σ Q := Ct_of (by decide +kernel) (Nat.le_of_ble_eq_true rfl) (b_X11_book_0 h)
set_option maxRecDepth 4000 in
theorem b_X11_oldest_0 {d : Nat} {t : Int} {Q : Int → jM → Prop} {σ : jM} (h : Ct mX1_crockOfMost d 0 t [rv 3, rv 5] σ (fun r1 σ1 => (Q r1 σ1))) : Jt mX11_oldest (d + 1) 0 t Q 0 [rv 1] [] σ := by
  refine s_aload_n (i := 0) rfl (show decode cX11_oldest 0 = .ok (.aload_n 0, 1) by decide +kernel) ?_
  refine gf_X11_10 (x := 2) rfl (show decode cX11_oldest 1 = .ok (.getfield 10, 3) by decide +kernel) okl_1 rfl ?_
  refine gf_X11_75 (x := 3) rfl (show decode cX11_oldest 4 = .ok (.getfield 75, 3) by decide +kernel) okl_2 (gr_10_0 okl_2) ?_
  refine s_aload_n (i := 0) rfl (show decode cX11_oldest 7 = .ok (.aload_n 0, 1) by decide +kernel) ?_
  refine gf_X11_10 (x := 2) rfl (show decode cX11_oldest 8 = .ok (.getfield 10, 3) by decide +kernel) okl_1 rfl ?_
  refine gf_X11_75 (x := 3) rfl (show decode cX11_oldest 11 = .ok (.getfield 75, 3) by decide +kernel) okl_2 (gr_10_0 okl_2) ?_
  refine gf_X11_212 (x := 5) rfl (show decode cX11_oldest 14 = .ok (.getfield 212, 3) by decide +kernel) okl_3 (gr_1_1 okl_3) ?_
  refine j_ctV (m' := mX1_crockOfMost) (As := [rv 5]) (ci := 1) (tag := 0) (N := 0) (cw_X11_241 rfl) (show decode cX11_oldest 17 = .ok (.invokevirtual 241, 3) by decide +kernel) rfl (Nat.le_of_ble_eq_true rfl) (by decide) okl_3 rfl rfl (Nat.le_refl _) h (fun r1 σ1 h => ?_)
  exact j_ret (rokI (show decode cX11_oldest 20 = .ok (.ireturn, 1) by decide +kernel) rfl) ⟨rfl, rfl, h⟩
theorem c_X11_oldest {d : Nat} {t : Int} {Q : Int → jM → Prop} {σ : jM} (h : Ct mX1_crockOfMost d 0 t [rv 3, rv 5] σ (fun r1 σ1 => (Q r1 σ1))) : Ct mX11_oldest (d + 1) 0 t [rv 1] σ Q := Ct_of (by decide +kernel) (Nat.le_of_ble_eq_true rfl) (b_X11_oldest_0 h)
set_option maxRecDepth 4000 in
theorem b_X11_fullest_0 {d : Nat} {t : Int} {Q : Int → jM → Prop} {σ : jM} (h : Ct mX1_crockOfMost d 0 t [rv 3, rv 4] σ (fun r1 σ1 => (Q r1 σ1))) : Jt mX11_fullest (d + 1) 0 t Q 0 [rv 1] [] σ := by
  refine s_aload_n (i := 0) rfl (show decode cX11_fullest 0 = .ok (.aload_n 0, 1) by decide +kernel) ?_
  refine gf_X11_10 (x := 2) rfl (show decode cX11_fullest 1 = .ok (.getfield 10, 3) by decide +kernel) okl_1 rfl ?_
  refine gf_X11_75 (x := 3) rfl (show decode cX11_fullest 4 = .ok (.getfield 75, 3) by decide +kernel) okl_2 (gr_10_0 okl_2) ?_
  refine s_aload_n (i := 0) rfl (show decode cX11_fullest 7 = .ok (.aload_n 0, 1) by decide +kernel) ?_
  refine gf_X11_10 (x := 2) rfl (show decode cX11_fullest 8 = .ok (.getfield 10, 3) by decide +kernel) okl_1 rfl ?_
  refine gf_X11_75 (x := 3) rfl (show decode cX11_fullest 11 = .ok (.getfield 75, 3) by decide +kernel) okl_2 (gr_10_0 okl_2) ?_
  refine gf_X11_78 (x := 4) rfl (show decode cX11_fullest 14 = .ok (.getfield 78, 3) by decide +kernel) okl_3 (gr_1_0 okl_3) ?_
  refine j_ctV (m' := mX1_crockOfMost) (As := [rv 4]) (ci := 1) (tag := 0) (N := 0) (cw_X11_241 rfl) (show decode cX11_fullest 17 = .ok (.invokevirtual 241, 3) by decide +kernel) rfl (Nat.le_of_ble_eq_true rfl) (by decide) okl_3 rfl rfl (Nat.le_refl _) h (fun r1 σ1 h => ?_)
  exact j_ret (rokI (show decode cX11_fullest 20 = .ok (.ireturn, 1) by decide +kernel) rfl) ⟨rfl, rfl, h⟩
theorem c_X11_fullest {d : Nat} {t : Int} {Q : Int → jM → Prop} {σ : jM} (h : Ct mX1_crockOfMost d 0 t [rv 3, rv 4] σ (fun r1 σ1 => (Q r1 σ1))) : Ct mX11_fullest (d + 1) 0 t [rv 1] σ Q := Ct_of (by decide +kernel) (Nat.le_of_ble_eq_true rfl) (b_X11_fullest_0 h)
set_option maxRecDepth 4000 in
theorem b_X11_can_0 {d : Nat} {t : Int} {Q : Int → jM → Prop} {σ : jM} {p1 : Int} (h : (inR p1) ∧ ((p1 < 1 → (Q (-1) σ)) ∧ (1 ≤ p1 → ((inR p1) ∧ ((p1 ≤ 19998 → (Ct mX1_pairWith d 0 t [rv 3, iv p1] σ (fun r3 σ3 => ((inR r3) ∧ ((¬ r3 = (-1) → ((inR r3) ∧ ((inR r3) ∧ (Q (i_or (i_shl 1 (Int.tdiv r3 8)) (i_shl 1 (Int.tmod r3 8))) σ3)))) ∧ (r3 = (-1) → (Q (-1) σ3))))))) ∧ (19998 < p1 → (Q (-1) σ))))))) : Jt mX11_can (d + 1) 0 t Q 0 [rv 1, iv p1, uv] [] σ := by
  refine j_iload_n (i := 1) rfl (show decode cX11_can 0 = .ok (.iload_n 1, 1) by decide +kernel) ?_
  refine j_iconst (show decode cX11_can 1 = .ok (.iconst 1, 1) by decide +kernel) ?_
  have hr0 := h.1
  have h := h.2
  refine j_icmp_lt (tgt := 12) hr0 (inl (by decide)) (show decode cX11_can 2 = .ok (.if_icmp .lt 10, 3) by decide +kernel) (by decide) (fun c => ?_) (fun c => ?_)
  · have h := h.1 c
    refine j_iconst (show decode cX11_can 12 = .ok (.iconst (-1), 1) by decide +kernel) ?_
    exact j_ret (rokI (show decode cX11_can 13 = .ok (.ireturn, 1) by decide +kernel) rfl) ⟨rfl, rfl, h⟩
  · have h := h.2 c
    refine j_iload_n (i := 1) rfl (show decode cX11_can 5 = .ok (.iload_n 1, 1) by decide +kernel) ?_
    refine j_sipush (n := 19998) (by decide +kernel) (show decode cX11_can 6 = .ok (.sipush 19998, 3) by decide +kernel) ?_
    have hr1 := h.1
    have h := h.2
    refine j_icmp_le (tgt := 14) hr1 (inl (by decide)) (show decode cX11_can 9 = .ok (.if_icmp .le 5, 3) by decide +kernel) (by decide) (fun c => ?_) (fun c => ?_)
    · have h := h.1 c
      refine s_aload_n (i := 0) rfl (show decode cX11_can 14 = .ok (.aload_n 0, 1) by decide +kernel) ?_
      refine gf_X11_10 (x := 2) rfl (show decode cX11_can 15 = .ok (.getfield 10, 3) by decide +kernel) okl_1 rfl ?_
      refine gf_X11_75 (x := 3) rfl (show decode cX11_can 18 = .ok (.getfield 75, 3) by decide +kernel) okl_2 (gr_10_0 okl_2) ?_
      refine j_iload_n (i := 1) rfl (show decode cX11_can 21 = .ok (.iload_n 1, 1) by decide +kernel) ?_
      refine j_ctV (m' := mX1_pairWith) (As := [iv p1]) (ci := 1) (tag := 0) (N := 0) (cw_X11_198 rfl) (show decode cX11_can 22 = .ok (.invokevirtual 198, 3) by decide +kernel) rfl (Nat.le_of_ble_eq_true rfl) (by decide) okl_3 rfl rfl (Nat.le_refl _) h (fun r3 σ3 h => ?_)
      refine s_ist_n (i := 2) (L' := [rv 1, iv p1, iv r3]) rfl (by decide) (show decode cX11_can 25 = .ok (.istore_n 2, 1) by decide +kernel) ?_
      refine j_iload_n (i := 2) rfl (show decode cX11_can 26 = .ok (.iload_n 2, 1) by decide +kernel) ?_
      refine j_iconst (show decode cX11_can 27 = .ok (.iconst (-1), 1) by decide +kernel) ?_
      have hr3 := h.1
      have h := h.2
      refine j_icmp_ne (tgt := 35) hr3 (inl (by decide)) (show decode cX11_can 28 = .ok (.if_icmp .ne 7, 3) by decide +kernel) (by decide) (fun c => ?_) (fun c => ?_)
      · have h := h.1 c
        refine j_iconst (show decode cX11_can 35 = .ok (.iconst 1, 1) by decide +kernel) ?_
        refine j_iload_n (i := 2) rfl (show decode cX11_can 36 = .ok (.iload_n 2, 1) by decide +kernel) ?_
        refine j_bipush (n := 8) (by decide +kernel) (show decode cX11_can 37 = .ok (.bipush 8, 2) by decide +kernel) ?_
        have hr4 := h.1
        have h := h.2
        refine j_idiv hr4 (inl (by decide)) (by decide) (show decode cX11_can 39 = .ok (.idiv, 1) by decide +kernel) ?_
        refine j_ishl (show decode cX11_can 40 = .ok (.ishl, 1) by decide +kernel) ?_
        refine j_iconst (show decode cX11_can 41 = .ok (.iconst 1, 1) by decide +kernel) ?_
        refine j_iload_n (i := 2) rfl (show decode cX11_can 42 = .ok (.iload_n 2, 1) by decide +kernel) ?_
        refine j_bipush (n := 8) (by decide +kernel) (show decode cX11_can 43 = .ok (.bipush 8, 2) by decide +kernel) ?_
        have hr5 := h.1
        have h := h.2
        refine j_irem hr5 (inl (by decide)) (by decide) (show decode cX11_can 45 = .ok (.irem, 1) by decide +kernel) ?_
        refine j_ishl (show decode cX11_can 46 = .ok (.ishl, 1) by decide +kernel) ?_
        refine j_ior (show decode cX11_can 47 = .ok (.ior, 1) by decide +kernel) ?_
        exact j_ret (rokI (show decode cX11_can 48 = .ok (.ireturn, 1) by decide +kernel) rfl) ⟨rfl, rfl, h⟩
      · have h := h.2 c
        refine j_iconst (show decode cX11_can 31 = .ok (.iconst (-1), 1) by decide +kernel) ?_
        refine j_goto (tgt := 48) (show decode cX11_can 32 = .ok (.goto 16, 3) by decide +kernel) (by decide) ?_
        exact j_ret (rokI (show decode cX11_can 48 = .ok (.ireturn, 1) by decide +kernel) rfl) ⟨rfl, rfl, h⟩
    · have h := h.2 c
      refine j_iconst (show decode cX11_can 12 = .ok (.iconst (-1), 1) by decide +kernel) ?_
      exact j_ret (rokI (show decode cX11_can 13 = .ok (.ireturn, 1) by decide +kernel) rfl) ⟨rfl, rfl, h⟩
theorem c_X11_can {d : Nat} {t : Int} {Q : Int → jM → Prop} {σ : jM} {p1 : Int} (h : (inR p1) ∧ ((p1 < 1 → (Q (-1) σ)) ∧ (1 ≤ p1 → ((inR p1) ∧ ((p1 ≤ 19998 → (Ct mX1_pairWith d 0 t [rv 3, iv p1] σ (fun r3 σ3 => ((inR r3) ∧ ((¬ r3 = (-1) → ((inR r3) ∧ ((inR r3) ∧ (Q (i_or (i_shl 1 (Int.tdiv r3 8)) (i_shl 1 (Int.tmod r3 8))) σ3)))) ∧ (r3 = (-1) → (Q (-1) σ3))))))) ∧ (19998 < p1 → (Q (-1) σ))))))) : Ct mX11_can (d + 1) 0 t [rv 1, iv p1] σ Q := Ct_of (by decide +kernel) (Nat.le_of_ble_eq_true rfl) (b_X11_can_0 h)
set_option maxRecDepth 4000 in
theorem b_X11_ledger_16 {d : Nat} {t : Int} {Q : Int → jM → Prop} {σ : jM} {p1 v2 v3 : Int} (h : (inR v3) ∧ ((inR (σ 3 4)) ∧ (((σ 3 4) ≤ v3 → (Q v2 σ)) ∧ (v3 < (σ 3 4) → (Ct mX1_lineShows d 0 t [rv 3, iv v3, iv 1] σ (fun r3 σ3 => ((inR r3) ∧ ((inR p1) ∧ ((¬ r3 = p1 → (Jt mX11_ledger (d + 1) 0 t Q 16 [rv 1, iv p1, iv v2, iv (v3 + 1)] [] σ3)) ∧ (r3 = p1 → (Jt mX11_ledger (d + 1) 0 t Q 16 [rv 1, iv p1, iv (v2 + 1), iv (v3 + 1)] [] σ3))))))))))) : Jt mX11_ledger (d + 1) 0 t Q 16 [rv 1, iv p1, iv v2, iv v3] [] σ := by
  refine j_iload_n (i := 3) rfl (show decode cX11_ledger 16 = .ok (.iload_n 3, 1) by decide +kernel) ?_
  refine s_aload_n (i := 0) rfl (show decode cX11_ledger 17 = .ok (.aload_n 0, 1) by decide +kernel) ?_
  refine gf_X11_10 (x := 2) rfl (show decode cX11_ledger 18 = .ok (.getfield 10, 3) by decide +kernel) okl_1 rfl ?_
  refine gf_X11_75 (x := 3) rfl (show decode cX11_ledger 21 = .ok (.getfield 75, 3) by decide +kernel) okl_2 (gr_10_0 okl_2) ?_
  refine gf_X11_235 rfl (show decode cX11_ledger 24 = .ok (.getfield 235, 3) by decide +kernel) okl_3 ?_
  have hr0 := h.1
  have h := h.2
  have hr1 := h.1
  have h := h.2
  refine j_icmp_ge (tgt := 55) hr0 hr1 (show decode cX11_ledger 27 = .ok (.if_icmp .ge 28, 3) by decide +kernel) (by decide) (fun c => ?_) (fun c => ?_)
  · have h := h.1 c
    refine j_iload_n (i := 2) rfl (show decode cX11_ledger 55 = .ok (.iload_n 2, 1) by decide +kernel) ?_
    exact j_ret (rokI (show decode cX11_ledger 56 = .ok (.ireturn, 1) by decide +kernel) rfl) ⟨rfl, rfl, h⟩
  · have h := h.2 c
    refine s_aload_n (i := 0) rfl (show decode cX11_ledger 30 = .ok (.aload_n 0, 1) by decide +kernel) ?_
    refine gf_X11_10 (x := 2) rfl (show decode cX11_ledger 31 = .ok (.getfield 10, 3) by decide +kernel) okl_1 rfl ?_
    refine gf_X11_75 (x := 3) rfl (show decode cX11_ledger 34 = .ok (.getfield 75, 3) by decide +kernel) okl_2 (gr_10_0 okl_2) ?_
    refine j_iload_n (i := 3) rfl (show decode cX11_ledger 37 = .ok (.iload_n 3, 1) by decide +kernel) ?_
    refine j_iconst (show decode cX11_ledger 38 = .ok (.iconst 1, 1) by decide +kernel) ?_
    refine j_ctV (m' := mX1_lineShows) (As := [iv v3, iv 1]) (ci := 1) (tag := 0) (N := 0) (cw_X11_238 rfl) (show decode cX11_ledger 39 = .ok (.invokevirtual 238, 3) by decide +kernel) rfl (Nat.le_of_ble_eq_true rfl) (by decide) okl_3 rfl rfl (Nat.le_refl _) h (fun r3 σ3 h => ?_)
    refine j_iload_n (i := 1) rfl (show decode cX11_ledger 42 = .ok (.iload_n 1, 1) by decide +kernel) ?_
    have hr3 := h.1
    have h := h.2
    have hr4 := h.1
    have h := h.2
    refine j_icmp_ne (tgt := 49) hr3 hr4 (show decode cX11_ledger 43 = .ok (.if_icmp .ne 6, 3) by decide +kernel) (by decide) (fun c => ?_) (fun c => ?_)
    · have h := h.1 c
      refine s_iinc (i := 3) rfl (L' := [rv 1, iv p1, iv v2, iv (v3 + 1)]) rfl (show decode cX11_ledger 49 = .ok (.iinc 3 1, 3) by decide +kernel) ?_
      refine j_goto (tgt := 16) (show decode cX11_ledger 52 = .ok (.goto (-36), 3) by decide +kernel) (by decide) ?_
      exact h
    · have h := h.2 c
      refine s_iinc (i := 2) rfl (L' := [rv 1, iv p1, iv (v2 + 1), iv v3]) rfl (show decode cX11_ledger 46 = .ok (.iinc 2 1, 3) by decide +kernel) ?_
      refine s_iinc (i := 3) rfl (L' := [rv 1, iv p1, iv (v2 + 1), iv (v3 + 1)]) rfl (show decode cX11_ledger 49 = .ok (.iinc 3 1, 3) by decide +kernel) ?_
      refine j_goto (tgt := 16) (show decode cX11_ledger 52 = .ok (.goto (-36), 3) by decide +kernel) (by decide) ?_
      exact h
set_option maxRecDepth 4000 in
theorem b_X11_ledger_0 {d : Nat} {t : Int} {Q : Int → jM → Prop} {σ : jM} {p1 : Int} (h : (inR p1) ∧ ((p1 < 0 → (Q (-2) σ)) ∧ (0 ≤ p1 → ((inR p1) ∧ ((p1 ≤ 3 → (Jt mX11_ledger (d + 1) 0 t Q 16 [rv 1, iv p1, iv 0, iv 0] [] σ)) ∧ (3 < p1 → (Q (-2) σ))))))) : Jt mX11_ledger (d + 1) 0 t Q 0 [rv 1, iv p1, uv, uv] [] σ := by
  refine j_iload_n (i := 1) rfl (show decode cX11_ledger 0 = .ok (.iload_n 1, 1) by decide +kernel) ?_
  have hr0 := h.1
  have h := h.2
  refine j_if_lt (tgt := 9) hr0 (show decode cX11_ledger 1 = .ok (.ifCond .lt 8, 3) by decide +kernel) (by decide) (fun c => ?_) (fun c => ?_)
  · have h := h.1 c
    refine j_bipush (n := -2) (by decide +kernel) (show decode cX11_ledger 9 = .ok (.bipush (-2), 2) by decide +kernel) ?_
    exact j_ret (rokI (show decode cX11_ledger 11 = .ok (.ireturn, 1) by decide +kernel) rfl) ⟨rfl, rfl, h⟩
  · have h := h.2 c
    refine j_iload_n (i := 1) rfl (show decode cX11_ledger 4 = .ok (.iload_n 1, 1) by decide +kernel) ?_
    refine j_iconst (show decode cX11_ledger 5 = .ok (.iconst 3, 1) by decide +kernel) ?_
    have hr1 := h.1
    have h := h.2
    refine j_icmp_le (tgt := 12) hr1 (inl (by decide)) (show decode cX11_ledger 6 = .ok (.if_icmp .le 6, 3) by decide +kernel) (by decide) (fun c => ?_) (fun c => ?_)
    · have h := h.1 c
      refine j_iconst (show decode cX11_ledger 12 = .ok (.iconst 0, 1) by decide +kernel) ?_
      refine s_ist_n (i := 2) (L' := [rv 1, iv p1, iv 0, uv]) rfl (by decide) (show decode cX11_ledger 13 = .ok (.istore_n 2, 1) by decide +kernel) ?_
      refine j_iconst (show decode cX11_ledger 14 = .ok (.iconst 0, 1) by decide +kernel) ?_
      refine s_ist_n (i := 3) (L' := [rv 1, iv p1, iv 0, iv 0]) rfl (by decide) (show decode cX11_ledger 15 = .ok (.istore_n 3, 1) by decide +kernel) ?_
      exact h
    · have h := h.2 c
      refine j_bipush (n := -2) (by decide +kernel) (show decode cX11_ledger 9 = .ok (.bipush (-2), 2) by decide +kernel) ?_
      exact j_ret (rokI (show decode cX11_ledger 11 = .ok (.ireturn, 1) by decide +kernel) rfl) ⟨rfl, rfl, h⟩
theorem c_X11_ledger {d : Nat} {t : Int} {Q : Int → jM → Prop} {σ : jM} {p1 : Int} (h : (inR p1) ∧ ((p1 < 0 → (Q (-2) σ)) ∧ (0 ≤ p1 → ((inR p1) ∧ ((p1 ≤ 3 → (Jt mX11_ledger (d + 1) 0 t Q 16 [rv 1, iv p1, iv 0, iv 0] [] σ)) ∧ (3 < p1 → (Q (-2) σ))))))) : Ct mX11_ledger (d + 1) 0 t [rv 1, iv p1] σ Q := Ct_of (by decide +kernel) (Nat.le_of_ble_eq_true rfl) (b_X11_ledger_0 h)
set_option maxRecDepth 4000 in
theorem b_X11_foretold_39 {d : Nat} {t : Int} {Q : Int → jM → Prop} {σ : jM} {p1 p2 v3 : Int} (h : (inR v3) ∧ ((inR p1) ∧ ((p1 ≤ v3 → (((0 : Int) ≤ p2 ∧ p2 < 8) ∧ (Q (σ 267 p2) σ))) ∧ (v3 < p1 → ((inR (σ 266 6)) ∧ ((9999 ≤ (σ 266 6) → (((0 : Int) ≤ p2 ∧ p2 < 8) ∧ (Q (σ 267 p2) σ))) ∧ ((σ 266 6) < 9999 → (Ct mX11_ruler d 2 t [rv 1] σ (fun r4 σ4 => (Ct mX1_passDay d 0 t [rv 266, rv 273, rv r4] σ4 (fun r5 σ5 => (Jt mX11_foretold (d + 1) 0 t Q 39 [rv 1, iv p1, iv p2, iv (v3 + 1)] [] σ5)))))))))))) : Jt mX11_foretold (d + 1) 0 t Q 39 [rv 1, iv p1, iv p2, iv v3] [] σ := by
  refine j_iload_n (i := 3) rfl (show decode cX11_foretold 39 = .ok (.iload_n 3, 1) by decide +kernel) ?_
  refine j_iload_n (i := 1) rfl (show decode cX11_foretold 40 = .ok (.iload_n 1, 1) by decide +kernel) ?_
  have hr0 := h.1
  have h := h.2
  have hr1 := h.1
  have h := h.2
  refine j_icmp_ge (tgt := 79) hr0 hr1 (show decode cX11_foretold 41 = .ok (.if_icmp .ge 38, 3) by decide +kernel) (by decide) (fun c => ?_) (fun c => ?_)
  · have h := h.1 c
    refine s_aload_n (i := 0) rfl (show decode cX11_foretold 79 = .ok (.aload_n 0, 1) by decide +kernel) ?_
    refine gf_X11_22 (x := 266) rfl (show decode cX11_foretold 80 = .ok (.getfield 22, 3) by decide +kernel) okl_1 rfl ?_
    refine gf_X11_78 (x := 267) rfl (show decode cX11_foretold 83 = .ok (.getfield 78, 3) by decide +kernel) okl_266 (gr_1_0 okl_266) ?_
    refine j_iload_n (i := 2) rfl (show decode cX11_foretold 86 = .ok (.iload_n 2, 1) by decide +kernel) ?_
    refine s_iald (show decode cX11_foretold 87 = .ok (.iaload, 1) by decide +kernel) okl_267 h.1 ?_
    have h := h.2
    exact j_ret (rokI (show decode cX11_foretold 88 = .ok (.ireturn, 1) by decide +kernel) rfl) ⟨rfl, rfl, h⟩
  · have h := h.2 c
    refine s_aload_n (i := 0) rfl (show decode cX11_foretold 44 = .ok (.aload_n 0, 1) by decide +kernel) ?_
    refine gf_X11_22 (x := 266) rfl (show decode cX11_foretold 45 = .ok (.getfield 22, 3) by decide +kernel) okl_1 rfl ?_
    refine gf_X11_150 rfl (show decode cX11_foretold 48 = .ok (.getfield 150, 3) by decide +kernel) okl_266 ?_
    refine j_sipush (n := 9999) (by decide +kernel) (show decode cX11_foretold 51 = .ok (.sipush 9999, 3) by decide +kernel) ?_
    have hr2 := h.1
    have h := h.2
    refine j_icmp_ge (tgt := 79) hr2 (inl (by decide)) (show decode cX11_foretold 54 = .ok (.if_icmp .ge 25, 3) by decide +kernel) (by decide) (fun c => ?_) (fun c => ?_)
    · have h := h.1 c
      refine s_aload_n (i := 0) rfl (show decode cX11_foretold 79 = .ok (.aload_n 0, 1) by decide +kernel) ?_
      refine gf_X11_22 (x := 266) rfl (show decode cX11_foretold 80 = .ok (.getfield 22, 3) by decide +kernel) okl_1 rfl ?_
      refine gf_X11_78 (x := 267) rfl (show decode cX11_foretold 83 = .ok (.getfield 78, 3) by decide +kernel) okl_266 (gr_1_0 okl_266) ?_
      refine j_iload_n (i := 2) rfl (show decode cX11_foretold 86 = .ok (.iload_n 2, 1) by decide +kernel) ?_
      refine s_iald (show decode cX11_foretold 87 = .ok (.iaload, 1) by decide +kernel) okl_267 h.1 ?_
      have h := h.2
      exact j_ret (rokI (show decode cX11_foretold 88 = .ok (.ireturn, 1) by decide +kernel) rfl) ⟨rfl, rfl, h⟩
    · have h := h.2 c
      refine s_aload_n (i := 0) rfl (show decode cX11_foretold 57 = .ok (.aload_n 0, 1) by decide +kernel) ?_
      refine gf_X11_22 (x := 266) rfl (show decode cX11_foretold 58 = .ok (.getfield 22, 3) by decide +kernel) okl_1 rfl ?_
      refine s_aload_n (i := 0) rfl (show decode cX11_foretold 61 = .ok (.aload_n 0, 1) by decide +kernel) ?_
      refine gf_X11_42 (x := 273) rfl (show decode cX11_foretold 62 = .ok (.getfield 42, 3) by decide +kernel) okl_1 rfl ?_
      refine s_aload_n (i := 0) rfl (show decode cX11_foretold 65 = .ok (.aload_n 0, 1) by decide +kernel) ?_
      refine j_ctV (m' := mX11_ruler) (As := []) (ci := 11) (tag := 2) (N := 0) (cw_X11_142 rfl) (show decode cX11_foretold 66 = .ok (.invokevirtual 142, 3) by decide +kernel) rfl (Nat.le_of_ble_eq_true rfl) (by decide) okl_1 rfl rfl (Nat.le_refl _) h (fun r4 σ4 h => ?_)
      refine j_ctV (m' := mX1_passDay) (As := [rv 273, rv r4]) (ci := 1) (tag := 0) (N := 0) (cw_X11_157 rfl) (show decode cX11_foretold 69 = .ok (.invokevirtual 157, 3) by decide +kernel) rfl (Nat.le_of_ble_eq_true rfl) (by decide) okl_266 rfl rfl (Nat.le_refl _) h (fun r5 σ5 h => ?_)
      refine j_pop (show (0 : Nat) ≠ 1 by decide) (show decode cX11_foretold 72 = .ok (.pop, 1) by decide +kernel) ?_
      refine s_iinc (i := 3) rfl (L' := [rv 1, iv p1, iv p2, iv (v3 + 1)]) rfl (show decode cX11_foretold 73 = .ok (.iinc 3 1, 3) by decide +kernel) ?_
      refine j_goto (tgt := 39) (show decode cX11_foretold 76 = .ok (.goto (-37), 3) by decide +kernel) (by decide) ?_
      exact h
set_option maxRecDepth 4000 in
theorem b_X11_foretold_0 {d : Nat} {t : Int} {Q : Int → jM → Prop} {σ : jM} {p1 p2 : Int} (h : (inR p1) ∧ ((p1 < 1 → (Q (-1) σ)) ∧ (1 ≤ p1 → ((inR p1) ∧ ((60 < p1 → (Q (-1) σ)) ∧ (p1 ≤ 60 → ((inR p2) ∧ ((p2 < 0 → (Q (-1) σ)) ∧ (0 ≤ p2 → ((inR p2) ∧ ((p2 < 8 → (Ct mX1_copyFrom d 9 t [rv 266, rv 3] σ (fun r5 σ5 => (Jt mX11_foretold (d + 1) 0 t Q 39 [rv 1, iv p1, iv p2, iv 0] [] σ5)))) ∧ (8 ≤ p2 → (Q (-1) σ))))))))))))) : Jt mX11_foretold (d + 1) 0 t Q 0 [rv 1, iv p1, iv p2, uv] [] σ := by
  refine j_iload_n (i := 1) rfl (show decode cX11_foretold 0 = .ok (.iload_n 1, 1) by decide +kernel) ?_
  refine j_iconst (show decode cX11_foretold 1 = .ok (.iconst 1, 1) by decide +kernel) ?_
  have hr0 := h.1
  have h := h.2
  refine j_icmp_lt (tgt := 21) hr0 (inl (by decide)) (show decode cX11_foretold 2 = .ok (.if_icmp .lt 19, 3) by decide +kernel) (by decide) (fun c => ?_) (fun c => ?_)
  · have h := h.1 c
    refine j_iconst (show decode cX11_foretold 21 = .ok (.iconst (-1), 1) by decide +kernel) ?_
    exact j_ret (rokI (show decode cX11_foretold 22 = .ok (.ireturn, 1) by decide +kernel) rfl) ⟨rfl, rfl, h⟩
  · have h := h.2 c
    refine j_iload_n (i := 1) rfl (show decode cX11_foretold 5 = .ok (.iload_n 1, 1) by decide +kernel) ?_
    refine j_bipush (n := 60) (by decide +kernel) (show decode cX11_foretold 6 = .ok (.bipush 60, 2) by decide +kernel) ?_
    have hr1 := h.1
    have h := h.2
    refine j_icmp_gt (tgt := 21) hr1 (inl (by decide)) (show decode cX11_foretold 8 = .ok (.if_icmp .gt 13, 3) by decide +kernel) (by decide) (fun c => ?_) (fun c => ?_)
    · have h := h.1 c
      refine j_iconst (show decode cX11_foretold 21 = .ok (.iconst (-1), 1) by decide +kernel) ?_
      exact j_ret (rokI (show decode cX11_foretold 22 = .ok (.ireturn, 1) by decide +kernel) rfl) ⟨rfl, rfl, h⟩
    · have h := h.2 c
      refine j_iload_n (i := 2) rfl (show decode cX11_foretold 11 = .ok (.iload_n 2, 1) by decide +kernel) ?_
      have hr2 := h.1
      have h := h.2
      refine j_if_lt (tgt := 21) hr2 (show decode cX11_foretold 12 = .ok (.ifCond .lt 9, 3) by decide +kernel) (by decide) (fun c => ?_) (fun c => ?_)
      · have h := h.1 c
        refine j_iconst (show decode cX11_foretold 21 = .ok (.iconst (-1), 1) by decide +kernel) ?_
        exact j_ret (rokI (show decode cX11_foretold 22 = .ok (.ireturn, 1) by decide +kernel) rfl) ⟨rfl, rfl, h⟩
      · have h := h.2 c
        refine j_iload_n (i := 2) rfl (show decode cX11_foretold 15 = .ok (.iload_n 2, 1) by decide +kernel) ?_
        refine j_bipush (n := 8) (by decide +kernel) (show decode cX11_foretold 16 = .ok (.bipush 8, 2) by decide +kernel) ?_
        have hr3 := h.1
        have h := h.2
        refine j_icmp_lt (tgt := 23) hr3 (inl (by decide)) (show decode cX11_foretold 18 = .ok (.if_icmp .lt 5, 3) by decide +kernel) (by decide) (fun c => ?_) (fun c => ?_)
        · have h := h.1 c
          refine s_aload_n (i := 0) rfl (show decode cX11_foretold 23 = .ok (.aload_n 0, 1) by decide +kernel) ?_
          refine gf_X11_22 (x := 266) rfl (show decode cX11_foretold 24 = .ok (.getfield 22, 3) by decide +kernel) okl_1 rfl ?_
          refine s_aload_n (i := 0) rfl (show decode cX11_foretold 27 = .ok (.aload_n 0, 1) by decide +kernel) ?_
          refine gf_X11_10 (x := 2) rfl (show decode cX11_foretold 28 = .ok (.getfield 10, 3) by decide +kernel) okl_1 rfl ?_
          refine gf_X11_75 (x := 3) rfl (show decode cX11_foretold 31 = .ok (.getfield 75, 3) by decide +kernel) okl_2 (gr_10_0 okl_2) ?_
          refine j_ctVv (m' := mX1_copyFrom) (As := [rv 3]) (ci := 1) (N := 0) (cw_X11_245 rfl) (show decode cX11_foretold 34 = .ok (.invokevirtual 245, 3) by decide +kernel) rfl (Nat.le_of_ble_eq_true rfl) okl_266 rfl rfl (Nat.le_refl _) h (fun r5 σ5 h => ?_)
          refine j_iconst (show decode cX11_foretold 37 = .ok (.iconst 0, 1) by decide +kernel) ?_
          refine s_ist_n (i := 3) (L' := [rv 1, iv p1, iv p2, iv 0]) rfl (by decide) (show decode cX11_foretold 38 = .ok (.istore_n 3, 1) by decide +kernel) ?_
          exact h
        · have h := h.2 c
          refine j_iconst (show decode cX11_foretold 21 = .ok (.iconst (-1), 1) by decide +kernel) ?_
          exact j_ret (rokI (show decode cX11_foretold 22 = .ok (.ireturn, 1) by decide +kernel) rfl) ⟨rfl, rfl, h⟩
theorem c_X11_foretold {d : Nat} {t : Int} {Q : Int → jM → Prop} {σ : jM} {p1 p2 : Int} (h : (inR p1) ∧ ((p1 < 1 → (Q (-1) σ)) ∧ (1 ≤ p1 → ((inR p1) ∧ ((60 < p1 → (Q (-1) σ)) ∧ (p1 ≤ 60 → ((inR p2) ∧ ((p2 < 0 → (Q (-1) σ)) ∧ (0 ≤ p2 → ((inR p2) ∧ ((p2 < 8 → (Ct mX1_copyFrom d 9 t [rv 266, rv 3] σ (fun r5 σ5 => (Jt mX11_foretold (d + 1) 0 t Q 39 [rv 1, iv p1, iv p2, iv 0] [] σ5)))) ∧ (8 ≤ p2 → (Q (-1) σ))))))))))))) : Ct mX11_foretold (d + 1) 0 t [rv 1, iv p1, iv p2] σ Q := Ct_of (by decide +kernel) (Nat.le_of_ble_eq_true rfl) (b_X11_foretold_0 h)
set_option maxRecDepth 4000 in
theorem b_X11_fewest_0 {d : Nat} {t : Int} {Q : Int → jM → Prop} {σ : jM} {p1 : Int} (h : Ct mX0_joiningsOf d 0 t [rv 275, iv p1] σ (fun r1 σ1 => (Q r1 σ1))) : Jt mX11_fewest (d + 1) 0 t Q 0 [rv 1, iv p1] [] σ := by
  refine s_aload_n (i := 0) rfl (show decode cX11_fewest 0 = .ok (.aload_n 0, 1) by decide +kernel) ?_
  refine gf_X11_49 (x := 275) rfl (show decode cX11_fewest 1 = .ok (.getfield 49, 3) by decide +kernel) okl_1 rfl ?_
  refine j_iload_n (i := 1) rfl (show decode cX11_fewest 4 = .ok (.iload_n 1, 1) by decide +kernel) ?_
  refine j_ctV (m' := mX0_joiningsOf) (As := [iv p1]) (ci := 0) (tag := 0) (N := 0) (cw_X11_189 rfl) (show decode cX11_fewest 5 = .ok (.invokevirtual 189, 3) by decide +kernel) rfl (Nat.le_of_ble_eq_true rfl) (by decide) okl_275 rfl rfl (Nat.le_refl _) h (fun r1 σ1 h => ?_)
  exact j_ret (rokI (show decode cX11_fewest 8 = .ok (.ireturn, 1) by decide +kernel) rfl) ⟨rfl, rfl, h⟩
theorem c_X11_fewest {d : Nat} {t : Int} {Q : Int → jM → Prop} {σ : jM} {p1 : Int} (h : Ct mX0_joiningsOf d 0 t [rv 275, iv p1] σ (fun r1 σ1 => (Q r1 σ1))) : Ct mX11_fewest (d + 1) 0 t [rv 1, iv p1] σ Q := Ct_of (by decide +kernel) (Nat.le_of_ble_eq_true rfl) (b_X11_fewest_0 h)
set_option maxRecDepth 4000 in
theorem b_X11_chain_0 {d : Nat} {t : Int} {Q : Int → jM → Prop} {σ : jM} {p1 p2 : Int} (h : (inR p2) ∧ ((p2 < 0 → (Q (-1) σ)) ∧ (0 ≤ p2 → (Ct mX0_joiningsOf d 0 t [rv 275, iv p1] σ (fun r2 σ2 => ((inR p2) ∧ ((inR r2) ∧ ((r2 < p2 → (Q (-1) σ2)) ∧ (p2 ≤ r2 → (Ct mX0_linkOf d 0 t [rv 275, iv p1, iv p2] σ2 (fun r5 σ5 => (Q r5 σ5)))))))))))) : Jt mX11_chain (d + 1) 0 t Q 0 [rv 1, iv p1, iv p2] [] σ := by
  refine j_iload_n (i := 2) rfl (show decode cX11_chain 0 = .ok (.iload_n 2, 1) by decide +kernel) ?_
  have hr0 := h.1
  have h := h.2
  refine j_if_lt (tgt := 28) hr0 (show decode cX11_chain 1 = .ok (.ifCond .lt 27, 3) by decide +kernel) (by decide) (fun c => ?_) (fun c => ?_)
  · have h := h.1 c
    refine j_iconst (show decode cX11_chain 28 = .ok (.iconst (-1), 1) by decide +kernel) ?_
    exact j_ret (rokI (show decode cX11_chain 29 = .ok (.ireturn, 1) by decide +kernel) rfl) ⟨rfl, rfl, h⟩
  · have h := h.2 c
    refine j_iload_n (i := 2) rfl (show decode cX11_chain 4 = .ok (.iload_n 2, 1) by decide +kernel) ?_
    refine s_aload_n (i := 0) rfl (show decode cX11_chain 5 = .ok (.aload_n 0, 1) by decide +kernel) ?_
    refine gf_X11_49 (x := 275) rfl (show decode cX11_chain 6 = .ok (.getfield 49, 3) by decide +kernel) okl_1 rfl ?_
    refine j_iload_n (i := 1) rfl (show decode cX11_chain 9 = .ok (.iload_n 1, 1) by decide +kernel) ?_
    refine j_ctV (m' := mX0_joiningsOf) (As := [iv p1]) (ci := 0) (tag := 0) (N := 0) (cw_X11_189 rfl) (show decode cX11_chain 10 = .ok (.invokevirtual 189, 3) by decide +kernel) rfl (Nat.le_of_ble_eq_true rfl) (by decide) okl_275 rfl rfl (Nat.le_refl _) h (fun r2 σ2 h => ?_)
    have hr2 := h.1
    have h := h.2
    have hr3 := h.1
    have h := h.2
    refine j_icmp_gt (tgt := 28) hr2 hr3 (show decode cX11_chain 13 = .ok (.if_icmp .gt 15, 3) by decide +kernel) (by decide) (fun c => ?_) (fun c => ?_)
    · have h := h.1 c
      refine j_iconst (show decode cX11_chain 28 = .ok (.iconst (-1), 1) by decide +kernel) ?_
      exact j_ret (rokI (show decode cX11_chain 29 = .ok (.ireturn, 1) by decide +kernel) rfl) ⟨rfl, rfl, h⟩
    · have h := h.2 c
      refine s_aload_n (i := 0) rfl (show decode cX11_chain 16 = .ok (.aload_n 0, 1) by decide +kernel) ?_
      refine gf_X11_49 (x := 275) rfl (show decode cX11_chain 17 = .ok (.getfield 49, 3) by decide +kernel) okl_1 rfl ?_
      refine j_iload_n (i := 1) rfl (show decode cX11_chain 20 = .ok (.iload_n 1, 1) by decide +kernel) ?_
      refine j_iload_n (i := 2) rfl (show decode cX11_chain 21 = .ok (.iload_n 2, 1) by decide +kernel) ?_
      refine j_ctV (m' := mX0_linkOf) (As := [iv p1, iv p2]) (ci := 0) (tag := 0) (N := 0) (cw_X11_192 rfl) (show decode cX11_chain 22 = .ok (.invokevirtual 192, 3) by decide +kernel) rfl (Nat.le_of_ble_eq_true rfl) (by decide) okl_275 rfl rfl (Nat.le_refl _) h (fun r5 σ5 h => ?_)
      refine j_goto (tgt := 29) (show decode cX11_chain 25 = .ok (.goto 4, 3) by decide +kernel) (by decide) ?_
      exact j_ret (rokI (show decode cX11_chain 29 = .ok (.ireturn, 1) by decide +kernel) rfl) ⟨rfl, rfl, h⟩
theorem c_X11_chain {d : Nat} {t : Int} {Q : Int → jM → Prop} {σ : jM} {p1 p2 : Int} (h : (inR p2) ∧ ((p2 < 0 → (Q (-1) σ)) ∧ (0 ≤ p2 → (Ct mX0_joiningsOf d 0 t [rv 275, iv p1] σ (fun r2 σ2 => ((inR p2) ∧ ((inR r2) ∧ ((r2 < p2 → (Q (-1) σ2)) ∧ (p2 ≤ r2 → (Ct mX0_linkOf d 0 t [rv 275, iv p1, iv p2] σ2 (fun r5 σ5 => (Q r5 σ5)))))))))))) : Ct mX11_chain (d + 1) 0 t [rv 1, iv p1, iv p2] σ Q := Ct_of (by decide +kernel) (Nat.le_of_ble_eq_true rfl) (b_X11_chain_0 h)
set_option maxRecDepth 4000 in
theorem b_X11_chains_0 {d : Nat} {t : Int} {Q : Int → jM → Prop} {σ : jM} {p1 : Int} (h : Ct mX0_waysOf d 1 t [rv 275, iv p1] σ (fun r1 σ1 => (Q r1 σ1))) : Jt mX11_chains (d + 1) 1 t Q 0 [rv 1, iv p1] [] σ := by
  refine s_aload_n (i := 0) rfl (show decode cX11_chains 0 = .ok (.aload_n 0, 1) by decide +kernel) ?_
  refine gf_X11_49 (x := 275) rfl (show decode cX11_chains 1 = .ok (.getfield 49, 3) by decide +kernel) okl_1 rfl ?_
  refine j_iload_n (i := 1) rfl (show decode cX11_chains 4 = .ok (.iload_n 1, 1) by decide +kernel) ?_
  refine j_ctV (m' := mX0_waysOf) (As := [iv p1]) (ci := 0) (tag := 1) (N := 0) (cw_X11_247 rfl) (show decode cX11_chains 5 = .ok (.invokevirtual 247, 3) by decide +kernel) rfl (Nat.le_of_ble_eq_true rfl) (by decide) okl_275 rfl rfl (Nat.le_refl _) h (fun r1 σ1 h => ?_)
  exact j_ret (rokL (show decode cX11_chains 8 = .ok (.lreturn, 1) by decide +kernel) rfl) ⟨rfl, rfl, h⟩
theorem c_X11_chains {d : Nat} {t : Int} {Q : Int → jM → Prop} {σ : jM} {p1 : Int} (h : Ct mX0_waysOf d 1 t [rv 275, iv p1] σ (fun r1 σ1 => (Q r1 σ1))) : Ct mX11_chains (d + 1) 1 t [rv 1, iv p1] σ Q := Ct_of (by decide +kernel) (Nat.le_of_ble_eq_true rfl) (b_X11_chains_0 h)
set_option maxRecDepth 4000 in
theorem b_X11_halves_17 {d : Nat} {t : Int} {Q : Int → jM → Prop} {σ : jM} {p1 v2 v3 : Int} (h : (inR v3) ∧ ((v3 ≤ 1 → (Q v2 σ)) ∧ (1 < v3 → ((inR v3) ∧ ((inR v3) ∧ (Jt mX11_halves (d) 0 t Q 17 [rv 1, iv p1, iv (v2 + (1 + (Int.tmod v3 2))), iv (Int.tdiv v3 2)] [] σ)))))) : Jt mX11_halves (d) 0 t Q 17 [rv 1, iv p1, iv v2, iv v3] [] σ := by
  refine j_iload_n (i := 3) rfl (show decode cX11_halves 17 = .ok (.iload_n 3, 1) by decide +kernel) ?_
  refine j_iconst (show decode cX11_halves 18 = .ok (.iconst 1, 1) by decide +kernel) ?_
  have hr0 := h.1
  have h := h.2
  refine j_icmp_le (tgt := 37) hr0 (inl (by decide)) (show decode cX11_halves 19 = .ok (.if_icmp .le 18, 3) by decide +kernel) (by decide) (fun c => ?_) (fun c => ?_)
  · have h := h.1 c
    refine j_iload_n (i := 2) rfl (show decode cX11_halves 37 = .ok (.iload_n 2, 1) by decide +kernel) ?_
    exact j_ret (rokI (show decode cX11_halves 38 = .ok (.ireturn, 1) by decide +kernel) rfl) ⟨rfl, rfl, h⟩
  · have h := h.2 c
    refine j_iload_n (i := 2) rfl (show decode cX11_halves 22 = .ok (.iload_n 2, 1) by decide +kernel) ?_
    refine j_iconst (show decode cX11_halves 23 = .ok (.iconst 1, 1) by decide +kernel) ?_
    refine j_iload_n (i := 3) rfl (show decode cX11_halves 24 = .ok (.iload_n 3, 1) by decide +kernel) ?_
    refine j_iconst (show decode cX11_halves 25 = .ok (.iconst 2, 1) by decide +kernel) ?_
    have hr1 := h.1
    have h := h.2
    refine j_irem hr1 (inl (by decide)) (by decide) (show decode cX11_halves 26 = .ok (.irem, 1) by decide +kernel) ?_
    refine j_iadd (show decode cX11_halves 27 = .ok (.iadd, 1) by decide +kernel) ?_
    refine j_iadd (show decode cX11_halves 28 = .ok (.iadd, 1) by decide +kernel) ?_
    refine s_ist_n (i := 2) (L' := [rv 1, iv p1, iv (v2 + (1 + (Int.tmod v3 2))), iv v3]) rfl (by decide) (show decode cX11_halves 29 = .ok (.istore_n 2, 1) by decide +kernel) ?_
    refine j_iload_n (i := 3) rfl (show decode cX11_halves 30 = .ok (.iload_n 3, 1) by decide +kernel) ?_
    refine j_iconst (show decode cX11_halves 31 = .ok (.iconst 2, 1) by decide +kernel) ?_
    have hr2 := h.1
    have h := h.2
    refine j_idiv hr2 (inl (by decide)) (by decide) (show decode cX11_halves 32 = .ok (.idiv, 1) by decide +kernel) ?_
    refine s_ist_n (i := 3) (L' := [rv 1, iv p1, iv (v2 + (1 + (Int.tmod v3 2))), iv (Int.tdiv v3 2)]) rfl (by decide) (show decode cX11_halves 33 = .ok (.istore_n 3, 1) by decide +kernel) ?_
    refine j_goto (tgt := 17) (show decode cX11_halves 34 = .ok (.goto (-17), 3) by decide +kernel) (by decide) ?_
    exact h
set_option maxRecDepth 4000 in
theorem b_X11_halves_0 {d : Nat} {t : Int} {Q : Int → jM → Prop} {σ : jM} {p1 : Int} (h : (inR p1) ∧ ((p1 < 1 → (Q (-1) σ)) ∧ (1 ≤ p1 → ((inR p1) ∧ ((p1 ≤ 1000000 → (Jt mX11_halves (d) 0 t Q 17 [rv 1, iv p1, iv 0, iv p1] [] σ)) ∧ (1000000 < p1 → (Q (-1) σ))))))) : Jt mX11_halves (d) 0 t Q 0 [rv 1, iv p1, uv, uv] [] σ := by
  refine j_iload_n (i := 1) rfl (show decode cX11_halves 0 = .ok (.iload_n 1, 1) by decide +kernel) ?_
  refine j_iconst (show decode cX11_halves 1 = .ok (.iconst 1, 1) by decide +kernel) ?_
  have hr0 := h.1
  have h := h.2
  refine j_icmp_lt (tgt := 11) hr0 (inl (by decide)) (show decode cX11_halves 2 = .ok (.if_icmp .lt 9, 3) by decide +kernel) (by decide) (fun c => ?_) (fun c => ?_)
  · have h := h.1 c
    refine j_iconst (show decode cX11_halves 11 = .ok (.iconst (-1), 1) by decide +kernel) ?_
    exact j_ret (rokI (show decode cX11_halves 12 = .ok (.ireturn, 1) by decide +kernel) rfl) ⟨rfl, rfl, h⟩
  · have h := h.2 c
    refine j_iload_n (i := 1) rfl (show decode cX11_halves 5 = .ok (.iload_n 1, 1) by decide +kernel) ?_
    refine j_ldc (x := 1000000) (tt_in 1021 (by decide +kernel) rfl) (show decode cX11_halves 6 = .ok (.ldc 251, 2) by decide +kernel) ?_
    have hr1 := h.1
    have h := h.2
    refine j_icmp_le (tgt := 13) hr1 (inl (by decide)) (show decode cX11_halves 8 = .ok (.if_icmp .le 5, 3) by decide +kernel) (by decide) (fun c => ?_) (fun c => ?_)
    · have h := h.1 c
      refine j_iconst (show decode cX11_halves 13 = .ok (.iconst 0, 1) by decide +kernel) ?_
      refine s_ist_n (i := 2) (L' := [rv 1, iv p1, iv 0, uv]) rfl (by decide) (show decode cX11_halves 14 = .ok (.istore_n 2, 1) by decide +kernel) ?_
      refine j_iload_n (i := 1) rfl (show decode cX11_halves 15 = .ok (.iload_n 1, 1) by decide +kernel) ?_
      refine s_ist_n (i := 3) (L' := [rv 1, iv p1, iv 0, iv p1]) rfl (by decide) (show decode cX11_halves 16 = .ok (.istore_n 3, 1) by decide +kernel) ?_
      exact h
    · have h := h.2 c
      refine j_iconst (show decode cX11_halves 11 = .ok (.iconst (-1), 1) by decide +kernel) ?_
      exact j_ret (rokI (show decode cX11_halves 12 = .ok (.ireturn, 1) by decide +kernel) rfl) ⟨rfl, rfl, h⟩
theorem c_X11_halves {d : Nat} {t : Int} {Q : Int → jM → Prop} {σ : jM} {p1 : Int} (h : (inR p1) ∧ ((p1 < 1 → (Q (-1) σ)) ∧ (1 ≤ p1 → ((inR p1) ∧ ((p1 ≤ 1000000 → (Jt mX11_halves (d) 0 t Q 17 [rv 1, iv p1, iv 0, iv p1] [] σ)) ∧ (1000000 < p1 → (Q (-1) σ))))))) : Ct mX11_halves (d) 0 t [rv 1, iv p1] σ Q := Ct_of (by decide +kernel) (Nat.le_of_ble_eq_true rfl) (b_X11_halves_0 h)
set_option maxRecDepth 4000 in
theorem b_X11_parts_0 {d : Nat} {t : Int} {Q : Int → jM → Prop} {σ : jM} {p1 : Int} (h : (inR p1) ∧ ((p1 < 1 → (Q (-1) σ)) ∧ (1 ≤ p1 → ((inR p1) ∧ ((p1 ≤ 1000000 → (Ct mX11_byParts d 0 t [iv p1, iv 12] σ (fun r3 σ3 => (Q r3 σ3)))) ∧ (1000000 < p1 → (Q (-1) σ))))))) : Jt mX11_parts (d + 1) 0 t Q 0 [rv 1, iv p1] [] σ := by
  refine j_iload_n (i := 1) rfl (show decode cX11_parts 0 = .ok (.iload_n 1, 1) by decide +kernel) ?_
  refine j_iconst (show decode cX11_parts 1 = .ok (.iconst 1, 1) by decide +kernel) ?_
  have hr0 := h.1
  have h := h.2
  refine j_icmp_lt (tgt := 11) hr0 (inl (by decide)) (show decode cX11_parts 2 = .ok (.if_icmp .lt 9, 3) by decide +kernel) (by decide) (fun c => ?_) (fun c => ?_)
  · have h := h.1 c
    refine j_iconst (show decode cX11_parts 11 = .ok (.iconst (-1), 1) by decide +kernel) ?_
    exact j_ret (rokI (show decode cX11_parts 12 = .ok (.ireturn, 1) by decide +kernel) rfl) ⟨rfl, rfl, h⟩
  · have h := h.2 c
    refine j_iload_n (i := 1) rfl (show decode cX11_parts 5 = .ok (.iload_n 1, 1) by decide +kernel) ?_
    refine j_ldc (x := 1000000) (tt_in 1021 (by decide +kernel) rfl) (show decode cX11_parts 6 = .ok (.ldc 251, 2) by decide +kernel) ?_
    have hr1 := h.1
    have h := h.2
    refine j_icmp_le (tgt := 13) hr1 (inl (by decide)) (show decode cX11_parts 8 = .ok (.if_icmp .le 5, 3) by decide +kernel) (by decide) (fun c => ?_) (fun c => ?_)
    · have h := h.1 c
      refine j_iload_n (i := 1) rfl (show decode cX11_parts 13 = .ok (.iload_n 1, 1) by decide +kernel) ?_
      refine j_bipush (n := 12) (by decide +kernel) (show decode cX11_parts 14 = .ok (.bipush 12, 2) by decide +kernel) ?_
      refine j_ctS (m' := mX11_byParts) (As := [iv p1, iv 12]) (tag := 0) (cw_X11_252 rfl) (show decode cX11_parts 16 = .ok (.invokestatic 252, 3) by decide +kernel) rfl (Nat.le_of_ble_eq_true rfl) (by decide) (Nat.le_refl _) h (fun r3 σ3 h => ?_)
      exact j_ret (rokI (show decode cX11_parts 19 = .ok (.ireturn, 1) by decide +kernel) rfl) ⟨rfl, rfl, h⟩
    · have h := h.2 c
      refine j_iconst (show decode cX11_parts 11 = .ok (.iconst (-1), 1) by decide +kernel) ?_
      exact j_ret (rokI (show decode cX11_parts 12 = .ok (.ireturn, 1) by decide +kernel) rfl) ⟨rfl, rfl, h⟩
theorem c_X11_parts {d : Nat} {t : Int} {Q : Int → jM → Prop} {σ : jM} {p1 : Int} (h : (inR p1) ∧ ((p1 < 1 → (Q (-1) σ)) ∧ (1 ≤ p1 → ((inR p1) ∧ ((p1 ≤ 1000000 → (Ct mX11_byParts d 0 t [iv p1, iv 12] σ (fun r3 σ3 => (Q r3 σ3)))) ∧ (1000000 < p1 → (Q (-1) σ))))))) : Ct mX11_parts (d + 1) 0 t [rv 1, iv p1] σ Q := Ct_of (by decide +kernel) (Nat.le_of_ble_eq_true rfl) (b_X11_parts_0 h)
set_option maxRecDepth 4000 in
theorem b_X11_byParts_7 {d : Nat} {t : Int} {Q : Int → jM → Prop} {σ : jM} {p0 p1 v2 v3 v4 : Int} (h : (inR v4) ∧ ((64 ≤ v4 → (Q v2 σ)) ∧ (v4 < 64 → ((inR v3) ∧ ((v3 ≤ 1 → (Q v2 σ)) ∧ (1 < v3 → (Ct mX11_leastPrime d 0 t [iv v3] σ (fun r3 σ3 => ((inR r3) ∧ ((inR v3) ∧ ((¬ r3 = v3 → ((inR p1) ∧ ((p1 ≤ 0 → ((inR v3) ∧ ((inR r3) ∧ ((r3 ≠ 0) ∧ (Jt mX11_byParts (d + 1) 0 t Q 7 [iv p0, iv p1, iv (v2 + 0), iv (Int.tdiv v3 r3), iv (v4 + 1), uv] [] σ3))))) ∧ (0 < p1 → (Ct mX11_byParts d 0 t [iv r3, iv (p1 - 1)] σ3 (fun r10 σ10 => ((inR v3) ∧ ((inR r3) ∧ ((r3 ≠ 0) ∧ (Jt mX11_byParts (d + 1) 0 t Q 7 [iv p0, iv p1, iv (v2 + r10), iv (Int.tdiv v3 r3), iv (v4 + 1), uv] [] σ10)))))))))) ∧ (r3 = v3 → (Jt mX11_byParts (d + 1) 0 t Q 7 [iv p0, iv p1, iv (v2 + 1), iv (v3 + (-1)), iv (v4 + 1), uv] [] σ3))))))))))))) : Jt mX11_byParts (d + 1) 0 t Q 7 [iv p0, iv p1, iv v2, iv v3, iv v4, uv] [] σ := by
  refine j_iload (i := 4) rfl (show decode cX11_byParts 7 = .ok (.iload 4, 2) by decide +kernel) ?_
  refine j_bipush (n := 64) (by decide +kernel) (show decode cX11_byParts 9 = .ok (.bipush 64, 2) by decide +kernel) ?_
  have hr0 := h.1
  have h := h.2
  refine j_icmp_ge (tgt := 70) hr0 (inl (by decide)) (show decode cX11_byParts 11 = .ok (.if_icmp .ge 59, 3) by decide +kernel) (by decide) (fun c => ?_) (fun c => ?_)
  · have h := h.1 c
    refine j_iload_n (i := 2) rfl (show decode cX11_byParts 70 = .ok (.iload_n 2, 1) by decide +kernel) ?_
    exact j_ret (rokI (show decode cX11_byParts 71 = .ok (.ireturn, 1) by decide +kernel) rfl) ⟨rfl, rfl, h⟩
  · have h := h.2 c
    refine j_iload_n (i := 3) rfl (show decode cX11_byParts 14 = .ok (.iload_n 3, 1) by decide +kernel) ?_
    refine j_iconst (show decode cX11_byParts 15 = .ok (.iconst 1, 1) by decide +kernel) ?_
    have hr1 := h.1
    have h := h.2
    refine j_icmp_le (tgt := 70) hr1 (inl (by decide)) (show decode cX11_byParts 16 = .ok (.if_icmp .le 54, 3) by decide +kernel) (by decide) (fun c => ?_) (fun c => ?_)
    · have h := h.1 c
      refine j_iload_n (i := 2) rfl (show decode cX11_byParts 70 = .ok (.iload_n 2, 1) by decide +kernel) ?_
      exact j_ret (rokI (show decode cX11_byParts 71 = .ok (.ireturn, 1) by decide +kernel) rfl) ⟨rfl, rfl, h⟩
    · have h := h.2 c
      refine j_iload_n (i := 3) rfl (show decode cX11_byParts 19 = .ok (.iload_n 3, 1) by decide +kernel) ?_
      refine j_ctS (m' := mX11_leastPrime) (As := [iv v3]) (tag := 0) (cw_X11_255 rfl) (show decode cX11_byParts 20 = .ok (.invokestatic 255, 3) by decide +kernel) rfl (Nat.le_of_ble_eq_true rfl) (by decide) (Nat.le_refl _) h (fun r3 σ3 h => ?_)
      refine s_ist (i := 5) (L' := [iv p0, iv p1, iv v2, iv v3, iv v4, iv r3]) rfl (by decide) (show decode cX11_byParts 23 = .ok (.istore 5, 2) by decide +kernel) ?_
      refine j_iload (i := 5) rfl (show decode cX11_byParts 25 = .ok (.iload 5, 2) by decide +kernel) ?_
      refine j_iload_n (i := 3) rfl (show decode cX11_byParts 27 = .ok (.iload_n 3, 1) by decide +kernel) ?_
      have hr3 := h.1
      have h := h.2
      have hr4 := h.1
      have h := h.2
      refine j_icmp_ne (tgt := 40) hr3 hr4 (show decode cX11_byParts 28 = .ok (.if_icmp .ne 12, 3) by decide +kernel) (by decide) (fun c => ?_) (fun c => ?_)
      · have h := h.1 c
        refine j_iload_n (i := 2) rfl (show decode cX11_byParts 40 = .ok (.iload_n 2, 1) by decide +kernel) ?_
        refine j_iload_n (i := 1) rfl (show decode cX11_byParts 41 = .ok (.iload_n 1, 1) by decide +kernel) ?_
        have hr5 := h.1
        have h := h.2
        refine j_if_le (tgt := 56) hr5 (show decode cX11_byParts 42 = .ok (.ifCond .le 14, 3) by decide +kernel) (by decide) (fun c => ?_) (fun c => ?_)
        · have h := h.1 c
          refine j_iconst (show decode cX11_byParts 56 = .ok (.iconst 0, 1) by decide +kernel) ?_
          refine j_iadd (show decode cX11_byParts 57 = .ok (.iadd, 1) by decide +kernel) ?_
          refine s_ist_n (i := 2) (L' := [iv p0, iv p1, iv (v2 + 0), iv v3, iv v4, iv r3]) rfl (by decide) (show decode cX11_byParts 58 = .ok (.istore_n 2, 1) by decide +kernel) ?_
          refine j_iload_n (i := 3) rfl (show decode cX11_byParts 59 = .ok (.iload_n 3, 1) by decide +kernel) ?_
          refine j_iload (i := 5) rfl (show decode cX11_byParts 60 = .ok (.iload 5, 2) by decide +kernel) ?_
          have hr6 := h.1
          have h := h.2
          have hr7 := h.1
          have h := h.2
          have hz8 := h.1
          have h := h.2
          refine j_idiv hr6 hr7 hz8 (show decode cX11_byParts 62 = .ok (.idiv, 1) by decide +kernel) ?_
          refine s_ist_n (i := 3) (L' := [iv p0, iv p1, iv (v2 + 0), iv (Int.tdiv v3 r3), iv v4, iv r3]) rfl (by decide) (show decode cX11_byParts 63 = .ok (.istore_n 3, 1) by decide +kernel) ?_
          refine s_iinc (i := 4) rfl (L' := [iv p0, iv p1, iv (v2 + 0), iv (Int.tdiv v3 r3), iv (v4 + 1), iv r3]) rfl (show decode cX11_byParts 64 = .ok (.iinc 4 1, 3) by decide +kernel) ?_
          refine j_goto (tgt := 7) (show decode cX11_byParts 67 = .ok (.goto (-60), 3) by decide +kernel) (by decide) ?_
          refine j_drop 5 ?_
          exact h
        · have h := h.2 c
          refine j_iload (i := 5) rfl (show decode cX11_byParts 45 = .ok (.iload 5, 2) by decide +kernel) ?_
          refine j_iload_n (i := 1) rfl (show decode cX11_byParts 47 = .ok (.iload_n 1, 1) by decide +kernel) ?_
          refine j_iconst (show decode cX11_byParts 48 = .ok (.iconst 1, 1) by decide +kernel) ?_
          refine j_isub (show decode cX11_byParts 49 = .ok (.isub, 1) by decide +kernel) ?_
          refine j_ctS (m' := mX11_byParts) (As := [iv r3, iv (p1 - 1)]) (tag := 0) (cw_X11_252 rfl) (show decode cX11_byParts 50 = .ok (.invokestatic 252, 3) by decide +kernel) rfl (Nat.le_of_ble_eq_true rfl) (by decide) (Nat.le_refl _) h (fun r10 σ10 h => ?_)
          refine j_goto (tgt := 57) (show decode cX11_byParts 53 = .ok (.goto 4, 3) by decide +kernel) (by decide) ?_
          refine j_iadd (show decode cX11_byParts 57 = .ok (.iadd, 1) by decide +kernel) ?_
          refine s_ist_n (i := 2) (L' := [iv p0, iv p1, iv (v2 + r10), iv v3, iv v4, iv r3]) rfl (by decide) (show decode cX11_byParts 58 = .ok (.istore_n 2, 1) by decide +kernel) ?_
          refine j_iload_n (i := 3) rfl (show decode cX11_byParts 59 = .ok (.iload_n 3, 1) by decide +kernel) ?_
          refine j_iload (i := 5) rfl (show decode cX11_byParts 60 = .ok (.iload 5, 2) by decide +kernel) ?_
          have hr10 := h.1
          have h := h.2
          have hr11 := h.1
          have h := h.2
          have hz12 := h.1
          have h := h.2
          refine j_idiv hr10 hr11 hz12 (show decode cX11_byParts 62 = .ok (.idiv, 1) by decide +kernel) ?_
          refine s_ist_n (i := 3) (L' := [iv p0, iv p1, iv (v2 + r10), iv (Int.tdiv v3 r3), iv v4, iv r3]) rfl (by decide) (show decode cX11_byParts 63 = .ok (.istore_n 3, 1) by decide +kernel) ?_
          refine s_iinc (i := 4) rfl (L' := [iv p0, iv p1, iv (v2 + r10), iv (Int.tdiv v3 r3), iv (v4 + 1), iv r3]) rfl (show decode cX11_byParts 64 = .ok (.iinc 4 1, 3) by decide +kernel) ?_
          refine j_goto (tgt := 7) (show decode cX11_byParts 67 = .ok (.goto (-60), 3) by decide +kernel) (by decide) ?_
          refine j_drop 5 ?_
          exact h
      · have h := h.2 c
        refine s_iinc (i := 2) rfl (L' := [iv p0, iv p1, iv (v2 + 1), iv v3, iv v4, iv r3]) rfl (show decode cX11_byParts 31 = .ok (.iinc 2 1, 3) by decide +kernel) ?_
        refine s_iinc (i := 3) rfl (L' := [iv p0, iv p1, iv (v2 + 1), iv (v3 + (-1)), iv v4, iv r3]) rfl (show decode cX11_byParts 34 = .ok (.iinc 3 (-1), 3) by decide +kernel) ?_
        refine j_goto (tgt := 64) (show decode cX11_byParts 37 = .ok (.goto 27, 3) by decide +kernel) (by decide) ?_
        refine s_iinc (i := 4) rfl (L' := [iv p0, iv p1, iv (v2 + 1), iv (v3 + (-1)), iv (v4 + 1), iv r3]) rfl (show decode cX11_byParts 64 = .ok (.iinc 4 1, 3) by decide +kernel) ?_
        refine j_goto (tgt := 7) (show decode cX11_byParts 67 = .ok (.goto (-60), 3) by decide +kernel) (by decide) ?_
        refine j_drop 5 ?_
        exact h
set_option maxRecDepth 4000 in
theorem b_X11_byParts_0 {d : Nat} {t : Int} {Q : Int → jM → Prop} {σ : jM} {p0 p1 : Int} (h : Jt mX11_byParts (d + 1) 0 t Q 7 [iv p0, iv p1, iv 0, iv p0, iv 0, uv] [] σ) : Jt mX11_byParts (d + 1) 0 t Q 0 [iv p0, iv p1, uv, uv, uv, uv] [] σ := by
  refine j_iconst (show decode cX11_byParts 0 = .ok (.iconst 0, 1) by decide +kernel) ?_
  refine s_ist_n (i := 2) (L' := [iv p0, iv p1, iv 0, uv, uv, uv]) rfl (by decide) (show decode cX11_byParts 1 = .ok (.istore_n 2, 1) by decide +kernel) ?_
  refine j_iload_n (i := 0) rfl (show decode cX11_byParts 2 = .ok (.iload_n 0, 1) by decide +kernel) ?_
  refine s_ist_n (i := 3) (L' := [iv p0, iv p1, iv 0, iv p0, uv, uv]) rfl (by decide) (show decode cX11_byParts 3 = .ok (.istore_n 3, 1) by decide +kernel) ?_
  refine j_iconst (show decode cX11_byParts 4 = .ok (.iconst 0, 1) by decide +kernel) ?_
  refine s_ist (i := 4) (L' := [iv p0, iv p1, iv 0, iv p0, iv 0, uv]) rfl (by decide) (show decode cX11_byParts 5 = .ok (.istore 4, 2) by decide +kernel) ?_
  exact h
theorem c_X11_byParts {d : Nat} {t : Int} {Q : Int → jM → Prop} {σ : jM} {p0 p1 : Int} (h : Jt mX11_byParts (d + 1) 0 t Q 7 [iv p0, iv p1, iv 0, iv p0, iv 0, uv] [] σ) : Ct mX11_byParts (d + 1) 0 t [iv p0, iv p1] σ Q := Ct_of (by decide +kernel) (Nat.le_of_ble_eq_true rfl) (b_X11_byParts_0 h)
set_option maxRecDepth 4000 in
theorem b_X11_leastPrime_2 {d : Nat} {t : Int} {Q : Int → jM → Prop} {σ : jM} {p0 v1 : Int} (h : (inR (v1 * v1)) ∧ ((inR p0) ∧ ((p0 < (v1 * v1) → ((inR p0) ∧ (Q (max p0 2) σ))) ∧ ((v1 * v1) ≤ p0 → ((inR p0) ∧ ((inR v1) ∧ ((v1 ≠ 0) ∧ ((inR (Int.tmod p0 v1)) ∧ ((¬ (Int.tmod p0 v1) = 0 → (Jt mX11_leastPrime (d + 1) 0 t Q 2 [iv p0, iv (v1 + 1)] [] σ)) ∧ ((Int.tmod p0 v1) = 0 → (Q v1 σ))))))))))) : Jt mX11_leastPrime (d + 1) 0 t Q 2 [iv p0, iv v1] [] σ := by
  refine j_iload_n (i := 1) rfl (show decode cX11_leastPrime 2 = .ok (.iload_n 1, 1) by decide +kernel) ?_
  refine j_iload_n (i := 1) rfl (show decode cX11_leastPrime 3 = .ok (.iload_n 1, 1) by decide +kernel) ?_
  refine j_imul (show decode cX11_leastPrime 4 = .ok (.imul, 1) by decide +kernel) ?_
  refine j_iload_n (i := 0) rfl (show decode cX11_leastPrime 5 = .ok (.iload_n 0, 1) by decide +kernel) ?_
  have hr0 := h.1
  have h := h.2
  have hr1 := h.1
  have h := h.2
  refine j_icmp_gt (tgt := 23) hr0 hr1 (show decode cX11_leastPrime 6 = .ok (.if_icmp .gt 17, 3) by decide +kernel) (by decide) (fun c => ?_) (fun c => ?_)
  · have h := h.1 c
    refine j_iload_n (i := 0) rfl (show decode cX11_leastPrime 23 = .ok (.iload_n 0, 1) by decide +kernel) ?_
    refine j_iconst (show decode cX11_leastPrime 24 = .ok (.iconst 2, 1) by decide +kernel) ?_
    have hr2 := h.1
    have h := h.2
    refine j_max (tt_in 1032 (by decide +kernel) rfl) (by omega) (Nat.le_of_ble_eq_true rfl) hr2 (inl (by decide)) (show decode cX11_leastPrime 25 = .ok (.invokestatic 258, 3) by decide +kernel) ?_
    exact j_ret (rokI (show decode cX11_leastPrime 28 = .ok (.ireturn, 1) by decide +kernel) rfl) ⟨rfl, rfl, h⟩
  · have h := h.2 c
    refine j_iload_n (i := 0) rfl (show decode cX11_leastPrime 9 = .ok (.iload_n 0, 1) by decide +kernel) ?_
    refine j_iload_n (i := 1) rfl (show decode cX11_leastPrime 10 = .ok (.iload_n 1, 1) by decide +kernel) ?_
    have hr3 := h.1
    have h := h.2
    have hr4 := h.1
    have h := h.2
    have hz5 := h.1
    have h := h.2
    refine j_irem hr3 hr4 hz5 (show decode cX11_leastPrime 11 = .ok (.irem, 1) by decide +kernel) ?_
    have hr6 := h.1
    have h := h.2
    refine j_if_ne (tgt := 17) hr6 (show decode cX11_leastPrime 12 = .ok (.ifCond .ne 5, 3) by decide +kernel) (by decide) (fun c => ?_) (fun c => ?_)
    · have h := h.1 c
      refine s_iinc (i := 1) rfl (L' := [iv p0, iv (v1 + 1)]) rfl (show decode cX11_leastPrime 17 = .ok (.iinc 1 1, 3) by decide +kernel) ?_
      refine j_goto (tgt := 2) (show decode cX11_leastPrime 20 = .ok (.goto (-18), 3) by decide +kernel) (by decide) ?_
      exact h
    · have h := h.2 c
      refine j_iload_n (i := 1) rfl (show decode cX11_leastPrime 15 = .ok (.iload_n 1, 1) by decide +kernel) ?_
      exact j_ret (rokI (show decode cX11_leastPrime 16 = .ok (.ireturn, 1) by decide +kernel) rfl) ⟨rfl, rfl, h⟩
set_option maxRecDepth 4000 in
theorem b_X11_leastPrime_0 {d : Nat} {t : Int} {Q : Int → jM → Prop} {σ : jM} {p0 : Int} (h : Jt mX11_leastPrime (d + 1) 0 t Q 2 [iv p0, iv 2] [] σ) : Jt mX11_leastPrime (d + 1) 0 t Q 0 [iv p0, uv] [] σ := by
  refine j_iconst (show decode cX11_leastPrime 0 = .ok (.iconst 2, 1) by decide +kernel) ?_
  refine s_ist_n (i := 1) (L' := [iv p0, iv 2]) rfl (by decide) (show decode cX11_leastPrime 1 = .ok (.istore_n 1, 1) by decide +kernel) ?_
  exact h
theorem c_X11_leastPrime {d : Nat} {t : Int} {Q : Int → jM → Prop} {σ : jM} {p0 : Int} (h : Jt mX11_leastPrime (d + 1) 0 t Q 2 [iv p0, iv 2] [] σ) : Ct mX11_leastPrime (d + 1) 0 t [iv p0] σ Q := Ct_of (by decide +kernel) (Nat.le_of_ble_eq_true rfl) (b_X11_leastPrime_0 h)
set_option maxRecDepth 4000 in
theorem b_X11_hardest_33 {d : Nat} {t : Int} {Q : Int → jM → Prop} {σ : jM} {p1 p2 v3 v4 : Int} (h : (inR v4) ∧ ((inR p2) ∧ ((p2 < v4 → (Q v3 σ)) ∧ (v4 ≤ p2 → (Ct mX0_joiningsOf d 0 t [rv 275, iv v4] σ (fun r3 σ3 => (Ct mX0_joiningsOf d 0 t [rv 275, iv v3] σ3 (fun r4 σ4 => ((inR r3) ∧ ((inR r4) ∧ ((r3 ≤ r4 → (Jt mX11_hardest (d + 1) 0 t Q 33 [rv 1, iv p1, iv p2, iv v3, iv (v4 + 1)] [] σ4)) ∧ (r4 < r3 → (Jt mX11_hardest (d + 1) 0 t Q 33 [rv 1, iv p1, iv p2, iv v4, iv (v4 + 1)] [] σ4))))))))))))) : Jt mX11_hardest (d + 1) 0 t Q 33 [rv 1, iv p1, iv p2, iv v3, iv v4] [] σ := by
  refine j_iload (i := 4) rfl (show decode cX11_hardest 33 = .ok (.iload 4, 2) by decide +kernel) ?_
  refine j_iload_n (i := 2) rfl (show decode cX11_hardest 35 = .ok (.iload_n 2, 1) by decide +kernel) ?_
  have hr0 := h.1
  have h := h.2
  have hr1 := h.1
  have h := h.2
  refine j_icmp_gt (tgt := 68) hr0 hr1 (show decode cX11_hardest 36 = .ok (.if_icmp .gt 32, 3) by decide +kernel) (by decide) (fun c => ?_) (fun c => ?_)
  · have h := h.1 c
    refine j_iload_n (i := 3) rfl (show decode cX11_hardest 68 = .ok (.iload_n 3, 1) by decide +kernel) ?_
    exact j_ret (rokI (show decode cX11_hardest 69 = .ok (.ireturn, 1) by decide +kernel) rfl) ⟨rfl, rfl, h⟩
  · have h := h.2 c
    refine s_aload_n (i := 0) rfl (show decode cX11_hardest 39 = .ok (.aload_n 0, 1) by decide +kernel) ?_
    refine gf_X11_49 (x := 275) rfl (show decode cX11_hardest 40 = .ok (.getfield 49, 3) by decide +kernel) okl_1 rfl ?_
    refine j_iload (i := 4) rfl (show decode cX11_hardest 43 = .ok (.iload 4, 2) by decide +kernel) ?_
    refine j_ctV (m' := mX0_joiningsOf) (As := [iv v4]) (ci := 0) (tag := 0) (N := 0) (cw_X11_189 rfl) (show decode cX11_hardest 45 = .ok (.invokevirtual 189, 3) by decide +kernel) rfl (Nat.le_of_ble_eq_true rfl) (by decide) okl_275 rfl rfl (Nat.le_refl _) h (fun r3 σ3 h => ?_)
    refine s_aload_n (i := 0) rfl (show decode cX11_hardest 48 = .ok (.aload_n 0, 1) by decide +kernel) ?_
    refine gf_X11_49 (x := 275) rfl (show decode cX11_hardest 49 = .ok (.getfield 49, 3) by decide +kernel) okl_1 rfl ?_
    refine j_iload_n (i := 3) rfl (show decode cX11_hardest 52 = .ok (.iload_n 3, 1) by decide +kernel) ?_
    refine j_ctV (m' := mX0_joiningsOf) (As := [iv v3]) (ci := 0) (tag := 0) (N := 0) (cw_X11_189 rfl) (show decode cX11_hardest 53 = .ok (.invokevirtual 189, 3) by decide +kernel) rfl (Nat.le_of_ble_eq_true rfl) (by decide) okl_275 rfl rfl (Nat.le_refl _) h (fun r4 σ4 h => ?_)
    have hr4 := h.1
    have h := h.2
    have hr5 := h.1
    have h := h.2
    refine j_icmp_le (tgt := 62) hr4 hr5 (show decode cX11_hardest 56 = .ok (.if_icmp .le 6, 3) by decide +kernel) (by decide) (fun c => ?_) (fun c => ?_)
    · have h := h.1 c
      refine s_iinc (i := 4) rfl (L' := [rv 1, iv p1, iv p2, iv v3, iv (v4 + 1)]) rfl (show decode cX11_hardest 62 = .ok (.iinc 4 1, 3) by decide +kernel) ?_
      refine j_goto (tgt := 33) (show decode cX11_hardest 65 = .ok (.goto (-32), 3) by decide +kernel) (by decide) ?_
      exact h
    · have h := h.2 c
      refine j_iload (i := 4) rfl (show decode cX11_hardest 59 = .ok (.iload 4, 2) by decide +kernel) ?_
      refine s_ist_n (i := 3) (L' := [rv 1, iv p1, iv p2, iv v4, iv v4]) rfl (by decide) (show decode cX11_hardest 61 = .ok (.istore_n 3, 1) by decide +kernel) ?_
      refine s_iinc (i := 4) rfl (L' := [rv 1, iv p1, iv p2, iv v4, iv (v4 + 1)]) rfl (show decode cX11_hardest 62 = .ok (.iinc 4 1, 3) by decide +kernel) ?_
      refine j_goto (tgt := 33) (show decode cX11_hardest 65 = .ok (.goto (-32), 3) by decide +kernel) (by decide) ?_
      exact h
set_option maxRecDepth 4000 in
theorem b_X11_hardest_0 {d : Nat} {t : Int} {Q : Int → jM → Prop} {σ : jM} {p1 p2 : Int} (h : (inR p1) ∧ ((p1 < 1 → (Q (-1) σ)) ∧ (1 ≤ p1 → ((inR p2) ∧ ((120 < p2 → (Q (-1) σ)) ∧ (p2 ≤ 120 → ((inR p1) ∧ ((inR p2) ∧ ((p2 < p1 → (Q (-1) σ)) ∧ (p1 ≤ p2 → ((inR (p2 - p1)) ∧ (((p2 - p1) ≤ 20 → (Jt mX11_hardest (d + 1) 0 t Q 33 [rv 1, iv p1, iv p2, iv p1, iv (p1 + 1)] [] σ)) ∧ (20 < (p2 - p1) → (Q (-1) σ)))))))))))))) : Jt mX11_hardest (d + 1) 0 t Q 0 [rv 1, iv p1, iv p2, uv, uv] [] σ := by
  refine j_iload_n (i := 1) rfl (show decode cX11_hardest 0 = .ok (.iload_n 1, 1) by decide +kernel) ?_
  refine j_iconst (show decode cX11_hardest 1 = .ok (.iconst 1, 1) by decide +kernel) ?_
  have hr0 := h.1
  have h := h.2
  refine j_icmp_lt (tgt := 24) hr0 (inl (by decide)) (show decode cX11_hardest 2 = .ok (.if_icmp .lt 22, 3) by decide +kernel) (by decide) (fun c => ?_) (fun c => ?_)
  · have h := h.1 c
    refine j_iconst (show decode cX11_hardest 24 = .ok (.iconst (-1), 1) by decide +kernel) ?_
    exact j_ret (rokI (show decode cX11_hardest 25 = .ok (.ireturn, 1) by decide +kernel) rfl) ⟨rfl, rfl, h⟩
  · have h := h.2 c
    refine j_iload_n (i := 2) rfl (show decode cX11_hardest 5 = .ok (.iload_n 2, 1) by decide +kernel) ?_
    refine j_bipush (n := 120) (by decide +kernel) (show decode cX11_hardest 6 = .ok (.bipush 120, 2) by decide +kernel) ?_
    have hr1 := h.1
    have h := h.2
    refine j_icmp_gt (tgt := 24) hr1 (inl (by decide)) (show decode cX11_hardest 8 = .ok (.if_icmp .gt 16, 3) by decide +kernel) (by decide) (fun c => ?_) (fun c => ?_)
    · have h := h.1 c
      refine j_iconst (show decode cX11_hardest 24 = .ok (.iconst (-1), 1) by decide +kernel) ?_
      exact j_ret (rokI (show decode cX11_hardest 25 = .ok (.ireturn, 1) by decide +kernel) rfl) ⟨rfl, rfl, h⟩
    · have h := h.2 c
      refine j_iload_n (i := 1) rfl (show decode cX11_hardest 11 = .ok (.iload_n 1, 1) by decide +kernel) ?_
      refine j_iload_n (i := 2) rfl (show decode cX11_hardest 12 = .ok (.iload_n 2, 1) by decide +kernel) ?_
      have hr2 := h.1
      have h := h.2
      have hr3 := h.1
      have h := h.2
      refine j_icmp_gt (tgt := 24) hr2 hr3 (show decode cX11_hardest 13 = .ok (.if_icmp .gt 11, 3) by decide +kernel) (by decide) (fun c => ?_) (fun c => ?_)
      · have h := h.1 c
        refine j_iconst (show decode cX11_hardest 24 = .ok (.iconst (-1), 1) by decide +kernel) ?_
        exact j_ret (rokI (show decode cX11_hardest 25 = .ok (.ireturn, 1) by decide +kernel) rfl) ⟨rfl, rfl, h⟩
      · have h := h.2 c
        refine j_iload_n (i := 2) rfl (show decode cX11_hardest 16 = .ok (.iload_n 2, 1) by decide +kernel) ?_
        refine j_iload_n (i := 1) rfl (show decode cX11_hardest 17 = .ok (.iload_n 1, 1) by decide +kernel) ?_
        refine j_isub (show decode cX11_hardest 18 = .ok (.isub, 1) by decide +kernel) ?_
        refine j_bipush (n := 20) (by decide +kernel) (show decode cX11_hardest 19 = .ok (.bipush 20, 2) by decide +kernel) ?_
        have hr4 := h.1
        have h := h.2
        refine j_icmp_le (tgt := 26) hr4 (inl (by decide)) (show decode cX11_hardest 21 = .ok (.if_icmp .le 5, 3) by decide +kernel) (by decide) (fun c => ?_) (fun c => ?_)
        · have h := h.1 c
          refine j_iload_n (i := 1) rfl (show decode cX11_hardest 26 = .ok (.iload_n 1, 1) by decide +kernel) ?_
          refine s_ist_n (i := 3) (L' := [rv 1, iv p1, iv p2, iv p1, uv]) rfl (by decide) (show decode cX11_hardest 27 = .ok (.istore_n 3, 1) by decide +kernel) ?_
          refine j_iload_n (i := 1) rfl (show decode cX11_hardest 28 = .ok (.iload_n 1, 1) by decide +kernel) ?_
          refine j_iconst (show decode cX11_hardest 29 = .ok (.iconst 1, 1) by decide +kernel) ?_
          refine j_iadd (show decode cX11_hardest 30 = .ok (.iadd, 1) by decide +kernel) ?_
          refine s_ist (i := 4) (L' := [rv 1, iv p1, iv p2, iv p1, iv (p1 + 1)]) rfl (by decide) (show decode cX11_hardest 31 = .ok (.istore 4, 2) by decide +kernel) ?_
          exact h
        · have h := h.2 c
          refine j_iconst (show decode cX11_hardest 24 = .ok (.iconst (-1), 1) by decide +kernel) ?_
          exact j_ret (rokI (show decode cX11_hardest 25 = .ok (.ireturn, 1) by decide +kernel) rfl) ⟨rfl, rfl, h⟩
theorem c_X11_hardest {d : Nat} {t : Int} {Q : Int → jM → Prop} {σ : jM} {p1 p2 : Int} (h : (inR p1) ∧ ((p1 < 1 → (Q (-1) σ)) ∧ (1 ≤ p1 → ((inR p2) ∧ ((120 < p2 → (Q (-1) σ)) ∧ (p2 ≤ 120 → ((inR p1) ∧ ((inR p2) ∧ ((p2 < p1 → (Q (-1) σ)) ∧ (p1 ≤ p2 → ((inR (p2 - p1)) ∧ (((p2 - p1) ≤ 20 → (Jt mX11_hardest (d + 1) 0 t Q 33 [rv 1, iv p1, iv p2, iv p1, iv (p1 + 1)] [] σ)) ∧ (20 < (p2 - p1) → (Q (-1) σ)))))))))))))) : Ct mX11_hardest (d + 1) 0 t [rv 1, iv p1, iv p2] σ Q := Ct_of (by decide +kernel) (Nat.le_of_ble_eq_true rfl) (b_X11_hardest_0 h)
set_option maxRecDepth 4000 in
theorem b_X11_cost_0 {d : Nat} {t : Int} {Q : Int → jM → Prop} {σ : jM} {p1 p2 p3 : Int} (h : (inR p1) ∧ ((p1 < 1 → (Q (-1) σ)) ∧ (1 ≤ p1 → ((inR p1) ∧ ((40 < p1 → (Q (-1) σ)) ∧ (p1 ≤ 40 → ((inR p2) ∧ ((p2 < 1 → (Q (-1) σ)) ∧ (1 ≤ p2 → ((inR p2) ∧ ((9 < p2 → (Q (-1) σ)) ∧ (p2 ≤ 9 → ((inR p3) ∧ ((p3 < 1 → (Q (-1) σ)) ∧ (1 ≤ p3 → ((inR p3) ∧ ((p3 ≤ 9 → (Ct mX5_least d 0 t [rv 286, iv p1, iv p2, iv p3] σ (fun r7 σ7 => (Q r7 σ7)))) ∧ (9 < p3 → (Q (-1) σ))))))))))))))))))) : Jt mX11_cost (d + 1) 0 t Q 0 [rv 1, iv p1, iv p2, iv p3] [] σ := by
  refine j_iload_n (i := 1) rfl (show decode cX11_cost 0 = .ok (.iload_n 1, 1) by decide +kernel) ?_
  refine j_iconst (show decode cX11_cost 1 = .ok (.iconst 1, 1) by decide +kernel) ?_
  have hr0 := h.1
  have h := h.2
  refine j_icmp_lt (tgt := 33) hr0 (inl (by decide)) (show decode cX11_cost 2 = .ok (.if_icmp .lt 31, 3) by decide +kernel) (by decide) (fun c => ?_) (fun c => ?_)
  · have h := h.1 c
    refine j_iconst (show decode cX11_cost 33 = .ok (.iconst (-1), 1) by decide +kernel) ?_
    exact j_ret (rokI (show decode cX11_cost 34 = .ok (.ireturn, 1) by decide +kernel) rfl) ⟨rfl, rfl, h⟩
  · have h := h.2 c
    refine j_iload_n (i := 1) rfl (show decode cX11_cost 5 = .ok (.iload_n 1, 1) by decide +kernel) ?_
    refine j_bipush (n := 40) (by decide +kernel) (show decode cX11_cost 6 = .ok (.bipush 40, 2) by decide +kernel) ?_
    have hr1 := h.1
    have h := h.2
    refine j_icmp_gt (tgt := 33) hr1 (inl (by decide)) (show decode cX11_cost 8 = .ok (.if_icmp .gt 25, 3) by decide +kernel) (by decide) (fun c => ?_) (fun c => ?_)
    · have h := h.1 c
      refine j_iconst (show decode cX11_cost 33 = .ok (.iconst (-1), 1) by decide +kernel) ?_
      exact j_ret (rokI (show decode cX11_cost 34 = .ok (.ireturn, 1) by decide +kernel) rfl) ⟨rfl, rfl, h⟩
    · have h := h.2 c
      refine j_iload_n (i := 2) rfl (show decode cX11_cost 11 = .ok (.iload_n 2, 1) by decide +kernel) ?_
      refine j_iconst (show decode cX11_cost 12 = .ok (.iconst 1, 1) by decide +kernel) ?_
      have hr2 := h.1
      have h := h.2
      refine j_icmp_lt (tgt := 33) hr2 (inl (by decide)) (show decode cX11_cost 13 = .ok (.if_icmp .lt 20, 3) by decide +kernel) (by decide) (fun c => ?_) (fun c => ?_)
      · have h := h.1 c
        refine j_iconst (show decode cX11_cost 33 = .ok (.iconst (-1), 1) by decide +kernel) ?_
        exact j_ret (rokI (show decode cX11_cost 34 = .ok (.ireturn, 1) by decide +kernel) rfl) ⟨rfl, rfl, h⟩
      · have h := h.2 c
        refine j_iload_n (i := 2) rfl (show decode cX11_cost 16 = .ok (.iload_n 2, 1) by decide +kernel) ?_
        refine j_bipush (n := 9) (by decide +kernel) (show decode cX11_cost 17 = .ok (.bipush 9, 2) by decide +kernel) ?_
        have hr3 := h.1
        have h := h.2
        refine j_icmp_gt (tgt := 33) hr3 (inl (by decide)) (show decode cX11_cost 19 = .ok (.if_icmp .gt 14, 3) by decide +kernel) (by decide) (fun c => ?_) (fun c => ?_)
        · have h := h.1 c
          refine j_iconst (show decode cX11_cost 33 = .ok (.iconst (-1), 1) by decide +kernel) ?_
          exact j_ret (rokI (show decode cX11_cost 34 = .ok (.ireturn, 1) by decide +kernel) rfl) ⟨rfl, rfl, h⟩
        · have h := h.2 c
          refine j_iload_n (i := 3) rfl (show decode cX11_cost 22 = .ok (.iload_n 3, 1) by decide +kernel) ?_
          refine j_iconst (show decode cX11_cost 23 = .ok (.iconst 1, 1) by decide +kernel) ?_
          have hr4 := h.1
          have h := h.2
          refine j_icmp_lt (tgt := 33) hr4 (inl (by decide)) (show decode cX11_cost 24 = .ok (.if_icmp .lt 9, 3) by decide +kernel) (by decide) (fun c => ?_) (fun c => ?_)
          · have h := h.1 c
            refine j_iconst (show decode cX11_cost 33 = .ok (.iconst (-1), 1) by decide +kernel) ?_
            exact j_ret (rokI (show decode cX11_cost 34 = .ok (.ireturn, 1) by decide +kernel) rfl) ⟨rfl, rfl, h⟩
          · have h := h.2 c
            refine j_iload_n (i := 3) rfl (show decode cX11_cost 27 = .ok (.iload_n 3, 1) by decide +kernel) ?_
            refine j_bipush (n := 9) (by decide +kernel) (show decode cX11_cost 28 = .ok (.bipush 9, 2) by decide +kernel) ?_
            have hr5 := h.1
            have h := h.2
            refine j_icmp_le (tgt := 35) hr5 (inl (by decide)) (show decode cX11_cost 30 = .ok (.if_icmp .le 5, 3) by decide +kernel) (by decide) (fun c => ?_) (fun c => ?_)
            · have h := h.1 c
              refine s_aload_n (i := 0) rfl (show decode cX11_cost 35 = .ok (.aload_n 0, 1) by decide +kernel) ?_
              refine gf_X11_56 (x := 286) rfl (show decode cX11_cost 36 = .ok (.getfield 56, 3) by decide +kernel) okl_1 rfl ?_
              refine j_iload_n (i := 1) rfl (show decode cX11_cost 39 = .ok (.iload_n 1, 1) by decide +kernel) ?_
              refine j_iload_n (i := 2) rfl (show decode cX11_cost 40 = .ok (.iload_n 2, 1) by decide +kernel) ?_
              refine j_iload_n (i := 3) rfl (show decode cX11_cost 41 = .ok (.iload_n 3, 1) by decide +kernel) ?_
              refine j_ctV (m' := mX5_least) (As := [iv p1, iv p2, iv p3]) (ci := 5) (tag := 0) (N := 0) (cw_X11_263 rfl) (show decode cX11_cost 42 = .ok (.invokevirtual 263, 3) by decide +kernel) rfl (Nat.le_of_ble_eq_true rfl) (by decide) okl_286 rfl rfl (Nat.le_refl _) h (fun r7 σ7 h => ?_)
              exact j_ret (rokI (show decode cX11_cost 45 = .ok (.ireturn, 1) by decide +kernel) rfl) ⟨rfl, rfl, h⟩
            · have h := h.2 c
              refine j_iconst (show decode cX11_cost 33 = .ok (.iconst (-1), 1) by decide +kernel) ?_
              exact j_ret (rokI (show decode cX11_cost 34 = .ok (.ireturn, 1) by decide +kernel) rfl) ⟨rfl, rfl, h⟩
theorem c_X11_cost {d : Nat} {t : Int} {Q : Int → jM → Prop} {σ : jM} {p1 p2 p3 : Int} (h : (inR p1) ∧ ((p1 < 1 → (Q (-1) σ)) ∧ (1 ≤ p1 → ((inR p1) ∧ ((40 < p1 → (Q (-1) σ)) ∧ (p1 ≤ 40 → ((inR p2) ∧ ((p2 < 1 → (Q (-1) σ)) ∧ (1 ≤ p2 → ((inR p2) ∧ ((9 < p2 → (Q (-1) σ)) ∧ (p2 ≤ 9 → ((inR p3) ∧ ((p3 < 1 → (Q (-1) σ)) ∧ (1 ≤ p3 → ((inR p3) ∧ ((p3 ≤ 9 → (Ct mX5_least d 0 t [rv 286, iv p1, iv p2, iv p3] σ (fun r7 σ7 => (Q r7 σ7)))) ∧ (9 < p3 → (Q (-1) σ))))))))))))))))))) : Ct mX11_cost (d + 1) 0 t [rv 1, iv p1, iv p2, iv p3] σ Q := Ct_of (by decide +kernel) (Nat.le_of_ble_eq_true rfl) (b_X11_cost_0 h)
set_option maxRecDepth 4000 in
theorem b_X11_few_0 {d : Nat} {t : Int} {Q : Int → jM → Prop} {σ : jM} {p1 p2 : Int} (h : (inR p1) ∧ ((p1 < 1 → (Q (-1) σ)) ∧ (1 ≤ p1 → ((inR p1) ∧ ((40 < p1 → (Q (-1) σ)) ∧ (p1 ≤ 40 → ((inR p2) ∧ ((p2 < 1 → (Q (-1) σ)) ∧ (1 ≤ p2 → ((inR p2) ∧ ((p2 ≤ 3 → (Ct mX0_joiningsOf d 0 t [rv 275, iv p1] σ (fun r5 σ5 => (Ct mX11_halves d 0 t [rv 1, iv p1] σ5 (fun r6 σ6 => (Ct mX4_joiningsOf d 0 t [rv 287, iv p1, iv p2, iv r5, iv r6] σ6 (fun r7 σ7 => (Q r7 σ7)))))))) ∧ (3 < p2 → (Q (-1) σ))))))))))))) : Jt mX11_few (d + 1) 0 t Q 0 [rv 1, iv p1, iv p2] [] σ := by
  refine j_iload_n (i := 1) rfl (show decode cX11_few 0 = .ok (.iload_n 1, 1) by decide +kernel) ?_
  refine j_iconst (show decode cX11_few 1 = .ok (.iconst 1, 1) by decide +kernel) ?_
  have hr0 := h.1
  have h := h.2
  refine j_icmp_lt (tgt := 21) hr0 (inl (by decide)) (show decode cX11_few 2 = .ok (.if_icmp .lt 19, 3) by decide +kernel) (by decide) (fun c => ?_) (fun c => ?_)
  · have h := h.1 c
    refine j_iconst (show decode cX11_few 21 = .ok (.iconst (-1), 1) by decide +kernel) ?_
    exact j_ret (rokI (show decode cX11_few 22 = .ok (.ireturn, 1) by decide +kernel) rfl) ⟨rfl, rfl, h⟩
  · have h := h.2 c
    refine j_iload_n (i := 1) rfl (show decode cX11_few 5 = .ok (.iload_n 1, 1) by decide +kernel) ?_
    refine j_bipush (n := 40) (by decide +kernel) (show decode cX11_few 6 = .ok (.bipush 40, 2) by decide +kernel) ?_
    have hr1 := h.1
    have h := h.2
    refine j_icmp_gt (tgt := 21) hr1 (inl (by decide)) (show decode cX11_few 8 = .ok (.if_icmp .gt 13, 3) by decide +kernel) (by decide) (fun c => ?_) (fun c => ?_)
    · have h := h.1 c
      refine j_iconst (show decode cX11_few 21 = .ok (.iconst (-1), 1) by decide +kernel) ?_
      exact j_ret (rokI (show decode cX11_few 22 = .ok (.ireturn, 1) by decide +kernel) rfl) ⟨rfl, rfl, h⟩
    · have h := h.2 c
      refine j_iload_n (i := 2) rfl (show decode cX11_few 11 = .ok (.iload_n 2, 1) by decide +kernel) ?_
      refine j_iconst (show decode cX11_few 12 = .ok (.iconst 1, 1) by decide +kernel) ?_
      have hr2 := h.1
      have h := h.2
      refine j_icmp_lt (tgt := 21) hr2 (inl (by decide)) (show decode cX11_few 13 = .ok (.if_icmp .lt 8, 3) by decide +kernel) (by decide) (fun c => ?_) (fun c => ?_)
      · have h := h.1 c
        refine j_iconst (show decode cX11_few 21 = .ok (.iconst (-1), 1) by decide +kernel) ?_
        exact j_ret (rokI (show decode cX11_few 22 = .ok (.ireturn, 1) by decide +kernel) rfl) ⟨rfl, rfl, h⟩
      · have h := h.2 c
        refine j_iload_n (i := 2) rfl (show decode cX11_few 16 = .ok (.iload_n 2, 1) by decide +kernel) ?_
        refine j_iconst (show decode cX11_few 17 = .ok (.iconst 3, 1) by decide +kernel) ?_
        have hr3 := h.1
        have h := h.2
        refine j_icmp_le (tgt := 23) hr3 (inl (by decide)) (show decode cX11_few 18 = .ok (.if_icmp .le 5, 3) by decide +kernel) (by decide) (fun c => ?_) (fun c => ?_)
        · have h := h.1 c
          refine s_aload_n (i := 0) rfl (show decode cX11_few 23 = .ok (.aload_n 0, 1) by decide +kernel) ?_
          refine gf_X11_63 (x := 287) rfl (show decode cX11_few 24 = .ok (.getfield 63, 3) by decide +kernel) okl_1 rfl ?_
          refine j_iload_n (i := 1) rfl (show decode cX11_few 27 = .ok (.iload_n 1, 1) by decide +kernel) ?_
          refine j_iload_n (i := 2) rfl (show decode cX11_few 28 = .ok (.iload_n 2, 1) by decide +kernel) ?_
          refine s_aload_n (i := 0) rfl (show decode cX11_few 29 = .ok (.aload_n 0, 1) by decide +kernel) ?_
          refine gf_X11_49 (x := 275) rfl (show decode cX11_few 30 = .ok (.getfield 49, 3) by decide +kernel) okl_1 rfl ?_
          refine j_iload_n (i := 1) rfl (show decode cX11_few 33 = .ok (.iload_n 1, 1) by decide +kernel) ?_
          refine j_ctV (m' := mX0_joiningsOf) (As := [iv p1]) (ci := 0) (tag := 0) (N := 0) (cw_X11_189 rfl) (show decode cX11_few 34 = .ok (.invokevirtual 189, 3) by decide +kernel) rfl (Nat.le_of_ble_eq_true rfl) (by decide) okl_275 rfl rfl (Nat.le_refl _) h (fun r5 σ5 h => ?_)
          refine s_aload_n (i := 0) rfl (show decode cX11_few 37 = .ok (.aload_n 0, 1) by decide +kernel) ?_
          refine j_iload_n (i := 1) rfl (show decode cX11_few 38 = .ok (.iload_n 1, 1) by decide +kernel) ?_
          refine j_ctV (m' := mX11_halves) (As := [iv p1]) (ci := 11) (tag := 0) (N := 0) (cw_X11_267 rfl) (show decode cX11_few 39 = .ok (.invokevirtual 267, 3) by decide +kernel) rfl (Nat.le_of_ble_eq_true rfl) (by decide) okl_1 rfl rfl (Nat.le_refl _) h (fun r6 σ6 h => ?_)
          refine j_ctV (m' := mX4_joiningsOf) (As := [iv p1, iv p2, iv r5, iv r6]) (ci := 4) (tag := 0) (N := 0) (cw_X11_270 rfl) (show decode cX11_few 42 = .ok (.invokevirtual 270, 3) by decide +kernel) rfl (Nat.le_of_ble_eq_true rfl) (by decide) okl_287 rfl rfl (Nat.le_refl _) h (fun r7 σ7 h => ?_)
          exact j_ret (rokI (show decode cX11_few 45 = .ok (.ireturn, 1) by decide +kernel) rfl) ⟨rfl, rfl, h⟩
        · have h := h.2 c
          refine j_iconst (show decode cX11_few 21 = .ok (.iconst (-1), 1) by decide +kernel) ?_
          exact j_ret (rokI (show decode cX11_few 22 = .ok (.ireturn, 1) by decide +kernel) rfl) ⟨rfl, rfl, h⟩
theorem c_X11_few {d : Nat} {t : Int} {Q : Int → jM → Prop} {σ : jM} {p1 p2 : Int} (h : (inR p1) ∧ ((p1 < 1 → (Q (-1) σ)) ∧ (1 ≤ p1 → ((inR p1) ∧ ((40 < p1 → (Q (-1) σ)) ∧ (p1 ≤ 40 → ((inR p2) ∧ ((p2 < 1 → (Q (-1) σ)) ∧ (1 ≤ p2 → ((inR p2) ∧ ((p2 ≤ 3 → (Ct mX0_joiningsOf d 0 t [rv 275, iv p1] σ (fun r5 σ5 => (Ct mX11_halves d 0 t [rv 1, iv p1] σ5 (fun r6 σ6 => (Ct mX4_joiningsOf d 0 t [rv 287, iv p1, iv p2, iv r5, iv r6] σ6 (fun r7 σ7 => (Q r7 σ7)))))))) ∧ (3 < p2 → (Q (-1) σ))))))))))))) : Ct mX11_few (d + 1) 0 t [rv 1, iv p1, iv p2] σ Q := Ct_of (by decide +kernel) (Nat.le_of_ble_eq_true rfl) (b_X11_few_0 h)
set_option maxRecDepth 4000 in
theorem b_X11_spoons_0 {d : Nat} {t : Int} {Q : Int → jM → Prop} {σ : jM} {p1 : Int} (h : (inR p1) ∧ ((p1 < 1 → (Q (-1) σ)) ∧ (1 ≤ p1 → ((inR p1) ∧ ((p1 ≤ 40 → (Ct mX6_fewestOf d 0 t [rv 290, iv p1] σ (fun r3 σ3 => (Q r3 σ3)))) ∧ (40 < p1 → (Q (-1) σ))))))) : Jt mX11_spoons (d + 1) 0 t Q 0 [rv 1, iv p1] [] σ := by
  refine j_iload_n (i := 1) rfl (show decode cX11_spoons 0 = .ok (.iload_n 1, 1) by decide +kernel) ?_
  refine j_iconst (show decode cX11_spoons 1 = .ok (.iconst 1, 1) by decide +kernel) ?_
  have hr0 := h.1
  have h := h.2
  refine j_icmp_lt (tgt := 11) hr0 (inl (by decide)) (show decode cX11_spoons 2 = .ok (.if_icmp .lt 9, 3) by decide +kernel) (by decide) (fun c => ?_) (fun c => ?_)
  · have h := h.1 c
    refine j_iconst (show decode cX11_spoons 11 = .ok (.iconst (-1), 1) by decide +kernel) ?_
    exact j_ret (rokI (show decode cX11_spoons 12 = .ok (.ireturn, 1) by decide +kernel) rfl) ⟨rfl, rfl, h⟩
  · have h := h.2 c
    refine j_iload_n (i := 1) rfl (show decode cX11_spoons 5 = .ok (.iload_n 1, 1) by decide +kernel) ?_
    refine j_bipush (n := 40) (by decide +kernel) (show decode cX11_spoons 6 = .ok (.bipush 40, 2) by decide +kernel) ?_
    have hr1 := h.1
    have h := h.2
    refine j_icmp_le (tgt := 13) hr1 (inl (by decide)) (show decode cX11_spoons 8 = .ok (.if_icmp .le 5, 3) by decide +kernel) (by decide) (fun c => ?_) (fun c => ?_)
    · have h := h.1 c
      refine s_aload_n (i := 0) rfl (show decode cX11_spoons 13 = .ok (.aload_n 0, 1) by decide +kernel) ?_
      refine gf_X11_70 (x := 290) rfl (show decode cX11_spoons 14 = .ok (.getfield 70, 3) by decide +kernel) okl_1 rfl ?_
      refine j_iload_n (i := 1) rfl (show decode cX11_spoons 17 = .ok (.iload_n 1, 1) by decide +kernel) ?_
      refine j_ctV (m' := mX6_fewestOf) (As := [iv p1]) (ci := 6) (tag := 0) (N := 0) (cw_X11_273 rfl) (show decode cX11_spoons 18 = .ok (.invokevirtual 273, 3) by decide +kernel) rfl (Nat.le_of_ble_eq_true rfl) (by decide) okl_290 rfl rfl (Nat.le_refl _) h (fun r3 σ3 h => ?_)
      exact j_ret (rokI (show decode cX11_spoons 21 = .ok (.ireturn, 1) by decide +kernel) rfl) ⟨rfl, rfl, h⟩
    · have h := h.2 c
      refine j_iconst (show decode cX11_spoons 11 = .ok (.iconst (-1), 1) by decide +kernel) ?_
      exact j_ret (rokI (show decode cX11_spoons 12 = .ok (.ireturn, 1) by decide +kernel) rfl) ⟨rfl, rfl, h⟩
theorem c_X11_spoons {d : Nat} {t : Int} {Q : Int → jM → Prop} {σ : jM} {p1 : Int} (h : (inR p1) ∧ ((p1 < 1 → (Q (-1) σ)) ∧ (1 ≤ p1 → ((inR p1) ∧ ((p1 ≤ 40 → (Ct mX6_fewestOf d 0 t [rv 290, iv p1] σ (fun r3 σ3 => (Q r3 σ3)))) ∧ (40 < p1 → (Q (-1) σ))))))) : Ct mX11_spoons (d + 1) 0 t [rv 1, iv p1] σ Q := Ct_of (by decide +kernel) (Nat.le_of_ble_eq_true rfl) (b_X11_spoons_0 h)
set_option maxRecDepth 4000 in
theorem b_X11_both_0 {d : Nat} {t : Int} {Q : Int → jM → Prop} {σ : jM} {p1 p2 : Int} (h : (inR p1) ∧ ((p1 < 0 → (Q (-1) σ)) ∧ (0 ≤ p1 → ((inR p1) ∧ ((9 < p1 → (Q (-1) σ)) ∧ (p1 ≤ 9 → ((inR p2) ∧ ((p2 < 0 → (Q (-1) σ)) ∧ (0 ≤ p2 → ((inR p2) ∧ ((9 < p2 → (Q (-1) σ)) ∧ (p2 ≤ 9 → ((inR (p1 + p2)) ∧ ((¬ (p1 + p2) = 0 → ((inR p1) ∧ ((p1 = 0 → (Ct mX0_joiningsOf d 0 t [rv 275, iv (p1 + p2)] σ (fun r7 σ7 => (Q r7 σ7)))) ∧ (¬ p1 = 0 → ((inR p2) ∧ ((¬ p2 = 0 → (Ct mX0_joiningsOfBoth d 0 t [rv 275, iv p1, iv p2] σ (fun r9 σ9 => (Q (r9 + 1) σ9)))) ∧ (p2 = 0 → (Ct mX0_joiningsOf d 0 t [rv 275, iv (p1 + p2)] σ (fun r10 σ10 => (Q r10 σ10)))))))))) ∧ ((p1 + p2) = 0 → (Q (-1) σ)))))))))))))))) : Jt mX11_both (d + 1) 0 t Q 0 [rv 1, iv p1, iv p2] [] σ := by
  refine j_iload_n (i := 1) rfl (show decode cX11_both 0 = .ok (.iload_n 1, 1) by decide +kernel) ?_
  have hr0 := h.1
  have h := h.2
  refine j_if_lt (tgt := 26) hr0 (show decode cX11_both 1 = .ok (.ifCond .lt 25, 3) by decide +kernel) (by decide) (fun c => ?_) (fun c => ?_)
  · have h := h.1 c
    refine j_iconst (show decode cX11_both 26 = .ok (.iconst (-1), 1) by decide +kernel) ?_
    exact j_ret (rokI (show decode cX11_both 27 = .ok (.ireturn, 1) by decide +kernel) rfl) ⟨rfl, rfl, h⟩
  · have h := h.2 c
    refine j_iload_n (i := 1) rfl (show decode cX11_both 4 = .ok (.iload_n 1, 1) by decide +kernel) ?_
    refine j_bipush (n := 9) (by decide +kernel) (show decode cX11_both 5 = .ok (.bipush 9, 2) by decide +kernel) ?_
    have hr1 := h.1
    have h := h.2
    refine j_icmp_gt (tgt := 26) hr1 (inl (by decide)) (show decode cX11_both 7 = .ok (.if_icmp .gt 19, 3) by decide +kernel) (by decide) (fun c => ?_) (fun c => ?_)
    · have h := h.1 c
      refine j_iconst (show decode cX11_both 26 = .ok (.iconst (-1), 1) by decide +kernel) ?_
      exact j_ret (rokI (show decode cX11_both 27 = .ok (.ireturn, 1) by decide +kernel) rfl) ⟨rfl, rfl, h⟩
    · have h := h.2 c
      refine j_iload_n (i := 2) rfl (show decode cX11_both 10 = .ok (.iload_n 2, 1) by decide +kernel) ?_
      have hr2 := h.1
      have h := h.2
      refine j_if_lt (tgt := 26) hr2 (show decode cX11_both 11 = .ok (.ifCond .lt 15, 3) by decide +kernel) (by decide) (fun c => ?_) (fun c => ?_)
      · have h := h.1 c
        refine j_iconst (show decode cX11_both 26 = .ok (.iconst (-1), 1) by decide +kernel) ?_
        exact j_ret (rokI (show decode cX11_both 27 = .ok (.ireturn, 1) by decide +kernel) rfl) ⟨rfl, rfl, h⟩
      · have h := h.2 c
        refine j_iload_n (i := 2) rfl (show decode cX11_both 14 = .ok (.iload_n 2, 1) by decide +kernel) ?_
        refine j_bipush (n := 9) (by decide +kernel) (show decode cX11_both 15 = .ok (.bipush 9, 2) by decide +kernel) ?_
        have hr3 := h.1
        have h := h.2
        refine j_icmp_gt (tgt := 26) hr3 (inl (by decide)) (show decode cX11_both 17 = .ok (.if_icmp .gt 9, 3) by decide +kernel) (by decide) (fun c => ?_) (fun c => ?_)
        · have h := h.1 c
          refine j_iconst (show decode cX11_both 26 = .ok (.iconst (-1), 1) by decide +kernel) ?_
          exact j_ret (rokI (show decode cX11_both 27 = .ok (.ireturn, 1) by decide +kernel) rfl) ⟨rfl, rfl, h⟩
        · have h := h.2 c
          refine j_iload_n (i := 1) rfl (show decode cX11_both 20 = .ok (.iload_n 1, 1) by decide +kernel) ?_
          refine j_iload_n (i := 2) rfl (show decode cX11_both 21 = .ok (.iload_n 2, 1) by decide +kernel) ?_
          refine j_iadd (show decode cX11_both 22 = .ok (.iadd, 1) by decide +kernel) ?_
          have hr4 := h.1
          have h := h.2
          refine j_if_ne (tgt := 28) hr4 (show decode cX11_both 23 = .ok (.ifCond .ne 5, 3) by decide +kernel) (by decide) (fun c => ?_) (fun c => ?_)
          · have h := h.1 c
            refine j_iload_n (i := 1) rfl (show decode cX11_both 28 = .ok (.iload_n 1, 1) by decide +kernel) ?_
            have hr5 := h.1
            have h := h.2
            refine j_if_eq (tgt := 36) hr5 (show decode cX11_both 29 = .ok (.ifCond .eq 7, 3) by decide +kernel) (by decide) (fun c => ?_) (fun c => ?_)
            · have h := h.1 c
              refine s_aload_n (i := 0) rfl (show decode cX11_both 36 = .ok (.aload_n 0, 1) by decide +kernel) ?_
              refine gf_X11_49 (x := 275) rfl (show decode cX11_both 37 = .ok (.getfield 49, 3) by decide +kernel) okl_1 rfl ?_
              refine j_iload_n (i := 1) rfl (show decode cX11_both 40 = .ok (.iload_n 1, 1) by decide +kernel) ?_
              refine j_iload_n (i := 2) rfl (show decode cX11_both 41 = .ok (.iload_n 2, 1) by decide +kernel) ?_
              refine j_iadd (show decode cX11_both 42 = .ok (.iadd, 1) by decide +kernel) ?_
              refine j_ctV (m' := mX0_joiningsOf) (As := [iv (p1 + p2)]) (ci := 0) (tag := 0) (N := 0) (cw_X11_189 rfl) (show decode cX11_both 43 = .ok (.invokevirtual 189, 3) by decide +kernel) rfl (Nat.le_of_ble_eq_true rfl) (by decide) okl_275 rfl rfl (Nat.le_refl _) h (fun r7 σ7 h => ?_)
              exact j_ret (rokI (show decode cX11_both 46 = .ok (.ireturn, 1) by decide +kernel) rfl) ⟨rfl, rfl, h⟩
            · have h := h.2 c
              refine j_iload_n (i := 2) rfl (show decode cX11_both 32 = .ok (.iload_n 2, 1) by decide +kernel) ?_
              have hr7 := h.1
              have h := h.2
              refine j_if_ne (tgt := 47) hr7 (show decode cX11_both 33 = .ok (.ifCond .ne 14, 3) by decide +kernel) (by decide) (fun c => ?_) (fun c => ?_)
              · have h := h.1 c
                refine s_aload_n (i := 0) rfl (show decode cX11_both 47 = .ok (.aload_n 0, 1) by decide +kernel) ?_
                refine gf_X11_49 (x := 275) rfl (show decode cX11_both 48 = .ok (.getfield 49, 3) by decide +kernel) okl_1 rfl ?_
                refine j_iload_n (i := 1) rfl (show decode cX11_both 51 = .ok (.iload_n 1, 1) by decide +kernel) ?_
                refine j_iload_n (i := 2) rfl (show decode cX11_both 52 = .ok (.iload_n 2, 1) by decide +kernel) ?_
                refine j_ctV (m' := mX0_joiningsOfBoth) (As := [iv p1, iv p2]) (ci := 0) (tag := 0) (N := 0) (cw_X11_276 rfl) (show decode cX11_both 53 = .ok (.invokevirtual 276, 3) by decide +kernel) rfl (Nat.le_of_ble_eq_true rfl) (by decide) okl_275 rfl rfl (Nat.le_refl _) h (fun r9 σ9 h => ?_)
                refine j_iconst (show decode cX11_both 56 = .ok (.iconst 1, 1) by decide +kernel) ?_
                refine j_iadd (show decode cX11_both 57 = .ok (.iadd, 1) by decide +kernel) ?_
                exact j_ret (rokI (show decode cX11_both 58 = .ok (.ireturn, 1) by decide +kernel) rfl) ⟨rfl, rfl, h⟩
              · have h := h.2 c
                refine s_aload_n (i := 0) rfl (show decode cX11_both 36 = .ok (.aload_n 0, 1) by decide +kernel) ?_
                refine gf_X11_49 (x := 275) rfl (show decode cX11_both 37 = .ok (.getfield 49, 3) by decide +kernel) okl_1 rfl ?_
                refine j_iload_n (i := 1) rfl (show decode cX11_both 40 = .ok (.iload_n 1, 1) by decide +kernel) ?_
                refine j_iload_n (i := 2) rfl (show decode cX11_both 41 = .ok (.iload_n 2, 1) by decide +kernel) ?_
                refine j_iadd (show decode cX11_both 42 = .ok (.iadd, 1) by decide +kernel) ?_
                refine j_ctV (m' := mX0_joiningsOf) (As := [iv (p1 + p2)]) (ci := 0) (tag := 0) (N := 0) (cw_X11_189 rfl) (show decode cX11_both 43 = .ok (.invokevirtual 189, 3) by decide +kernel) rfl (Nat.le_of_ble_eq_true rfl) (by decide) okl_275 rfl rfl (Nat.le_refl _) h (fun r10 σ10 h => ?_)
                exact j_ret (rokI (show decode cX11_both 46 = .ok (.ireturn, 1) by decide +kernel) rfl) ⟨rfl, rfl, h⟩
          · have h := h.2 c
            refine j_iconst (show decode cX11_both 26 = .ok (.iconst (-1), 1) by decide +kernel) ?_
            exact j_ret (rokI (show decode cX11_both 27 = .ok (.ireturn, 1) by decide +kernel) rfl) ⟨rfl, rfl, h⟩
theorem c_X11_both {d : Nat} {t : Int} {Q : Int → jM → Prop} {σ : jM} {p1 p2 : Int} (h : (inR p1) ∧ ((p1 < 0 → (Q (-1) σ)) ∧ (0 ≤ p1 → ((inR p1) ∧ ((9 < p1 → (Q (-1) σ)) ∧ (p1 ≤ 9 → ((inR p2) ∧ ((p2 < 0 → (Q (-1) σ)) ∧ (0 ≤ p2 → ((inR p2) ∧ ((9 < p2 → (Q (-1) σ)) ∧ (p2 ≤ 9 → ((inR (p1 + p2)) ∧ ((¬ (p1 + p2) = 0 → ((inR p1) ∧ ((p1 = 0 → (Ct mX0_joiningsOf d 0 t [rv 275, iv (p1 + p2)] σ (fun r7 σ7 => (Q r7 σ7)))) ∧ (¬ p1 = 0 → ((inR p2) ∧ ((¬ p2 = 0 → (Ct mX0_joiningsOfBoth d 0 t [rv 275, iv p1, iv p2] σ (fun r9 σ9 => (Q (r9 + 1) σ9)))) ∧ (p2 = 0 → (Ct mX0_joiningsOf d 0 t [rv 275, iv (p1 + p2)] σ (fun r10 σ10 => (Q r10 σ10)))))))))) ∧ ((p1 + p2) = 0 → (Q (-1) σ)))))))))))))))) : Ct mX11_both (d + 1) 0 t [rv 1, iv p1, iv p2] σ Q := Ct_of (by decide +kernel) (Nat.le_of_ble_eq_true rfl) (b_X11_both_0 h)
set_option maxRecDepth 4000 in
theorem b_X11_order_0 {d : Nat} {t : Int} {Q : Int → jM → Prop} {σ : jM} {p1 : Int} (h : (inR p1) ∧ ((¬ p1 = (-1) → ((inR p1) ∧ ((p1 < 1 → (Q (-2) σ)) ∧ (1 ≤ p1 → ((inR p1) ∧ ((40 < p1 → (Q (-2) σ)) ∧ (p1 ≤ 40 → ((inR (σ 2 8)) ∧ (((σ 2 8) < 4 → (((0 : Int) ≤ (σ 2 8) ∧ (σ 2 8) < 4) ∧ (∀ σ6 : jM, σ6 = up σ 131 (σ 2 8) p1 → (∀ σ7 : jM, σ7 = up σ6 2 8 ((σ6 2 8) + 1) → (Q (σ7 2 8) σ7))))) ∧ (4 ≤ (σ 2 8) → (Q (-2) σ))))))))))) ∧ (p1 = (-1) → (∀ σ8 : jM, σ8 = up σ 2 8 0 → (Q 0 σ8))))) : Jt mX11_order (d) 0 t Q 0 [rv 1, iv p1] [] σ := by
  refine j_iload_n (i := 1) rfl (show decode cX11_order 0 = .ok (.iload_n 1, 1) by decide +kernel) ?_
  refine j_iconst (show decode cX11_order 1 = .ok (.iconst (-1), 1) by decide +kernel) ?_
  have hr0 := h.1
  have h := h.2
  refine j_icmp_ne (tgt := 15) hr0 (inl (by decide)) (show decode cX11_order 2 = .ok (.if_icmp .ne 13, 3) by decide +kernel) (by decide) (fun c => ?_) (fun c => ?_)
  · have h := h.1 c
    refine j_iload_n (i := 1) rfl (show decode cX11_order 15 = .ok (.iload_n 1, 1) by decide +kernel) ?_
    refine j_iconst (show decode cX11_order 16 = .ok (.iconst 1, 1) by decide +kernel) ?_
    have hr1 := h.1
    have h := h.2
    refine j_icmp_lt (tgt := 37) hr1 (inl (by decide)) (show decode cX11_order 17 = .ok (.if_icmp .lt 20, 3) by decide +kernel) (by decide) (fun c => ?_) (fun c => ?_)
    · have h := h.1 c
      refine j_bipush (n := -2) (by decide +kernel) (show decode cX11_order 37 = .ok (.bipush (-2), 2) by decide +kernel) ?_
      exact j_ret (rokI (show decode cX11_order 39 = .ok (.ireturn, 1) by decide +kernel) rfl) ⟨rfl, rfl, h⟩
    · have h := h.2 c
      refine j_iload_n (i := 1) rfl (show decode cX11_order 20 = .ok (.iload_n 1, 1) by decide +kernel) ?_
      refine j_bipush (n := 40) (by decide +kernel) (show decode cX11_order 21 = .ok (.bipush 40, 2) by decide +kernel) ?_
      have hr2 := h.1
      have h := h.2
      refine j_icmp_gt (tgt := 37) hr2 (inl (by decide)) (show decode cX11_order 23 = .ok (.if_icmp .gt 14, 3) by decide +kernel) (by decide) (fun c => ?_) (fun c => ?_)
      · have h := h.1 c
        refine j_bipush (n := -2) (by decide +kernel) (show decode cX11_order 37 = .ok (.bipush (-2), 2) by decide +kernel) ?_
        exact j_ret (rokI (show decode cX11_order 39 = .ok (.ireturn, 1) by decide +kernel) rfl) ⟨rfl, rfl, h⟩
      · have h := h.2 c
        refine s_aload_n (i := 0) rfl (show decode cX11_order 26 = .ok (.aload_n 0, 1) by decide +kernel) ?_
        refine gf_X11_10 (x := 2) rfl (show decode cX11_order 27 = .ok (.getfield 10, 3) by decide +kernel) okl_1 rfl ?_
        refine gf_X11_279 rfl (show decode cX11_order 30 = .ok (.getfield 279, 3) by decide +kernel) okl_2 ?_
        refine j_iconst (show decode cX11_order 33 = .ok (.iconst 4, 1) by decide +kernel) ?_
        have hr3 := h.1
        have h := h.2
        refine j_icmp_lt (tgt := 40) hr3 (inl (by decide)) (show decode cX11_order 34 = .ok (.if_icmp .lt 6, 3) by decide +kernel) (by decide) (fun c => ?_) (fun c => ?_)
        · have h := h.1 c
          refine s_aload_n (i := 0) rfl (show decode cX11_order 40 = .ok (.aload_n 0, 1) by decide +kernel) ?_
          refine gf_X11_10 (x := 2) rfl (show decode cX11_order 41 = .ok (.getfield 10, 3) by decide +kernel) okl_1 rfl ?_
          refine gf_X11_282 (x := 131) rfl (show decode cX11_order 44 = .ok (.getfield 282, 3) by decide +kernel) okl_2 (gr_10_3 okl_2) ?_
          refine s_aload_n (i := 0) rfl (show decode cX11_order 47 = .ok (.aload_n 0, 1) by decide +kernel) ?_
          refine gf_X11_10 (x := 2) rfl (show decode cX11_order 48 = .ok (.getfield 10, 3) by decide +kernel) okl_1 rfl ?_
          refine gf_X11_279 rfl (show decode cX11_order 51 = .ok (.getfield 279, 3) by decide +kernel) okl_2 ?_
          refine j_iload_n (i := 1) rfl (show decode cX11_order 54 = .ok (.iload_n 1, 1) by decide +kernel) ?_
          have hb4 := h.1
          have h := h.2
          refine s_iast (show decode cX11_order 55 = .ok (.iastore, 1) by decide +kernel) okl_131 hb4 ?_
          obtain ⟨σ6, eσ6⟩ : ∃ z : jM, z = up σ 131 (σ 2 8) p1 := ⟨_, rfl⟩
          refine j_sig eσ6 ?_
          have h := h σ6 eσ6
          refine s_aload_n (i := 0) rfl (show decode cX11_order 56 = .ok (.aload_n 0, 1) by decide +kernel) ?_
          refine gf_X11_10 (x := 2) rfl (show decode cX11_order 57 = .ok (.getfield 10, 3) by decide +kernel) okl_1 rfl ?_
          refine j_dup (show (2 : Nat) ≠ 1 by decide) (show decode cX11_order 60 = .ok (.dup, 1) by decide +kernel) ?_
          refine gf_X11_279 rfl (show decode cX11_order 61 = .ok (.getfield 279, 3) by decide +kernel) okl_2 ?_
          refine j_iconst (show decode cX11_order 64 = .ok (.iconst 1, 1) by decide +kernel) ?_
          refine j_iadd (show decode cX11_order 65 = .ok (.iadd, 1) by decide +kernel) ?_
          refine pf_X11_279 rfl (show decode cX11_order 66 = .ok (.putfield 279, 3) by decide +kernel) okl_2 ?_
          obtain ⟨σ7, eσ7⟩ : ∃ z : jM, z = up σ6 2 8 ((σ6 2 8) + 1) := ⟨_, rfl⟩
          refine j_sig eσ7 ?_
          have h := h σ7 eσ7
          refine s_aload_n (i := 0) rfl (show decode cX11_order 69 = .ok (.aload_n 0, 1) by decide +kernel) ?_
          refine gf_X11_10 (x := 2) rfl (show decode cX11_order 70 = .ok (.getfield 10, 3) by decide +kernel) okl_1 rfl ?_
          refine gf_X11_279 rfl (show decode cX11_order 73 = .ok (.getfield 279, 3) by decide +kernel) okl_2 ?_
          exact j_ret (rokI (show decode cX11_order 76 = .ok (.ireturn, 1) by decide +kernel) rfl) ⟨rfl, rfl, h⟩
        · have h := h.2 c
          refine j_bipush (n := -2) (by decide +kernel) (show decode cX11_order 37 = .ok (.bipush (-2), 2) by decide +kernel) ?_
          exact j_ret (rokI (show decode cX11_order 39 = .ok (.ireturn, 1) by decide +kernel) rfl) ⟨rfl, rfl, h⟩
  · have h := h.2 c
    refine s_aload_n (i := 0) rfl (show decode cX11_order 5 = .ok (.aload_n 0, 1) by decide +kernel) ?_
    refine gf_X11_10 (x := 2) rfl (show decode cX11_order 6 = .ok (.getfield 10, 3) by decide +kernel) okl_1 rfl ?_
    refine j_iconst (show decode cX11_order 9 = .ok (.iconst 0, 1) by decide +kernel) ?_
    refine pf_X11_279 rfl (show decode cX11_order 10 = .ok (.putfield 279, 3) by decide +kernel) okl_2 ?_
    obtain ⟨σ8, eσ8⟩ : ∃ z : jM, z = up σ 2 8 0 := ⟨_, rfl⟩
    refine j_sig eσ8 ?_
    have h := h σ8 eσ8
    refine j_iconst (show decode cX11_order 13 = .ok (.iconst 0, 1) by decide +kernel) ?_
    exact j_ret (rokI (show decode cX11_order 14 = .ok (.ireturn, 1) by decide +kernel) rfl) ⟨rfl, rfl, h⟩
theorem c_X11_order {d : Nat} {t : Int} {Q : Int → jM → Prop} {σ : jM} {p1 : Int} (h : (inR p1) ∧ ((¬ p1 = (-1) → ((inR p1) ∧ ((p1 < 1 → (Q (-2) σ)) ∧ (1 ≤ p1 → ((inR p1) ∧ ((40 < p1 → (Q (-2) σ)) ∧ (p1 ≤ 40 → ((inR (σ 2 8)) ∧ (((σ 2 8) < 4 → (((0 : Int) ≤ (σ 2 8) ∧ (σ 2 8) < 4) ∧ (∀ σ6 : jM, σ6 = up σ 131 (σ 2 8) p1 → (∀ σ7 : jM, σ7 = up σ6 2 8 ((σ6 2 8) + 1) → (Q (σ7 2 8) σ7))))) ∧ (4 ≤ (σ 2 8) → (Q (-2) σ))))))))))) ∧ (p1 = (-1) → (∀ σ8 : jM, σ8 = up σ 2 8 0 → (Q 0 σ8))))) : Ct mX11_order (d) 0 t [rv 1, iv p1] σ Q := Ct_of (by decide +kernel) (Nat.le_of_ble_eq_true rfl) (b_X11_order_0 h)
set_option maxRecDepth 4000 in
theorem b_X11_made_0 {d : Nat} {t : Int} {Q : Int → jM → Prop} {σ : jM} {p1 : Int} (h : (inR p1) ∧ (((-1) ≤ p1 → (Ct mX0_fulfil d 9 t [rv 275, rv 131, iv (σ 2 8)] σ (fun r2 σ2 => ((inR p1) ∧ ((¬ p1 = (-1) → ((inR p1) ∧ ((inR (σ2 275 13)) ∧ (((σ2 275 13) ≤ p1 → (Q (-2) σ2)) ∧ (p1 < (σ2 275 13) → (((0 : Int) ≤ p1 ∧ p1 < 24) ∧ (Q (σ2 285 p1) σ2))))))) ∧ (p1 = (-1) → (Q ((σ2 275 13) - 1) σ2))))))) ∧ (p1 < (-1) → (Q (-2) σ)))) : Jt mX11_made (d + 1) 0 t Q 0 [rv 1, iv p1] [] σ := by
  refine j_iload_n (i := 1) rfl (show decode cX11_made 0 = .ok (.iload_n 1, 1) by decide +kernel) ?_
  refine j_iconst (show decode cX11_made 1 = .ok (.iconst (-1), 1) by decide +kernel) ?_
  have hr0 := h.1
  have h := h.2
  refine j_icmp_ge (tgt := 8) hr0 (inl (by decide)) (show decode cX11_made 2 = .ok (.if_icmp .ge 6, 3) by decide +kernel) (by decide) (fun c => ?_) (fun c => ?_)
  · have h := h.1 c
    refine s_aload_n (i := 0) rfl (show decode cX11_made 8 = .ok (.aload_n 0, 1) by decide +kernel) ?_
    refine gf_X11_49 (x := 275) rfl (show decode cX11_made 9 = .ok (.getfield 49, 3) by decide +kernel) okl_1 rfl ?_
    refine s_aload_n (i := 0) rfl (show decode cX11_made 12 = .ok (.aload_n 0, 1) by decide +kernel) ?_
    refine gf_X11_10 (x := 2) rfl (show decode cX11_made 13 = .ok (.getfield 10, 3) by decide +kernel) okl_1 rfl ?_
    refine gf_X11_282 (x := 131) rfl (show decode cX11_made 16 = .ok (.getfield 282, 3) by decide +kernel) okl_2 (gr_10_3 okl_2) ?_
    refine s_aload_n (i := 0) rfl (show decode cX11_made 19 = .ok (.aload_n 0, 1) by decide +kernel) ?_
    refine gf_X11_10 (x := 2) rfl (show decode cX11_made 20 = .ok (.getfield 10, 3) by decide +kernel) okl_1 rfl ?_
    refine gf_X11_279 rfl (show decode cX11_made 23 = .ok (.getfield 279, 3) by decide +kernel) okl_2 ?_
    refine j_ctVv (m' := mX0_fulfil) (As := [rv 131, iv (σ 2 8)]) (ci := 0) (N := 0) (cw_X11_285 rfl) (show decode cX11_made 26 = .ok (.invokevirtual 285, 3) by decide +kernel) rfl (Nat.le_of_ble_eq_true rfl) okl_275 rfl rfl (Nat.le_refl _) h (fun r2 σ2 h => ?_)
    refine j_iload_n (i := 1) rfl (show decode cX11_made 29 = .ok (.iload_n 1, 1) by decide +kernel) ?_
    refine j_iconst (show decode cX11_made 30 = .ok (.iconst (-1), 1) by decide +kernel) ?_
    have hr2 := h.1
    have h := h.2
    refine j_icmp_ne (tgt := 44) hr2 (inl (by decide)) (show decode cX11_made 31 = .ok (.if_icmp .ne 13, 3) by decide +kernel) (by decide) (fun c => ?_) (fun c => ?_)
    · have h := h.1 c
      refine j_iload_n (i := 1) rfl (show decode cX11_made 44 = .ok (.iload_n 1, 1) by decide +kernel) ?_
      refine s_aload_n (i := 0) rfl (show decode cX11_made 45 = .ok (.aload_n 0, 1) by decide +kernel) ?_
      refine gf_X11_49 (x := 275) rfl (show decode cX11_made 46 = .ok (.getfield 49, 3) by decide +kernel) okl_1 rfl ?_
      refine gf_X11_289 rfl (show decode cX11_made 49 = .ok (.getfield 289, 3) by decide +kernel) okl_275 ?_
      have hr3 := h.1
      have h := h.2
      have hr4 := h.1
      have h := h.2
      refine j_icmp_ge (tgt := 67) hr3 hr4 (show decode cX11_made 52 = .ok (.if_icmp .ge 15, 3) by decide +kernel) (by decide) (fun c => ?_) (fun c => ?_)
      · have h := h.1 c
        refine j_bipush (n := -2) (by decide +kernel) (show decode cX11_made 67 = .ok (.bipush (-2), 2) by decide +kernel) ?_
        exact j_ret (rokI (show decode cX11_made 69 = .ok (.ireturn, 1) by decide +kernel) rfl) ⟨rfl, rfl, h⟩
      · have h := h.2 c
        refine s_aload_n (i := 0) rfl (show decode cX11_made 55 = .ok (.aload_n 0, 1) by decide +kernel) ?_
        refine gf_X11_49 (x := 275) rfl (show decode cX11_made 56 = .ok (.getfield 49, 3) by decide +kernel) okl_1 rfl ?_
        refine gf_X11_292 (x := 285) rfl (show decode cX11_made 59 = .ok (.getfield 292, 3) by decide +kernel) okl_275 rfl ?_
        refine j_iload_n (i := 1) rfl (show decode cX11_made 62 = .ok (.iload_n 1, 1) by decide +kernel) ?_
        refine s_iald (show decode cX11_made 63 = .ok (.iaload, 1) by decide +kernel) okl_285 h.1 ?_
        have h := h.2
        refine j_goto (tgt := 69) (show decode cX11_made 64 = .ok (.goto 5, 3) by decide +kernel) (by decide) ?_
        exact j_ret (rokI (show decode cX11_made 69 = .ok (.ireturn, 1) by decide +kernel) rfl) ⟨rfl, rfl, h⟩
    · have h := h.2 c
      refine s_aload_n (i := 0) rfl (show decode cX11_made 34 = .ok (.aload_n 0, 1) by decide +kernel) ?_
      refine gf_X11_49 (x := 275) rfl (show decode cX11_made 35 = .ok (.getfield 49, 3) by decide +kernel) okl_1 rfl ?_
      refine gf_X11_289 rfl (show decode cX11_made 38 = .ok (.getfield 289, 3) by decide +kernel) okl_275 ?_
      refine j_iconst (show decode cX11_made 41 = .ok (.iconst 1, 1) by decide +kernel) ?_
      refine j_isub (show decode cX11_made 42 = .ok (.isub, 1) by decide +kernel) ?_
      exact j_ret (rokI (show decode cX11_made 43 = .ok (.ireturn, 1) by decide +kernel) rfl) ⟨rfl, rfl, h⟩
  · have h := h.2 c
    refine j_bipush (n := -2) (by decide +kernel) (show decode cX11_made 5 = .ok (.bipush (-2), 2) by decide +kernel) ?_
    exact j_ret (rokI (show decode cX11_made 7 = .ok (.ireturn, 1) by decide +kernel) rfl) ⟨rfl, rfl, h⟩
theorem c_X11_made {d : Nat} {t : Int} {Q : Int → jM → Prop} {σ : jM} {p1 : Int} (h : (inR p1) ∧ (((-1) ≤ p1 → (Ct mX0_fulfil d 9 t [rv 275, rv 131, iv (σ 2 8)] σ (fun r2 σ2 => ((inR p1) ∧ ((¬ p1 = (-1) → ((inR p1) ∧ ((inR (σ2 275 13)) ∧ (((σ2 275 13) ≤ p1 → (Q (-2) σ2)) ∧ (p1 < (σ2 275 13) → (((0 : Int) ≤ p1 ∧ p1 < 24) ∧ (Q (σ2 285 p1) σ2))))))) ∧ (p1 = (-1) → (Q ((σ2 275 13) - 1) σ2))))))) ∧ (p1 < (-1) → (Q (-2) σ)))) : Ct mX11_made (d + 1) 0 t [rv 1, iv p1] σ Q := Ct_of (by decide +kernel) (Nat.le_of_ble_eq_true rfl) (b_X11_made_0 h)
set_option maxRecDepth 4000 in
theorem b_X11_reach_18 {d : Nat} {t : Int} {Q : Int → jM → Prop} {σ : jM} {p1 v2 v3 : Int} (h : (inR v3) ∧ ((inR (i_shl 1 p1)) ∧ (((i_shl 1 p1) < v3 → (Q v2 σ)) ∧ (v3 ≤ (i_shl 1 p1) → (Ct mX11_isReached d 0 t [rv 1, iv v3, iv p1] σ (fun r3 σ3 => ((inR r3) ∧ ((r3 = 0 → (Jt mX11_reach (d + 1) 0 t Q 18 [rv 1, iv p1, iv v2, iv (v3 + 1)] [] σ3)) ∧ (¬ r3 = 0 → (Jt mX11_reach (d + 1) 0 t Q 18 [rv 1, iv p1, iv (v2 + 1), iv (v3 + 1)] [] σ3)))))))))) : Jt mX11_reach (d + 1) 0 t Q 18 [rv 1, iv p1, iv v2, iv v3] [] σ := by
  refine j_iload_n (i := 3) rfl (show decode cX11_reach 18 = .ok (.iload_n 3, 1) by decide +kernel) ?_
  refine j_iconst (show decode cX11_reach 19 = .ok (.iconst 1, 1) by decide +kernel) ?_
  refine j_iload_n (i := 1) rfl (show decode cX11_reach 20 = .ok (.iload_n 1, 1) by decide +kernel) ?_
  refine j_ishl (show decode cX11_reach 21 = .ok (.ishl, 1) by decide +kernel) ?_
  have hr0 := h.1
  have h := h.2
  have hr1 := h.1
  have h := h.2
  refine j_icmp_gt (tgt := 43) hr0 hr1 (show decode cX11_reach 22 = .ok (.if_icmp .gt 21, 3) by decide +kernel) (by decide) (fun c => ?_) (fun c => ?_)
  · have h := h.1 c
    refine j_iload_n (i := 2) rfl (show decode cX11_reach 43 = .ok (.iload_n 2, 1) by decide +kernel) ?_
    exact j_ret (rokI (show decode cX11_reach 44 = .ok (.ireturn, 1) by decide +kernel) rfl) ⟨rfl, rfl, h⟩
  · have h := h.2 c
    refine s_aload_n (i := 0) rfl (show decode cX11_reach 25 = .ok (.aload_n 0, 1) by decide +kernel) ?_
    refine j_iload_n (i := 3) rfl (show decode cX11_reach 26 = .ok (.iload_n 3, 1) by decide +kernel) ?_
    refine j_iload_n (i := 1) rfl (show decode cX11_reach 27 = .ok (.iload_n 1, 1) by decide +kernel) ?_
    refine j_ctV (m' := mX11_isReached) (As := [iv v3, iv p1]) (ci := 11) (tag := 0) (N := 0) (cw_X11_295 rfl) (show decode cX11_reach 28 = .ok (.invokevirtual 295, 3) by decide +kernel) rfl (Nat.le_of_ble_eq_true rfl) (by decide) okl_1 rfl rfl (Nat.le_refl _) h (fun r3 σ3 h => ?_)
    have hr3 := h.1
    have h := h.2
    refine j_if_eq (tgt := 37) hr3 (show decode cX11_reach 31 = .ok (.ifCond .eq 6, 3) by decide +kernel) (by decide) (fun c => ?_) (fun c => ?_)
    · have h := h.1 c
      refine s_iinc (i := 3) rfl (L' := [rv 1, iv p1, iv v2, iv (v3 + 1)]) rfl (show decode cX11_reach 37 = .ok (.iinc 3 1, 3) by decide +kernel) ?_
      refine j_goto (tgt := 18) (show decode cX11_reach 40 = .ok (.goto (-22), 3) by decide +kernel) (by decide) ?_
      exact h
    · have h := h.2 c
      refine s_iinc (i := 2) rfl (L' := [rv 1, iv p1, iv (v2 + 1), iv v3]) rfl (show decode cX11_reach 34 = .ok (.iinc 2 1, 3) by decide +kernel) ?_
      refine s_iinc (i := 3) rfl (L' := [rv 1, iv p1, iv (v2 + 1), iv (v3 + 1)]) rfl (show decode cX11_reach 37 = .ok (.iinc 3 1, 3) by decide +kernel) ?_
      refine j_goto (tgt := 18) (show decode cX11_reach 40 = .ok (.goto (-22), 3) by decide +kernel) (by decide) ?_
      exact h
set_option maxRecDepth 4000 in
theorem b_X11_reach_0 {d : Nat} {t : Int} {Q : Int → jM → Prop} {σ : jM} {p1 : Int} (h : (inR p1) ∧ ((p1 < 0 → (Q (-1) σ)) ∧ (0 ≤ p1 → ((inR p1) ∧ ((p1 ≤ 6 → (Jt mX11_reach (d + 1) 0 t Q 18 [rv 1, iv p1, iv 0, iv (p1 + 1)] [] σ)) ∧ (6 < p1 → (Q (-1) σ))))))) : Jt mX11_reach (d + 1) 0 t Q 0 [rv 1, iv p1, uv, uv] [] σ := by
  refine j_iload_n (i := 1) rfl (show decode cX11_reach 0 = .ok (.iload_n 1, 1) by decide +kernel) ?_
  have hr0 := h.1
  have h := h.2
  refine j_if_lt (tgt := 10) hr0 (show decode cX11_reach 1 = .ok (.ifCond .lt 9, 3) by decide +kernel) (by decide) (fun c => ?_) (fun c => ?_)
  · have h := h.1 c
    refine j_iconst (show decode cX11_reach 10 = .ok (.iconst (-1), 1) by decide +kernel) ?_
    exact j_ret (rokI (show decode cX11_reach 11 = .ok (.ireturn, 1) by decide +kernel) rfl) ⟨rfl, rfl, h⟩
  · have h := h.2 c
    refine j_iload_n (i := 1) rfl (show decode cX11_reach 4 = .ok (.iload_n 1, 1) by decide +kernel) ?_
    refine j_bipush (n := 6) (by decide +kernel) (show decode cX11_reach 5 = .ok (.bipush 6, 2) by decide +kernel) ?_
    have hr1 := h.1
    have h := h.2
    refine j_icmp_le (tgt := 12) hr1 (inl (by decide)) (show decode cX11_reach 7 = .ok (.if_icmp .le 5, 3) by decide +kernel) (by decide) (fun c => ?_) (fun c => ?_)
    · have h := h.1 c
      refine j_iconst (show decode cX11_reach 12 = .ok (.iconst 0, 1) by decide +kernel) ?_
      refine s_ist_n (i := 2) (L' := [rv 1, iv p1, iv 0, uv]) rfl (by decide) (show decode cX11_reach 13 = .ok (.istore_n 2, 1) by decide +kernel) ?_
      refine j_iload_n (i := 1) rfl (show decode cX11_reach 14 = .ok (.iload_n 1, 1) by decide +kernel) ?_
      refine j_iconst (show decode cX11_reach 15 = .ok (.iconst 1, 1) by decide +kernel) ?_
      refine j_iadd (show decode cX11_reach 16 = .ok (.iadd, 1) by decide +kernel) ?_
      refine s_ist_n (i := 3) (L' := [rv 1, iv p1, iv 0, iv (p1 + 1)]) rfl (by decide) (show decode cX11_reach 17 = .ok (.istore_n 3, 1) by decide +kernel) ?_
      exact h
    · have h := h.2 c
      refine j_iconst (show decode cX11_reach 10 = .ok (.iconst (-1), 1) by decide +kernel) ?_
      exact j_ret (rokI (show decode cX11_reach 11 = .ok (.ireturn, 1) by decide +kernel) rfl) ⟨rfl, rfl, h⟩
theorem c_X11_reach {d : Nat} {t : Int} {Q : Int → jM → Prop} {σ : jM} {p1 : Int} (h : (inR p1) ∧ ((p1 < 0 → (Q (-1) σ)) ∧ (0 ≤ p1 → ((inR p1) ∧ ((p1 ≤ 6 → (Jt mX11_reach (d + 1) 0 t Q 18 [rv 1, iv p1, iv 0, iv (p1 + 1)] [] σ)) ∧ (6 < p1 → (Q (-1) σ))))))) : Ct mX11_reach (d + 1) 0 t [rv 1, iv p1] σ Q := Ct_of (by decide +kernel) (Nat.le_of_ble_eq_true rfl) (b_X11_reach_0 h)
set_option maxRecDepth 4000 in
theorem b_X11_reached_23 {d : Nat} {t : Int} {Q : Int → jM → Prop} {σ : jM} {p1 p2 v3 v4 : Int} (h : (inR v4) ∧ ((inR (i_shl 1 p1)) ∧ (((i_shl 1 p1) < v4 → (Q (-1) σ)) ∧ (v4 ≤ (i_shl 1 p1) → (Ct mX11_isReached d 0 t [rv 1, iv v4, iv p1] σ (fun r3 σ3 => ((inR r3) ∧ ((¬ r3 = 0 → ((inR v3) ∧ ((¬ v3 = 0 → (Jt mX11_reached (d + 1) 0 t Q 23 [rv 1, iv p1, iv p2, iv (v3 + (-1)), iv (v4 + 1)] [] σ3)) ∧ (v3 = 0 → (Q v4 σ3))))) ∧ (r3 = 0 → (Jt mX11_reached (d + 1) 0 t Q 23 [rv 1, iv p1, iv p2, iv v3, iv (v4 + 1)] [] σ3)))))))))) : Jt mX11_reached (d + 1) 0 t Q 23 [rv 1, iv p1, iv p2, iv v3, iv v4] [] σ := by
  refine j_iload (i := 4) rfl (show decode cX11_reached 23 = .ok (.iload 4, 2) by decide +kernel) ?_
  refine j_iconst (show decode cX11_reached 25 = .ok (.iconst 1, 1) by decide +kernel) ?_
  refine j_iload_n (i := 1) rfl (show decode cX11_reached 26 = .ok (.iload_n 1, 1) by decide +kernel) ?_
  refine j_ishl (show decode cX11_reached 27 = .ok (.ishl, 1) by decide +kernel) ?_
  have hr0 := h.1
  have h := h.2
  have hr1 := h.1
  have h := h.2
  refine j_icmp_gt (tgt := 60) hr0 hr1 (show decode cX11_reached 28 = .ok (.if_icmp .gt 32, 3) by decide +kernel) (by decide) (fun c => ?_) (fun c => ?_)
  · have h := h.1 c
    refine j_iconst (show decode cX11_reached 60 = .ok (.iconst (-1), 1) by decide +kernel) ?_
    exact j_ret (rokI (show decode cX11_reached 61 = .ok (.ireturn, 1) by decide +kernel) rfl) ⟨rfl, rfl, h⟩
  · have h := h.2 c
    refine s_aload_n (i := 0) rfl (show decode cX11_reached 31 = .ok (.aload_n 0, 1) by decide +kernel) ?_
    refine j_iload (i := 4) rfl (show decode cX11_reached 32 = .ok (.iload 4, 2) by decide +kernel) ?_
    refine j_iload_n (i := 1) rfl (show decode cX11_reached 34 = .ok (.iload_n 1, 1) by decide +kernel) ?_
    refine j_ctV (m' := mX11_isReached) (As := [iv v4, iv p1]) (ci := 11) (tag := 0) (N := 0) (cw_X11_295 rfl) (show decode cX11_reached 35 = .ok (.invokevirtual 295, 3) by decide +kernel) rfl (Nat.le_of_ble_eq_true rfl) (by decide) okl_1 rfl rfl (Nat.le_refl _) h (fun r3 σ3 h => ?_)
    have hr3 := h.1
    have h := h.2
    refine j_if_ne (tgt := 44) hr3 (show decode cX11_reached 38 = .ok (.ifCond .ne 6, 3) by decide +kernel) (by decide) (fun c => ?_) (fun c => ?_)
    · have h := h.1 c
      refine j_iload_n (i := 3) rfl (show decode cX11_reached 44 = .ok (.iload_n 3, 1) by decide +kernel) ?_
      have hr4 := h.1
      have h := h.2
      refine j_if_ne (tgt := 51) hr4 (show decode cX11_reached 45 = .ok (.ifCond .ne 6, 3) by decide +kernel) (by decide) (fun c => ?_) (fun c => ?_)
      · have h := h.1 c
        refine s_iinc (i := 3) rfl (L' := [rv 1, iv p1, iv p2, iv (v3 + (-1)), iv v4]) rfl (show decode cX11_reached 51 = .ok (.iinc 3 (-1), 3) by decide +kernel) ?_
        refine s_iinc (i := 4) rfl (L' := [rv 1, iv p1, iv p2, iv (v3 + (-1)), iv (v4 + 1)]) rfl (show decode cX11_reached 54 = .ok (.iinc 4 1, 3) by decide +kernel) ?_
        refine j_goto (tgt := 23) (show decode cX11_reached 57 = .ok (.goto (-34), 3) by decide +kernel) (by decide) ?_
        exact h
      · have h := h.2 c
        refine j_iload (i := 4) rfl (show decode cX11_reached 48 = .ok (.iload 4, 2) by decide +kernel) ?_
        exact j_ret (rokI (show decode cX11_reached 50 = .ok (.ireturn, 1) by decide +kernel) rfl) ⟨rfl, rfl, h⟩
    · have h := h.2 c
      refine j_goto (tgt := 54) (show decode cX11_reached 41 = .ok (.goto 13, 3) by decide +kernel) (by decide) ?_
      refine s_iinc (i := 4) rfl (L' := [rv 1, iv p1, iv p2, iv v3, iv (v4 + 1)]) rfl (show decode cX11_reached 54 = .ok (.iinc 4 1, 3) by decide +kernel) ?_
      refine j_goto (tgt := 23) (show decode cX11_reached 57 = .ok (.goto (-34), 3) by decide +kernel) (by decide) ?_
      exact h
set_option maxRecDepth 4000 in
theorem b_X11_reached_0 {d : Nat} {t : Int} {Q : Int → jM → Prop} {σ : jM} {p1 p2 : Int} (h : (inR p1) ∧ ((p1 < 0 → (Q (-1) σ)) ∧ (0 ≤ p1 → ((inR p1) ∧ ((6 < p1 → (Q (-1) σ)) ∧ (p1 ≤ 6 → ((inR p2) ∧ ((0 ≤ p2 → (Jt mX11_reached (d + 1) 0 t Q 23 [rv 1, iv p1, iv p2, iv p2, iv (p1 + 1)] [] σ)) ∧ (p2 < 0 → (Q (-1) σ)))))))))) : Jt mX11_reached (d + 1) 0 t Q 0 [rv 1, iv p1, iv p2, uv, uv] [] σ := by
  refine j_iload_n (i := 1) rfl (show decode cX11_reached 0 = .ok (.iload_n 1, 1) by decide +kernel) ?_
  have hr0 := h.1
  have h := h.2
  refine j_if_lt (tgt := 14) hr0 (show decode cX11_reached 1 = .ok (.ifCond .lt 13, 3) by decide +kernel) (by decide) (fun c => ?_) (fun c => ?_)
  · have h := h.1 c
    refine j_iconst (show decode cX11_reached 14 = .ok (.iconst (-1), 1) by decide +kernel) ?_
    exact j_ret (rokI (show decode cX11_reached 15 = .ok (.ireturn, 1) by decide +kernel) rfl) ⟨rfl, rfl, h⟩
  · have h := h.2 c
    refine j_iload_n (i := 1) rfl (show decode cX11_reached 4 = .ok (.iload_n 1, 1) by decide +kernel) ?_
    refine j_bipush (n := 6) (by decide +kernel) (show decode cX11_reached 5 = .ok (.bipush 6, 2) by decide +kernel) ?_
    have hr1 := h.1
    have h := h.2
    refine j_icmp_gt (tgt := 14) hr1 (inl (by decide)) (show decode cX11_reached 7 = .ok (.if_icmp .gt 7, 3) by decide +kernel) (by decide) (fun c => ?_) (fun c => ?_)
    · have h := h.1 c
      refine j_iconst (show decode cX11_reached 14 = .ok (.iconst (-1), 1) by decide +kernel) ?_
      exact j_ret (rokI (show decode cX11_reached 15 = .ok (.ireturn, 1) by decide +kernel) rfl) ⟨rfl, rfl, h⟩
    · have h := h.2 c
      refine j_iload_n (i := 2) rfl (show decode cX11_reached 10 = .ok (.iload_n 2, 1) by decide +kernel) ?_
      have hr2 := h.1
      have h := h.2
      refine j_if_ge (tgt := 16) hr2 (show decode cX11_reached 11 = .ok (.ifCond .ge 5, 3) by decide +kernel) (by decide) (fun c => ?_) (fun c => ?_)
      · have h := h.1 c
        refine j_iload_n (i := 2) rfl (show decode cX11_reached 16 = .ok (.iload_n 2, 1) by decide +kernel) ?_
        refine s_ist_n (i := 3) (L' := [rv 1, iv p1, iv p2, iv p2, uv]) rfl (by decide) (show decode cX11_reached 17 = .ok (.istore_n 3, 1) by decide +kernel) ?_
        refine j_iload_n (i := 1) rfl (show decode cX11_reached 18 = .ok (.iload_n 1, 1) by decide +kernel) ?_
        refine j_iconst (show decode cX11_reached 19 = .ok (.iconst 1, 1) by decide +kernel) ?_
        refine j_iadd (show decode cX11_reached 20 = .ok (.iadd, 1) by decide +kernel) ?_
        refine s_ist (i := 4) (L' := [rv 1, iv p1, iv p2, iv p2, iv (p1 + 1)]) rfl (by decide) (show decode cX11_reached 21 = .ok (.istore 4, 2) by decide +kernel) ?_
        exact h
      · have h := h.2 c
        refine j_iconst (show decode cX11_reached 14 = .ok (.iconst (-1), 1) by decide +kernel) ?_
        exact j_ret (rokI (show decode cX11_reached 15 = .ok (.ireturn, 1) by decide +kernel) rfl) ⟨rfl, rfl, h⟩
theorem c_X11_reached {d : Nat} {t : Int} {Q : Int → jM → Prop} {σ : jM} {p1 p2 : Int} (h : (inR p1) ∧ ((p1 < 0 → (Q (-1) σ)) ∧ (0 ≤ p1 → ((inR p1) ∧ ((6 < p1 → (Q (-1) σ)) ∧ (p1 ≤ 6 → ((inR p2) ∧ ((0 ≤ p2 → (Jt mX11_reached (d + 1) 0 t Q 23 [rv 1, iv p1, iv p2, iv p2, iv (p1 + 1)] [] σ)) ∧ (p2 < 0 → (Q (-1) σ)))))))))) : Ct mX11_reached (d + 1) 0 t [rv 1, iv p1, iv p2] σ Q := Ct_of (by decide +kernel) (Nat.le_of_ble_eq_true rfl) (b_X11_reached_0 h)
set_option maxRecDepth 4000 in
theorem b_X11_isReached_0 {d : Nat} {t : Int} {Q : Int → jM → Prop} {σ : jM} {p1 p2 : Int} (h : Ct mX0_joiningsOf d 0 t [rv 275, iv p1] σ (fun r1 σ1 => ((inR r1) ∧ ((inR p2) ∧ ((p2 < r1 → (Q 0 σ1)) ∧ (r1 ≤ p2 → (Q 1 σ1))))))) : Jt mX11_isReached (d + 1) 0 t Q 0 [rv 1, iv p1, iv p2] [] σ := by
  refine s_aload_n (i := 0) rfl (show decode cX11_isReached 0 = .ok (.aload_n 0, 1) by decide +kernel) ?_
  refine gf_X11_49 (x := 275) rfl (show decode cX11_isReached 1 = .ok (.getfield 49, 3) by decide +kernel) okl_1 rfl ?_
  refine j_iload_n (i := 1) rfl (show decode cX11_isReached 4 = .ok (.iload_n 1, 1) by decide +kernel) ?_
  refine j_ctV (m' := mX0_joiningsOf) (As := [iv p1]) (ci := 0) (tag := 0) (N := 0) (cw_X11_189 rfl) (show decode cX11_isReached 5 = .ok (.invokevirtual 189, 3) by decide +kernel) rfl (Nat.le_of_ble_eq_true rfl) (by decide) okl_275 rfl rfl (Nat.le_refl _) h (fun r1 σ1 h => ?_)
  refine j_iload_n (i := 2) rfl (show decode cX11_isReached 8 = .ok (.iload_n 2, 1) by decide +kernel) ?_
  have hr1 := h.1
  have h := h.2
  have hr2 := h.1
  have h := h.2
  refine j_icmp_gt (tgt := 16) hr1 hr2 (show decode cX11_isReached 9 = .ok (.if_icmp .gt 7, 3) by decide +kernel) (by decide) (fun c => ?_) (fun c => ?_)
  · have h := h.1 c
    refine j_iconst (show decode cX11_isReached 16 = .ok (.iconst 0, 1) by decide +kernel) ?_
    exact j_ret (rokZ (show decode cX11_isReached 17 = .ok (.ireturn, 1) by decide +kernel) rfl (Or.inl rfl)) ⟨rfl, rfl, h⟩
  · have h := h.2 c
    refine j_iconst (show decode cX11_isReached 12 = .ok (.iconst 1, 1) by decide +kernel) ?_
    refine j_goto (tgt := 17) (show decode cX11_isReached 13 = .ok (.goto 4, 3) by decide +kernel) (by decide) ?_
    exact j_ret (rokZ (show decode cX11_isReached 17 = .ok (.ireturn, 1) by decide +kernel) rfl (Or.inr rfl)) ⟨rfl, rfl, h⟩
theorem c_X11_isReached {d : Nat} {t : Int} {Q : Int → jM → Prop} {σ : jM} {p1 p2 : Int} (h : Ct mX0_joiningsOf d 0 t [rv 275, iv p1] σ (fun r1 σ1 => ((inR r1) ∧ ((inR p2) ∧ ((p2 < r1 → (Q 0 σ1)) ∧ (r1 ≤ p2 → (Q 1 σ1))))))) : Ct mX11_isReached (d + 1) 0 t [rv 1, iv p1, iv p2] σ Q := Ct_of (by decide +kernel) (Nat.le_of_ble_eq_true rfl) (b_X11_isReached_0 h)
set_option maxRecDepth 4000 in
theorem b_X11_first_14 {d : Nat} {t : Int} {Q : Int → jM → Prop} {σ : jM} {p1 v2 : Int} (h : (inR v2) ∧ ((120 < v2 → (Q (-1) σ)) ∧ (v2 ≤ 120 → (Ct mX0_joiningsOf d 0 t [rv 275, iv v2] σ (fun r2 σ2 => ((inR r2) ∧ ((inR p1) ∧ ((r2 < p1 → (Jt mX11_first (d + 1) 0 t Q 14 [rv 1, iv p1, iv (v2 + 1)] [] σ2)) ∧ (p1 ≤ r2 → (Q v2 σ2)))))))))) : Jt mX11_first (d + 1) 0 t Q 14 [rv 1, iv p1, iv v2] [] σ := by
  refine j_iload_n (i := 2) rfl (show decode cX11_first 14 = .ok (.iload_n 2, 1) by decide +kernel) ?_
  refine j_bipush (n := 120) (by decide +kernel) (show decode cX11_first 15 = .ok (.bipush 120, 2) by decide +kernel) ?_
  have hr0 := h.1
  have h := h.2
  refine j_icmp_gt (tgt := 40) hr0 (inl (by decide)) (show decode cX11_first 17 = .ok (.if_icmp .gt 23, 3) by decide +kernel) (by decide) (fun c => ?_) (fun c => ?_)
  · have h := h.1 c
    refine j_iconst (show decode cX11_first 40 = .ok (.iconst (-1), 1) by decide +kernel) ?_
    exact j_ret (rokI (show decode cX11_first 41 = .ok (.ireturn, 1) by decide +kernel) rfl) ⟨rfl, rfl, h⟩
  · have h := h.2 c
    refine s_aload_n (i := 0) rfl (show decode cX11_first 20 = .ok (.aload_n 0, 1) by decide +kernel) ?_
    refine gf_X11_49 (x := 275) rfl (show decode cX11_first 21 = .ok (.getfield 49, 3) by decide +kernel) okl_1 rfl ?_
    refine j_iload_n (i := 2) rfl (show decode cX11_first 24 = .ok (.iload_n 2, 1) by decide +kernel) ?_
    refine j_ctV (m' := mX0_joiningsOf) (As := [iv v2]) (ci := 0) (tag := 0) (N := 0) (cw_X11_189 rfl) (show decode cX11_first 25 = .ok (.invokevirtual 189, 3) by decide +kernel) rfl (Nat.le_of_ble_eq_true rfl) (by decide) okl_275 rfl rfl (Nat.le_refl _) h (fun r2 σ2 h => ?_)
    refine j_iload_n (i := 1) rfl (show decode cX11_first 28 = .ok (.iload_n 1, 1) by decide +kernel) ?_
    have hr2 := h.1
    have h := h.2
    have hr3 := h.1
    have h := h.2
    refine j_icmp_lt (tgt := 34) hr2 hr3 (show decode cX11_first 29 = .ok (.if_icmp .lt 5, 3) by decide +kernel) (by decide) (fun c => ?_) (fun c => ?_)
    · have h := h.1 c
      refine s_iinc (i := 2) rfl (L' := [rv 1, iv p1, iv (v2 + 1)]) rfl (show decode cX11_first 34 = .ok (.iinc 2 1, 3) by decide +kernel) ?_
      refine j_goto (tgt := 14) (show decode cX11_first 37 = .ok (.goto (-23), 3) by decide +kernel) (by decide) ?_
      exact h
    · have h := h.2 c
      refine j_iload_n (i := 2) rfl (show decode cX11_first 32 = .ok (.iload_n 2, 1) by decide +kernel) ?_
      exact j_ret (rokI (show decode cX11_first 33 = .ok (.ireturn, 1) by decide +kernel) rfl) ⟨rfl, rfl, h⟩
set_option maxRecDepth 4000 in
theorem b_X11_first_0 {d : Nat} {t : Int} {Q : Int → jM → Prop} {σ : jM} {p1 : Int} (h : (inR p1) ∧ ((p1 < 0 → (Q (-1) σ)) ∧ (0 ≤ p1 → ((inR p1) ∧ ((p1 ≤ 9 → (Jt mX11_first (d + 1) 0 t Q 14 [rv 1, iv p1, iv 1] [] σ)) ∧ (9 < p1 → (Q (-1) σ))))))) : Jt mX11_first (d + 1) 0 t Q 0 [rv 1, iv p1, uv] [] σ := by
  refine j_iload_n (i := 1) rfl (show decode cX11_first 0 = .ok (.iload_n 1, 1) by decide +kernel) ?_
  have hr0 := h.1
  have h := h.2
  refine j_if_lt (tgt := 10) hr0 (show decode cX11_first 1 = .ok (.ifCond .lt 9, 3) by decide +kernel) (by decide) (fun c => ?_) (fun c => ?_)
  · have h := h.1 c
    refine j_iconst (show decode cX11_first 10 = .ok (.iconst (-1), 1) by decide +kernel) ?_
    exact j_ret (rokI (show decode cX11_first 11 = .ok (.ireturn, 1) by decide +kernel) rfl) ⟨rfl, rfl, h⟩
  · have h := h.2 c
    refine j_iload_n (i := 1) rfl (show decode cX11_first 4 = .ok (.iload_n 1, 1) by decide +kernel) ?_
    refine j_bipush (n := 9) (by decide +kernel) (show decode cX11_first 5 = .ok (.bipush 9, 2) by decide +kernel) ?_
    have hr1 := h.1
    have h := h.2
    refine j_icmp_le (tgt := 12) hr1 (inl (by decide)) (show decode cX11_first 7 = .ok (.if_icmp .le 5, 3) by decide +kernel) (by decide) (fun c => ?_) (fun c => ?_)
    · have h := h.1 c
      refine j_iconst (show decode cX11_first 12 = .ok (.iconst 1, 1) by decide +kernel) ?_
      refine s_ist_n (i := 2) (L' := [rv 1, iv p1, iv 1]) rfl (by decide) (show decode cX11_first 13 = .ok (.istore_n 2, 1) by decide +kernel) ?_
      exact h
    · have h := h.2 c
      refine j_iconst (show decode cX11_first 10 = .ok (.iconst (-1), 1) by decide +kernel) ?_
      exact j_ret (rokI (show decode cX11_first 11 = .ok (.ireturn, 1) by decide +kernel) rfl) ⟨rfl, rfl, h⟩
theorem c_X11_first {d : Nat} {t : Int} {Q : Int → jM → Prop} {σ : jM} {p1 : Int} (h : (inR p1) ∧ ((p1 < 0 → (Q (-1) σ)) ∧ (0 ≤ p1 → ((inR p1) ∧ ((p1 ≤ 9 → (Jt mX11_first (d + 1) 0 t Q 14 [rv 1, iv p1, iv 1] [] σ)) ∧ (9 < p1 → (Q (-1) σ))))))) : Ct mX11_first (d + 1) 0 t [rv 1, iv p1] σ Q := Ct_of (by decide +kernel) (Nat.le_of_ble_eq_true rfl) (b_X11_first_0 h)
set_option maxRecDepth 4000 in
theorem b_X11_tell_0 {d : Nat} {t : Int} {Q : Int → jM → Prop} {σ : jM} {p1 : Int} (h : (inR p1) ∧ ((¬ p1 = (-1) → ((inR p1) ∧ ((p1 < 1 → (Q (-2) σ)) ∧ (1 ≤ p1 → ((inR p1) ∧ ((9999 < p1 → (Q (-2) σ)) ∧ (p1 ≤ 9999 → ((inR (σ 129 1)) ∧ (((σ 129 1) < 12 → (((0 : Int) ≤ (σ 129 1) ∧ (σ 129 1) < 12) ∧ (∀ σ6 : jM, σ6 = up σ 130 (σ 129 1) p1 → (∀ σ7 : jM, σ7 = up σ6 129 1 ((σ6 129 1) + 1) → (Q (σ7 129 1) σ7))))) ∧ (12 ≤ (σ 129 1) → (Q (-2) σ))))))))))) ∧ (p1 = (-1) → (∀ σ8 : jM, σ8 = up σ 129 1 1 → (Q 1 σ8))))) : Jt mX11_tell (d) 0 t Q 0 [rv 1, iv p1] [] σ := by
  refine j_iload_n (i := 1) rfl (show decode cX11_tell 0 = .ok (.iload_n 1, 1) by decide +kernel) ?_
  refine j_iconst (show decode cX11_tell 1 = .ok (.iconst (-1), 1) by decide +kernel) ?_
  have hr0 := h.1
  have h := h.2
  refine j_icmp_ne (tgt := 18) hr0 (inl (by decide)) (show decode cX11_tell 2 = .ok (.if_icmp .ne 16, 3) by decide +kernel) (by decide) (fun c => ?_) (fun c => ?_)
  · have h := h.1 c
    refine j_iload_n (i := 1) rfl (show decode cX11_tell 18 = .ok (.iload_n 1, 1) by decide +kernel) ?_
    refine j_iconst (show decode cX11_tell 19 = .ok (.iconst 1, 1) by decide +kernel) ?_
    have hr1 := h.1
    have h := h.2
    refine j_icmp_lt (tgt := 45) hr1 (inl (by decide)) (show decode cX11_tell 20 = .ok (.if_icmp .lt 25, 3) by decide +kernel) (by decide) (fun c => ?_) (fun c => ?_)
    · have h := h.1 c
      refine j_bipush (n := -2) (by decide +kernel) (show decode cX11_tell 45 = .ok (.bipush (-2), 2) by decide +kernel) ?_
      exact j_ret (rokI (show decode cX11_tell 47 = .ok (.ireturn, 1) by decide +kernel) rfl) ⟨rfl, rfl, h⟩
    · have h := h.2 c
      refine j_iload_n (i := 1) rfl (show decode cX11_tell 23 = .ok (.iload_n 1, 1) by decide +kernel) ?_
      refine j_sipush (n := 9999) (by decide +kernel) (show decode cX11_tell 24 = .ok (.sipush 9999, 3) by decide +kernel) ?_
      have hr2 := h.1
      have h := h.2
      refine j_icmp_gt (tgt := 45) hr2 (inl (by decide)) (show decode cX11_tell 27 = .ok (.if_icmp .gt 18, 3) by decide +kernel) (by decide) (fun c => ?_) (fun c => ?_)
      · have h := h.1 c
        refine j_bipush (n := -2) (by decide +kernel) (show decode cX11_tell 45 = .ok (.bipush (-2), 2) by decide +kernel) ?_
        exact j_ret (rokI (show decode cX11_tell 47 = .ok (.ireturn, 1) by decide +kernel) rfl) ⟨rfl, rfl, h⟩
      · have h := h.2 c
        refine s_aload_n (i := 0) rfl (show decode cX11_tell 30 = .ok (.aload_n 0, 1) by decide +kernel) ?_
        refine gf_X11_10 (x := 2) rfl (show decode cX11_tell 31 = .ok (.getfield 10, 3) by decide +kernel) okl_1 rfl ?_
        refine gf_X11_298 (x := 129) rfl (show decode cX11_tell 34 = .ok (.getfield 298, 3) by decide +kernel) okl_2 (gr_10_2 okl_2) ?_
        refine gf_X11_302 rfl (show decode cX11_tell 37 = .ok (.getfield 302, 3) by decide +kernel) okl_129 ?_
        refine j_bipush (n := 12) (by decide +kernel) (show decode cX11_tell 40 = .ok (.bipush 12, 2) by decide +kernel) ?_
        have hr3 := h.1
        have h := h.2
        refine j_icmp_lt (tgt := 48) hr3 (inl (by decide)) (show decode cX11_tell 42 = .ok (.if_icmp .lt 6, 3) by decide +kernel) (by decide) (fun c => ?_) (fun c => ?_)
        · have h := h.1 c
          refine s_aload_n (i := 0) rfl (show decode cX11_tell 48 = .ok (.aload_n 0, 1) by decide +kernel) ?_
          refine gf_X11_10 (x := 2) rfl (show decode cX11_tell 49 = .ok (.getfield 10, 3) by decide +kernel) okl_1 rfl ?_
          refine gf_X11_298 (x := 129) rfl (show decode cX11_tell 52 = .ok (.getfield 298, 3) by decide +kernel) okl_2 (gr_10_2 okl_2) ?_
          refine gf_X11_305 (x := 130) rfl (show decode cX11_tell 55 = .ok (.getfield 305, 3) by decide +kernel) okl_129 (gr_9_0 okl_129) ?_
          refine s_aload_n (i := 0) rfl (show decode cX11_tell 58 = .ok (.aload_n 0, 1) by decide +kernel) ?_
          refine gf_X11_10 (x := 2) rfl (show decode cX11_tell 59 = .ok (.getfield 10, 3) by decide +kernel) okl_1 rfl ?_
          refine gf_X11_298 (x := 129) rfl (show decode cX11_tell 62 = .ok (.getfield 298, 3) by decide +kernel) okl_2 (gr_10_2 okl_2) ?_
          refine gf_X11_302 rfl (show decode cX11_tell 65 = .ok (.getfield 302, 3) by decide +kernel) okl_129 ?_
          refine j_iload_n (i := 1) rfl (show decode cX11_tell 68 = .ok (.iload_n 1, 1) by decide +kernel) ?_
          have hb4 := h.1
          have h := h.2
          refine s_iast (show decode cX11_tell 69 = .ok (.iastore, 1) by decide +kernel) okl_130 hb4 ?_
          obtain ⟨σ6, eσ6⟩ : ∃ z : jM, z = up σ 130 (σ 129 1) p1 := ⟨_, rfl⟩
          refine j_sig eσ6 ?_
          have h := h σ6 eσ6
          refine s_aload_n (i := 0) rfl (show decode cX11_tell 70 = .ok (.aload_n 0, 1) by decide +kernel) ?_
          refine gf_X11_10 (x := 2) rfl (show decode cX11_tell 71 = .ok (.getfield 10, 3) by decide +kernel) okl_1 rfl ?_
          refine gf_X11_298 (x := 129) rfl (show decode cX11_tell 74 = .ok (.getfield 298, 3) by decide +kernel) okl_2 (gr_10_2 okl_2) ?_
          refine j_dup (show (2 : Nat) ≠ 1 by decide) (show decode cX11_tell 77 = .ok (.dup, 1) by decide +kernel) ?_
          refine gf_X11_302 rfl (show decode cX11_tell 78 = .ok (.getfield 302, 3) by decide +kernel) okl_129 ?_
          refine j_iconst (show decode cX11_tell 81 = .ok (.iconst 1, 1) by decide +kernel) ?_
          refine j_iadd (show decode cX11_tell 82 = .ok (.iadd, 1) by decide +kernel) ?_
          refine pf_X11_302 rfl (show decode cX11_tell 83 = .ok (.putfield 302, 3) by decide +kernel) okl_129 ?_
          obtain ⟨σ7, eσ7⟩ : ∃ z : jM, z = up σ6 129 1 ((σ6 129 1) + 1) := ⟨_, rfl⟩
          refine j_sig eσ7 ?_
          have h := h σ7 eσ7
          refine s_aload_n (i := 0) rfl (show decode cX11_tell 86 = .ok (.aload_n 0, 1) by decide +kernel) ?_
          refine gf_X11_10 (x := 2) rfl (show decode cX11_tell 87 = .ok (.getfield 10, 3) by decide +kernel) okl_1 rfl ?_
          refine gf_X11_298 (x := 129) rfl (show decode cX11_tell 90 = .ok (.getfield 298, 3) by decide +kernel) okl_2 (gr_10_2 okl_2) ?_
          refine gf_X11_302 rfl (show decode cX11_tell 93 = .ok (.getfield 302, 3) by decide +kernel) okl_129 ?_
          exact j_ret (rokI (show decode cX11_tell 96 = .ok (.ireturn, 1) by decide +kernel) rfl) ⟨rfl, rfl, h⟩
        · have h := h.2 c
          refine j_bipush (n := -2) (by decide +kernel) (show decode cX11_tell 45 = .ok (.bipush (-2), 2) by decide +kernel) ?_
          exact j_ret (rokI (show decode cX11_tell 47 = .ok (.ireturn, 1) by decide +kernel) rfl) ⟨rfl, rfl, h⟩
  · have h := h.2 c
    refine s_aload_n (i := 0) rfl (show decode cX11_tell 5 = .ok (.aload_n 0, 1) by decide +kernel) ?_
    refine gf_X11_10 (x := 2) rfl (show decode cX11_tell 6 = .ok (.getfield 10, 3) by decide +kernel) okl_1 rfl ?_
    refine gf_X11_298 (x := 129) rfl (show decode cX11_tell 9 = .ok (.getfield 298, 3) by decide +kernel) okl_2 (gr_10_2 okl_2) ?_
    refine j_iconst (show decode cX11_tell 12 = .ok (.iconst 1, 1) by decide +kernel) ?_
    refine pf_X11_302 rfl (show decode cX11_tell 13 = .ok (.putfield 302, 3) by decide +kernel) okl_129 ?_
    obtain ⟨σ8, eσ8⟩ : ∃ z : jM, z = up σ 129 1 1 := ⟨_, rfl⟩
    refine j_sig eσ8 ?_
    have h := h σ8 eσ8
    refine j_iconst (show decode cX11_tell 16 = .ok (.iconst 1, 1) by decide +kernel) ?_
    exact j_ret (rokI (show decode cX11_tell 17 = .ok (.ireturn, 1) by decide +kernel) rfl) ⟨rfl, rfl, h⟩
theorem c_X11_tell {d : Nat} {t : Int} {Q : Int → jM → Prop} {σ : jM} {p1 : Int} (h : (inR p1) ∧ ((¬ p1 = (-1) → ((inR p1) ∧ ((p1 < 1 → (Q (-2) σ)) ∧ (1 ≤ p1 → ((inR p1) ∧ ((9999 < p1 → (Q (-2) σ)) ∧ (p1 ≤ 9999 → ((inR (σ 129 1)) ∧ (((σ 129 1) < 12 → (((0 : Int) ≤ (σ 129 1) ∧ (σ 129 1) < 12) ∧ (∀ σ6 : jM, σ6 = up σ 130 (σ 129 1) p1 → (∀ σ7 : jM, σ7 = up σ6 129 1 ((σ6 129 1) + 1) → (Q (σ7 129 1) σ7))))) ∧ (12 ≤ (σ 129 1) → (Q (-2) σ))))))))))) ∧ (p1 = (-1) → (∀ σ8 : jM, σ8 = up σ 129 1 1 → (Q 1 σ8))))) : Ct mX11_tell (d) 0 t [rv 1, iv p1] σ Q := Ct_of (by decide +kernel) (Nat.le_of_ble_eq_true rfl) (b_X11_tell_0 h)
set_option maxRecDepth 4000 in
theorem b_X11_wrong_0 {d : Nat} {t : Int} {Q : Int → jM → Prop} {σ : jM} (h : Ct mX9_wrongWithout d 0 t [rv 129, iv (-1)] σ (fun r1 σ1 => (Q r1 σ1))) : Jt mX11_wrong (d + 1) 0 t Q 0 [rv 1] [] σ := by
  refine s_aload_n (i := 0) rfl (show decode cX11_wrong 0 = .ok (.aload_n 0, 1) by decide +kernel) ?_
  refine gf_X11_10 (x := 2) rfl (show decode cX11_wrong 1 = .ok (.getfield 10, 3) by decide +kernel) okl_1 rfl ?_
  refine gf_X11_298 (x := 129) rfl (show decode cX11_wrong 4 = .ok (.getfield 298, 3) by decide +kernel) okl_2 (gr_10_2 okl_2) ?_
  refine j_iconst (show decode cX11_wrong 7 = .ok (.iconst (-1), 1) by decide +kernel) ?_
  refine j_ctV (m' := mX9_wrongWithout) (As := [iv (-1)]) (ci := 9) (tag := 0) (N := 0) (cw_X11_308 rfl) (show decode cX11_wrong 8 = .ok (.invokevirtual 308, 3) by decide +kernel) rfl (Nat.le_of_ble_eq_true rfl) (by decide) okl_129 rfl rfl (Nat.le_refl _) h (fun r1 σ1 h => ?_)
  exact j_ret (rokI (show decode cX11_wrong 11 = .ok (.ireturn, 1) by decide +kernel) rfl) ⟨rfl, rfl, h⟩
theorem c_X11_wrong {d : Nat} {t : Int} {Q : Int → jM → Prop} {σ : jM} (h : Ct mX9_wrongWithout d 0 t [rv 129, iv (-1)] σ (fun r1 σ1 => (Q r1 σ1))) : Ct mX11_wrong (d + 1) 0 t [rv 1] σ Q := Ct_of (by decide +kernel) (Nat.le_of_ble_eq_true rfl) (b_X11_wrong_0 h)
set_option maxRecDepth 4000 in
theorem b_X11_needless_21 {d : Nat} {t : Int} {Q : Int → jM → Prop} {σ : jM} {v1 v2 : Int} (h : (inR v2) ∧ ((inR ((σ 129 1) - 1)) ∧ ((((σ 129 1) - 1) ≤ v2 → (Q v1 σ)) ∧ (v2 < ((σ 129 1) - 1) → (Ct mX9_wrongWithout d 0 t [rv 129, iv v2] σ (fun r3 σ3 => ((inR r3) ∧ ((¬ r3 = (-1) → (Jt mX11_needless (d + 1) 0 t Q 21 [rv 1, iv v1, iv (v2 + 1)] [] σ3)) ∧ (r3 = (-1) → (Jt mX11_needless (d + 1) 0 t Q 21 [rv 1, iv (i_or v1 (i_shl 1 v2)), iv (v2 + 1)] [] σ3)))))))))) : Jt mX11_needless (d + 1) 0 t Q 21 [rv 1, iv v1, iv v2] [] σ := by
  refine j_iload_n (i := 2) rfl (show decode cX11_needless 21 = .ok (.iload_n 2, 1) by decide +kernel) ?_
  refine s_aload_n (i := 0) rfl (show decode cX11_needless 22 = .ok (.aload_n 0, 1) by decide +kernel) ?_
  refine gf_X11_10 (x := 2) rfl (show decode cX11_needless 23 = .ok (.getfield 10, 3) by decide +kernel) okl_1 rfl ?_
  refine gf_X11_298 (x := 129) rfl (show decode cX11_needless 26 = .ok (.getfield 298, 3) by decide +kernel) okl_2 (gr_10_2 okl_2) ?_
  refine gf_X11_302 rfl (show decode cX11_needless 29 = .ok (.getfield 302, 3) by decide +kernel) okl_129 ?_
  refine j_iconst (show decode cX11_needless 32 = .ok (.iconst 1, 1) by decide +kernel) ?_
  refine j_isub (show decode cX11_needless 33 = .ok (.isub, 1) by decide +kernel) ?_
  have hr0 := h.1
  have h := h.2
  have hr1 := h.1
  have h := h.2
  refine j_icmp_ge (tgt := 64) hr0 hr1 (show decode cX11_needless 34 = .ok (.if_icmp .ge 30, 3) by decide +kernel) (by decide) (fun c => ?_) (fun c => ?_)
  · have h := h.1 c
    refine j_iload_n (i := 1) rfl (show decode cX11_needless 64 = .ok (.iload_n 1, 1) by decide +kernel) ?_
    exact j_ret (rokI (show decode cX11_needless 65 = .ok (.ireturn, 1) by decide +kernel) rfl) ⟨rfl, rfl, h⟩
  · have h := h.2 c
    refine s_aload_n (i := 0) rfl (show decode cX11_needless 37 = .ok (.aload_n 0, 1) by decide +kernel) ?_
    refine gf_X11_10 (x := 2) rfl (show decode cX11_needless 38 = .ok (.getfield 10, 3) by decide +kernel) okl_1 rfl ?_
    refine gf_X11_298 (x := 129) rfl (show decode cX11_needless 41 = .ok (.getfield 298, 3) by decide +kernel) okl_2 (gr_10_2 okl_2) ?_
    refine j_iload_n (i := 2) rfl (show decode cX11_needless 44 = .ok (.iload_n 2, 1) by decide +kernel) ?_
    refine j_ctV (m' := mX9_wrongWithout) (As := [iv v2]) (ci := 9) (tag := 0) (N := 0) (cw_X11_308 rfl) (show decode cX11_needless 45 = .ok (.invokevirtual 308, 3) by decide +kernel) rfl (Nat.le_of_ble_eq_true rfl) (by decide) okl_129 rfl rfl (Nat.le_refl _) h (fun r3 σ3 h => ?_)
    refine j_iconst (show decode cX11_needless 48 = .ok (.iconst (-1), 1) by decide +kernel) ?_
    have hr3 := h.1
    have h := h.2
    refine j_icmp_ne (tgt := 58) hr3 (inl (by decide)) (show decode cX11_needless 49 = .ok (.if_icmp .ne 9, 3) by decide +kernel) (by decide) (fun c => ?_) (fun c => ?_)
    · have h := h.1 c
      refine s_iinc (i := 2) rfl (L' := [rv 1, iv v1, iv (v2 + 1)]) rfl (show decode cX11_needless 58 = .ok (.iinc 2 1, 3) by decide +kernel) ?_
      refine j_goto (tgt := 21) (show decode cX11_needless 61 = .ok (.goto (-40), 3) by decide +kernel) (by decide) ?_
      exact h
    · have h := h.2 c
      refine j_iload_n (i := 1) rfl (show decode cX11_needless 52 = .ok (.iload_n 1, 1) by decide +kernel) ?_
      refine j_iconst (show decode cX11_needless 53 = .ok (.iconst 1, 1) by decide +kernel) ?_
      refine j_iload_n (i := 2) rfl (show decode cX11_needless 54 = .ok (.iload_n 2, 1) by decide +kernel) ?_
      refine j_ishl (show decode cX11_needless 55 = .ok (.ishl, 1) by decide +kernel) ?_
      refine j_ior (show decode cX11_needless 56 = .ok (.ior, 1) by decide +kernel) ?_
      refine s_ist_n (i := 1) (L' := [rv 1, iv (i_or v1 (i_shl 1 v2)), iv v2]) rfl (by decide) (show decode cX11_needless 57 = .ok (.istore_n 1, 1) by decide +kernel) ?_
      refine s_iinc (i := 2) rfl (L' := [rv 1, iv (i_or v1 (i_shl 1 v2)), iv (v2 + 1)]) rfl (show decode cX11_needless 58 = .ok (.iinc 2 1, 3) by decide +kernel) ?_
      refine j_goto (tgt := 21) (show decode cX11_needless 61 = .ok (.goto (-40), 3) by decide +kernel) (by decide) ?_
      exact h
set_option maxRecDepth 4000 in
theorem b_X11_needless_0 {d : Nat} {t : Int} {Q : Int → jM → Prop} {σ : jM} (h : Ct mX9_wrongWithout d 0 t [rv 129, iv (-1)] σ (fun r1 σ1 => ((inR r1) ∧ ((r1 = (-1) → (Jt mX11_needless (d + 1) 0 t Q 21 [rv 1, iv 0, iv 1] [] σ1)) ∧ (¬ r1 = (-1) → (Q (-1) σ1)))))) : Jt mX11_needless (d + 1) 0 t Q 0 [rv 1, uv, uv] [] σ := by
  refine s_aload_n (i := 0) rfl (show decode cX11_needless 0 = .ok (.aload_n 0, 1) by decide +kernel) ?_
  refine gf_X11_10 (x := 2) rfl (show decode cX11_needless 1 = .ok (.getfield 10, 3) by decide +kernel) okl_1 rfl ?_
  refine gf_X11_298 (x := 129) rfl (show decode cX11_needless 4 = .ok (.getfield 298, 3) by decide +kernel) okl_2 (gr_10_2 okl_2) ?_
  refine j_iconst (show decode cX11_needless 7 = .ok (.iconst (-1), 1) by decide +kernel) ?_
  refine j_ctV (m' := mX9_wrongWithout) (As := [iv (-1)]) (ci := 9) (tag := 0) (N := 0) (cw_X11_308 rfl) (show decode cX11_needless 8 = .ok (.invokevirtual 308, 3) by decide +kernel) rfl (Nat.le_of_ble_eq_true rfl) (by decide) okl_129 rfl rfl (Nat.le_refl _) h (fun r1 σ1 h => ?_)
  refine j_iconst (show decode cX11_needless 11 = .ok (.iconst (-1), 1) by decide +kernel) ?_
  have hr1 := h.1
  have h := h.2
  refine j_icmp_eq (tgt := 17) hr1 (inl (by decide)) (show decode cX11_needless 12 = .ok (.if_icmp .eq 5, 3) by decide +kernel) (by decide) (fun c => ?_) (fun c => ?_)
  · have h := h.1 c
    refine j_iconst (show decode cX11_needless 17 = .ok (.iconst 0, 1) by decide +kernel) ?_
    refine s_ist_n (i := 1) (L' := [rv 1, iv 0, uv]) rfl (by decide) (show decode cX11_needless 18 = .ok (.istore_n 1, 1) by decide +kernel) ?_
    refine j_iconst (show decode cX11_needless 19 = .ok (.iconst 1, 1) by decide +kernel) ?_
    refine s_ist_n (i := 2) (L' := [rv 1, iv 0, iv 1]) rfl (by decide) (show decode cX11_needless 20 = .ok (.istore_n 2, 1) by decide +kernel) ?_
    exact h
  · have h := h.2 c
    refine j_iconst (show decode cX11_needless 15 = .ok (.iconst (-1), 1) by decide +kernel) ?_
    exact j_ret (rokI (show decode cX11_needless 16 = .ok (.ireturn, 1) by decide +kernel) rfl) ⟨rfl, rfl, h⟩
theorem c_X11_needless {d : Nat} {t : Int} {Q : Int → jM → Prop} {σ : jM} (h : Ct mX9_wrongWithout d 0 t [rv 129, iv (-1)] σ (fun r1 σ1 => ((inR r1) ∧ ((r1 = (-1) → (Jt mX11_needless (d + 1) 0 t Q 21 [rv 1, iv 0, iv 1] [] σ1)) ∧ (¬ r1 = (-1) → (Q (-1) σ1)))))) : Ct mX11_needless (d + 1) 0 t [rv 1] σ Q := Ct_of (by decide +kernel) (Nat.le_of_ble_eq_true rfl) (b_X11_needless_0 h)
set_option maxRecDepth 4000 in
theorem b_X11_star_0 {d : Nat} {t : Int} {Q : Int → jM → Prop} {σ : jM} (h : Ct mX9_wrongWithout d 0 t [rv 129, iv (-1)] σ (fun r1 σ1 => ((inR r1) ∧ ((¬ r1 = (-1) → (Q 0 σ1)) ∧ (r1 = (-1) → (Ct mX9_goesByTheLast d 0 t [rv 129] σ1 (fun r3 σ3 => ((inR r3) ∧ ((r3 = 0 → (Q 0 σ3)) ∧ (¬ r3 = 0 → (Q 1 σ3))))))))))) : Jt mX11_star (d + 1) 0 t Q 0 [rv 1] [] σ := by
  refine s_aload_n (i := 0) rfl (show decode cX11_star 0 = .ok (.aload_n 0, 1) by decide +kernel) ?_
  refine gf_X11_10 (x := 2) rfl (show decode cX11_star 1 = .ok (.getfield 10, 3) by decide +kernel) okl_1 rfl ?_
  refine gf_X11_298 (x := 129) rfl (show decode cX11_star 4 = .ok (.getfield 298, 3) by decide +kernel) okl_2 (gr_10_2 okl_2) ?_
  refine j_iconst (show decode cX11_star 7 = .ok (.iconst (-1), 1) by decide +kernel) ?_
  refine j_ctV (m' := mX9_wrongWithout) (As := [iv (-1)]) (ci := 9) (tag := 0) (N := 0) (cw_X11_308 rfl) (show decode cX11_star 8 = .ok (.invokevirtual 308, 3) by decide +kernel) rfl (Nat.le_of_ble_eq_true rfl) (by decide) okl_129 rfl rfl (Nat.le_refl _) h (fun r1 σ1 h => ?_)
  refine j_iconst (show decode cX11_star 11 = .ok (.iconst (-1), 1) by decide +kernel) ?_
  have hr1 := h.1
  have h := h.2
  refine j_icmp_ne (tgt := 32) hr1 (inl (by decide)) (show decode cX11_star 12 = .ok (.if_icmp .ne 20, 3) by decide +kernel) (by decide) (fun c => ?_) (fun c => ?_)
  · have h := h.1 c
    refine j_iconst (show decode cX11_star 32 = .ok (.iconst 0, 1) by decide +kernel) ?_
    exact j_ret (rokZ (show decode cX11_star 33 = .ok (.ireturn, 1) by decide +kernel) rfl (Or.inl rfl)) ⟨rfl, rfl, h⟩
  · have h := h.2 c
    refine s_aload_n (i := 0) rfl (show decode cX11_star 15 = .ok (.aload_n 0, 1) by decide +kernel) ?_
    refine gf_X11_10 (x := 2) rfl (show decode cX11_star 16 = .ok (.getfield 10, 3) by decide +kernel) okl_1 rfl ?_
    refine gf_X11_298 (x := 129) rfl (show decode cX11_star 19 = .ok (.getfield 298, 3) by decide +kernel) okl_2 (gr_10_2 okl_2) ?_
    refine j_ctV (m' := mX9_goesByTheLast) (As := []) (ci := 9) (tag := 0) (N := 0) (cw_X11_311 rfl) (show decode cX11_star 22 = .ok (.invokevirtual 311, 3) by decide +kernel) rfl (Nat.le_of_ble_eq_true rfl) (by decide) okl_129 rfl rfl (Nat.le_refl _) h (fun r3 σ3 h => ?_)
    have hr3 := h.1
    have h := h.2
    refine j_if_eq (tgt := 32) hr3 (show decode cX11_star 25 = .ok (.ifCond .eq 7, 3) by decide +kernel) (by decide) (fun c => ?_) (fun c => ?_)
    · have h := h.1 c
      refine j_iconst (show decode cX11_star 32 = .ok (.iconst 0, 1) by decide +kernel) ?_
      exact j_ret (rokZ (show decode cX11_star 33 = .ok (.ireturn, 1) by decide +kernel) rfl (Or.inl rfl)) ⟨rfl, rfl, h⟩
    · have h := h.2 c
      refine j_iconst (show decode cX11_star 28 = .ok (.iconst 1, 1) by decide +kernel) ?_
      refine j_goto (tgt := 33) (show decode cX11_star 29 = .ok (.goto 4, 3) by decide +kernel) (by decide) ?_
      exact j_ret (rokZ (show decode cX11_star 33 = .ok (.ireturn, 1) by decide +kernel) rfl (Or.inr rfl)) ⟨rfl, rfl, h⟩
theorem c_X11_star {d : Nat} {t : Int} {Q : Int → jM → Prop} {σ : jM} (h : Ct mX9_wrongWithout d 0 t [rv 129, iv (-1)] σ (fun r1 σ1 => ((inR r1) ∧ ((¬ r1 = (-1) → (Q 0 σ1)) ∧ (r1 = (-1) → (Ct mX9_goesByTheLast d 0 t [rv 129] σ1 (fun r3 σ3 => ((inR r3) ∧ ((r3 = 0 → (Q 0 σ3)) ∧ (¬ r3 = 0 → (Q 1 σ3))))))))))) : Ct mX11_star (d + 1) 0 t [rv 1] σ Q := Ct_of (by decide +kernel) (Nat.le_of_ble_eq_true rfl) (b_X11_star_0 h)
set_option maxRecDepth 4000 in
theorem b_X11_steps_0 {d : Nat} {t : Int} {Q : Int → jM → Prop} {σ : jM} {p1 : Int} (h : Ct mX9_wrongWithout d 0 t [rv 129, iv (-1)] σ (fun r1 σ1 => ((inR r1) ∧ ((r1 = (-1) → (Ct mX9_doublings d 0 t [rv 129] σ1 (fun r3 σ3 => ((inR p1) ∧ ((p1 = 0 → (Q (((σ3 129 1) - 1) - r3) σ3)) ∧ (¬ p1 = 0 → (Q r3 σ3))))))) ∧ (¬ r1 = (-1) → (Q (-1) σ1)))))) : Jt mX11_steps (d + 1) 0 t Q 0 [rv 1, iv p1, uv] [] σ := by
  refine s_aload_n (i := 0) rfl (show decode cX11_steps 0 = .ok (.aload_n 0, 1) by decide +kernel) ?_
  refine gf_X11_10 (x := 2) rfl (show decode cX11_steps 1 = .ok (.getfield 10, 3) by decide +kernel) okl_1 rfl ?_
  refine gf_X11_298 (x := 129) rfl (show decode cX11_steps 4 = .ok (.getfield 298, 3) by decide +kernel) okl_2 (gr_10_2 okl_2) ?_
  refine j_iconst (show decode cX11_steps 7 = .ok (.iconst (-1), 1) by decide +kernel) ?_
  refine j_ctV (m' := mX9_wrongWithout) (As := [iv (-1)]) (ci := 9) (tag := 0) (N := 0) (cw_X11_308 rfl) (show decode cX11_steps 8 = .ok (.invokevirtual 308, 3) by decide +kernel) rfl (Nat.le_of_ble_eq_true rfl) (by decide) okl_129 rfl rfl (Nat.le_refl _) h (fun r1 σ1 h => ?_)
  refine j_iconst (show decode cX11_steps 11 = .ok (.iconst (-1), 1) by decide +kernel) ?_
  have hr1 := h.1
  have h := h.2
  refine j_icmp_eq (tgt := 17) hr1 (inl (by decide)) (show decode cX11_steps 12 = .ok (.if_icmp .eq 5, 3) by decide +kernel) (by decide) (fun c => ?_) (fun c => ?_)
  · have h := h.1 c
    refine s_aload_n (i := 0) rfl (show decode cX11_steps 17 = .ok (.aload_n 0, 1) by decide +kernel) ?_
    refine gf_X11_10 (x := 2) rfl (show decode cX11_steps 18 = .ok (.getfield 10, 3) by decide +kernel) okl_1 rfl ?_
    refine gf_X11_298 (x := 129) rfl (show decode cX11_steps 21 = .ok (.getfield 298, 3) by decide +kernel) okl_2 (gr_10_2 okl_2) ?_
    refine j_ctV (m' := mX9_doublings) (As := []) (ci := 9) (tag := 0) (N := 0) (cw_X11_314 rfl) (show decode cX11_steps 24 = .ok (.invokevirtual 314, 3) by decide +kernel) rfl (Nat.le_of_ble_eq_true rfl) (by decide) okl_129 rfl rfl (Nat.le_refl _) h (fun r3 σ3 h => ?_)
    refine s_ist_n (i := 2) (L' := [rv 1, iv p1, iv r3]) rfl (by decide) (show decode cX11_steps 27 = .ok (.istore_n 2, 1) by decide +kernel) ?_
    refine j_iload_n (i := 1) rfl (show decode cX11_steps 28 = .ok (.iload_n 1, 1) by decide +kernel) ?_
    have hr3 := h.1
    have h := h.2
    refine j_if_eq (tgt := 36) hr3 (show decode cX11_steps 29 = .ok (.ifCond .eq 7, 3) by decide +kernel) (by decide) (fun c => ?_) (fun c => ?_)
    · have h := h.1 c
      refine s_aload_n (i := 0) rfl (show decode cX11_steps 36 = .ok (.aload_n 0, 1) by decide +kernel) ?_
      refine gf_X11_10 (x := 2) rfl (show decode cX11_steps 37 = .ok (.getfield 10, 3) by decide +kernel) okl_1 rfl ?_
      refine gf_X11_298 (x := 129) rfl (show decode cX11_steps 40 = .ok (.getfield 298, 3) by decide +kernel) okl_2 (gr_10_2 okl_2) ?_
      refine gf_X11_302 rfl (show decode cX11_steps 43 = .ok (.getfield 302, 3) by decide +kernel) okl_129 ?_
      refine j_iconst (show decode cX11_steps 46 = .ok (.iconst 1, 1) by decide +kernel) ?_
      refine j_isub (show decode cX11_steps 47 = .ok (.isub, 1) by decide +kernel) ?_
      refine j_iload_n (i := 2) rfl (show decode cX11_steps 48 = .ok (.iload_n 2, 1) by decide +kernel) ?_
      refine j_isub (show decode cX11_steps 49 = .ok (.isub, 1) by decide +kernel) ?_
      exact j_ret (rokI (show decode cX11_steps 50 = .ok (.ireturn, 1) by decide +kernel) rfl) ⟨rfl, rfl, h⟩
    · have h := h.2 c
      refine j_iload_n (i := 2) rfl (show decode cX11_steps 32 = .ok (.iload_n 2, 1) by decide +kernel) ?_
      refine j_goto (tgt := 50) (show decode cX11_steps 33 = .ok (.goto 17, 3) by decide +kernel) (by decide) ?_
      exact j_ret (rokI (show decode cX11_steps 50 = .ok (.ireturn, 1) by decide +kernel) rfl) ⟨rfl, rfl, h⟩
  · have h := h.2 c
    refine j_iconst (show decode cX11_steps 15 = .ok (.iconst (-1), 1) by decide +kernel) ?_
    exact j_ret (rokI (show decode cX11_steps 16 = .ok (.ireturn, 1) by decide +kernel) rfl) ⟨rfl, rfl, h⟩
theorem c_X11_steps {d : Nat} {t : Int} {Q : Int → jM → Prop} {σ : jM} {p1 : Int} (h : Ct mX9_wrongWithout d 0 t [rv 129, iv (-1)] σ (fun r1 σ1 => ((inR r1) ∧ ((r1 = (-1) → (Ct mX9_doublings d 0 t [rv 129] σ1 (fun r3 σ3 => ((inR p1) ∧ ((p1 = 0 → (Q (((σ3 129 1) - 1) - r3) σ3)) ∧ (¬ p1 = 0 → (Q r3 σ3))))))) ∧ (¬ r1 = (-1) → (Q (-1) σ1)))))) : Ct mX11_steps (d + 1) 0 t [rv 1, iv p1] σ Q := Ct_of (by decide +kernel) (Nat.le_of_ble_eq_true rfl) (b_X11_steps_0 h)
set_option maxRecDepth 4000 in
theorem b_X11_game_0 {d : Nat} {t : Int} {Q : Int → jM → Prop} {σ : jM} {p1 : Int} (h : (inR p1) ∧ ((p1 < 2 → (Q (-1) σ)) ∧ (2 ≤ p1 → ((inR p1) ∧ ((p1 ≤ 12 → (Ct mX11_winningPlay d 0 t [iv 2, iv 1, iv p1] σ (fun r3 σ3 => ((inR r3) ∧ ((¬ r3 = (-1) → (Q 1 σ3)) ∧ (r3 = (-1) → (Q 0 σ3))))))) ∧ (12 < p1 → (Q (-1) σ))))))) : Jt mX11_game (d + 1) 0 t Q 0 [rv 1, iv p1] [] σ := by
  refine j_iload_n (i := 1) rfl (show decode cX11_game 0 = .ok (.iload_n 1, 1) by decide +kernel) ?_
  refine j_iconst (show decode cX11_game 1 = .ok (.iconst 2, 1) by decide +kernel) ?_
  have hr0 := h.1
  have h := h.2
  refine j_icmp_lt (tgt := 11) hr0 (inl (by decide)) (show decode cX11_game 2 = .ok (.if_icmp .lt 9, 3) by decide +kernel) (by decide) (fun c => ?_) (fun c => ?_)
  · have h := h.1 c
    refine j_iconst (show decode cX11_game 11 = .ok (.iconst (-1), 1) by decide +kernel) ?_
    exact j_ret (rokI (show decode cX11_game 12 = .ok (.ireturn, 1) by decide +kernel) rfl) ⟨rfl, rfl, h⟩
  · have h := h.2 c
    refine j_iload_n (i := 1) rfl (show decode cX11_game 5 = .ok (.iload_n 1, 1) by decide +kernel) ?_
    refine j_bipush (n := 12) (by decide +kernel) (show decode cX11_game 6 = .ok (.bipush 12, 2) by decide +kernel) ?_
    have hr1 := h.1
    have h := h.2
    refine j_icmp_le (tgt := 13) hr1 (inl (by decide)) (show decode cX11_game 8 = .ok (.if_icmp .le 5, 3) by decide +kernel) (by decide) (fun c => ?_) (fun c => ?_)
    · have h := h.1 c
      refine j_iconst (show decode cX11_game 13 = .ok (.iconst 2, 1) by decide +kernel) ?_
      refine j_iconst (show decode cX11_game 14 = .ok (.iconst 1, 1) by decide +kernel) ?_
      refine j_iload_n (i := 1) rfl (show decode cX11_game 15 = .ok (.iload_n 1, 1) by decide +kernel) ?_
      refine j_ctS (m' := mX11_winningPlay) (As := [iv 2, iv 1, iv p1]) (tag := 0) (cw_X11_317 rfl) (show decode cX11_game 16 = .ok (.invokestatic 317, 3) by decide +kernel) rfl (Nat.le_of_ble_eq_true rfl) (by decide) (Nat.le_refl _) h (fun r3 σ3 h => ?_)
      refine j_iconst (show decode cX11_game 19 = .ok (.iconst (-1), 1) by decide +kernel) ?_
      have hr3 := h.1
      have h := h.2
      refine j_icmp_ne (tgt := 27) hr3 (inl (by decide)) (show decode cX11_game 20 = .ok (.if_icmp .ne 7, 3) by decide +kernel) (by decide) (fun c => ?_) (fun c => ?_)
      · have h := h.1 c
        refine j_iconst (show decode cX11_game 27 = .ok (.iconst 1, 1) by decide +kernel) ?_
        exact j_ret (rokI (show decode cX11_game 28 = .ok (.ireturn, 1) by decide +kernel) rfl) ⟨rfl, rfl, h⟩
      · have h := h.2 c
        refine j_iconst (show decode cX11_game 23 = .ok (.iconst 0, 1) by decide +kernel) ?_
        refine j_goto (tgt := 28) (show decode cX11_game 24 = .ok (.goto 4, 3) by decide +kernel) (by decide) ?_
        exact j_ret (rokI (show decode cX11_game 28 = .ok (.ireturn, 1) by decide +kernel) rfl) ⟨rfl, rfl, h⟩
    · have h := h.2 c
      refine j_iconst (show decode cX11_game 11 = .ok (.iconst (-1), 1) by decide +kernel) ?_
      exact j_ret (rokI (show decode cX11_game 12 = .ok (.ireturn, 1) by decide +kernel) rfl) ⟨rfl, rfl, h⟩
theorem c_X11_game {d : Nat} {t : Int} {Q : Int → jM → Prop} {σ : jM} {p1 : Int} (h : (inR p1) ∧ ((p1 < 2 → (Q (-1) σ)) ∧ (2 ≤ p1 → ((inR p1) ∧ ((p1 ≤ 12 → (Ct mX11_winningPlay d 0 t [iv 2, iv 1, iv p1] σ (fun r3 σ3 => ((inR r3) ∧ ((¬ r3 = (-1) → (Q 1 σ3)) ∧ (r3 = (-1) → (Q 0 σ3))))))) ∧ (12 < p1 → (Q (-1) σ))))))) : Ct mX11_game (d + 1) 0 t [rv 1, iv p1] σ Q := Ct_of (by decide +kernel) (Nat.le_of_ble_eq_true rfl) (b_X11_game_0 h)
set_option maxRecDepth 4000 in
theorem b_X11_play_0 {d : Nat} {t : Int} {Q : Int → jM → Prop} {σ : jM} {p1 : Int} (h : (inR p1) ∧ ((p1 < 2 → (Q (-1) σ)) ∧ (2 ≤ p1 → ((inR p1) ∧ ((p1 ≤ 12 → (Ct mX11_winningPlay d 0 t [iv 2, iv 1, iv p1] σ (fun r3 σ3 => (Q r3 σ3)))) ∧ (12 < p1 → (Q (-1) σ))))))) : Jt mX11_play (d + 1) 0 t Q 0 [rv 1, iv p1] [] σ := by
  refine j_iload_n (i := 1) rfl (show decode cX11_play 0 = .ok (.iload_n 1, 1) by decide +kernel) ?_
  refine j_iconst (show decode cX11_play 1 = .ok (.iconst 2, 1) by decide +kernel) ?_
  have hr0 := h.1
  have h := h.2
  refine j_icmp_lt (tgt := 11) hr0 (inl (by decide)) (show decode cX11_play 2 = .ok (.if_icmp .lt 9, 3) by decide +kernel) (by decide) (fun c => ?_) (fun c => ?_)
  · have h := h.1 c
    refine j_iconst (show decode cX11_play 11 = .ok (.iconst (-1), 1) by decide +kernel) ?_
    exact j_ret (rokI (show decode cX11_play 12 = .ok (.ireturn, 1) by decide +kernel) rfl) ⟨rfl, rfl, h⟩
  · have h := h.2 c
    refine j_iload_n (i := 1) rfl (show decode cX11_play 5 = .ok (.iload_n 1, 1) by decide +kernel) ?_
    refine j_bipush (n := 12) (by decide +kernel) (show decode cX11_play 6 = .ok (.bipush 12, 2) by decide +kernel) ?_
    have hr1 := h.1
    have h := h.2
    refine j_icmp_le (tgt := 13) hr1 (inl (by decide)) (show decode cX11_play 8 = .ok (.if_icmp .le 5, 3) by decide +kernel) (by decide) (fun c => ?_) (fun c => ?_)
    · have h := h.1 c
      refine j_iconst (show decode cX11_play 13 = .ok (.iconst 2, 1) by decide +kernel) ?_
      refine j_iconst (show decode cX11_play 14 = .ok (.iconst 1, 1) by decide +kernel) ?_
      refine j_iload_n (i := 1) rfl (show decode cX11_play 15 = .ok (.iload_n 1, 1) by decide +kernel) ?_
      refine j_ctS (m' := mX11_winningPlay) (As := [iv 2, iv 1, iv p1]) (tag := 0) (cw_X11_317 rfl) (show decode cX11_play 16 = .ok (.invokestatic 317, 3) by decide +kernel) rfl (Nat.le_of_ble_eq_true rfl) (by decide) (Nat.le_refl _) h (fun r3 σ3 h => ?_)
      exact j_ret (rokI (show decode cX11_play 19 = .ok (.ireturn, 1) by decide +kernel) rfl) ⟨rfl, rfl, h⟩
    · have h := h.2 c
      refine j_iconst (show decode cX11_play 11 = .ok (.iconst (-1), 1) by decide +kernel) ?_
      exact j_ret (rokI (show decode cX11_play 12 = .ok (.ireturn, 1) by decide +kernel) rfl) ⟨rfl, rfl, h⟩
theorem c_X11_play {d : Nat} {t : Int} {Q : Int → jM → Prop} {σ : jM} {p1 : Int} (h : (inR p1) ∧ ((p1 < 2 → (Q (-1) σ)) ∧ (2 ≤ p1 → ((inR p1) ∧ ((p1 ≤ 12 → (Ct mX11_winningPlay d 0 t [iv 2, iv 1, iv p1] σ (fun r3 σ3 => (Q r3 σ3)))) ∧ (12 < p1 → (Q (-1) σ))))))) : Ct mX11_play (d + 1) 0 t [rv 1, iv p1] σ Q := Ct_of (by decide +kernel) (Nat.le_of_ble_eq_true rfl) (b_X11_play_0 h)
set_option maxRecDepth 4000 in
theorem b_X11_winningPlay_4 {d : Nat} {t : Int} {Q : Int → jM → Prop} {σ : jM} {p0 p1 p2 v3 : Int} (h : (inR v3) ∧ ((inR p2) ∧ ((p2 < v3 → (Q (-1) σ)) ∧ (v3 ≤ p2 → (Ct mX11_isSum d 0 t [iv p0, iv v3] σ (fun r3 σ3 => ((inR r3) ∧ ((r3 = 0 → (Jt mX11_winningPlay (d + 1) 0 t Q 4 [iv p0, iv p1, iv p2, iv (v3 + 1)] [] σ3)) ∧ (¬ r3 = 0 → ((inR v3) ∧ ((inR p2) ∧ ((v3 = p2 → (Q v3 σ3)) ∧ (¬ v3 = p2 → (Ct mX11_winningPlay d 0 t [iv (i_or p0 (i_shl 1 v3)), iv v3, iv p2] σ3 (fun r7 σ7 => ((inR r7) ∧ ((¬ r7 = (-1) → (Jt mX11_winningPlay (d + 1) 0 t Q 4 [iv p0, iv p1, iv p2, iv (v3 + 1)] [] σ7)) ∧ (r7 = (-1) → (Q v3 σ7))))))))))))))))))) : Jt mX11_winningPlay (d + 1) 0 t Q 4 [iv p0, iv p1, iv p2, iv v3] [] σ := by
  refine j_iload_n (i := 3) rfl (show decode cX11_winningPlay 4 = .ok (.iload_n 3, 1) by decide +kernel) ?_
  refine j_iload_n (i := 2) rfl (show decode cX11_winningPlay 5 = .ok (.iload_n 2, 1) by decide +kernel) ?_
  have hr0 := h.1
  have h := h.2
  have hr1 := h.1
  have h := h.2
  refine j_icmp_gt (tgt := 44) hr0 hr1 (show decode cX11_winningPlay 6 = .ok (.if_icmp .gt 38, 3) by decide +kernel) (by decide) (fun c => ?_) (fun c => ?_)
  · have h := h.1 c
    refine j_iconst (show decode cX11_winningPlay 44 = .ok (.iconst (-1), 1) by decide +kernel) ?_
    exact j_ret (rokI (show decode cX11_winningPlay 45 = .ok (.ireturn, 1) by decide +kernel) rfl) ⟨rfl, rfl, h⟩
  · have h := h.2 c
    refine j_iload_n (i := 0) rfl (show decode cX11_winningPlay 9 = .ok (.iload_n 0, 1) by decide +kernel) ?_
    refine j_iload_n (i := 3) rfl (show decode cX11_winningPlay 10 = .ok (.iload_n 3, 1) by decide +kernel) ?_
    refine j_ctS (m' := mX11_isSum) (As := [iv p0, iv v3]) (tag := 0) (cw_X11_320 rfl) (show decode cX11_winningPlay 11 = .ok (.invokestatic 320, 3) by decide +kernel) rfl (Nat.le_of_ble_eq_true rfl) (by decide) (Nat.le_refl _) h (fun r3 σ3 h => ?_)
    have hr3 := h.1
    have h := h.2
    refine j_if_eq (tgt := 38) hr3 (show decode cX11_winningPlay 14 = .ok (.ifCond .eq 24, 3) by decide +kernel) (by decide) (fun c => ?_) (fun c => ?_)
    · have h := h.1 c
      refine s_iinc (i := 3) rfl (L' := [iv p0, iv p1, iv p2, iv (v3 + 1)]) rfl (show decode cX11_winningPlay 38 = .ok (.iinc 3 1, 3) by decide +kernel) ?_
      refine j_goto (tgt := 4) (show decode cX11_winningPlay 41 = .ok (.goto (-37), 3) by decide +kernel) (by decide) ?_
      exact h
    · have h := h.2 c
      refine j_iload_n (i := 3) rfl (show decode cX11_winningPlay 17 = .ok (.iload_n 3, 1) by decide +kernel) ?_
      refine j_iload_n (i := 2) rfl (show decode cX11_winningPlay 18 = .ok (.iload_n 2, 1) by decide +kernel) ?_
      have hr4 := h.1
      have h := h.2
      have hr5 := h.1
      have h := h.2
      refine j_icmp_eq (tgt := 36) hr4 hr5 (show decode cX11_winningPlay 19 = .ok (.if_icmp .eq 17, 3) by decide +kernel) (by decide) (fun c => ?_) (fun c => ?_)
      · have h := h.1 c
        refine j_iload_n (i := 3) rfl (show decode cX11_winningPlay 36 = .ok (.iload_n 3, 1) by decide +kernel) ?_
        exact j_ret (rokI (show decode cX11_winningPlay 37 = .ok (.ireturn, 1) by decide +kernel) rfl) ⟨rfl, rfl, h⟩
      · have h := h.2 c
        refine j_iload_n (i := 0) rfl (show decode cX11_winningPlay 22 = .ok (.iload_n 0, 1) by decide +kernel) ?_
        refine j_iconst (show decode cX11_winningPlay 23 = .ok (.iconst 1, 1) by decide +kernel) ?_
        refine j_iload_n (i := 3) rfl (show decode cX11_winningPlay 24 = .ok (.iload_n 3, 1) by decide +kernel) ?_
        refine j_ishl (show decode cX11_winningPlay 25 = .ok (.ishl, 1) by decide +kernel) ?_
        refine j_ior (show decode cX11_winningPlay 26 = .ok (.ior, 1) by decide +kernel) ?_
        refine j_iload_n (i := 3) rfl (show decode cX11_winningPlay 27 = .ok (.iload_n 3, 1) by decide +kernel) ?_
        refine j_iload_n (i := 2) rfl (show decode cX11_winningPlay 28 = .ok (.iload_n 2, 1) by decide +kernel) ?_
        refine j_ctS (m' := mX11_winningPlay) (As := [iv (i_or p0 (i_shl 1 v3)), iv v3, iv p2]) (tag := 0) (cw_X11_317 rfl) (show decode cX11_winningPlay 29 = .ok (.invokestatic 317, 3) by decide +kernel) rfl (Nat.le_of_ble_eq_true rfl) (by decide) (Nat.le_refl _) h (fun r7 σ7 h => ?_)
        refine j_iconst (show decode cX11_winningPlay 32 = .ok (.iconst (-1), 1) by decide +kernel) ?_
        have hr7 := h.1
        have h := h.2
        refine j_icmp_ne (tgt := 38) hr7 (inl (by decide)) (show decode cX11_winningPlay 33 = .ok (.if_icmp .ne 5, 3) by decide +kernel) (by decide) (fun c => ?_) (fun c => ?_)
        · have h := h.1 c
          refine s_iinc (i := 3) rfl (L' := [iv p0, iv p1, iv p2, iv (v3 + 1)]) rfl (show decode cX11_winningPlay 38 = .ok (.iinc 3 1, 3) by decide +kernel) ?_
          refine j_goto (tgt := 4) (show decode cX11_winningPlay 41 = .ok (.goto (-37), 3) by decide +kernel) (by decide) ?_
          exact h
        · have h := h.2 c
          refine j_iload_n (i := 3) rfl (show decode cX11_winningPlay 36 = .ok (.iload_n 3, 1) by decide +kernel) ?_
          exact j_ret (rokI (show decode cX11_winningPlay 37 = .ok (.ireturn, 1) by decide +kernel) rfl) ⟨rfl, rfl, h⟩
set_option maxRecDepth 4000 in
theorem b_X11_winningPlay_0 {d : Nat} {t : Int} {Q : Int → jM → Prop} {σ : jM} {p0 p1 p2 : Int} (h : Jt mX11_winningPlay (d + 1) 0 t Q 4 [iv p0, iv p1, iv p2, iv (p1 + 1)] [] σ) : Jt mX11_winningPlay (d + 1) 0 t Q 0 [iv p0, iv p1, iv p2, uv] [] σ := by
  refine j_iload_n (i := 1) rfl (show decode cX11_winningPlay 0 = .ok (.iload_n 1, 1) by decide +kernel) ?_
  refine j_iconst (show decode cX11_winningPlay 1 = .ok (.iconst 1, 1) by decide +kernel) ?_
  refine j_iadd (show decode cX11_winningPlay 2 = .ok (.iadd, 1) by decide +kernel) ?_
  refine s_ist_n (i := 3) (L' := [iv p0, iv p1, iv p2, iv (p1 + 1)]) rfl (by decide) (show decode cX11_winningPlay 3 = .ok (.istore_n 3, 1) by decide +kernel) ?_
  exact h
theorem c_X11_winningPlay {d : Nat} {t : Int} {Q : Int → jM → Prop} {σ : jM} {p0 p1 p2 : Int} (h : Jt mX11_winningPlay (d + 1) 0 t Q 4 [iv p0, iv p1, iv p2, iv (p1 + 1)] [] σ) : Ct mX11_winningPlay (d + 1) 0 t [iv p0, iv p1, iv p2] σ Q := Ct_of (by decide +kernel) (Nat.le_of_ble_eq_true rfl) (b_X11_winningPlay_0 h)
set_option maxRecDepth 4000 in
theorem b_X11_isSum_2 {d : Nat} {t : Int} {Q : Int → jM → Prop} {σ : jM} {p0 p1 v2 : Int} (h : (inR (v2 + v2)) ∧ ((inR p1) ∧ ((p1 < (v2 + v2) → (Q 0 σ)) ∧ ((v2 + v2) ≤ p1 → ((inR (i_and (i_and (i_shr p0 v2) (i_shr p0 (p1 - v2))) 1)) ∧ ((¬ (i_and (i_and (i_shr p0 v2) (i_shr p0 (p1 - v2))) 1) = 1 → (Jt mX11_isSum (d) 0 t Q 2 [iv p0, iv p1, iv (v2 + 1)] [] σ)) ∧ ((i_and (i_and (i_shr p0 v2) (i_shr p0 (p1 - v2))) 1) = 1 → (Q 1 σ)))))))) : Jt mX11_isSum (d) 0 t Q 2 [iv p0, iv p1, iv v2] [] σ := by
  refine j_iload_n (i := 2) rfl (show decode cX11_isSum 2 = .ok (.iload_n 2, 1) by decide +kernel) ?_
  refine j_iload_n (i := 2) rfl (show decode cX11_isSum 3 = .ok (.iload_n 2, 1) by decide +kernel) ?_
  refine j_iadd (show decode cX11_isSum 4 = .ok (.iadd, 1) by decide +kernel) ?_
  refine j_iload_n (i := 1) rfl (show decode cX11_isSum 5 = .ok (.iload_n 1, 1) by decide +kernel) ?_
  have hr0 := h.1
  have h := h.2
  have hr1 := h.1
  have h := h.2
  refine j_icmp_gt (tgt := 32) hr0 hr1 (show decode cX11_isSum 6 = .ok (.if_icmp .gt 26, 3) by decide +kernel) (by decide) (fun c => ?_) (fun c => ?_)
  · have h := h.1 c
    refine j_iconst (show decode cX11_isSum 32 = .ok (.iconst 0, 1) by decide +kernel) ?_
    exact j_ret (rokZ (show decode cX11_isSum 33 = .ok (.ireturn, 1) by decide +kernel) rfl (Or.inl rfl)) ⟨rfl, rfl, h⟩
  · have h := h.2 c
    refine j_iload_n (i := 0) rfl (show decode cX11_isSum 9 = .ok (.iload_n 0, 1) by decide +kernel) ?_
    refine j_iload_n (i := 2) rfl (show decode cX11_isSum 10 = .ok (.iload_n 2, 1) by decide +kernel) ?_
    refine j_ishr (show decode cX11_isSum 11 = .ok (.ishr, 1) by decide +kernel) ?_
    refine j_iload_n (i := 0) rfl (show decode cX11_isSum 12 = .ok (.iload_n 0, 1) by decide +kernel) ?_
    refine j_iload_n (i := 1) rfl (show decode cX11_isSum 13 = .ok (.iload_n 1, 1) by decide +kernel) ?_
    refine j_iload_n (i := 2) rfl (show decode cX11_isSum 14 = .ok (.iload_n 2, 1) by decide +kernel) ?_
    refine j_isub (show decode cX11_isSum 15 = .ok (.isub, 1) by decide +kernel) ?_
    refine j_ishr (show decode cX11_isSum 16 = .ok (.ishr, 1) by decide +kernel) ?_
    refine j_iand (show decode cX11_isSum 17 = .ok (.iand, 1) by decide +kernel) ?_
    refine j_iconst (show decode cX11_isSum 18 = .ok (.iconst 1, 1) by decide +kernel) ?_
    refine j_iand (show decode cX11_isSum 19 = .ok (.iand, 1) by decide +kernel) ?_
    refine j_iconst (show decode cX11_isSum 20 = .ok (.iconst 1, 1) by decide +kernel) ?_
    have hr2 := h.1
    have h := h.2
    refine j_icmp_ne (tgt := 26) hr2 (inl (by decide)) (show decode cX11_isSum 21 = .ok (.if_icmp .ne 5, 3) by decide +kernel) (by decide) (fun c => ?_) (fun c => ?_)
    · have h := h.1 c
      refine s_iinc (i := 2) rfl (L' := [iv p0, iv p1, iv (v2 + 1)]) rfl (show decode cX11_isSum 26 = .ok (.iinc 2 1, 3) by decide +kernel) ?_
      refine j_goto (tgt := 2) (show decode cX11_isSum 29 = .ok (.goto (-27), 3) by decide +kernel) (by decide) ?_
      exact h
    · have h := h.2 c
      refine j_iconst (show decode cX11_isSum 24 = .ok (.iconst 1, 1) by decide +kernel) ?_
      exact j_ret (rokZ (show decode cX11_isSum 25 = .ok (.ireturn, 1) by decide +kernel) rfl (Or.inr rfl)) ⟨rfl, rfl, h⟩
set_option maxRecDepth 4000 in
theorem b_X11_isSum_0 {d : Nat} {t : Int} {Q : Int → jM → Prop} {σ : jM} {p0 p1 : Int} (h : Jt mX11_isSum (d) 0 t Q 2 [iv p0, iv p1, iv 1] [] σ) : Jt mX11_isSum (d) 0 t Q 0 [iv p0, iv p1, uv] [] σ := by
  refine j_iconst (show decode cX11_isSum 0 = .ok (.iconst 1, 1) by decide +kernel) ?_
  refine s_ist_n (i := 2) (L' := [iv p0, iv p1, iv 1]) rfl (by decide) (show decode cX11_isSum 1 = .ok (.istore_n 2, 1) by decide +kernel) ?_
  exact h
theorem c_X11_isSum {d : Nat} {t : Int} {Q : Int → jM → Prop} {σ : jM} {p0 p1 : Int} (h : Jt mX11_isSum (d) 0 t Q 2 [iv p0, iv p1, iv 1] [] σ) : Ct mX11_isSum (d) 0 t [iv p0, iv p1] σ Q := Ct_of (by decide +kernel) (Nat.le_of_ble_eq_true rfl) (b_X11_isSum_0 h)
set_option maxRecDepth 4000 in
theorem b_X11_said_0 {d : Nat} {t : Int} {Q : Int → jM → Prop} {σ : jM} {p1 p2 : Int} (h : (inR p1) ∧ ((¬ p1 = (-1) → ((inR p1) ∧ ((p1 < 0 → (Q (-2) σ)) ∧ (0 ≤ p1 → ((inR p1) ∧ ((8 ≤ p1 → (Q (-2) σ)) ∧ (p1 < 8 → ((inR p2) ∧ ((p2 < 0 → (Q (-2) σ)) ∧ (0 ≤ p2 → ((inR p2) ∧ ((10 < p2 → (Q (-2) σ)) ∧ (p2 ≤ 10 → ((inR (σ 2 9)) ∧ (((σ 2 9) < 8 → (((0 : Int) ≤ (σ 2 9) ∧ (σ 2 9) < 8) ∧ (∀ σ8 : jM, σ8 = up σ 132 (σ 2 9) p1 → (((0 : Int) ≤ (σ8 2 9) ∧ (σ8 2 9) < 8) ∧ (∀ σ10 : jM, σ10 = up σ8 133 (σ8 2 9) p2 → (∀ σ11 : jM, σ11 = up σ10 2 9 ((σ10 2 9) + 1) → (Q (σ11 2 9) σ11))))))) ∧ (8 ≤ (σ 2 9) → (Q (-2) σ))))))))))))))))) ∧ (p1 = (-1) → (∀ σ12 : jM, σ12 = up σ 2 9 0 → (Q 0 σ12))))) : Jt mX11_said (d) 0 t Q 0 [rv 1, iv p1, iv p2] [] σ := by
  refine j_iload_n (i := 1) rfl (show decode cX11_said 0 = .ok (.iload_n 1, 1) by decide +kernel) ?_
  refine j_iconst (show decode cX11_said 1 = .ok (.iconst (-1), 1) by decide +kernel) ?_
  have hr0 := h.1
  have h := h.2
  refine j_icmp_ne (tgt := 15) hr0 (inl (by decide)) (show decode cX11_said 2 = .ok (.if_icmp .ne 13, 3) by decide +kernel) (by decide) (fun c => ?_) (fun c => ?_)
  · have h := h.1 c
    refine j_iload_n (i := 1) rfl (show decode cX11_said 15 = .ok (.iload_n 1, 1) by decide +kernel) ?_
    have hr1 := h.1
    have h := h.2
    refine j_if_lt (tgt := 47) hr1 (show decode cX11_said 16 = .ok (.ifCond .lt 31, 3) by decide +kernel) (by decide) (fun c => ?_) (fun c => ?_)
    · have h := h.1 c
      refine j_bipush (n := -2) (by decide +kernel) (show decode cX11_said 47 = .ok (.bipush (-2), 2) by decide +kernel) ?_
      exact j_ret (rokI (show decode cX11_said 49 = .ok (.ireturn, 1) by decide +kernel) rfl) ⟨rfl, rfl, h⟩
    · have h := h.2 c
      refine j_iload_n (i := 1) rfl (show decode cX11_said 19 = .ok (.iload_n 1, 1) by decide +kernel) ?_
      refine j_bipush (n := 8) (by decide +kernel) (show decode cX11_said 20 = .ok (.bipush 8, 2) by decide +kernel) ?_
      have hr2 := h.1
      have h := h.2
      refine j_icmp_ge (tgt := 47) hr2 (inl (by decide)) (show decode cX11_said 22 = .ok (.if_icmp .ge 25, 3) by decide +kernel) (by decide) (fun c => ?_) (fun c => ?_)
      · have h := h.1 c
        refine j_bipush (n := -2) (by decide +kernel) (show decode cX11_said 47 = .ok (.bipush (-2), 2) by decide +kernel) ?_
        exact j_ret (rokI (show decode cX11_said 49 = .ok (.ireturn, 1) by decide +kernel) rfl) ⟨rfl, rfl, h⟩
      · have h := h.2 c
        refine j_iload_n (i := 2) rfl (show decode cX11_said 25 = .ok (.iload_n 2, 1) by decide +kernel) ?_
        have hr3 := h.1
        have h := h.2
        refine j_if_lt (tgt := 47) hr3 (show decode cX11_said 26 = .ok (.ifCond .lt 21, 3) by decide +kernel) (by decide) (fun c => ?_) (fun c => ?_)
        · have h := h.1 c
          refine j_bipush (n := -2) (by decide +kernel) (show decode cX11_said 47 = .ok (.bipush (-2), 2) by decide +kernel) ?_
          exact j_ret (rokI (show decode cX11_said 49 = .ok (.ireturn, 1) by decide +kernel) rfl) ⟨rfl, rfl, h⟩
        · have h := h.2 c
          refine j_iload_n (i := 2) rfl (show decode cX11_said 29 = .ok (.iload_n 2, 1) by decide +kernel) ?_
          refine j_bipush (n := 10) (by decide +kernel) (show decode cX11_said 30 = .ok (.bipush 10, 2) by decide +kernel) ?_
          have hr4 := h.1
          have h := h.2
          refine j_icmp_gt (tgt := 47) hr4 (inl (by decide)) (show decode cX11_said 32 = .ok (.if_icmp .gt 15, 3) by decide +kernel) (by decide) (fun c => ?_) (fun c => ?_)
          · have h := h.1 c
            refine j_bipush (n := -2) (by decide +kernel) (show decode cX11_said 47 = .ok (.bipush (-2), 2) by decide +kernel) ?_
            exact j_ret (rokI (show decode cX11_said 49 = .ok (.ireturn, 1) by decide +kernel) rfl) ⟨rfl, rfl, h⟩
          · have h := h.2 c
            refine s_aload_n (i := 0) rfl (show decode cX11_said 35 = .ok (.aload_n 0, 1) by decide +kernel) ?_
            refine gf_X11_10 (x := 2) rfl (show decode cX11_said 36 = .ok (.getfield 10, 3) by decide +kernel) okl_1 rfl ?_
            refine gf_X11_323 rfl (show decode cX11_said 39 = .ok (.getfield 323, 3) by decide +kernel) okl_2 ?_
            refine j_bipush (n := 8) (by decide +kernel) (show decode cX11_said 42 = .ok (.bipush 8, 2) by decide +kernel) ?_
            have hr5 := h.1
            have h := h.2
            refine j_icmp_lt (tgt := 50) hr5 (inl (by decide)) (show decode cX11_said 44 = .ok (.if_icmp .lt 6, 3) by decide +kernel) (by decide) (fun c => ?_) (fun c => ?_)
            · have h := h.1 c
              refine s_aload_n (i := 0) rfl (show decode cX11_said 50 = .ok (.aload_n 0, 1) by decide +kernel) ?_
              refine gf_X11_10 (x := 2) rfl (show decode cX11_said 51 = .ok (.getfield 10, 3) by decide +kernel) okl_1 rfl ?_
              refine gf_X11_326 (x := 132) rfl (show decode cX11_said 54 = .ok (.getfield 326, 3) by decide +kernel) okl_2 (gr_10_4 okl_2) ?_
              refine s_aload_n (i := 0) rfl (show decode cX11_said 57 = .ok (.aload_n 0, 1) by decide +kernel) ?_
              refine gf_X11_10 (x := 2) rfl (show decode cX11_said 58 = .ok (.getfield 10, 3) by decide +kernel) okl_1 rfl ?_
              refine gf_X11_323 rfl (show decode cX11_said 61 = .ok (.getfield 323, 3) by decide +kernel) okl_2 ?_
              refine j_iload_n (i := 1) rfl (show decode cX11_said 64 = .ok (.iload_n 1, 1) by decide +kernel) ?_
              have hb6 := h.1
              have h := h.2
              refine s_iast (show decode cX11_said 65 = .ok (.iastore, 1) by decide +kernel) okl_132 hb6 ?_
              obtain ⟨σ8, eσ8⟩ : ∃ z : jM, z = up σ 132 (σ 2 9) p1 := ⟨_, rfl⟩
              refine j_sig eσ8 ?_
              have h := h σ8 eσ8
              refine s_aload_n (i := 0) rfl (show decode cX11_said 66 = .ok (.aload_n 0, 1) by decide +kernel) ?_
              refine gf_X11_10 (x := 2) rfl (show decode cX11_said 67 = .ok (.getfield 10, 3) by decide +kernel) okl_1 rfl ?_
              refine gf_X11_329 (x := 133) rfl (show decode cX11_said 70 = .ok (.getfield 329, 3) by decide +kernel) okl_2 (gr_10_5 okl_2) ?_
              refine s_aload_n (i := 0) rfl (show decode cX11_said 73 = .ok (.aload_n 0, 1) by decide +kernel) ?_
              refine gf_X11_10 (x := 2) rfl (show decode cX11_said 74 = .ok (.getfield 10, 3) by decide +kernel) okl_1 rfl ?_
              refine gf_X11_323 rfl (show decode cX11_said 77 = .ok (.getfield 323, 3) by decide +kernel) okl_2 ?_
              refine j_iload_n (i := 2) rfl (show decode cX11_said 80 = .ok (.iload_n 2, 1) by decide +kernel) ?_
              have hb8 := h.1
              have h := h.2
              refine s_iast (show decode cX11_said 81 = .ok (.iastore, 1) by decide +kernel) okl_133 hb8 ?_
              obtain ⟨σ10, eσ10⟩ : ∃ z : jM, z = up σ8 133 (σ8 2 9) p2 := ⟨_, rfl⟩
              refine j_sig eσ10 ?_
              have h := h σ10 eσ10
              refine s_aload_n (i := 0) rfl (show decode cX11_said 82 = .ok (.aload_n 0, 1) by decide +kernel) ?_
              refine gf_X11_10 (x := 2) rfl (show decode cX11_said 83 = .ok (.getfield 10, 3) by decide +kernel) okl_1 rfl ?_
              refine j_dup (show (2 : Nat) ≠ 1 by decide) (show decode cX11_said 86 = .ok (.dup, 1) by decide +kernel) ?_
              refine gf_X11_323 rfl (show decode cX11_said 87 = .ok (.getfield 323, 3) by decide +kernel) okl_2 ?_
              refine j_iconst (show decode cX11_said 90 = .ok (.iconst 1, 1) by decide +kernel) ?_
              refine j_iadd (show decode cX11_said 91 = .ok (.iadd, 1) by decide +kernel) ?_
              refine pf_X11_323 rfl (show decode cX11_said 92 = .ok (.putfield 323, 3) by decide +kernel) okl_2 ?_
              obtain ⟨σ11, eσ11⟩ : ∃ z : jM, z = up σ10 2 9 ((σ10 2 9) + 1) := ⟨_, rfl⟩
              refine j_sig eσ11 ?_
              have h := h σ11 eσ11
              refine s_aload_n (i := 0) rfl (show decode cX11_said 95 = .ok (.aload_n 0, 1) by decide +kernel) ?_
              refine gf_X11_10 (x := 2) rfl (show decode cX11_said 96 = .ok (.getfield 10, 3) by decide +kernel) okl_1 rfl ?_
              refine gf_X11_323 rfl (show decode cX11_said 99 = .ok (.getfield 323, 3) by decide +kernel) okl_2 ?_
              exact j_ret (rokI (show decode cX11_said 102 = .ok (.ireturn, 1) by decide +kernel) rfl) ⟨rfl, rfl, h⟩
            · have h := h.2 c
              refine j_bipush (n := -2) (by decide +kernel) (show decode cX11_said 47 = .ok (.bipush (-2), 2) by decide +kernel) ?_
              exact j_ret (rokI (show decode cX11_said 49 = .ok (.ireturn, 1) by decide +kernel) rfl) ⟨rfl, rfl, h⟩
  · have h := h.2 c
    refine s_aload_n (i := 0) rfl (show decode cX11_said 5 = .ok (.aload_n 0, 1) by decide +kernel) ?_
    refine gf_X11_10 (x := 2) rfl (show decode cX11_said 6 = .ok (.getfield 10, 3) by decide +kernel) okl_1 rfl ?_
    refine j_iconst (show decode cX11_said 9 = .ok (.iconst 0, 1) by decide +kernel) ?_
    refine pf_X11_323 rfl (show decode cX11_said 10 = .ok (.putfield 323, 3) by decide +kernel) okl_2 ?_
    obtain ⟨σ12, eσ12⟩ : ∃ z : jM, z = up σ 2 9 0 := ⟨_, rfl⟩
    refine j_sig eσ12 ?_
    have h := h σ12 eσ12
    refine j_iconst (show decode cX11_said 13 = .ok (.iconst 0, 1) by decide +kernel) ?_
    exact j_ret (rokI (show decode cX11_said 14 = .ok (.ireturn, 1) by decide +kernel) rfl) ⟨rfl, rfl, h⟩
theorem c_X11_said {d : Nat} {t : Int} {Q : Int → jM → Prop} {σ : jM} {p1 p2 : Int} (h : (inR p1) ∧ ((¬ p1 = (-1) → ((inR p1) ∧ ((p1 < 0 → (Q (-2) σ)) ∧ (0 ≤ p1 → ((inR p1) ∧ ((8 ≤ p1 → (Q (-2) σ)) ∧ (p1 < 8 → ((inR p2) ∧ ((p2 < 0 → (Q (-2) σ)) ∧ (0 ≤ p2 → ((inR p2) ∧ ((10 < p2 → (Q (-2) σ)) ∧ (p2 ≤ 10 → ((inR (σ 2 9)) ∧ (((σ 2 9) < 8 → (((0 : Int) ≤ (σ 2 9) ∧ (σ 2 9) < 8) ∧ (∀ σ8 : jM, σ8 = up σ 132 (σ 2 9) p1 → (((0 : Int) ≤ (σ8 2 9) ∧ (σ8 2 9) < 8) ∧ (∀ σ10 : jM, σ10 = up σ8 133 (σ8 2 9) p2 → (∀ σ11 : jM, σ11 = up σ10 2 9 ((σ10 2 9) + 1) → (Q (σ11 2 9) σ11))))))) ∧ (8 ≤ (σ 2 9) → (Q (-2) σ))))))))))))))))) ∧ (p1 = (-1) → (∀ σ12 : jM, σ12 = up σ 2 9 0 → (Q 0 σ12))))) : Ct mX11_said (d) 0 t [rv 1, iv p1, iv p2] σ Q := Ct_of (by decide +kernel) (Nat.le_of_ble_eq_true rfl) (b_X11_said_0 h)
set_option maxRecDepth 4000 in
theorem b_X11_whose_4 {d : Nat} {t : Int} {Q : Int → jM → Prop} {σ : jM} {v1 v2 : Int} (h : (inR v2) ∧ ((4 ≤ v2 → (Q v1 σ)) ∧ (v2 < 4 → (Ct mX11_isText d 0 t [rv 1, iv v2] σ (fun r2 σ2 => ((inR r2) ∧ ((r2 = 0 → (Q v1 σ2)) ∧ (¬ r2 = 0 → (((0 : Int) ≤ v2 ∧ v2 < 4) ∧ (Ct mX11_agrees d 0 t [rv 1, rv (293 + 7 * v2)] σ2 (fun r5 σ5 => ((inR r5) ∧ ((r5 = 0 → (Jt mX11_whose (d + 1) 0 t Q 4 [rv 1, iv v1, iv (v2 + 1)] [] σ5)) ∧ (¬ r5 = 0 → (Jt mX11_whose (d + 1) 0 t Q 4 [rv 1, iv (i_or v1 (i_shl 1 v2)), iv (v2 + 1)] [] σ5))))))))))))))) : Jt mX11_whose (d + 1) 0 t Q 4 [rv 1, iv v1, iv v2] [] σ := by
  refine j_iload_n (i := 2) rfl (show decode cX11_whose 4 = .ok (.iload_n 2, 1) by decide +kernel) ?_
  refine j_iconst (show decode cX11_whose 5 = .ok (.iconst 4, 1) by decide +kernel) ?_
  have hr0 := h.1
  have h := h.2
  refine j_icmp_ge (tgt := 42) hr0 (inl (by decide)) (show decode cX11_whose 6 = .ok (.if_icmp .ge 36, 3) by decide +kernel) (by decide) (fun c => ?_) (fun c => ?_)
  · have h := h.1 c
    refine j_iload_n (i := 1) rfl (show decode cX11_whose 42 = .ok (.iload_n 1, 1) by decide +kernel) ?_
    exact j_ret (rokI (show decode cX11_whose 43 = .ok (.ireturn, 1) by decide +kernel) rfl) ⟨rfl, rfl, h⟩
  · have h := h.2 c
    refine s_aload_n (i := 0) rfl (show decode cX11_whose 9 = .ok (.aload_n 0, 1) by decide +kernel) ?_
    refine j_iload_n (i := 2) rfl (show decode cX11_whose 10 = .ok (.iload_n 2, 1) by decide +kernel) ?_
    refine j_ctV (m' := mX11_isText) (As := [iv v2]) (ci := 11) (tag := 0) (N := 0) (cw_X11_110 rfl) (show decode cX11_whose 11 = .ok (.invokevirtual 110, 3) by decide +kernel) rfl (Nat.le_of_ble_eq_true rfl) (by decide) okl_1 rfl rfl (Nat.le_refl _) h (fun r2 σ2 h => ?_)
    have hr2 := h.1
    have h := h.2
    refine j_if_eq (tgt := 42) hr2 (show decode cX11_whose 14 = .ok (.ifCond .eq 28, 3) by decide +kernel) (by decide) (fun c => ?_) (fun c => ?_)
    · have h := h.1 c
      refine j_iload_n (i := 1) rfl (show decode cX11_whose 42 = .ok (.iload_n 1, 1) by decide +kernel) ?_
      exact j_ret (rokI (show decode cX11_whose 43 = .ok (.ireturn, 1) by decide +kernel) rfl) ⟨rfl, rfl, h⟩
    · have h := h.2 c
      refine s_aload_n (i := 0) rfl (show decode cX11_whose 17 = .ok (.aload_n 0, 1) by decide +kernel) ?_
      refine s_aload_n (i := 0) rfl (show decode cX11_whose 18 = .ok (.aload_n 0, 1) by decide +kernel) ?_
      refine gf_X11_28 (x := 270) rfl (show decode cX11_whose 19 = .ok (.getfield 28, 3) by decide +kernel) okl_1 rfl ?_
      refine j_iload_n (i := 2) rfl (show decode cX11_whose 22 = .ok (.iload_n 2, 1) by decide +kernel) ?_
      have hb3 := h.1
      have h := h.2
      refine s_aald5 (x := (293 + 7 * v2)) (show decode cX11_whose 23 = .ok (.aaload, 1) by decide +kernel) okl_270 hb3 rfl ?_
      refine j_ctV (m' := mX11_agrees) (As := [rv (293 + 7 * v2)]) (ci := 11) (tag := 0) (N := 0) (cw_X11_332 rfl) (show decode cX11_whose 24 = .ok (.invokevirtual 332, 3) by decide +kernel) rfl (Nat.le_of_ble_eq_true rfl) (by decide) okl_1 rfl rfl (Nat.le_refl _) h (fun r5 σ5 h => ?_)
      have hr5 := h.1
      have h := h.2
      refine j_if_eq (tgt := 36) hr5 (show decode cX11_whose 27 = .ok (.ifCond .eq 9, 3) by decide +kernel) (by decide) (fun c => ?_) (fun c => ?_)
      · have h := h.1 c
        refine s_iinc (i := 2) rfl (L' := [rv 1, iv v1, iv (v2 + 1)]) rfl (show decode cX11_whose 36 = .ok (.iinc 2 1, 3) by decide +kernel) ?_
        refine j_goto (tgt := 4) (show decode cX11_whose 39 = .ok (.goto (-35), 3) by decide +kernel) (by decide) ?_
        exact h
      · have h := h.2 c
        refine j_iload_n (i := 1) rfl (show decode cX11_whose 30 = .ok (.iload_n 1, 1) by decide +kernel) ?_
        refine j_iconst (show decode cX11_whose 31 = .ok (.iconst 1, 1) by decide +kernel) ?_
        refine j_iload_n (i := 2) rfl (show decode cX11_whose 32 = .ok (.iload_n 2, 1) by decide +kernel) ?_
        refine j_ishl (show decode cX11_whose 33 = .ok (.ishl, 1) by decide +kernel) ?_
        refine j_ior (show decode cX11_whose 34 = .ok (.ior, 1) by decide +kernel) ?_
        refine s_ist_n (i := 1) (L' := [rv 1, iv (i_or v1 (i_shl 1 v2)), iv v2]) rfl (by decide) (show decode cX11_whose 35 = .ok (.istore_n 1, 1) by decide +kernel) ?_
        refine s_iinc (i := 2) rfl (L' := [rv 1, iv (i_or v1 (i_shl 1 v2)), iv (v2 + 1)]) rfl (show decode cX11_whose 36 = .ok (.iinc 2 1, 3) by decide +kernel) ?_
        refine j_goto (tgt := 4) (show decode cX11_whose 39 = .ok (.goto (-35), 3) by decide +kernel) (by decide) ?_
        exact h
set_option maxRecDepth 4000 in
theorem b_X11_whose_0 {d : Nat} {t : Int} {Q : Int → jM → Prop} {σ : jM} (h : Jt mX11_whose (d + 1) 0 t Q 4 [rv 1, iv 0, iv 0] [] σ) : Jt mX11_whose (d + 1) 0 t Q 0 [rv 1, uv, uv] [] σ := by
  refine j_iconst (show decode cX11_whose 0 = .ok (.iconst 0, 1) by decide +kernel) ?_
  refine s_ist_n (i := 1) (L' := [rv 1, iv 0, uv]) rfl (by decide) (show decode cX11_whose 1 = .ok (.istore_n 1, 1) by decide +kernel) ?_
  refine j_iconst (show decode cX11_whose 2 = .ok (.iconst 0, 1) by decide +kernel) ?_
  refine s_ist_n (i := 2) (L' := [rv 1, iv 0, iv 0]) rfl (by decide) (show decode cX11_whose 3 = .ok (.istore_n 2, 1) by decide +kernel) ?_
  exact h
theorem c_X11_whose {d : Nat} {t : Int} {Q : Int → jM → Prop} {σ : jM} (h : Jt mX11_whose (d + 1) 0 t Q 4 [rv 1, iv 0, iv 0] [] σ) : Ct mX11_whose (d + 1) 0 t [rv 1] σ Q := Ct_of (by decide +kernel) (Nat.le_of_ble_eq_true rfl) (b_X11_whose_0 h)
set_option maxRecDepth 4000 in
theorem b_X11_agrees_2 {d : Nat} {t : Int} {Q : Int → jM → Prop} {σ : jM} {p1 v2 : Int} (h : (inR v2) ∧ ((inR (σ 2 9)) ∧ (((σ 2 9) ≤ v2 → (Q 1 σ)) ∧ (v2 < (σ 2 9) → (((0 : Int) ≤ v2 ∧ v2 < 8) ∧ (Ct mX2_tiresOf d 0 t [rv 273, rv p1, rv 3, iv (σ 132 v2)] σ (fun r3 σ3 => (((0 : Int) ≤ v2 ∧ v2 < 8) ∧ ((inR r3) ∧ ((inR (σ3 133 v2)) ∧ ((r3 = (σ3 133 v2) → (Jt mX11_agrees (d + 1) 0 t Q 2 [rv 1, rv p1, iv (v2 + 1)] [] σ3)) ∧ (¬ r3 = (σ3 133 v2) → (Q 0 σ3))))))))))))) : Jt mX11_agrees (d + 1) 0 t Q 2 [rv 1, rv p1, iv v2] [] σ := by
  refine j_iload_n (i := 2) rfl (show decode cX11_agrees 2 = .ok (.iload_n 2, 1) by decide +kernel) ?_
  refine s_aload_n (i := 0) rfl (show decode cX11_agrees 3 = .ok (.aload_n 0, 1) by decide +kernel) ?_
  refine gf_X11_10 (x := 2) rfl (show decode cX11_agrees 4 = .ok (.getfield 10, 3) by decide +kernel) okl_1 rfl ?_
  refine gf_X11_323 rfl (show decode cX11_agrees 7 = .ok (.getfield 323, 3) by decide +kernel) okl_2 ?_
  have hr0 := h.1
  have h := h.2
  have hr1 := h.1
  have h := h.2
  refine j_icmp_ge (tgt := 57) hr0 hr1 (show decode cX11_agrees 10 = .ok (.if_icmp .ge 47, 3) by decide +kernel) (by decide) (fun c => ?_) (fun c => ?_)
  · have h := h.1 c
    refine j_iconst (show decode cX11_agrees 57 = .ok (.iconst 1, 1) by decide +kernel) ?_
    exact j_ret (rokZ (show decode cX11_agrees 58 = .ok (.ireturn, 1) by decide +kernel) rfl (Or.inr rfl)) ⟨rfl, rfl, h⟩
  · have h := h.2 c
    refine s_aload_n (i := 0) rfl (show decode cX11_agrees 13 = .ok (.aload_n 0, 1) by decide +kernel) ?_
    refine gf_X11_42 (x := 273) rfl (show decode cX11_agrees 14 = .ok (.getfield 42, 3) by decide +kernel) okl_1 rfl ?_
    refine s_aload_n (i := 1) rfl (show decode cX11_agrees 17 = .ok (.aload_n 1, 1) by decide +kernel) ?_
    refine s_aload_n (i := 0) rfl (show decode cX11_agrees 18 = .ok (.aload_n 0, 1) by decide +kernel) ?_
    refine gf_X11_10 (x := 2) rfl (show decode cX11_agrees 19 = .ok (.getfield 10, 3) by decide +kernel) okl_1 rfl ?_
    refine gf_X11_75 (x := 3) rfl (show decode cX11_agrees 22 = .ok (.getfield 75, 3) by decide +kernel) okl_2 (gr_10_0 okl_2) ?_
    refine s_aload_n (i := 0) rfl (show decode cX11_agrees 25 = .ok (.aload_n 0, 1) by decide +kernel) ?_
    refine gf_X11_10 (x := 2) rfl (show decode cX11_agrees 26 = .ok (.getfield 10, 3) by decide +kernel) okl_1 rfl ?_
    refine gf_X11_326 (x := 132) rfl (show decode cX11_agrees 29 = .ok (.getfield 326, 3) by decide +kernel) okl_2 (gr_10_4 okl_2) ?_
    refine j_iload_n (i := 2) rfl (show decode cX11_agrees 32 = .ok (.iload_n 2, 1) by decide +kernel) ?_
    refine s_iald (show decode cX11_agrees 33 = .ok (.iaload, 1) by decide +kernel) okl_132 h.1 ?_
    have h := h.2
    refine j_ctV (m' := mX2_tiresOf) (As := [rv p1, rv 3, iv (σ 132 v2)]) (ci := 2) (tag := 0) (N := 0) (cw_X11_215 rfl) (show decode cX11_agrees 34 = .ok (.invokevirtual 215, 3) by decide +kernel) rfl (Nat.le_of_ble_eq_true rfl) (by decide) okl_273 rfl rfl (Nat.le_refl _) h (fun r3 σ3 h => ?_)
    refine s_aload_n (i := 0) rfl (show decode cX11_agrees 37 = .ok (.aload_n 0, 1) by decide +kernel) ?_
    refine gf_X11_10 (x := 2) rfl (show decode cX11_agrees 38 = .ok (.getfield 10, 3) by decide +kernel) okl_1 rfl ?_
    refine gf_X11_329 (x := 133) rfl (show decode cX11_agrees 41 = .ok (.getfield 329, 3) by decide +kernel) okl_2 (gr_10_5 okl_2) ?_
    refine j_iload_n (i := 2) rfl (show decode cX11_agrees 44 = .ok (.iload_n 2, 1) by decide +kernel) ?_
    refine s_iald (show decode cX11_agrees 45 = .ok (.iaload, 1) by decide +kernel) okl_133 h.1 ?_
    have h := h.2
    have hr3 := h.1
    have h := h.2
    have hr4 := h.1
    have h := h.2
    refine j_icmp_eq (tgt := 51) hr3 hr4 (show decode cX11_agrees 46 = .ok (.if_icmp .eq 5, 3) by decide +kernel) (by decide) (fun c => ?_) (fun c => ?_)
    · have h := h.1 c
      refine s_iinc (i := 2) rfl (L' := [rv 1, rv p1, iv (v2 + 1)]) rfl (show decode cX11_agrees 51 = .ok (.iinc 2 1, 3) by decide +kernel) ?_
      refine j_goto (tgt := 2) (show decode cX11_agrees 54 = .ok (.goto (-52), 3) by decide +kernel) (by decide) ?_
      exact h
    · have h := h.2 c
      refine j_iconst (show decode cX11_agrees 49 = .ok (.iconst 0, 1) by decide +kernel) ?_
      exact j_ret (rokZ (show decode cX11_agrees 50 = .ok (.ireturn, 1) by decide +kernel) rfl (Or.inl rfl)) ⟨rfl, rfl, h⟩
set_option maxRecDepth 4000 in
theorem b_X11_agrees_0 {d : Nat} {t : Int} {Q : Int → jM → Prop} {σ : jM} {p1 : Int} (h : Jt mX11_agrees (d + 1) 0 t Q 2 [rv 1, rv p1, iv 0] [] σ) : Jt mX11_agrees (d + 1) 0 t Q 0 [rv 1, rv p1, uv] [] σ := by
  refine j_iconst (show decode cX11_agrees 0 = .ok (.iconst 0, 1) by decide +kernel) ?_
  refine s_ist_n (i := 2) (L' := [rv 1, rv p1, iv 0]) rfl (by decide) (show decode cX11_agrees 1 = .ok (.istore_n 2, 1) by decide +kernel) ?_
  exact h
theorem c_X11_agrees {d : Nat} {t : Int} {Q : Int → jM → Prop} {σ : jM} {p1 : Int} (h : Jt mX11_agrees (d + 1) 0 t Q 2 [rv 1, rv p1, iv 0] [] σ) : Ct mX11_agrees (d + 1) 0 t [rv 1, rv p1] σ Q := Ct_of (by decide +kernel) (Nat.le_of_ble_eq_true rfl) (b_X11_agrees_0 h)
set_option maxRecDepth 4000 in
theorem b_X11_image_0 {d : Nat} {t : Int} {Q : Int → jM → Prop} {σ : jM} (h : Ct mX10_copyFrom d 9 t [rv 134, rv 2] σ (fun r1 σ1 => (Q (σ1 3 6) σ1))) : Jt mX11_image (d + 1) 0 t Q 0 [rv 1] [] σ := by
  refine s_aload_n (i := 0) rfl (show decode cX11_image 0 = .ok (.aload_n 0, 1) by decide +kernel) ?_
  refine gf_X11_16 (x := 134) rfl (show decode cX11_image 1 = .ok (.getfield 16, 3) by decide +kernel) okl_1 rfl ?_
  refine s_aload_n (i := 0) rfl (show decode cX11_image 4 = .ok (.aload_n 0, 1) by decide +kernel) ?_
  refine gf_X11_10 (x := 2) rfl (show decode cX11_image 5 = .ok (.getfield 10, 3) by decide +kernel) okl_1 rfl ?_
  refine j_ctVv (m' := mX10_copyFrom) (As := [rv 2]) (ci := 10) (N := 0) (cw_X11_82 rfl) (show decode cX11_image 8 = .ok (.invokevirtual 82, 3) by decide +kernel) rfl (Nat.le_of_ble_eq_true rfl) okl_134 rfl rfl (Nat.le_refl _) h (fun r1 σ1 h => ?_)
  refine s_aload_n (i := 0) rfl (show decode cX11_image 11 = .ok (.aload_n 0, 1) by decide +kernel) ?_
  refine gf_X11_10 (x := 2) rfl (show decode cX11_image 12 = .ok (.getfield 10, 3) by decide +kernel) okl_1 rfl ?_
  refine gf_X11_75 (x := 3) rfl (show decode cX11_image 15 = .ok (.getfield 75, 3) by decide +kernel) okl_2 (gr_10_0 okl_2) ?_
  refine gf_X11_150 rfl (show decode cX11_image 18 = .ok (.getfield 150, 3) by decide +kernel) okl_3 ?_
  exact j_ret (rokI (show decode cX11_image 21 = .ok (.ireturn, 1) by decide +kernel) rfl) ⟨rfl, rfl, h⟩
theorem c_X11_image {d : Nat} {t : Int} {Q : Int → jM → Prop} {σ : jM} (h : Ct mX10_copyFrom d 9 t [rv 134, rv 2] σ (fun r1 σ1 => (Q (σ1 3 6) σ1))) : Ct mX11_image (d + 1) 0 t [rv 1] σ Q := Ct_of (by decide +kernel) (Nat.le_of_ble_eq_true rfl) (b_X11_image_0 h)
set_option maxRecDepth 4000 in
theorem b_X11_back_0 {d : Nat} {t : Int} {Q : Int → jM → Prop} {σ : jM} (h : Ct mX10_copyFrom d 9 t [rv 2, rv 134] σ (fun r1 σ1 => (Q (σ1 3 6) σ1))) : Jt mX11_back (d + 1) 0 t Q 0 [rv 1] [] σ := by
  refine s_aload_n (i := 0) rfl (show decode cX11_back 0 = .ok (.aload_n 0, 1) by decide +kernel) ?_
  refine gf_X11_10 (x := 2) rfl (show decode cX11_back 1 = .ok (.getfield 10, 3) by decide +kernel) okl_1 rfl ?_
  refine s_aload_n (i := 0) rfl (show decode cX11_back 4 = .ok (.aload_n 0, 1) by decide +kernel) ?_
  refine gf_X11_16 (x := 134) rfl (show decode cX11_back 5 = .ok (.getfield 16, 3) by decide +kernel) okl_1 rfl ?_
  refine j_ctVv (m' := mX10_copyFrom) (As := [rv 134]) (ci := 10) (N := 0) (cw_X11_82 rfl) (show decode cX11_back 8 = .ok (.invokevirtual 82, 3) by decide +kernel) rfl (Nat.le_of_ble_eq_true rfl) okl_2 rfl rfl (Nat.le_refl _) h (fun r1 σ1 h => ?_)
  refine s_aload_n (i := 0) rfl (show decode cX11_back 11 = .ok (.aload_n 0, 1) by decide +kernel) ?_
  refine gf_X11_10 (x := 2) rfl (show decode cX11_back 12 = .ok (.getfield 10, 3) by decide +kernel) okl_1 rfl ?_
  refine gf_X11_75 (x := 3) rfl (show decode cX11_back 15 = .ok (.getfield 75, 3) by decide +kernel) okl_2 (gr_10_0 okl_2) ?_
  refine gf_X11_150 rfl (show decode cX11_back 18 = .ok (.getfield 150, 3) by decide +kernel) okl_3 ?_
  exact j_ret (rokI (show decode cX11_back 21 = .ok (.ireturn, 1) by decide +kernel) rfl) ⟨rfl, rfl, h⟩
theorem c_X11_back {d : Nat} {t : Int} {Q : Int → jM → Prop} {σ : jM} (h : Ct mX10_copyFrom d 9 t [rv 2, rv 134] σ (fun r1 σ1 => (Q (σ1 3 6) σ1))) : Ct mX11_back (d + 1) 0 t [rv 1] σ Q := Ct_of (by decide +kernel) (Nat.le_of_ble_eq_true rfl) (b_X11_back_0 h)
set_option maxRecDepth 4000 in
theorem b_X11_about_0 {d : Nat} {t : Int} {Q : Int → jM → Prop} {σ : jM} {p1 : Int} (h : (inR p1) ∧ ((p1 < 0 ∨ 6 < p1 → (Q (-2) σ)) ∧ (p1 = 0 → (Q (σ 2 6) σ)) ∧ (p1 = 1 → (Q (σ 2 7) σ)) ∧ (p1 = 2 → (Q (σ 7 2) σ)) ∧ (p1 = 3 → (Q (σ 2 8) σ)) ∧ (p1 = 4 → (Q (σ 129 1) σ)) ∧ (p1 = 5 → (Q (σ 2 9) σ)) ∧ (p1 = 6 → (Q (σ 271 1) σ)))) : Jt mX11_about (d) 0 t Q 0 [rv 1, iv p1] [] σ := by
  refine j_iload_n (i := 1) rfl (show decode cX11_about 0 = .ok (.iload_n 1, 1) by decide +kernel) ?_
  have hr0 := h.1
  have h := h.2
  rcases (show (p1 < 0 ∨ 6 < p1) ∨ p1 = 0 ∨ p1 = 1 ∨ p1 = 2 ∨ p1 = 3 ∨ p1 = 4 ∨ p1 = 5 ∨ p1 = 6 by omega) with c | c | c | c | c | c | c | c
  · refine j_tableOut (tgt := 106) hr0 (show decode cX11_about 1 = .ok (.tableswitch 105 0 6 #[43, 51, 59, 70, 78, 89, 97], 43) by decide +kernel) c (by decide) ?_
    have h := h.1 c
    refine j_bipush (n := -2) (by decide +kernel) (show decode cX11_about 106 = .ok (.bipush (-2), 2) by decide +kernel) ?_
    exact j_ret (rokI (show decode cX11_about 108 = .ok (.ireturn, 1) by decide +kernel) rfl) ⟨rfl, rfl, h⟩
  · refine j_tableIn (tgt := 44) hr0 (show decode cX11_about 1 = .ok (.tableswitch 105 0 6 #[43, 51, 59, 70, 78, 89, 97], 43) by decide +kernel) (by omega) (by omega) (by rw [c]; rfl) (by decide) ?_
    have h := h.2.1 c
    refine s_aload_n (i := 0) rfl (show decode cX11_about 44 = .ok (.aload_n 0, 1) by decide +kernel) ?_
    refine gf_X11_10 (x := 2) rfl (show decode cX11_about 45 = .ok (.getfield 10, 3) by decide +kernel) okl_1 rfl ?_
    refine gf_X11_98 rfl (show decode cX11_about 48 = .ok (.getfield 98, 3) by decide +kernel) okl_2 ?_
    exact j_ret (rokI (show decode cX11_about 51 = .ok (.ireturn, 1) by decide +kernel) rfl) ⟨rfl, rfl, h⟩
  · refine j_tableIn (tgt := 52) hr0 (show decode cX11_about 1 = .ok (.tableswitch 105 0 6 #[43, 51, 59, 70, 78, 89, 97], 43) by decide +kernel) (by omega) (by omega) (by rw [c]; rfl) (by decide) ?_
    have h := h.2.2.1 c
    refine s_aload_n (i := 0) rfl (show decode cX11_about 52 = .ok (.aload_n 0, 1) by decide +kernel) ?_
    refine gf_X11_10 (x := 2) rfl (show decode cX11_about 53 = .ok (.getfield 10, 3) by decide +kernel) okl_1 rfl ?_
    refine gf_X11_114 rfl (show decode cX11_about 56 = .ok (.getfield 114, 3) by decide +kernel) okl_2 ?_
    exact j_ret (rokI (show decode cX11_about 59 = .ok (.ireturn, 1) by decide +kernel) rfl) ⟨rfl, rfl, h⟩
  · refine j_tableIn (tgt := 60) hr0 (show decode cX11_about 1 = .ok (.tableswitch 105 0 6 #[43, 51, 59, 70, 78, 89, 97], 43) by decide +kernel) (by omega) (by omega) (by rw [c]; rfl) (by decide) ?_
    have h := h.2.2.2.1 c
    refine s_aload_n (i := 0) rfl (show decode cX11_about 60 = .ok (.aload_n 0, 1) by decide +kernel) ?_
    refine gf_X11_10 (x := 2) rfl (show decode cX11_about 61 = .ok (.getfield 10, 3) by decide +kernel) okl_1 rfl ?_
    refine gf_X11_121 (x := 7) rfl (show decode cX11_about 64 = .ok (.getfield 121, 3) by decide +kernel) okl_2 (gr_10_1 okl_2) ?_
    refine gf_X11_209 rfl (show decode cX11_about 67 = .ok (.getfield 209, 3) by decide +kernel) okl_7 ?_
    exact j_ret (rokI (show decode cX11_about 70 = .ok (.ireturn, 1) by decide +kernel) rfl) ⟨rfl, rfl, h⟩
  · refine j_tableIn (tgt := 71) hr0 (show decode cX11_about 1 = .ok (.tableswitch 105 0 6 #[43, 51, 59, 70, 78, 89, 97], 43) by decide +kernel) (by omega) (by omega) (by rw [c]; rfl) (by decide) ?_
    have h := h.2.2.2.2.1 c
    refine s_aload_n (i := 0) rfl (show decode cX11_about 71 = .ok (.aload_n 0, 1) by decide +kernel) ?_
    refine gf_X11_10 (x := 2) rfl (show decode cX11_about 72 = .ok (.getfield 10, 3) by decide +kernel) okl_1 rfl ?_
    refine gf_X11_279 rfl (show decode cX11_about 75 = .ok (.getfield 279, 3) by decide +kernel) okl_2 ?_
    exact j_ret (rokI (show decode cX11_about 78 = .ok (.ireturn, 1) by decide +kernel) rfl) ⟨rfl, rfl, h⟩
  · refine j_tableIn (tgt := 79) hr0 (show decode cX11_about 1 = .ok (.tableswitch 105 0 6 #[43, 51, 59, 70, 78, 89, 97], 43) by decide +kernel) (by omega) (by omega) (by rw [c]; rfl) (by decide) ?_
    have h := h.2.2.2.2.2.1 c
    refine s_aload_n (i := 0) rfl (show decode cX11_about 79 = .ok (.aload_n 0, 1) by decide +kernel) ?_
    refine gf_X11_10 (x := 2) rfl (show decode cX11_about 80 = .ok (.getfield 10, 3) by decide +kernel) okl_1 rfl ?_
    refine gf_X11_298 (x := 129) rfl (show decode cX11_about 83 = .ok (.getfield 298, 3) by decide +kernel) okl_2 (gr_10_2 okl_2) ?_
    refine gf_X11_302 rfl (show decode cX11_about 86 = .ok (.getfield 302, 3) by decide +kernel) okl_129 ?_
    exact j_ret (rokI (show decode cX11_about 89 = .ok (.ireturn, 1) by decide +kernel) rfl) ⟨rfl, rfl, h⟩
  · refine j_tableIn (tgt := 90) hr0 (show decode cX11_about 1 = .ok (.tableswitch 105 0 6 #[43, 51, 59, 70, 78, 89, 97], 43) by decide +kernel) (by omega) (by omega) (by rw [c]; rfl) (by decide) ?_
    have h := h.2.2.2.2.2.2.1 c
    refine s_aload_n (i := 0) rfl (show decode cX11_about 90 = .ok (.aload_n 0, 1) by decide +kernel) ?_
    refine gf_X11_10 (x := 2) rfl (show decode cX11_about 91 = .ok (.getfield 10, 3) by decide +kernel) okl_1 rfl ?_
    refine gf_X11_323 rfl (show decode cX11_about 94 = .ok (.getfield 323, 3) by decide +kernel) okl_2 ?_
    exact j_ret (rokI (show decode cX11_about 97 = .ok (.ireturn, 1) by decide +kernel) rfl) ⟨rfl, rfl, h⟩
  · refine j_tableIn (tgt := 98) hr0 (show decode cX11_about 1 = .ok (.tableswitch 105 0 6 #[43, 51, 59, 70, 78, 89, 97], 43) by decide +kernel) (by omega) (by omega) (by rw [c]; rfl) (by decide) ?_
    have h := h.2.2.2.2.2.2.2 c
    refine s_aload_n (i := 0) rfl (show decode cX11_about 98 = .ok (.aload_n 0, 1) by decide +kernel) ?_
    refine gf_X11_35 (x := 271) rfl (show decode cX11_about 99 = .ok (.getfield 35, 3) by decide +kernel) okl_1 rfl ?_
    refine gf_X11_94 rfl (show decode cX11_about 102 = .ok (.getfield 94, 3) by decide +kernel) okl_271 ?_
    exact j_ret (rokI (show decode cX11_about 105 = .ok (.ireturn, 1) by decide +kernel) rfl) ⟨rfl, rfl, h⟩
theorem c_X11_about {d : Nat} {t : Int} {Q : Int → jM → Prop} {σ : jM} {p1 : Int} (h : (inR p1) ∧ ((p1 < 0 ∨ 6 < p1 → (Q (-2) σ)) ∧ (p1 = 0 → (Q (σ 2 6) σ)) ∧ (p1 = 1 → (Q (σ 2 7) σ)) ∧ (p1 = 2 → (Q (σ 7 2) σ)) ∧ (p1 = 3 → (Q (σ 2 8) σ)) ∧ (p1 = 4 → (Q (σ 129 1) σ)) ∧ (p1 = 5 → (Q (σ 2 9) σ)) ∧ (p1 = 6 → (Q (σ 271 1) σ)))) : Ct mX11_about (d) 0 t [rv 1, iv p1] σ Q := Ct_of (by decide +kernel) (Nat.le_of_ble_eq_true rfl) (b_X11_about_0 h)
