/-! ===== walks (printed by wip/whole/gen_blocks.py) ===== -/
set_option maxRecDepth 4000 in
theorem b_X2_tiresOf_0 {d : Nat} {t : Int} {Q : Int → jM → Prop} {σ : jM} {p1 p2 p3 : Int} (h2 : ob (GG t) p2 1) (h : (p1 = 0 → (Q 2 σ)) ∧ (p1 ≠ 0 → ((ob (GG t) p1 8) ∧ (((0 : Int) ≤ 0 ∧ (0 : Int) < 2) ∧ ((inR (σ (p1 + 5) 0)) ∧ ((¬ (σ (p1 + 5) 0) = (-1) → (Ct mX2_valueOf d 0 t [rv 273, rv p1, iv 0, rv p2, iv p3] σ (fun r3 σ3 => ((inR r3) ∧ ((inR (min 10 r3)) ∧ (Q (max 0 (min 10 r3)) σ3)))))) ∧ ((σ (p1 + 5) 0) = (-1) → (Q 2 σ)))))))) : Jt mX2_tiresOf (d + 1) 0 t Q 0 [rv 273, rv p1, rv p2, iv p3, uv] [] σ := by
  refine s_aload_n (i := 1) rfl (show decode cX2_tiresOf 0 = .ok (.aload_n 1, 1) by decide +kernel) ?_
  refine j_ifnull (tgt := 14) (show decode cX2_tiresOf 1 = .ok (.ifnull 13, 3) by decide +kernel) (by decide) (fun c => ?_) (fun c => ?_)
  · have h := h.1 c
    refine j_iconst (show decode cX2_tiresOf 14 = .ok (.iconst 2, 1) by decide +kernel) ?_
    exact j_ret (rokI (show decode cX2_tiresOf 15 = .ok (.ireturn, 1) by decide +kernel) rfl) ⟨rfl, rfl, h⟩
  · have h := h.2 c
    refine s_aload_n (i := 1) rfl (show decode cX2_tiresOf 4 = .ok (.aload_n 1, 1) by decide +kernel) ?_
    have hb0 := h.1
    have h := h.2
    refine gf_X2_15 (x := (p1 + 5)) rfl (show decode cX2_tiresOf 5 = .ok (.getfield 15, 3) by decide +kernel) hb0 (gr_8_4 hb0) ?_
    refine j_iconst (show decode cX2_tiresOf 8 = .ok (.iconst 0, 1) by decide +kernel) ?_
    refine s_iald (show decode cX2_tiresOf 9 = .ok (.iaload, 1) by decide +kernel) (ok_8_4 hb0) h.1 ?_
    have h := h.2
    refine j_iconst (show decode cX2_tiresOf 10 = .ok (.iconst (-1), 1) by decide +kernel) ?_
    have hr1 := h.1
    have h := h.2
    refine j_icmp_ne (tgt := 16) hr1 (inl (by decide)) (show decode cX2_tiresOf 11 = .ok (.if_icmp .ne 5, 3) by decide +kernel) (by decide) (fun c => ?_) (fun c => ?_)
    · have h := h.1 c
      refine s_aload_n (i := 0) rfl (show decode cX2_tiresOf 16 = .ok (.aload_n 0, 1) by decide +kernel) ?_
      refine s_aload_n (i := 1) rfl (show decode cX2_tiresOf 17 = .ok (.aload_n 1, 1) by decide +kernel) ?_
      refine j_iconst (show decode cX2_tiresOf 18 = .ok (.iconst 0, 1) by decide +kernel) ?_
      refine s_aload_n (i := 2) rfl (show decode cX2_tiresOf 19 = .ok (.aload_n 2, 1) by decide +kernel) ?_
      refine j_iload_n (i := 3) rfl (show decode cX2_tiresOf 20 = .ok (.iload_n 3, 1) by decide +kernel) ?_
      refine j_ctV (m' := mX2_valueOf) (As := [rv p1, iv 0, rv p2, iv p3]) (ci := 2) (tag := 0) (N := 0) (cw_X2_20 rfl) (show decode cX2_tiresOf 21 = .ok (.invokevirtual 20, 3) by decide +kernel) rfl (Nat.le_of_ble_eq_true rfl) (by decide) okl_273 rfl rfl (Nat.le_refl _) h (fun r3 σ3 h => ?_)
      refine s_ist (i := 4) (L' := [rv 273, rv p1, rv p2, iv p3, iv r3]) rfl (by decide) (show decode cX2_tiresOf 24 = .ok (.istore 4, 2) by decide +kernel) ?_
      refine j_iconst (show decode cX2_tiresOf 26 = .ok (.iconst 0, 1) by decide +kernel) ?_
      refine j_bipush (n := 10) (by decide +kernel) (show decode cX2_tiresOf 27 = .ok (.bipush 10, 2) by decide +kernel) ?_
      refine j_iload (i := 4) rfl (show decode cX2_tiresOf 29 = .ok (.iload 4, 2) by decide +kernel) ?_
      have hr3 := h.1
      have h := h.2
      refine j_min (tt_in 786 (by decide +kernel) rfl) (by omega) (Nat.le_of_ble_eq_true rfl) (inl (by decide)) hr3 (show decode cX2_tiresOf 31 = .ok (.invokestatic 24, 3) by decide +kernel) ?_
      have hr4 := h.1
      have h := h.2
      refine j_max (tt_in 787 (by decide +kernel) rfl) (by omega) (Nat.le_of_ble_eq_true rfl) (inl (by decide)) hr4 (show decode cX2_tiresOf 34 = .ok (.invokestatic 30, 3) by decide +kernel) ?_
      exact j_ret (rokI (show decode cX2_tiresOf 37 = .ok (.ireturn, 1) by decide +kernel) rfl) ⟨rfl, rfl, h⟩
    · have h := h.2 c
      refine j_iconst (show decode cX2_tiresOf 14 = .ok (.iconst 2, 1) by decide +kernel) ?_
      exact j_ret (rokI (show decode cX2_tiresOf 15 = .ok (.ireturn, 1) by decide +kernel) rfl) ⟨rfl, rfl, h⟩
theorem c_X2_tiresOf {d : Nat} {t : Int} {Q : Int → jM → Prop} {σ : jM} {p1 p2 p3 : Int} (h2 : ob (GG t) p2 1) (h : (p1 = 0 → (Q 2 σ)) ∧ (p1 ≠ 0 → ((ob (GG t) p1 8) ∧ (((0 : Int) ≤ 0 ∧ (0 : Int) < 2) ∧ ((inR (σ (p1 + 5) 0)) ∧ ((¬ (σ (p1 + 5) 0) = (-1) → (Ct mX2_valueOf d 0 t [rv 273, rv p1, iv 0, rv p2, iv p3] σ (fun r3 σ3 => ((inR r3) ∧ ((inR (min 10 r3)) ∧ (Q (max 0 (min 10 r3)) σ3)))))) ∧ ((σ (p1 + 5) 0) = (-1) → (Q 2 σ)))))))) : Ct mX2_tiresOf (d + 1) 0 t [rv 273, rv p1, rv p2, iv p3] σ Q := Ct_of (by decide +kernel) (Nat.le_of_ble_eq_true rfl) (b_X2_tiresOf_0 h2 h)
set_option maxRecDepth 4000 in
theorem b_X2_priceOf_0 {d : Nat} {t : Int} {Q : Int → jM → Prop} {σ : jM} {p1 p2 p3 : Int} (h2 : ob (GG t) p2 1) (h : (p1 = 0 → (((0 : Int) ≤ p3 ∧ p3 < 8) ∧ (Q (σ (p2 + 1) p3) σ))) ∧ (p1 ≠ 0 → ((ob (GG t) p1 8) ∧ (((0 : Int) ≤ 1 ∧ (1 : Int) < 2) ∧ ((inR (σ (p1 + 5) 1)) ∧ ((¬ (σ (p1 + 5) 1) = (-1) → (Ct mX2_valueOf d 0 t [rv 273, rv p1, iv 1, rv p2, iv p3] σ (fun r3 σ3 => ((inR r3) ∧ ((inR (min 9999 r3)) ∧ (Q (max 0 (min 9999 r3)) σ3)))))) ∧ ((σ (p1 + 5) 1) = (-1) → (((0 : Int) ≤ p3 ∧ p3 < 8) ∧ (Q (σ (p2 + 1) p3) σ))))))))) : Jt mX2_priceOf (d + 1) 0 t Q 0 [rv 273, rv p1, rv p2, iv p3, uv] [] σ := by
  refine s_aload_n (i := 1) rfl (show decode cX2_priceOf 0 = .ok (.aload_n 1, 1) by decide +kernel) ?_
  refine j_ifnull (tgt := 14) (show decode cX2_priceOf 1 = .ok (.ifnull 13, 3) by decide +kernel) (by decide) (fun c => ?_) (fun c => ?_)
  · have h := h.1 c
    refine s_aload_n (i := 2) rfl (show decode cX2_priceOf 14 = .ok (.aload_n 2, 1) by decide +kernel) ?_
    refine gf_X2_33 (x := (p2 + 1)) rfl (show decode cX2_priceOf 15 = .ok (.getfield 33, 3) by decide +kernel) h2 (gr_1_0 h2) ?_
    refine j_iload_n (i := 3) rfl (show decode cX2_priceOf 18 = .ok (.iload_n 3, 1) by decide +kernel) ?_
    refine s_iald (show decode cX2_priceOf 19 = .ok (.iaload, 1) by decide +kernel) (ok_1_0 h2) h.1 ?_
    have h := h.2
    exact j_ret (rokI (show decode cX2_priceOf 20 = .ok (.ireturn, 1) by decide +kernel) rfl) ⟨rfl, rfl, h⟩
  · have h := h.2 c
    refine s_aload_n (i := 1) rfl (show decode cX2_priceOf 4 = .ok (.aload_n 1, 1) by decide +kernel) ?_
    have hb0 := h.1
    have h := h.2
    refine gf_X2_15 (x := (p1 + 5)) rfl (show decode cX2_priceOf 5 = .ok (.getfield 15, 3) by decide +kernel) hb0 (gr_8_4 hb0) ?_
    refine j_iconst (show decode cX2_priceOf 8 = .ok (.iconst 1, 1) by decide +kernel) ?_
    refine s_iald (show decode cX2_priceOf 9 = .ok (.iaload, 1) by decide +kernel) (ok_8_4 hb0) h.1 ?_
    have h := h.2
    refine j_iconst (show decode cX2_priceOf 10 = .ok (.iconst (-1), 1) by decide +kernel) ?_
    have hr1 := h.1
    have h := h.2
    refine j_icmp_ne (tgt := 21) hr1 (inl (by decide)) (show decode cX2_priceOf 11 = .ok (.if_icmp .ne 10, 3) by decide +kernel) (by decide) (fun c => ?_) (fun c => ?_)
    · have h := h.1 c
      refine s_aload_n (i := 0) rfl (show decode cX2_priceOf 21 = .ok (.aload_n 0, 1) by decide +kernel) ?_
      refine s_aload_n (i := 1) rfl (show decode cX2_priceOf 22 = .ok (.aload_n 1, 1) by decide +kernel) ?_
      refine j_iconst (show decode cX2_priceOf 23 = .ok (.iconst 1, 1) by decide +kernel) ?_
      refine s_aload_n (i := 2) rfl (show decode cX2_priceOf 24 = .ok (.aload_n 2, 1) by decide +kernel) ?_
      refine j_iload_n (i := 3) rfl (show decode cX2_priceOf 25 = .ok (.iload_n 3, 1) by decide +kernel) ?_
      refine j_ctV (m' := mX2_valueOf) (As := [rv p1, iv 1, rv p2, iv p3]) (ci := 2) (tag := 0) (N := 0) (cw_X2_20 rfl) (show decode cX2_priceOf 26 = .ok (.invokevirtual 20, 3) by decide +kernel) rfl (Nat.le_of_ble_eq_true rfl) (by decide) okl_273 rfl rfl (Nat.le_refl _) h (fun r3 σ3 h => ?_)
      refine s_ist (i := 4) (L' := [rv 273, rv p1, rv p2, iv p3, iv r3]) rfl (by decide) (show decode cX2_priceOf 29 = .ok (.istore 4, 2) by decide +kernel) ?_
      refine j_iconst (show decode cX2_priceOf 31 = .ok (.iconst 0, 1) by decide +kernel) ?_
      refine j_sipush (n := 9999) (by decide +kernel) (show decode cX2_priceOf 32 = .ok (.sipush 9999, 3) by decide +kernel) ?_
      refine j_iload (i := 4) rfl (show decode cX2_priceOf 35 = .ok (.iload 4, 2) by decide +kernel) ?_
      have hr3 := h.1
      have h := h.2
      refine j_min (tt_in 786 (by decide +kernel) rfl) (by omega) (Nat.le_of_ble_eq_true rfl) (inl (by decide)) hr3 (show decode cX2_priceOf 37 = .ok (.invokestatic 24, 3) by decide +kernel) ?_
      have hr4 := h.1
      have h := h.2
      refine j_max (tt_in 787 (by decide +kernel) rfl) (by omega) (Nat.le_of_ble_eq_true rfl) (inl (by decide)) hr4 (show decode cX2_priceOf 40 = .ok (.invokestatic 30, 3) by decide +kernel) ?_
      exact j_ret (rokI (show decode cX2_priceOf 43 = .ok (.ireturn, 1) by decide +kernel) rfl) ⟨rfl, rfl, h⟩
    · have h := h.2 c
      refine s_aload_n (i := 2) rfl (show decode cX2_priceOf 14 = .ok (.aload_n 2, 1) by decide +kernel) ?_
      refine gf_X2_33 (x := (p2 + 1)) rfl (show decode cX2_priceOf 15 = .ok (.getfield 33, 3) by decide +kernel) h2 (gr_1_0 h2) ?_
      refine j_iload_n (i := 3) rfl (show decode cX2_priceOf 18 = .ok (.iload_n 3, 1) by decide +kernel) ?_
      refine s_iald (show decode cX2_priceOf 19 = .ok (.iaload, 1) by decide +kernel) (ok_1_0 h2) h.1 ?_
      have h := h.2
      exact j_ret (rokI (show decode cX2_priceOf 20 = .ok (.ireturn, 1) by decide +kernel) rfl) ⟨rfl, rfl, h⟩
theorem c_X2_priceOf {d : Nat} {t : Int} {Q : Int → jM → Prop} {σ : jM} {p1 p2 p3 : Int} (h2 : ob (GG t) p2 1) (h : (p1 = 0 → (((0 : Int) ≤ p3 ∧ p3 < 8) ∧ (Q (σ (p2 + 1) p3) σ))) ∧ (p1 ≠ 0 → ((ob (GG t) p1 8) ∧ (((0 : Int) ≤ 1 ∧ (1 : Int) < 2) ∧ ((inR (σ (p1 + 5) 1)) ∧ ((¬ (σ (p1 + 5) 1) = (-1) → (Ct mX2_valueOf d 0 t [rv 273, rv p1, iv 1, rv p2, iv p3] σ (fun r3 σ3 => ((inR r3) ∧ ((inR (min 9999 r3)) ∧ (Q (max 0 (min 9999 r3)) σ3)))))) ∧ ((σ (p1 + 5) 1) = (-1) → (((0 : Int) ≤ p3 ∧ p3 < 8) ∧ (Q (σ (p2 + 1) p3) σ))))))))) : Ct mX2_priceOf (d + 1) 0 t [rv 273, rv p1, rv p2, iv p3] σ Q := Ct_of (by decide +kernel) (Nat.le_of_ble_eq_true rfl) (b_X2_priceOf_0 h2 h)
set_option maxRecDepth 4000 in
theorem b_X2_valueOf_260 {d : Nat} {t : Int} {Q : Int → jM → Prop} {σ : jM} {p1 p2 p3 p4 v5 v6 v7 v8 v9 : Int} (h3 : ob (GG t) p3 1) (h : Jt mX2_valueOf (d + 1) 0 t Q 34 [rv 273, rv p1, iv p2, rv p3, iv p4, iv v5, iv v6, iv (v7 + 1), uv, uv] [] σ) : Jt mX2_valueOf (d + 1) 0 t Q 260 [rv 273, rv p1, iv p2, rv p3, iv p4, iv v5, iv v6, iv v7, iv v8, iv v9] [] σ := by
  refine s_iinc (i := 7) rfl (L' := [rv 273, rv p1, iv p2, rv p3, iv p4, iv v5, iv v6, iv (v7 + 1), iv v8, iv v9]) rfl (show decode cX2_valueOf 260 = .ok (.iinc 7 1, 3) by decide +kernel) ?_
  refine j_goto (tgt := 34) (show decode cX2_valueOf 263 = .ok (.goto (-229), 3) by decide +kernel) (by decide) ?_
  refine j_drop 8 ?_
  refine j_drop 9 ?_
  exact h
set_option maxRecDepth 4000 in
theorem b_X2_valueOf_188 {d : Nat} {t : Int} {Q : Int → jM → Prop} {σ : jM} {p1 p2 p3 p4 v5 v6 v7 v8 v9 u0 : Int} (h3 : ob (GG t) p3 1) (h : Jt mX2_valueOf (d + 1) 0 t Q 260 [rv 273, rv p1, iv p2, rv p3, iv p4, iv v5, iv v6, iv u0, iv v8, iv v9] [] σ) : Jt mX2_valueOf (d + 1) 0 t Q 188 [rv 273, rv p1, iv p2, rv p3, iv p4, iv v5, iv v6, iv v7, iv v8, iv v9] [iv u0] σ := by
  refine s_ist (i := 7) (L' := [rv 273, rv p1, iv p2, rv p3, iv p4, iv v5, iv v6, iv u0, iv v8, iv v9]) rfl (by decide) (show decode cX2_valueOf 188 = .ok (.istore 7, 2) by decide +kernel) ?_
  refine j_goto (tgt := 260) (show decode cX2_valueOf 190 = .ok (.goto 70, 3) by decide +kernel) (by decide) ?_
  exact h
set_option maxRecDepth 4000 in
theorem b_X2_valueOf_154 {d : Nat} {t : Int} {Q : Int → jM → Prop} {σ : jM} {p1 p2 p3 p4 v5 v6 v7 v8 v9 : Int} (h3 : ob (GG t) p3 1) (h : (inR v8) ∧ ((¬ v8 = 9 → ((inR v8) ∧ ((14 ≤ v8 → (((0 : Int) ≤ ((v6 + (-1)) - 1) ∧ ((v6 + (-1)) - 1) < 64) ∧ (((0 : Int) ≤ (v6 + (-1)) ∧ (v6 + (-1)) < 64) ∧ (Ct mX2_ofTwo d 0 t [iv v8, iv (σ 274 ((v6 + (-1)) - 1)), iv (σ 274 (v6 + (-1)))] σ (fun r3 σ3 => (((0 : Int) ≤ ((v6 + (-1)) - 1) ∧ ((v6 + (-1)) - 1) < 64) ∧ (∀ σ5 : jM, σ5 = up σ3 274 ((v6 + (-1)) - 1) r3 → (Jt mX2_valueOf (d + 1) 0 t Q 260 [rv 273, rv p1, iv p2, rv p3, iv p4, iv v5, iv (v6 + (-1)), iv v7, iv v8, iv v9] [] σ5)))))))) ∧ (v8 < 14 → (((0 : Int) ≤ (v6 - 1) ∧ (v6 - 1) < 64) ∧ (Ct mX2_ofOne d 0 t [iv v8, iv (σ 274 (v6 - 1)), rv p3] σ (fun r6 σ6 => (((0 : Int) ≤ (v6 - 1) ∧ (v6 - 1) < 64) ∧ (∀ σ8 : jM, σ8 = up σ6 274 (v6 - 1) r6 → (Jt mX2_valueOf (d + 1) 0 t Q 260 [rv 273, rv p1, iv p2, rv p3, iv p4, iv v5, iv v6, iv v7, iv v8, iv v9] [] σ8)))))))))) ∧ (v8 = 9 → (((0 : Int) ≤ (v6 + (-1)) ∧ (v6 + (-1)) < 64) ∧ ((inR (σ 274 (v6 + (-1)))) ∧ ((¬ (σ 274 (v6 + (-1))) = 0 → (Jt mX2_valueOf (d + 1) 0 t Q 188 [rv 273, rv p1, iv p2, rv p3, iv p4, iv v5, iv (v6 + (-1)), iv v7, iv v8, iv v9] [iv v7] σ)) ∧ ((σ 274 (v6 + (-1))) = 0 → ((inR v7) ∧ ((inR (v9 - 1)) ∧ (Jt mX2_valueOf (d + 1) 0 t Q 188 [rv 273, rv p1, iv p2, rv p3, iv p4, iv v5, iv (v6 + (-1)), iv v7, iv v8, iv v9] [iv (max v7 (v9 - 1))] σ)))))))))) : Jt mX2_valueOf (d + 1) 0 t Q 154 [rv 273, rv p1, iv p2, rv p3, iv p4, iv v5, iv v6, iv v7, iv v8, iv v9] [] σ := by
  refine j_iload (i := 8) rfl (show decode cX2_valueOf 154 = .ok (.iload 8, 2) by decide +kernel) ?_
  refine j_bipush (n := 9) (by decide +kernel) (show decode cX2_valueOf 156 = .ok (.bipush 9, 2) by decide +kernel) ?_
  have hr0 := h.1
  have h := h.2
  refine j_icmp_ne (tgt := 193) hr0 (inl (by decide)) (show decode cX2_valueOf 158 = .ok (.if_icmp .ne 35, 3) by decide +kernel) (by decide) (fun c => ?_) (fun c => ?_)
  · have h := h.1 c
    refine j_iload (i := 8) rfl (show decode cX2_valueOf 193 = .ok (.iload 8, 2) by decide +kernel) ?_
    refine j_bipush (n := 14) (by decide +kernel) (show decode cX2_valueOf 195 = .ok (.bipush 14, 2) by decide +kernel) ?_
    have hr1 := h.1
    have h := h.2
    refine j_icmp_ge (tgt := 227) hr1 (inl (by decide)) (show decode cX2_valueOf 197 = .ok (.if_icmp .ge 30, 3) by decide +kernel) (by decide) (fun c => ?_) (fun c => ?_)
    · have h := h.1 c
      refine s_iinc (i := 6) rfl (L' := [rv 273, rv p1, iv p2, rv p3, iv p4, iv v5, iv (v6 + (-1)), iv v7, iv v8, iv v9]) rfl (show decode cX2_valueOf 227 = .ok (.iinc 6 (-1), 3) by decide +kernel) ?_
      refine s_aload_n (i := 0) rfl (show decode cX2_valueOf 230 = .ok (.aload_n 0, 1) by decide +kernel) ?_
      refine gf_X2_11 (x := 274) rfl (show decode cX2_valueOf 231 = .ok (.getfield 11, 3) by decide +kernel) okl_273 rfl ?_
      refine j_iload (i := 6) rfl (show decode cX2_valueOf 234 = .ok (.iload 6, 2) by decide +kernel) ?_
      refine j_iconst (show decode cX2_valueOf 236 = .ok (.iconst 1, 1) by decide +kernel) ?_
      refine j_isub (show decode cX2_valueOf 237 = .ok (.isub, 1) by decide +kernel) ?_
      refine j_iload (i := 8) rfl (show decode cX2_valueOf 238 = .ok (.iload 8, 2) by decide +kernel) ?_
      refine s_aload_n (i := 0) rfl (show decode cX2_valueOf 240 = .ok (.aload_n 0, 1) by decide +kernel) ?_
      refine gf_X2_11 (x := 274) rfl (show decode cX2_valueOf 241 = .ok (.getfield 11, 3) by decide +kernel) okl_273 rfl ?_
      refine j_iload (i := 6) rfl (show decode cX2_valueOf 244 = .ok (.iload 6, 2) by decide +kernel) ?_
      refine j_iconst (show decode cX2_valueOf 246 = .ok (.iconst 1, 1) by decide +kernel) ?_
      refine j_isub (show decode cX2_valueOf 247 = .ok (.isub, 1) by decide +kernel) ?_
      refine s_iald (show decode cX2_valueOf 248 = .ok (.iaload, 1) by decide +kernel) okl_274 h.1 ?_
      have h := h.2
      refine s_aload_n (i := 0) rfl (show decode cX2_valueOf 249 = .ok (.aload_n 0, 1) by decide +kernel) ?_
      refine gf_X2_11 (x := 274) rfl (show decode cX2_valueOf 250 = .ok (.getfield 11, 3) by decide +kernel) okl_273 rfl ?_
      refine j_iload (i := 6) rfl (show decode cX2_valueOf 253 = .ok (.iload 6, 2) by decide +kernel) ?_
      refine s_iald (show decode cX2_valueOf 255 = .ok (.iaload, 1) by decide +kernel) okl_274 h.1 ?_
      have h := h.2
      refine j_ctS (m' := mX2_ofTwo) (As := [iv v8, iv (σ 274 ((v6 + (-1)) - 1)), iv (σ 274 (v6 + (-1)))]) (tag := 0) (cw_X2_56 rfl) (show decode cX2_valueOf 256 = .ok (.invokestatic 56, 3) by decide +kernel) rfl (Nat.le_of_ble_eq_true rfl) (by decide) (Nat.le_refl _) h (fun r3 σ3 h => ?_)
      have hb3 := h.1
      have h := h.2
      refine s_iast (show decode cX2_valueOf 259 = .ok (.iastore, 1) by decide +kernel) okl_274 hb3 ?_
      obtain ⟨σ5, eσ5⟩ : ∃ z : jM, z = up σ3 274 ((v6 + (-1)) - 1) r3 := ⟨_, rfl⟩
      refine j_sig eσ5 ?_
      have h := h σ5 eσ5
      exact h
    · have h := h.2 c
      refine s_aload_n (i := 0) rfl (show decode cX2_valueOf 200 = .ok (.aload_n 0, 1) by decide +kernel) ?_
      refine gf_X2_11 (x := 274) rfl (show decode cX2_valueOf 201 = .ok (.getfield 11, 3) by decide +kernel) okl_273 rfl ?_
      refine j_iload (i := 6) rfl (show decode cX2_valueOf 204 = .ok (.iload 6, 2) by decide +kernel) ?_
      refine j_iconst (show decode cX2_valueOf 206 = .ok (.iconst 1, 1) by decide +kernel) ?_
      refine j_isub (show decode cX2_valueOf 207 = .ok (.isub, 1) by decide +kernel) ?_
      refine j_iload (i := 8) rfl (show decode cX2_valueOf 208 = .ok (.iload 8, 2) by decide +kernel) ?_
      refine s_aload_n (i := 0) rfl (show decode cX2_valueOf 210 = .ok (.aload_n 0, 1) by decide +kernel) ?_
      refine gf_X2_11 (x := 274) rfl (show decode cX2_valueOf 211 = .ok (.getfield 11, 3) by decide +kernel) okl_273 rfl ?_
      refine j_iload (i := 6) rfl (show decode cX2_valueOf 214 = .ok (.iload 6, 2) by decide +kernel) ?_
      refine j_iconst (show decode cX2_valueOf 216 = .ok (.iconst 1, 1) by decide +kernel) ?_
      refine j_isub (show decode cX2_valueOf 217 = .ok (.isub, 1) by decide +kernel) ?_
      refine s_iald (show decode cX2_valueOf 218 = .ok (.iaload, 1) by decide +kernel) okl_274 h.1 ?_
      have h := h.2
      refine s_aload_n (i := 3) rfl (show decode cX2_valueOf 219 = .ok (.aload_n 3, 1) by decide +kernel) ?_
      refine j_ctS (m' := mX2_ofOne) (As := [iv v8, iv (σ 274 (v6 - 1)), rv p3]) (tag := 0) (cw_X2_52 rfl) (show decode cX2_valueOf 220 = .ok (.invokestatic 52, 3) by decide +kernel) rfl (Nat.le_of_ble_eq_true rfl) (by decide) (Nat.le_refl _) h (fun r6 σ6 h => ?_)
      have hb6 := h.1
      have h := h.2
      refine s_iast (show decode cX2_valueOf 223 = .ok (.iastore, 1) by decide +kernel) okl_274 hb6 ?_
      obtain ⟨σ8, eσ8⟩ : ∃ z : jM, z = up σ6 274 (v6 - 1) r6 := ⟨_, rfl⟩
      refine j_sig eσ8 ?_
      have h := h σ8 eσ8
      refine j_goto (tgt := 260) (show decode cX2_valueOf 224 = .ok (.goto 36, 3) by decide +kernel) (by decide) ?_
      exact h
  · have h := h.2 c
    refine s_iinc (i := 6) rfl (L' := [rv 273, rv p1, iv p2, rv p3, iv p4, iv v5, iv (v6 + (-1)), iv v7, iv v8, iv v9]) rfl (show decode cX2_valueOf 161 = .ok (.iinc 6 (-1), 3) by decide +kernel) ?_
    refine s_aload_n (i := 0) rfl (show decode cX2_valueOf 164 = .ok (.aload_n 0, 1) by decide +kernel) ?_
    refine gf_X2_11 (x := 274) rfl (show decode cX2_valueOf 165 = .ok (.getfield 11, 3) by decide +kernel) okl_273 rfl ?_
    refine j_iload (i := 6) rfl (show decode cX2_valueOf 168 = .ok (.iload 6, 2) by decide +kernel) ?_
    refine s_iald (show decode cX2_valueOf 170 = .ok (.iaload, 1) by decide +kernel) okl_274 h.1 ?_
    have h := h.2
    have hr8 := h.1
    have h := h.2
    refine j_if_ne (tgt := 186) hr8 (show decode cX2_valueOf 171 = .ok (.ifCond .ne 15, 3) by decide +kernel) (by decide) (fun c => ?_) (fun c => ?_)
    · have h := h.1 c
      refine j_iload (i := 7) rfl (show decode cX2_valueOf 186 = .ok (.iload 7, 2) by decide +kernel) ?_
      exact h
    · have h := h.2 c
      refine j_iload (i := 7) rfl (show decode cX2_valueOf 174 = .ok (.iload 7, 2) by decide +kernel) ?_
      refine j_iload (i := 9) rfl (show decode cX2_valueOf 176 = .ok (.iload 9, 2) by decide +kernel) ?_
      refine j_iconst (show decode cX2_valueOf 178 = .ok (.iconst 1, 1) by decide +kernel) ?_
      refine j_isub (show decode cX2_valueOf 179 = .ok (.isub, 1) by decide +kernel) ?_
      have hr9 := h.1
      have h := h.2
      have hr10 := h.1
      have h := h.2
      refine j_max (tt_in 787 (by decide +kernel) rfl) (by omega) (Nat.le_of_ble_eq_true rfl) hr9 hr10 (show decode cX2_valueOf 180 = .ok (.invokestatic 30, 3) by decide +kernel) ?_
      refine j_goto (tgt := 188) (show decode cX2_valueOf 183 = .ok (.goto 5, 3) by decide +kernel) (by decide) ?_
      exact h
set_option maxRecDepth 4000 in
theorem b_X2_valueOf_152 {d : Nat} {t : Int} {Q : Int → jM → Prop} {σ : jM} {p1 p2 p3 p4 v5 v6 v7 v8 v9 : Int} (h3 : ob (GG t) p3 1) (h : Q 0 σ) : Jt mX2_valueOf (d + 1) 0 t Q 152 [rv 273, rv p1, iv p2, rv p3, iv p4, iv v5, iv v6, iv v7, iv v8, iv v9] [] σ := by
  refine j_iconst (show decode cX2_valueOf 152 = .ok (.iconst 0, 1) by decide +kernel) ?_
  exact j_ret (rokI (show decode cX2_valueOf 153 = .ok (.ireturn, 1) by decide +kernel) rfl) ⟨rfl, rfl, h⟩
set_option maxRecDepth 4000 in
theorem b_X2_valueOf_105 {d : Nat} {t : Int} {Q : Int → jM → Prop} {σ : jM} {p1 p2 p3 p4 v5 v6 v7 v8 v9 u0 u1 : Int} (h3 : ob (GG t) p3 1) (h : ((0 : Int) ≤ u1 ∧ u1 < 64) ∧ (∀ σ2 : jM, σ2 = up σ 274 u1 u0 → (Jt mX2_valueOf (d + 1) 0 t Q 260 [rv 273, rv p1, iv p2, rv p3, iv p4, iv v5, iv (v6 + 1), iv v7, iv v8, iv v9] [] σ2))) : Jt mX2_valueOf (d + 1) 0 t Q 105 [rv 273, rv p1, iv p2, rv p3, iv p4, iv v5, iv v6, iv v7, iv v8, iv v9] [iv u0, iv u1, rv 274] σ := by
  have hb0 := h.1
  have h := h.2
  refine s_iast (show decode cX2_valueOf 105 = .ok (.iastore, 1) by decide +kernel) okl_274 hb0 ?_
  obtain ⟨σ2, eσ2⟩ : ∃ z : jM, z = up σ 274 u1 u0 := ⟨_, rfl⟩
  refine j_sig eσ2 ?_
  have h := h σ2 eσ2
  refine s_iinc (i := 6) rfl (L' := [rv 273, rv p1, iv p2, rv p3, iv p4, iv v5, iv (v6 + 1), iv v7, iv v8, iv v9]) rfl (show decode cX2_valueOf 106 = .ok (.iinc 6 1, 3) by decide +kernel) ?_
  refine j_goto (tgt := 260) (show decode cX2_valueOf 109 = .ok (.goto 151, 3) by decide +kernel) (by decide) ?_
  exact h
set_option maxRecDepth 4000 in
theorem b_X2_valueOf_34 {d : Nat} {t : Int} {Q : Int → jM → Prop} {σ : jM} {p1 p2 p3 p4 v5 v6 v7 : Int} (h3 : ob (GG t) p3 1) (h : (inR v7) ∧ ((inR v5) ∧ ((v5 ≤ v7 → ((inR v6) ∧ ((v6 ≤ 0 → (Q 0 σ)) ∧ (0 < v6 → (((0 : Int) ≤ (v6 - 1) ∧ (v6 - 1) < 64) ∧ (Q (σ 274 (v6 - 1)) σ)))))) ∧ (v7 < v5 → ((ob (GG t) p1 8) ∧ (((0 : Int) ≤ v7 ∧ v7 < 300) ∧ ((ob (GG t) p1 8) ∧ (((0 : Int) ≤ v7 ∧ v7 < 300) ∧ ((inR (i_and (σ (p1 + 4) v7) 31)) ∧ ((8 ≤ (i_and (σ (p1 + 4) v7) 31) → ((inR (i_and (σ (p1 + 4) v7) 31)) ∧ ((¬ (i_and (σ (p1 + 4) v7) 31) = 8 → ((inR v6) ∧ ((v6 < 1 → (Jt mX2_valueOf (d + 1) 0 t Q 152 [rv 273, rv p1, iv p2, rv p3, iv p4, iv v5, iv v6, iv v7, iv (i_and (σ (p1 + 4) v7) 31), iv (i_shr (σ (p1 + 4) v7) 5)] [] σ)) ∧ (1 ≤ v6 → ((inR (i_and (σ (p1 + 4) v7) 31)) ∧ (((i_and (σ (p1 + 4) v7) 31) < 14 → (Jt mX2_valueOf (d + 1) 0 t Q 154 [rv 273, rv p1, iv p2, rv p3, iv p4, iv v5, iv v6, iv v7, iv (i_and (σ (p1 + 4) v7) 31), iv (i_shr (σ (p1 + 4) v7) 5)] [] σ)) ∧ (14 ≤ (i_and (σ (p1 + 4) v7) 31) → ((inR v6) ∧ ((2 ≤ v6 → (Jt mX2_valueOf (d + 1) 0 t Q 154 [rv 273, rv p1, iv p2, rv p3, iv p4, iv v5, iv v6, iv v7, iv (i_and (σ (p1 + 4) v7) 31), iv (i_shr (σ (p1 + 4) v7) 5)] [] σ)) ∧ (v6 < 2 → (Jt mX2_valueOf (d + 1) 0 t Q 152 [rv 273, rv p1, iv p2, rv p3, iv p4, iv v5, iv v6, iv v7, iv (i_and (σ (p1 + 4) v7) 31), iv (i_shr (σ (p1 + 4) v7) 5)] [] σ))))))))))) ∧ ((i_and (σ (p1 + 4) v7) 31) = 8 → ((inR v7) ∧ ((inR ((i_shr (σ (p1 + 4) v7) 5) - 1)) ∧ (Jt mX2_valueOf (d + 1) 0 t Q 260 [rv 273, rv p1, iv p2, rv p3, iv p4, iv v5, iv v6, iv (max v7 ((i_shr (σ (p1 + 4) v7) 5) - 1)), iv (i_and (σ (p1 + 4) v7) 31), iv (i_shr (σ (p1 + 4) v7) 5)] [] σ))))))) ∧ ((i_and (σ (p1 + 4) v7) 31) < 8 → ((inR v6) ∧ ((v6 < 64 → ((inR (i_and (σ (p1 + 4) v7) 31)) ∧ ((¬ (i_and (σ (p1 + 4) v7) 31) = 0 → (Ct mX2_named d 0 t [rv 273, iv (i_and (σ (p1 + 4) v7) 31), rv p3, iv p4] σ (fun r15 σ15 => (Jt mX2_valueOf (d + 1) 0 t Q 105 [rv 273, rv p1, iv p2, rv p3, iv p4, iv v5, iv v6, iv v7, iv (i_and (σ (p1 + 4) v7) 31), iv (i_shr (σ (p1 + 4) v7) 5)] [iv r15, iv v6, rv 274] σ15)))) ∧ ((i_and (σ (p1 + 4) v7) 31) = 0 → (Jt mX2_valueOf (d + 1) 0 t Q 105 [rv 273, rv p1, iv p2, rv p3, iv p4, iv v5, iv v6, iv v7, iv (i_and (σ (p1 + 4) v7) 31), iv (i_shr (σ (p1 + 4) v7) 5)] [iv (i_shr (σ (p1 + 4) v7) 5), iv v6, rv 274] σ))))) ∧ (64 ≤ v6 → (Q 0 σ))))))))))))))) : Jt mX2_valueOf (d + 1) 0 t Q 34 [rv 273, rv p1, iv p2, rv p3, iv p4, iv v5, iv v6, iv v7, uv, uv] [] σ := by
  refine j_iload (i := 7) rfl (show decode cX2_valueOf 34 = .ok (.iload 7, 2) by decide +kernel) ?_
  refine j_iload (i := 5) rfl (show decode cX2_valueOf 36 = .ok (.iload 5, 2) by decide +kernel) ?_
  have hr0 := h.1
  have h := h.2
  have hr1 := h.1
  have h := h.2
  refine j_icmp_ge (tgt := 266) hr0 hr1 (show decode cX2_valueOf 38 = .ok (.if_icmp .ge 228, 3) by decide +kernel) (by decide) (fun c => ?_) (fun c => ?_)
  · have h := h.1 c
    refine j_iload (i := 6) rfl (show decode cX2_valueOf 266 = .ok (.iload 6, 2) by decide +kernel) ?_
    have hr2 := h.1
    have h := h.2
    refine j_if_le (tgt := 283) hr2 (show decode cX2_valueOf 268 = .ok (.ifCond .le 15, 3) by decide +kernel) (by decide) (fun c => ?_) (fun c => ?_)
    · have h := h.1 c
      refine j_iconst (show decode cX2_valueOf 283 = .ok (.iconst 0, 1) by decide +kernel) ?_
      exact j_ret (rokI (show decode cX2_valueOf 284 = .ok (.ireturn, 1) by decide +kernel) rfl) ⟨rfl, rfl, h⟩
    · have h := h.2 c
      refine s_aload_n (i := 0) rfl (show decode cX2_valueOf 271 = .ok (.aload_n 0, 1) by decide +kernel) ?_
      refine gf_X2_11 (x := 274) rfl (show decode cX2_valueOf 272 = .ok (.getfield 11, 3) by decide +kernel) okl_273 rfl ?_
      refine j_iload (i := 6) rfl (show decode cX2_valueOf 275 = .ok (.iload 6, 2) by decide +kernel) ?_
      refine j_iconst (show decode cX2_valueOf 277 = .ok (.iconst 1, 1) by decide +kernel) ?_
      refine j_isub (show decode cX2_valueOf 278 = .ok (.isub, 1) by decide +kernel) ?_
      refine s_iald (show decode cX2_valueOf 279 = .ok (.iaload, 1) by decide +kernel) okl_274 h.1 ?_
      have h := h.2
      refine j_goto (tgt := 284) (show decode cX2_valueOf 280 = .ok (.goto 4, 3) by decide +kernel) (by decide) ?_
      exact j_ret (rokI (show decode cX2_valueOf 284 = .ok (.ireturn, 1) by decide +kernel) rfl) ⟨rfl, rfl, h⟩
  · have h := h.2 c
    refine s_aload_n (i := 1) rfl (show decode cX2_valueOf 41 = .ok (.aload_n 1, 1) by decide +kernel) ?_
    have hb3 := h.1
    have h := h.2
    refine gf_X2_45 (x := (p1 + 4)) rfl (show decode cX2_valueOf 42 = .ok (.getfield 45, 3) by decide +kernel) hb3 (gr_8_3 hb3) ?_
    refine j_iload (i := 7) rfl (show decode cX2_valueOf 45 = .ok (.iload 7, 2) by decide +kernel) ?_
    refine s_iald (show decode cX2_valueOf 47 = .ok (.iaload, 1) by decide +kernel) (ok_8_3 hb3) h.1 ?_
    have h := h.2
    refine j_bipush (n := 31) (by decide +kernel) (show decode cX2_valueOf 48 = .ok (.bipush 31, 2) by decide +kernel) ?_
    refine j_iand (show decode cX2_valueOf 50 = .ok (.iand, 1) by decide +kernel) ?_
    refine s_ist (i := 8) (L' := [rv 273, rv p1, iv p2, rv p3, iv p4, iv v5, iv v6, iv v7, iv (i_and (σ (p1 + 4) v7) 31), uv]) rfl (by decide) (show decode cX2_valueOf 51 = .ok (.istore 8, 2) by decide +kernel) ?_
    refine s_aload_n (i := 1) rfl (show decode cX2_valueOf 53 = .ok (.aload_n 1, 1) by decide +kernel) ?_
    have hb4 := h.1
    have h := h.2
    refine gf_X2_45 (x := (p1 + 4)) rfl (show decode cX2_valueOf 54 = .ok (.getfield 45, 3) by decide +kernel) hb4 (gr_8_3 hb4) ?_
    refine j_iload (i := 7) rfl (show decode cX2_valueOf 57 = .ok (.iload 7, 2) by decide +kernel) ?_
    refine s_iald (show decode cX2_valueOf 59 = .ok (.iaload, 1) by decide +kernel) (ok_8_3 hb4) h.1 ?_
    have h := h.2
    refine j_iconst (show decode cX2_valueOf 60 = .ok (.iconst 5, 1) by decide +kernel) ?_
    refine j_ishr (show decode cX2_valueOf 61 = .ok (.ishr, 1) by decide +kernel) ?_
    refine s_ist (i := 9) (L' := [rv 273, rv p1, iv p2, rv p3, iv p4, iv v5, iv v6, iv v7, iv (i_and (σ (p1 + 4) v7) 31), iv (i_shr (σ (p1 + 4) v7) 5)]) rfl (by decide) (show decode cX2_valueOf 62 = .ok (.istore 9, 2) by decide +kernel) ?_
    refine j_iload (i := 8) rfl (show decode cX2_valueOf 64 = .ok (.iload 8, 2) by decide +kernel) ?_
    refine j_bipush (n := 8) (by decide +kernel) (show decode cX2_valueOf 66 = .ok (.bipush 8, 2) by decide +kernel) ?_
    have hr5 := h.1
    have h := h.2
    refine j_icmp_ge (tgt := 112) hr5 (inl (by decide)) (show decode cX2_valueOf 68 = .ok (.if_icmp .ge 44, 3) by decide +kernel) (by decide) (fun c => ?_) (fun c => ?_)
    · have h := h.1 c
      refine j_iload (i := 8) rfl (show decode cX2_valueOf 112 = .ok (.iload 8, 2) by decide +kernel) ?_
      refine j_bipush (n := 8) (by decide +kernel) (show decode cX2_valueOf 114 = .ok (.bipush 8, 2) by decide +kernel) ?_
      have hr6 := h.1
      have h := h.2
      refine j_icmp_ne (tgt := 133) hr6 (inl (by decide)) (show decode cX2_valueOf 116 = .ok (.if_icmp .ne 17, 3) by decide +kernel) (by decide) (fun c => ?_) (fun c => ?_)
      · have h := h.1 c
        refine j_iload (i := 6) rfl (show decode cX2_valueOf 133 = .ok (.iload 6, 2) by decide +kernel) ?_
        refine j_iconst (show decode cX2_valueOf 135 = .ok (.iconst 1, 1) by decide +kernel) ?_
        have hr7 := h.1
        have h := h.2
        refine j_icmp_lt (tgt := 152) hr7 (inl (by decide)) (show decode cX2_valueOf 136 = .ok (.if_icmp .lt 16, 3) by decide +kernel) (by decide) (fun c => ?_) (fun c => ?_)
        · have h := h.1 c
          exact h
        · have h := h.2 c
          refine j_iload (i := 8) rfl (show decode cX2_valueOf 139 = .ok (.iload 8, 2) by decide +kernel) ?_
          refine j_bipush (n := 14) (by decide +kernel) (show decode cX2_valueOf 141 = .ok (.bipush 14, 2) by decide +kernel) ?_
          have hr8 := h.1
          have h := h.2
          refine j_icmp_lt (tgt := 154) hr8 (inl (by decide)) (show decode cX2_valueOf 143 = .ok (.if_icmp .lt 11, 3) by decide +kernel) (by decide) (fun c => ?_) (fun c => ?_)
          · have h := h.1 c
            exact h
          · have h := h.2 c
            refine j_iload (i := 6) rfl (show decode cX2_valueOf 146 = .ok (.iload 6, 2) by decide +kernel) ?_
            refine j_iconst (show decode cX2_valueOf 148 = .ok (.iconst 2, 1) by decide +kernel) ?_
            have hr9 := h.1
            have h := h.2
            refine j_icmp_ge (tgt := 154) hr9 (inl (by decide)) (show decode cX2_valueOf 149 = .ok (.if_icmp .ge 5, 3) by decide +kernel) (by decide) (fun c => ?_) (fun c => ?_)
            · have h := h.1 c
              exact h
            · have h := h.2 c
              exact h
      · have h := h.2 c
        refine j_iload (i := 7) rfl (show decode cX2_valueOf 119 = .ok (.iload 7, 2) by decide +kernel) ?_
        refine j_iload (i := 9) rfl (show decode cX2_valueOf 121 = .ok (.iload 9, 2) by decide +kernel) ?_
        refine j_iconst (show decode cX2_valueOf 123 = .ok (.iconst 1, 1) by decide +kernel) ?_
        refine j_isub (show decode cX2_valueOf 124 = .ok (.isub, 1) by decide +kernel) ?_
        have hr10 := h.1
        have h := h.2
        have hr11 := h.1
        have h := h.2
        refine j_max (tt_in 787 (by decide +kernel) rfl) (by omega) (Nat.le_of_ble_eq_true rfl) hr10 hr11 (show decode cX2_valueOf 125 = .ok (.invokestatic 30, 3) by decide +kernel) ?_
        refine s_ist (i := 7) (L' := [rv 273, rv p1, iv p2, rv p3, iv p4, iv v5, iv v6, iv (max v7 ((i_shr (σ (p1 + 4) v7) 5) - 1)), iv (i_and (σ (p1 + 4) v7) 31), iv (i_shr (σ (p1 + 4) v7) 5)]) rfl (by decide) (show decode cX2_valueOf 128 = .ok (.istore 7, 2) by decide +kernel) ?_
        refine j_goto (tgt := 260) (show decode cX2_valueOf 130 = .ok (.goto 130, 3) by decide +kernel) (by decide) ?_
        exact h
    · have h := h.2 c
      refine j_iload (i := 6) rfl (show decode cX2_valueOf 71 = .ok (.iload 6, 2) by decide +kernel) ?_
      refine j_bipush (n := 64) (by decide +kernel) (show decode cX2_valueOf 73 = .ok (.bipush 64, 2) by decide +kernel) ?_
      have hr12 := h.1
      have h := h.2
      refine j_icmp_lt (tgt := 80) hr12 (inl (by decide)) (show decode cX2_valueOf 75 = .ok (.if_icmp .lt 5, 3) by decide +kernel) (by decide) (fun c => ?_) (fun c => ?_)
      · have h := h.1 c
        refine s_aload_n (i := 0) rfl (show decode cX2_valueOf 80 = .ok (.aload_n 0, 1) by decide +kernel) ?_
        refine gf_X2_11 (x := 274) rfl (show decode cX2_valueOf 81 = .ok (.getfield 11, 3) by decide +kernel) okl_273 rfl ?_
        refine j_iload (i := 6) rfl (show decode cX2_valueOf 84 = .ok (.iload 6, 2) by decide +kernel) ?_
        refine j_iload (i := 8) rfl (show decode cX2_valueOf 86 = .ok (.iload 8, 2) by decide +kernel) ?_
        have hr13 := h.1
        have h := h.2
        refine j_if_ne (tgt := 96) hr13 (show decode cX2_valueOf 88 = .ok (.ifCond .ne 8, 3) by decide +kernel) (by decide) (fun c => ?_) (fun c => ?_)
        · have h := h.1 c
          refine s_aload_n (i := 0) rfl (show decode cX2_valueOf 96 = .ok (.aload_n 0, 1) by decide +kernel) ?_
          refine j_iload (i := 8) rfl (show decode cX2_valueOf 97 = .ok (.iload 8, 2) by decide +kernel) ?_
          refine s_aload_n (i := 3) rfl (show decode cX2_valueOf 99 = .ok (.aload_n 3, 1) by decide +kernel) ?_
          refine j_iload (i := 4) rfl (show decode cX2_valueOf 100 = .ok (.iload 4, 2) by decide +kernel) ?_
          refine j_ctV (m' := mX2_named) (As := [iv (i_and (σ (p1 + 4) v7) 31), rv p3, iv p4]) (ci := 2) (tag := 0) (N := 0) (cw_X2_48 rfl) (show decode cX2_valueOf 102 = .ok (.invokevirtual 48, 3) by decide +kernel) rfl (Nat.le_of_ble_eq_true rfl) (by decide) okl_273 rfl rfl (Nat.le_refl _) h (fun r15 σ15 h => ?_)
          exact h
        · have h := h.2 c
          refine j_iload (i := 9) rfl (show decode cX2_valueOf 91 = .ok (.iload 9, 2) by decide +kernel) ?_
          refine j_goto (tgt := 105) (show decode cX2_valueOf 93 = .ok (.goto 12, 3) by decide +kernel) (by decide) ?_
          exact h
      · have h := h.2 c
        refine j_iconst (show decode cX2_valueOf 78 = .ok (.iconst 0, 1) by decide +kernel) ?_
        exact j_ret (rokI (show decode cX2_valueOf 79 = .ok (.ireturn, 1) by decide +kernel) rfl) ⟨rfl, rfl, h⟩
set_option maxRecDepth 4000 in
theorem b_X2_valueOf_0 {d : Nat} {t : Int} {Q : Int → jM → Prop} {σ : jM} {p1 p2 p3 p4 : Int} (h3 : ob (GG t) p3 1) (h : (ob (GG t) p1 8) ∧ (((0 : Int) ≤ p2 ∧ p2 < 2) ∧ ((inR (σ (p1 + 6) p2)) ∧ (∀ σ3 : jM, σ3 = up σ 273 1 (-1) → ((ob (GG t) p1 8) ∧ (((0 : Int) ≤ p2 ∧ p2 < 2) ∧ ((inR (σ3 (p1 + 5) p2)) ∧ (Jt mX2_valueOf (d + 1) 0 t Q 34 [rv 273, rv p1, iv p2, rv p3, iv p4, iv (min (σ (p1 + 6) p2) 300), iv 0, iv (max (σ3 (p1 + 5) p2) 0), uv, uv] [] σ3)))))))) : Jt mX2_valueOf (d + 1) 0 t Q 0 [rv 273, rv p1, iv p2, rv p3, iv p4, uv, uv, uv, uv, uv] [] σ := by
  refine s_aload_n (i := 1) rfl (show decode cX2_valueOf 0 = .ok (.aload_n 1, 1) by decide +kernel) ?_
  have hb0 := h.1
  have h := h.2
  refine gf_X2_38 (x := (p1 + 6)) rfl (show decode cX2_valueOf 1 = .ok (.getfield 38, 3) by decide +kernel) hb0 (gr_8_5 hb0) ?_
  refine j_iload_n (i := 2) rfl (show decode cX2_valueOf 4 = .ok (.iload_n 2, 1) by decide +kernel) ?_
  refine s_iald (show decode cX2_valueOf 5 = .ok (.iaload, 1) by decide +kernel) (ok_8_5 hb0) h.1 ?_
  have h := h.2
  refine j_sipush (n := 300) (by decide +kernel) (show decode cX2_valueOf 6 = .ok (.sipush 300, 3) by decide +kernel) ?_
  have hr1 := h.1
  have h := h.2
  refine j_min (tt_in 786 (by decide +kernel) rfl) (by omega) (Nat.le_of_ble_eq_true rfl) hr1 (inl (by decide)) (show decode cX2_valueOf 9 = .ok (.invokestatic 24, 3) by decide +kernel) ?_
  refine s_ist (i := 5) (L' := [rv 273, rv p1, iv p2, rv p3, iv p4, iv (min (σ (p1 + 6) p2) 300), uv, uv, uv, uv]) rfl (by decide) (show decode cX2_valueOf 12 = .ok (.istore 5, 2) by decide +kernel) ?_
  refine j_iconst (show decode cX2_valueOf 14 = .ok (.iconst 0, 1) by decide +kernel) ?_
  refine s_ist (i := 6) (L' := [rv 273, rv p1, iv p2, rv p3, iv p4, iv (min (σ (p1 + 6) p2) 300), iv 0, uv, uv, uv]) rfl (by decide) (show decode cX2_valueOf 15 = .ok (.istore 6, 2) by decide +kernel) ?_
  refine s_aload_n (i := 0) rfl (show decode cX2_valueOf 17 = .ok (.aload_n 0, 1) by decide +kernel) ?_
  refine j_iconst (show decode cX2_valueOf 18 = .ok (.iconst (-1), 1) by decide +kernel) ?_
  refine pf_X2_41 rfl (show decode cX2_valueOf 19 = .ok (.putfield 41, 3) by decide +kernel) okl_273 ?_
  obtain ⟨σ3, eσ3⟩ : ∃ z : jM, z = up σ 273 1 (-1) := ⟨_, rfl⟩
  refine j_sig eσ3 ?_
  have h := h σ3 eσ3
  refine s_aload_n (i := 1) rfl (show decode cX2_valueOf 22 = .ok (.aload_n 1, 1) by decide +kernel) ?_
  have hb3 := h.1
  have h := h.2
  refine gf_X2_15 (x := (p1 + 5)) rfl (show decode cX2_valueOf 23 = .ok (.getfield 15, 3) by decide +kernel) hb3 (gr_8_4 hb3) ?_
  refine j_iload_n (i := 2) rfl (show decode cX2_valueOf 26 = .ok (.iload_n 2, 1) by decide +kernel) ?_
  refine s_iald (show decode cX2_valueOf 27 = .ok (.iaload, 1) by decide +kernel) (ok_8_4 hb3) h.1 ?_
  have h := h.2
  refine j_iconst (show decode cX2_valueOf 28 = .ok (.iconst 0, 1) by decide +kernel) ?_
  have hr4 := h.1
  have h := h.2
  refine j_max (tt_in 787 (by decide +kernel) rfl) (by omega) (Nat.le_of_ble_eq_true rfl) hr4 (inl (by decide)) (show decode cX2_valueOf 29 = .ok (.invokestatic 30, 3) by decide +kernel) ?_
  refine s_ist (i := 7) (L' := [rv 273, rv p1, iv p2, rv p3, iv p4, iv (min (σ (p1 + 6) p2) 300), iv 0, iv (max (σ3 (p1 + 5) p2) 0), uv, uv]) rfl (by decide) (show decode cX2_valueOf 32 = .ok (.istore 7, 2) by decide +kernel) ?_
  exact h
theorem c_X2_valueOf {d : Nat} {t : Int} {Q : Int → jM → Prop} {σ : jM} {p1 p2 p3 p4 : Int} (h3 : ob (GG t) p3 1) (h : (ob (GG t) p1 8) ∧ (((0 : Int) ≤ p2 ∧ p2 < 2) ∧ ((inR (σ (p1 + 6) p2)) ∧ (∀ σ3 : jM, σ3 = up σ 273 1 (-1) → ((ob (GG t) p1 8) ∧ (((0 : Int) ≤ p2 ∧ p2 < 2) ∧ ((inR (σ3 (p1 + 5) p2)) ∧ (Jt mX2_valueOf (d + 1) 0 t Q 34 [rv 273, rv p1, iv p2, rv p3, iv p4, iv (min (σ (p1 + 6) p2) 300), iv 0, iv (max (σ3 (p1 + 5) p2) 0), uv, uv] [] σ3)))))))) : Ct mX2_valueOf (d + 1) 0 t [rv 273, rv p1, iv p2, rv p3, iv p4] σ Q := Ct_of (by decide +kernel) (Nat.le_of_ble_eq_true rfl) (b_X2_valueOf_0 h3 h)
set_option maxRecDepth 4000 in
theorem b_X2_named_0 {d : Nat} {t : Int} {Q : Int → jM → Prop} {σ : jM} {p1 p2 p3 : Int} (h2 : ob (GG t) p2 1) (h : (inR p1) ∧ ((p1 < 1 ∨ 6 < p1 → (Q (σ p2 5) σ)) ∧ (p1 = 1 → (Q (σ p2 6) σ)) ∧ (p1 = 2 → (Q p3 σ)) ∧ (p1 = 3 → (((0 : Int) ≤ p3 ∧ p3 < 8) ∧ (Q (σ (p2 + 1) p3) σ))) ∧ (p1 = 4 → (((0 : Int) ≤ p3 ∧ p3 < 8) ∧ (Q (σ (p2 + 2) p3) σ))) ∧ (p1 = 5 → ((inR (σ 273 1)) ∧ ((¬ (σ 273 1) = (-1) → (∀ σ3 : jM, σ3 = up σ 273 1 (σ 273 1) → (Q (σ3 273 1) σ3))) ∧ ((σ 273 1) = (-1) → (Ct mX1_fullBits d 0 t [rv p2] σ (fun r4 σ4 => (Ct mJ6_bitCount_0f7a4 d 0 t [iv r4] σ4 (fun r5 σ5 => (∀ σ6 : jM, σ6 = up σ5 273 1 r5 → (Q (σ6 273 1) σ6)))))))))) ∧ (p1 = 6 → (((0 : Int) ≤ p3 ∧ p3 < 8) ∧ ((inR (σ (p2 + 1) p3)) ∧ (Q (Int.tmod (σ (p2 + 1) p3) 2) σ)))))) : Jt mX2_named (d + 1) 0 t Q 0 [rv 273, iv p1, rv p2, iv p3] [] σ := by
  refine j_iload_n (i := 1) rfl (show decode cX2_named 0 = .ok (.iload_n 1, 1) by decide +kernel) ?_
  have hr0 := h.1
  have h := h.2
  rcases (show (p1 < 1 ∨ 6 < p1) ∨ p1 = 1 ∨ p1 = 2 ∨ p1 = 3 ∨ p1 = 4 ∨ p1 = 5 ∨ p1 = 6 by omega) with c | c | c | c | c | c | c
  · refine j_tableOut (tgt := 101) hr0 (show decode cX2_named 1 = .ok (.tableswitch 100 1 6 #[39, 44, 46, 53, 60, 91], 39) by decide +kernel) c (by decide) ?_
    have h := h.1 c
    refine s_aload_n (i := 2) rfl (show decode cX2_named 101 = .ok (.aload_n 2, 1) by decide +kernel) ?_
    refine gf_X2_76 rfl (show decode cX2_named 102 = .ok (.getfield 76, 3) by decide +kernel) h2 ?_
    exact j_ret (rokI (show decode cX2_named 105 = .ok (.ireturn, 1) by decide +kernel) rfl) ⟨rfl, rfl, h⟩
  · refine j_tableIn (tgt := 40) hr0 (show decode cX2_named 1 = .ok (.tableswitch 100 1 6 #[39, 44, 46, 53, 60, 91], 39) by decide +kernel) (by omega) (by omega) (by rw [c]; rfl) (by decide) ?_
    have h := h.2.1 c
    refine s_aload_n (i := 2) rfl (show decode cX2_named 40 = .ok (.aload_n 2, 1) by decide +kernel) ?_
    refine gf_X2_60 rfl (show decode cX2_named 41 = .ok (.getfield 60, 3) by decide +kernel) h2 ?_
    exact j_ret (rokI (show decode cX2_named 44 = .ok (.ireturn, 1) by decide +kernel) rfl) ⟨rfl, rfl, h⟩
  · refine j_tableIn (tgt := 45) hr0 (show decode cX2_named 1 = .ok (.tableswitch 100 1 6 #[39, 44, 46, 53, 60, 91], 39) by decide +kernel) (by omega) (by omega) (by rw [c]; rfl) (by decide) ?_
    have h := h.2.2.1 c
    refine j_iload_n (i := 3) rfl (show decode cX2_named 45 = .ok (.iload_n 3, 1) by decide +kernel) ?_
    exact j_ret (rokI (show decode cX2_named 46 = .ok (.ireturn, 1) by decide +kernel) rfl) ⟨rfl, rfl, h⟩
  · refine j_tableIn (tgt := 47) hr0 (show decode cX2_named 1 = .ok (.tableswitch 100 1 6 #[39, 44, 46, 53, 60, 91], 39) by decide +kernel) (by omega) (by omega) (by rw [c]; rfl) (by decide) ?_
    have h := h.2.2.2.1 c
    refine s_aload_n (i := 2) rfl (show decode cX2_named 47 = .ok (.aload_n 2, 1) by decide +kernel) ?_
    refine gf_X2_33 (x := (p2 + 1)) rfl (show decode cX2_named 48 = .ok (.getfield 33, 3) by decide +kernel) h2 (gr_1_0 h2) ?_
    refine j_iload_n (i := 3) rfl (show decode cX2_named 51 = .ok (.iload_n 3, 1) by decide +kernel) ?_
    refine s_iald (show decode cX2_named 52 = .ok (.iaload, 1) by decide +kernel) (ok_1_0 h2) h.1 ?_
    have h := h.2
    exact j_ret (rokI (show decode cX2_named 53 = .ok (.ireturn, 1) by decide +kernel) rfl) ⟨rfl, rfl, h⟩
  · refine j_tableIn (tgt := 54) hr0 (show decode cX2_named 1 = .ok (.tableswitch 100 1 6 #[39, 44, 46, 53, 60, 91], 39) by decide +kernel) (by omega) (by omega) (by rw [c]; rfl) (by decide) ?_
    have h := h.2.2.2.2.1 c
    refine s_aload_n (i := 2) rfl (show decode cX2_named 54 = .ok (.aload_n 2, 1) by decide +kernel) ?_
    refine gf_X2_63 (x := (p2 + 2)) rfl (show decode cX2_named 55 = .ok (.getfield 63, 3) by decide +kernel) h2 (gr_1_1 h2) ?_
    refine j_iload_n (i := 3) rfl (show decode cX2_named 58 = .ok (.iload_n 3, 1) by decide +kernel) ?_
    refine s_iald (show decode cX2_named 59 = .ok (.iaload, 1) by decide +kernel) (ok_1_1 h2) h.1 ?_
    have h := h.2
    exact j_ret (rokI (show decode cX2_named 60 = .ok (.ireturn, 1) by decide +kernel) rfl) ⟨rfl, rfl, h⟩
  · refine j_tableIn (tgt := 61) hr0 (show decode cX2_named 1 = .ok (.tableswitch 100 1 6 #[39, 44, 46, 53, 60, 91], 39) by decide +kernel) (by omega) (by omega) (by rw [c]; rfl) (by decide) ?_
    have h := h.2.2.2.2.2.1 c
    refine s_aload_n (i := 0) rfl (show decode cX2_named 61 = .ok (.aload_n 0, 1) by decide +kernel) ?_
    refine s_aload_n (i := 0) rfl (show decode cX2_named 62 = .ok (.aload_n 0, 1) by decide +kernel) ?_
    refine gf_X2_41 rfl (show decode cX2_named 63 = .ok (.getfield 41, 3) by decide +kernel) okl_273 ?_
    refine j_iconst (show decode cX2_named 66 = .ok (.iconst (-1), 1) by decide +kernel) ?_
    have hr1 := h.1
    have h := h.2
    refine j_icmp_ne (tgt := 80) hr1 (inl (by decide)) (show decode cX2_named 67 = .ok (.if_icmp .ne 13, 3) by decide +kernel) (by decide) (fun c => ?_) (fun c => ?_)
    · have h := h.1 c
      refine s_aload_n (i := 0) rfl (show decode cX2_named 80 = .ok (.aload_n 0, 1) by decide +kernel) ?_
      refine gf_X2_41 rfl (show decode cX2_named 81 = .ok (.getfield 41, 3) by decide +kernel) okl_273 ?_
      refine pf_X2_41 rfl (show decode cX2_named 84 = .ok (.putfield 41, 3) by decide +kernel) okl_273 ?_
      obtain ⟨σ3, eσ3⟩ : ∃ z : jM, z = up σ 273 1 (σ 273 1) := ⟨_, rfl⟩
      refine j_sig eσ3 ?_
      have h := h σ3 eσ3
      refine s_aload_n (i := 0) rfl (show decode cX2_named 87 = .ok (.aload_n 0, 1) by decide +kernel) ?_
      refine gf_X2_41 rfl (show decode cX2_named 88 = .ok (.getfield 41, 3) by decide +kernel) okl_273 ?_
      exact j_ret (rokI (show decode cX2_named 91 = .ok (.ireturn, 1) by decide +kernel) rfl) ⟨rfl, rfl, h⟩
    · have h := h.2 c
      refine s_aload_n (i := 2) rfl (show decode cX2_named 70 = .ok (.aload_n 2, 1) by decide +kernel) ?_
      refine j_ctV (m' := mX1_fullBits) (As := []) (ci := 1) (tag := 0) (N := 0) (cw_X2_66 rfl) (show decode cX2_named 71 = .ok (.invokevirtual 66, 3) by decide +kernel) rfl (Nat.le_of_ble_eq_true rfl) (by decide) h2 rfl rfl (Nat.le_refl _) h (fun r4 σ4 h => ?_)
      refine j_ctS (m' := mJ6_bitCount_0f7a4) (As := [iv r4]) (tag := 0) (cw_X2_70 rfl) (show decode cX2_named 74 = .ok (.invokestatic 70, 3) by decide +kernel) rfl (Nat.le_of_ble_eq_true rfl) (by decide) (Nat.le_refl _) h (fun r5 σ5 h => ?_)
      refine j_goto (tgt := 84) (show decode cX2_named 77 = .ok (.goto 7, 3) by decide +kernel) (by decide) ?_
      refine pf_X2_41 rfl (show decode cX2_named 84 = .ok (.putfield 41, 3) by decide +kernel) okl_273 ?_
      obtain ⟨σ6, eσ6⟩ : ∃ z : jM, z = up σ5 273 1 r5 := ⟨_, rfl⟩
      refine j_sig eσ6 ?_
      have h := h σ6 eσ6
      refine s_aload_n (i := 0) rfl (show decode cX2_named 87 = .ok (.aload_n 0, 1) by decide +kernel) ?_
      refine gf_X2_41 rfl (show decode cX2_named 88 = .ok (.getfield 41, 3) by decide +kernel) okl_273 ?_
      exact j_ret (rokI (show decode cX2_named 91 = .ok (.ireturn, 1) by decide +kernel) rfl) ⟨rfl, rfl, h⟩
  · refine j_tableIn (tgt := 92) hr0 (show decode cX2_named 1 = .ok (.tableswitch 100 1 6 #[39, 44, 46, 53, 60, 91], 39) by decide +kernel) (by omega) (by omega) (by rw [c]; rfl) (by decide) ?_
    have h := h.2.2.2.2.2.2 c
    refine s_aload_n (i := 2) rfl (show decode cX2_named 92 = .ok (.aload_n 2, 1) by decide +kernel) ?_
    refine gf_X2_33 (x := (p2 + 1)) rfl (show decode cX2_named 93 = .ok (.getfield 33, 3) by decide +kernel) h2 (gr_1_0 h2) ?_
    refine j_iload_n (i := 3) rfl (show decode cX2_named 96 = .ok (.iload_n 3, 1) by decide +kernel) ?_
    refine s_iald (show decode cX2_named 97 = .ok (.iaload, 1) by decide +kernel) (ok_1_0 h2) h.1 ?_
    have h := h.2
    refine j_iconst (show decode cX2_named 98 = .ok (.iconst 2, 1) by decide +kernel) ?_
    have hr6 := h.1
    have h := h.2
    refine j_irem hr6 (inl (by decide)) (by decide) (show decode cX2_named 99 = .ok (.irem, 1) by decide +kernel) ?_
    exact j_ret (rokI (show decode cX2_named 100 = .ok (.ireturn, 1) by decide +kernel) rfl) ⟨rfl, rfl, h⟩
theorem c_X2_named {d : Nat} {t : Int} {Q : Int → jM → Prop} {σ : jM} {p1 p2 p3 : Int} (h2 : ob (GG t) p2 1) (h : (inR p1) ∧ ((p1 < 1 ∨ 6 < p1 → (Q (σ p2 5) σ)) ∧ (p1 = 1 → (Q (σ p2 6) σ)) ∧ (p1 = 2 → (Q p3 σ)) ∧ (p1 = 3 → (((0 : Int) ≤ p3 ∧ p3 < 8) ∧ (Q (σ (p2 + 1) p3) σ))) ∧ (p1 = 4 → (((0 : Int) ≤ p3 ∧ p3 < 8) ∧ (Q (σ (p2 + 2) p3) σ))) ∧ (p1 = 5 → ((inR (σ 273 1)) ∧ ((¬ (σ 273 1) = (-1) → (∀ σ3 : jM, σ3 = up σ 273 1 (σ 273 1) → (Q (σ3 273 1) σ3))) ∧ ((σ 273 1) = (-1) → (Ct mX1_fullBits d 0 t [rv p2] σ (fun r4 σ4 => (Ct mJ6_bitCount_0f7a4 d 0 t [iv r4] σ4 (fun r5 σ5 => (∀ σ6 : jM, σ6 = up σ5 273 1 r5 → (Q (σ6 273 1) σ6)))))))))) ∧ (p1 = 6 → (((0 : Int) ≤ p3 ∧ p3 < 8) ∧ ((inR (σ (p2 + 1) p3)) ∧ (Q (Int.tmod (σ (p2 + 1) p3) 2) σ)))))) : Ct mX2_named (d + 1) 0 t [rv 273, iv p1, rv p2, iv p3] σ Q := Ct_of (by decide +kernel) (Nat.le_of_ble_eq_true rfl) (b_X2_named_0 h2 h)
set_option maxRecDepth 4000 in
theorem b_X2_ofOne_0 {d : Nat} {t : Int} {Q : Int → jM → Prop} {σ : jM} {p0 p1 p2 : Int} (h2 : ob (GG t) p2 1) (h : (inR p0) ∧ ((p0 < 10 ∨ 12 < p0 → (Q (1 - p1) σ)) ∧ (p0 = 10 → (Q (-p1) σ)) ∧ (p0 = 11 → ((inR p1) ∧ (Ct mX2_within d 0 t [jv (2 * p1)] σ (fun r3 σ3 => (Q r3 σ3))))) ∧ (p0 = 12 → ((inR p1) ∧ ((p1 < 0 → (Q 0 σ)) ∧ (0 ≤ p1 → ((inR p1) ∧ ((8 ≤ p1 → (Q 0 σ)) ∧ (p1 < 8 → (((0 : Int) ≤ p1 ∧ p1 < 8) ∧ (Q (σ (p2 + 1) p1) σ))))))))))) : Jt mX2_ofOne (d + 1) 0 t Q 0 [iv p0, iv p1, rv p2] [] σ := by
  refine j_iload_n (i := 0) rfl (show decode cX2_ofOne 0 = .ok (.iload_n 0, 1) by decide +kernel) ?_
  have hr0 := h.1
  have h := h.2
  rcases (show (p0 < 10 ∨ 12 < p0) ∨ p0 = 10 ∨ p0 = 11 ∨ p0 = 12 by omega) with c | c | c | c
  · refine j_tableOut (tgt := 62) hr0 (show decode cX2_ofOne 1 = .ok (.tableswitch 61 10 12 #[27, 30, 40], 27) by decide +kernel) c (by decide) ?_
    have h := h.1 c
    refine j_iconst (show decode cX2_ofOne 62 = .ok (.iconst 1, 1) by decide +kernel) ?_
    refine j_iload_n (i := 1) rfl (show decode cX2_ofOne 63 = .ok (.iload_n 1, 1) by decide +kernel) ?_
    refine j_isub (show decode cX2_ofOne 64 = .ok (.isub, 1) by decide +kernel) ?_
    exact j_ret (rokI (show decode cX2_ofOne 65 = .ok (.ireturn, 1) by decide +kernel) rfl) ⟨rfl, rfl, h⟩
  · refine j_tableIn (tgt := 28) hr0 (show decode cX2_ofOne 1 = .ok (.tableswitch 61 10 12 #[27, 30, 40], 27) by decide +kernel) (by omega) (by omega) (by rw [c]; rfl) (by decide) ?_
    have h := h.2.1 c
    refine j_iload_n (i := 1) rfl (show decode cX2_ofOne 28 = .ok (.iload_n 1, 1) by decide +kernel) ?_
    refine j_ineg (show decode cX2_ofOne 29 = .ok (.ineg, 1) by decide +kernel) ?_
    exact j_ret (rokI (show decode cX2_ofOne 30 = .ok (.ireturn, 1) by decide +kernel) rfl) ⟨rfl, rfl, h⟩
  · refine j_tableIn (tgt := 31) hr0 (show decode cX2_ofOne 1 = .ok (.tableswitch 61 10 12 #[27, 30, 40], 27) by decide +kernel) (by omega) (by omega) (by rw [c]; rfl) (by decide) ?_
    have h := h.2.2.1 c
    refine j_ldc2 (x := 2) (tt_in 807 (by decide +kernel) rfl) (show decode cX2_ofOne 31 = .ok (.ldc2_w 79, 3) by decide +kernel) ?_
    refine j_iload_n (i := 1) rfl (show decode cX2_ofOne 34 = .ok (.iload_n 1, 1) by decide +kernel) ?_
    have hr1 := h.1
    have h := h.2
    refine j_i2l hr1 (show decode cX2_ofOne 35 = .ok (.i2l, 1) by decide +kernel) ?_
    refine j_lmul (show decode cX2_ofOne 36 = .ok (.lmul, 1) by decide +kernel) ?_
    refine j_ctS (m' := mX2_within) (As := [jv (2 * p1)]) (tag := 0) (cw_X2_81 rfl) (show decode cX2_ofOne 37 = .ok (.invokestatic 81, 3) by decide +kernel) rfl (Nat.le_of_ble_eq_true rfl) (by decide) (Nat.le_refl _) h (fun r3 σ3 h => ?_)
    exact j_ret (rokI (show decode cX2_ofOne 40 = .ok (.ireturn, 1) by decide +kernel) rfl) ⟨rfl, rfl, h⟩
  · refine j_tableIn (tgt := 41) hr0 (show decode cX2_ofOne 1 = .ok (.tableswitch 61 10 12 #[27, 30, 40], 27) by decide +kernel) (by omega) (by omega) (by rw [c]; rfl) (by decide) ?_
    have h := h.2.2.2 c
    refine j_iload_n (i := 1) rfl (show decode cX2_ofOne 41 = .ok (.iload_n 1, 1) by decide +kernel) ?_
    have hr3 := h.1
    have h := h.2
    refine j_if_lt (tgt := 60) hr3 (show decode cX2_ofOne 42 = .ok (.ifCond .lt 18, 3) by decide +kernel) (by decide) (fun c => ?_) (fun c => ?_)
    · have h := h.1 c
      refine j_iconst (show decode cX2_ofOne 60 = .ok (.iconst 0, 1) by decide +kernel) ?_
      exact j_ret (rokI (show decode cX2_ofOne 61 = .ok (.ireturn, 1) by decide +kernel) rfl) ⟨rfl, rfl, h⟩
    · have h := h.2 c
      refine j_iload_n (i := 1) rfl (show decode cX2_ofOne 45 = .ok (.iload_n 1, 1) by decide +kernel) ?_
      refine j_bipush (n := 8) (by decide +kernel) (show decode cX2_ofOne 46 = .ok (.bipush 8, 2) by decide +kernel) ?_
      have hr4 := h.1
      have h := h.2
      refine j_icmp_ge (tgt := 60) hr4 (inl (by decide)) (show decode cX2_ofOne 48 = .ok (.if_icmp .ge 12, 3) by decide +kernel) (by decide) (fun c => ?_) (fun c => ?_)
      · have h := h.1 c
        refine j_iconst (show decode cX2_ofOne 60 = .ok (.iconst 0, 1) by decide +kernel) ?_
        exact j_ret (rokI (show decode cX2_ofOne 61 = .ok (.ireturn, 1) by decide +kernel) rfl) ⟨rfl, rfl, h⟩
      · have h := h.2 c
        refine s_aload_n (i := 2) rfl (show decode cX2_ofOne 51 = .ok (.aload_n 2, 1) by decide +kernel) ?_
        refine gf_X2_33 (x := (p2 + 1)) rfl (show decode cX2_ofOne 52 = .ok (.getfield 33, 3) by decide +kernel) h2 (gr_1_0 h2) ?_
        refine j_iload_n (i := 1) rfl (show decode cX2_ofOne 55 = .ok (.iload_n 1, 1) by decide +kernel) ?_
        refine s_iald (show decode cX2_ofOne 56 = .ok (.iaload, 1) by decide +kernel) (ok_1_0 h2) h.1 ?_
        have h := h.2
        refine j_goto (tgt := 61) (show decode cX2_ofOne 57 = .ok (.goto 4, 3) by decide +kernel) (by decide) ?_
        exact j_ret (rokI (show decode cX2_ofOne 61 = .ok (.ireturn, 1) by decide +kernel) rfl) ⟨rfl, rfl, h⟩
theorem c_X2_ofOne {d : Nat} {t : Int} {Q : Int → jM → Prop} {σ : jM} {p0 p1 p2 : Int} (h2 : ob (GG t) p2 1) (h : (inR p0) ∧ ((p0 < 10 ∨ 12 < p0 → (Q (1 - p1) σ)) ∧ (p0 = 10 → (Q (-p1) σ)) ∧ (p0 = 11 → ((inR p1) ∧ (Ct mX2_within d 0 t [jv (2 * p1)] σ (fun r3 σ3 => (Q r3 σ3))))) ∧ (p0 = 12 → ((inR p1) ∧ ((p1 < 0 → (Q 0 σ)) ∧ (0 ≤ p1 → ((inR p1) ∧ ((8 ≤ p1 → (Q 0 σ)) ∧ (p1 < 8 → (((0 : Int) ≤ p1 ∧ p1 < 8) ∧ (Q (σ (p2 + 1) p1) σ))))))))))) : Ct mX2_ofOne (d + 1) 0 t [iv p0, iv p1, rv p2] σ Q := Ct_of (by decide +kernel) (Nat.le_of_ble_eq_true rfl) (b_X2_ofOne_0 h2 h)
set_option maxRecDepth 4000 in
theorem b_X2_ofTwo_0 {d : Nat} {t : Int} {Q : Int → jM → Prop} {σ : jM} {p0 p1 p2 : Int} (h : (inR p0) ∧ ((p0 < 14 ∨ 25 < p0 → (Ct mX2_holdsOf d 0 t [iv p0, iv p1, iv p2] σ (fun r2 σ2 => ((inR r2) ∧ ((r2 = 0 → (Q 0 σ2)) ∧ (¬ r2 = 0 → (Q 1 σ2))))))) ∧ (p0 = 14 → ((inR p1) ∧ ((inR p2) ∧ (Ct mX2_within d 0 t [jv (p1 + p2)] σ (fun r6 σ6 => (Q r6 σ6)))))) ∧ (p0 = 15 → ((inR p1) ∧ ((inR p2) ∧ (Ct mX2_within d 0 t [jv (p1 - p2)] σ (fun r9 σ9 => (Q r9 σ9)))))) ∧ (p0 = 16 → ((inR p1) ∧ ((inR p2) ∧ (Ct mX2_within d 0 t [jv (p1 * p2)] σ (fun r12 σ12 => (Q r12 σ12)))))) ∧ (p0 = 17 → ((inR p2) ∧ ((¬ p2 = 0 → ((inR p1) ∧ ((inR p2) ∧ ((p2 ≠ 0) ∧ (Q (Int.tdiv p1 p2) σ))))) ∧ (p2 = 0 → (Q 0 σ))))) ∧ (p0 = 18 → (Ct mX2_holdsOf d 0 t [iv p0, iv p1, iv p2] σ (fun r17 σ17 => ((inR r17) ∧ ((r17 = 0 → (Q 0 σ17)) ∧ (¬ r17 = 0 → (Q 1 σ17))))))) ∧ (p0 = 19 → (Ct mX2_holdsOf d 0 t [iv p0, iv p1, iv p2] σ (fun r19 σ19 => ((inR r19) ∧ ((r19 = 0 → (Q 0 σ19)) ∧ (¬ r19 = 0 → (Q 1 σ19))))))) ∧ (p0 = 20 → (Ct mX2_holdsOf d 0 t [iv p0, iv p1, iv p2] σ (fun r21 σ21 => ((inR r21) ∧ ((r21 = 0 → (Q 0 σ21)) ∧ (¬ r21 = 0 → (Q 1 σ21))))))) ∧ (p0 = 21 → (Ct mX2_holdsOf d 0 t [iv p0, iv p1, iv p2] σ (fun r23 σ23 => ((inR r23) ∧ ((r23 = 0 → (Q 0 σ23)) ∧ (¬ r23 = 0 → (Q 1 σ23))))))) ∧ (p0 = 22 → (Ct mX2_holdsOf d 0 t [iv p0, iv p1, iv p2] σ (fun r25 σ25 => ((inR r25) ∧ ((r25 = 0 → (Q 0 σ25)) ∧ (¬ r25 = 0 → (Q 1 σ25))))))) ∧ (p0 = 23 → (Ct mX2_holdsOf d 0 t [iv p0, iv p1, iv p2] σ (fun r27 σ27 => ((inR r27) ∧ ((r27 = 0 → (Q 0 σ27)) ∧ (¬ r27 = 0 → (Q 1 σ27))))))) ∧ (p0 = 24 → (Q (i_and p1 p2) σ)) ∧ (p0 = 25 → (Q (i_or p1 p2) σ)))) : Jt mX2_ofTwo (d + 1) 0 t Q 0 [iv p0, iv p1, iv p2] [] σ := by
  refine j_iload_n (i := 0) rfl (show decode cX2_ofTwo 0 = .ok (.iload_n 0, 1) by decide +kernel) ?_
  have hr0 := h.1
  have h := h.2
  rcases (show (p0 < 14 ∨ 25 < p0) ∨ p0 = 14 ∨ p0 = 15 ∨ p0 = 16 ∨ p0 = 17 ∨ p0 = 18 ∨ p0 = 19 ∨ p0 = 20 ∨ p0 = 21 ∨ p0 = 22 ∨ p0 = 23 ∨ p0 = 24 ∨ p0 = 25 by omega) with c | c | c | c | c | c | c | c | c | c | c | c | c
  · refine j_tableOut (tgt := 111) hr0 (show decode cX2_ofTwo 1 = .ok (.tableswitch 110 14 25 #[63, 72, 81, 90, 110, 110, 110, 110, 110, 110, 102, 106], 63) by decide +kernel) c (by decide) ?_
    have h := h.1 c
    refine j_iload_n (i := 0) rfl (show decode cX2_ofTwo 111 = .ok (.iload_n 0, 1) by decide +kernel) ?_
    refine j_iload_n (i := 1) rfl (show decode cX2_ofTwo 112 = .ok (.iload_n 1, 1) by decide +kernel) ?_
    refine j_iload_n (i := 2) rfl (show decode cX2_ofTwo 113 = .ok (.iload_n 2, 1) by decide +kernel) ?_
    refine j_ctS (m' := mX2_holdsOf) (As := [iv p0, iv p1, iv p2]) (tag := 0) (cw_X2_85 rfl) (show decode cX2_ofTwo 114 = .ok (.invokestatic 85, 3) by decide +kernel) rfl (Nat.le_of_ble_eq_true rfl) (by decide) (Nat.le_refl _) h (fun r2 σ2 h => ?_)
    have hr2 := h.1
    have h := h.2
    refine j_if_eq (tgt := 124) hr2 (show decode cX2_ofTwo 117 = .ok (.ifCond .eq 7, 3) by decide +kernel) (by decide) (fun c => ?_) (fun c => ?_)
    · have h := h.1 c
      refine j_iconst (show decode cX2_ofTwo 124 = .ok (.iconst 0, 1) by decide +kernel) ?_
      exact j_ret (rokI (show decode cX2_ofTwo 125 = .ok (.ireturn, 1) by decide +kernel) rfl) ⟨rfl, rfl, h⟩
    · have h := h.2 c
      refine j_iconst (show decode cX2_ofTwo 120 = .ok (.iconst 1, 1) by decide +kernel) ?_
      refine j_goto (tgt := 125) (show decode cX2_ofTwo 121 = .ok (.goto 4, 3) by decide +kernel) (by decide) ?_
      exact j_ret (rokI (show decode cX2_ofTwo 125 = .ok (.ireturn, 1) by decide +kernel) rfl) ⟨rfl, rfl, h⟩
  · refine j_tableIn (tgt := 64) hr0 (show decode cX2_ofTwo 1 = .ok (.tableswitch 110 14 25 #[63, 72, 81, 90, 110, 110, 110, 110, 110, 110, 102, 106], 63) by decide +kernel) (by omega) (by omega) (by rw [c]; rfl) (by decide) ?_
    have h := h.2.1 c
    refine j_iload_n (i := 1) rfl (show decode cX2_ofTwo 64 = .ok (.iload_n 1, 1) by decide +kernel) ?_
    have hr3 := h.1
    have h := h.2
    refine j_i2l hr3 (show decode cX2_ofTwo 65 = .ok (.i2l, 1) by decide +kernel) ?_
    refine j_iload_n (i := 2) rfl (show decode cX2_ofTwo 66 = .ok (.iload_n 2, 1) by decide +kernel) ?_
    have hr4 := h.1
    have h := h.2
    refine j_i2l hr4 (show decode cX2_ofTwo 67 = .ok (.i2l, 1) by decide +kernel) ?_
    refine j_ladd (show decode cX2_ofTwo 68 = .ok (.ladd, 1) by decide +kernel) ?_
    refine j_ctS (m' := mX2_within) (As := [jv (p1 + p2)]) (tag := 0) (cw_X2_81 rfl) (show decode cX2_ofTwo 69 = .ok (.invokestatic 81, 3) by decide +kernel) rfl (Nat.le_of_ble_eq_true rfl) (by decide) (Nat.le_refl _) h (fun r6 σ6 h => ?_)
    exact j_ret (rokI (show decode cX2_ofTwo 72 = .ok (.ireturn, 1) by decide +kernel) rfl) ⟨rfl, rfl, h⟩
  · refine j_tableIn (tgt := 73) hr0 (show decode cX2_ofTwo 1 = .ok (.tableswitch 110 14 25 #[63, 72, 81, 90, 110, 110, 110, 110, 110, 110, 102, 106], 63) by decide +kernel) (by omega) (by omega) (by rw [c]; rfl) (by decide) ?_
    have h := h.2.2.1 c
    refine j_iload_n (i := 1) rfl (show decode cX2_ofTwo 73 = .ok (.iload_n 1, 1) by decide +kernel) ?_
    have hr6 := h.1
    have h := h.2
    refine j_i2l hr6 (show decode cX2_ofTwo 74 = .ok (.i2l, 1) by decide +kernel) ?_
    refine j_iload_n (i := 2) rfl (show decode cX2_ofTwo 75 = .ok (.iload_n 2, 1) by decide +kernel) ?_
    have hr7 := h.1
    have h := h.2
    refine j_i2l hr7 (show decode cX2_ofTwo 76 = .ok (.i2l, 1) by decide +kernel) ?_
    refine j_lsub (show decode cX2_ofTwo 77 = .ok (.lsub, 1) by decide +kernel) ?_
    refine j_ctS (m' := mX2_within) (As := [jv (p1 - p2)]) (tag := 0) (cw_X2_81 rfl) (show decode cX2_ofTwo 78 = .ok (.invokestatic 81, 3) by decide +kernel) rfl (Nat.le_of_ble_eq_true rfl) (by decide) (Nat.le_refl _) h (fun r9 σ9 h => ?_)
    exact j_ret (rokI (show decode cX2_ofTwo 81 = .ok (.ireturn, 1) by decide +kernel) rfl) ⟨rfl, rfl, h⟩
  · refine j_tableIn (tgt := 82) hr0 (show decode cX2_ofTwo 1 = .ok (.tableswitch 110 14 25 #[63, 72, 81, 90, 110, 110, 110, 110, 110, 110, 102, 106], 63) by decide +kernel) (by omega) (by omega) (by rw [c]; rfl) (by decide) ?_
    have h := h.2.2.2.1 c
    refine j_iload_n (i := 1) rfl (show decode cX2_ofTwo 82 = .ok (.iload_n 1, 1) by decide +kernel) ?_
    have hr9 := h.1
    have h := h.2
    refine j_i2l hr9 (show decode cX2_ofTwo 83 = .ok (.i2l, 1) by decide +kernel) ?_
    refine j_iload_n (i := 2) rfl (show decode cX2_ofTwo 84 = .ok (.iload_n 2, 1) by decide +kernel) ?_
    have hr10 := h.1
    have h := h.2
    refine j_i2l hr10 (show decode cX2_ofTwo 85 = .ok (.i2l, 1) by decide +kernel) ?_
    refine j_lmul (show decode cX2_ofTwo 86 = .ok (.lmul, 1) by decide +kernel) ?_
    refine j_ctS (m' := mX2_within) (As := [jv (p1 * p2)]) (tag := 0) (cw_X2_81 rfl) (show decode cX2_ofTwo 87 = .ok (.invokestatic 81, 3) by decide +kernel) rfl (Nat.le_of_ble_eq_true rfl) (by decide) (Nat.le_refl _) h (fun r12 σ12 h => ?_)
    exact j_ret (rokI (show decode cX2_ofTwo 90 = .ok (.ireturn, 1) by decide +kernel) rfl) ⟨rfl, rfl, h⟩
  · refine j_tableIn (tgt := 91) hr0 (show decode cX2_ofTwo 1 = .ok (.tableswitch 110 14 25 #[63, 72, 81, 90, 110, 110, 110, 110, 110, 110, 102, 106], 63) by decide +kernel) (by omega) (by omega) (by rw [c]; rfl) (by decide) ?_
    have h := h.2.2.2.2.1 c
    refine j_iload_n (i := 2) rfl (show decode cX2_ofTwo 91 = .ok (.iload_n 2, 1) by decide +kernel) ?_
    have hr12 := h.1
    have h := h.2
    refine j_if_ne (tgt := 99) hr12 (show decode cX2_ofTwo 92 = .ok (.ifCond .ne 7, 3) by decide +kernel) (by decide) (fun c => ?_) (fun c => ?_)
    · have h := h.1 c
      refine j_iload_n (i := 1) rfl (show decode cX2_ofTwo 99 = .ok (.iload_n 1, 1) by decide +kernel) ?_
      refine j_iload_n (i := 2) rfl (show decode cX2_ofTwo 100 = .ok (.iload_n 2, 1) by decide +kernel) ?_
      have hr13 := h.1
      have h := h.2
      have hr14 := h.1
      have h := h.2
      have hz15 := h.1
      have h := h.2
      refine j_idiv hr13 hr14 hz15 (show decode cX2_ofTwo 101 = .ok (.idiv, 1) by decide +kernel) ?_
      exact j_ret (rokI (show decode cX2_ofTwo 102 = .ok (.ireturn, 1) by decide +kernel) rfl) ⟨rfl, rfl, h⟩
    · have h := h.2 c
      refine j_iconst (show decode cX2_ofTwo 95 = .ok (.iconst 0, 1) by decide +kernel) ?_
      refine j_goto (tgt := 102) (show decode cX2_ofTwo 96 = .ok (.goto 6, 3) by decide +kernel) (by decide) ?_
      exact j_ret (rokI (show decode cX2_ofTwo 102 = .ok (.ireturn, 1) by decide +kernel) rfl) ⟨rfl, rfl, h⟩
  · refine j_tableIn (tgt := 111) hr0 (show decode cX2_ofTwo 1 = .ok (.tableswitch 110 14 25 #[63, 72, 81, 90, 110, 110, 110, 110, 110, 110, 102, 106], 63) by decide +kernel) (by omega) (by omega) (by rw [c]; rfl) (by decide) ?_
    have h := h.2.2.2.2.2.1 c
    refine j_iload_n (i := 0) rfl (show decode cX2_ofTwo 111 = .ok (.iload_n 0, 1) by decide +kernel) ?_
    refine j_iload_n (i := 1) rfl (show decode cX2_ofTwo 112 = .ok (.iload_n 1, 1) by decide +kernel) ?_
    refine j_iload_n (i := 2) rfl (show decode cX2_ofTwo 113 = .ok (.iload_n 2, 1) by decide +kernel) ?_
    refine j_ctS (m' := mX2_holdsOf) (As := [iv p0, iv p1, iv p2]) (tag := 0) (cw_X2_85 rfl) (show decode cX2_ofTwo 114 = .ok (.invokestatic 85, 3) by decide +kernel) rfl (Nat.le_of_ble_eq_true rfl) (by decide) (Nat.le_refl _) h (fun r17 σ17 h => ?_)
    have hr17 := h.1
    have h := h.2
    refine j_if_eq (tgt := 124) hr17 (show decode cX2_ofTwo 117 = .ok (.ifCond .eq 7, 3) by decide +kernel) (by decide) (fun c => ?_) (fun c => ?_)
    · have h := h.1 c
      refine j_iconst (show decode cX2_ofTwo 124 = .ok (.iconst 0, 1) by decide +kernel) ?_
      exact j_ret (rokI (show decode cX2_ofTwo 125 = .ok (.ireturn, 1) by decide +kernel) rfl) ⟨rfl, rfl, h⟩
    · have h := h.2 c
      refine j_iconst (show decode cX2_ofTwo 120 = .ok (.iconst 1, 1) by decide +kernel) ?_
      refine j_goto (tgt := 125) (show decode cX2_ofTwo 121 = .ok (.goto 4, 3) by decide +kernel) (by decide) ?_
      exact j_ret (rokI (show decode cX2_ofTwo 125 = .ok (.ireturn, 1) by decide +kernel) rfl) ⟨rfl, rfl, h⟩
  · refine j_tableIn (tgt := 111) hr0 (show decode cX2_ofTwo 1 = .ok (.tableswitch 110 14 25 #[63, 72, 81, 90, 110, 110, 110, 110, 110, 110, 102, 106], 63) by decide +kernel) (by omega) (by omega) (by rw [c]; rfl) (by decide) ?_
    have h := h.2.2.2.2.2.2.1 c
    refine j_iload_n (i := 0) rfl (show decode cX2_ofTwo 111 = .ok (.iload_n 0, 1) by decide +kernel) ?_
    refine j_iload_n (i := 1) rfl (show decode cX2_ofTwo 112 = .ok (.iload_n 1, 1) by decide +kernel) ?_
    refine j_iload_n (i := 2) rfl (show decode cX2_ofTwo 113 = .ok (.iload_n 2, 1) by decide +kernel) ?_
    refine j_ctS (m' := mX2_holdsOf) (As := [iv p0, iv p1, iv p2]) (tag := 0) (cw_X2_85 rfl) (show decode cX2_ofTwo 114 = .ok (.invokestatic 85, 3) by decide +kernel) rfl (Nat.le_of_ble_eq_true rfl) (by decide) (Nat.le_refl _) h (fun r19 σ19 h => ?_)
    have hr19 := h.1
    have h := h.2
    refine j_if_eq (tgt := 124) hr19 (show decode cX2_ofTwo 117 = .ok (.ifCond .eq 7, 3) by decide +kernel) (by decide) (fun c => ?_) (fun c => ?_)
    · have h := h.1 c
      refine j_iconst (show decode cX2_ofTwo 124 = .ok (.iconst 0, 1) by decide +kernel) ?_
      exact j_ret (rokI (show decode cX2_ofTwo 125 = .ok (.ireturn, 1) by decide +kernel) rfl) ⟨rfl, rfl, h⟩
    · have h := h.2 c
      refine j_iconst (show decode cX2_ofTwo 120 = .ok (.iconst 1, 1) by decide +kernel) ?_
      refine j_goto (tgt := 125) (show decode cX2_ofTwo 121 = .ok (.goto 4, 3) by decide +kernel) (by decide) ?_
      exact j_ret (rokI (show decode cX2_ofTwo 125 = .ok (.ireturn, 1) by decide +kernel) rfl) ⟨rfl, rfl, h⟩
  · refine j_tableIn (tgt := 111) hr0 (show decode cX2_ofTwo 1 = .ok (.tableswitch 110 14 25 #[63, 72, 81, 90, 110, 110, 110, 110, 110, 110, 102, 106], 63) by decide +kernel) (by omega) (by omega) (by rw [c]; rfl) (by decide) ?_
    have h := h.2.2.2.2.2.2.2.1 c
    refine j_iload_n (i := 0) rfl (show decode cX2_ofTwo 111 = .ok (.iload_n 0, 1) by decide +kernel) ?_
    refine j_iload_n (i := 1) rfl (show decode cX2_ofTwo 112 = .ok (.iload_n 1, 1) by decide +kernel) ?_
    refine j_iload_n (i := 2) rfl (show decode cX2_ofTwo 113 = .ok (.iload_n 2, 1) by decide +kernel) ?_
    refine j_ctS (m' := mX2_holdsOf) (As := [iv p0, iv p1, iv p2]) (tag := 0) (cw_X2_85 rfl) (show decode cX2_ofTwo 114 = .ok (.invokestatic 85, 3) by decide +kernel) rfl (Nat.le_of_ble_eq_true rfl) (by decide) (Nat.le_refl _) h (fun r21 σ21 h => ?_)
    have hr21 := h.1
    have h := h.2
    refine j_if_eq (tgt := 124) hr21 (show decode cX2_ofTwo 117 = .ok (.ifCond .eq 7, 3) by decide +kernel) (by decide) (fun c => ?_) (fun c => ?_)
    · have h := h.1 c
      refine j_iconst (show decode cX2_ofTwo 124 = .ok (.iconst 0, 1) by decide +kernel) ?_
      exact j_ret (rokI (show decode cX2_ofTwo 125 = .ok (.ireturn, 1) by decide +kernel) rfl) ⟨rfl, rfl, h⟩
    · have h := h.2 c
      refine j_iconst (show decode cX2_ofTwo 120 = .ok (.iconst 1, 1) by decide +kernel) ?_
      refine j_goto (tgt := 125) (show decode cX2_ofTwo 121 = .ok (.goto 4, 3) by decide +kernel) (by decide) ?_
      exact j_ret (rokI (show decode cX2_ofTwo 125 = .ok (.ireturn, 1) by decide +kernel) rfl) ⟨rfl, rfl, h⟩
  · refine j_tableIn (tgt := 111) hr0 (show decode cX2_ofTwo 1 = .ok (.tableswitch 110 14 25 #[63, 72, 81, 90, 110, 110, 110, 110, 110, 110, 102, 106], 63) by decide +kernel) (by omega) (by omega) (by rw [c]; rfl) (by decide) ?_
    have h := h.2.2.2.2.2.2.2.2.1 c
    refine j_iload_n (i := 0) rfl (show decode cX2_ofTwo 111 = .ok (.iload_n 0, 1) by decide +kernel) ?_
    refine j_iload_n (i := 1) rfl (show decode cX2_ofTwo 112 = .ok (.iload_n 1, 1) by decide +kernel) ?_
    refine j_iload_n (i := 2) rfl (show decode cX2_ofTwo 113 = .ok (.iload_n 2, 1) by decide +kernel) ?_
    refine j_ctS (m' := mX2_holdsOf) (As := [iv p0, iv p1, iv p2]) (tag := 0) (cw_X2_85 rfl) (show decode cX2_ofTwo 114 = .ok (.invokestatic 85, 3) by decide +kernel) rfl (Nat.le_of_ble_eq_true rfl) (by decide) (Nat.le_refl _) h (fun r23 σ23 h => ?_)
    have hr23 := h.1
    have h := h.2
    refine j_if_eq (tgt := 124) hr23 (show decode cX2_ofTwo 117 = .ok (.ifCond .eq 7, 3) by decide +kernel) (by decide) (fun c => ?_) (fun c => ?_)
    · have h := h.1 c
      refine j_iconst (show decode cX2_ofTwo 124 = .ok (.iconst 0, 1) by decide +kernel) ?_
      exact j_ret (rokI (show decode cX2_ofTwo 125 = .ok (.ireturn, 1) by decide +kernel) rfl) ⟨rfl, rfl, h⟩
    · have h := h.2 c
      refine j_iconst (show decode cX2_ofTwo 120 = .ok (.iconst 1, 1) by decide +kernel) ?_
      refine j_goto (tgt := 125) (show decode cX2_ofTwo 121 = .ok (.goto 4, 3) by decide +kernel) (by decide) ?_
      exact j_ret (rokI (show decode cX2_ofTwo 125 = .ok (.ireturn, 1) by decide +kernel) rfl) ⟨rfl, rfl, h⟩
  · refine j_tableIn (tgt := 111) hr0 (show decode cX2_ofTwo 1 = .ok (.tableswitch 110 14 25 #[63, 72, 81, 90, 110, 110, 110, 110, 110, 110, 102, 106], 63) by decide +kernel) (by omega) (by omega) (by rw [c]; rfl) (by decide) ?_
    have h := h.2.2.2.2.2.2.2.2.2.1 c
    refine j_iload_n (i := 0) rfl (show decode cX2_ofTwo 111 = .ok (.iload_n 0, 1) by decide +kernel) ?_
    refine j_iload_n (i := 1) rfl (show decode cX2_ofTwo 112 = .ok (.iload_n 1, 1) by decide +kernel) ?_
    refine j_iload_n (i := 2) rfl (show decode cX2_ofTwo 113 = .ok (.iload_n 2, 1) by decide +kernel) ?_
    refine j_ctS (m' := mX2_holdsOf) (As := [iv p0, iv p1, iv p2]) (tag := 0) (cw_X2_85 rfl) (show decode cX2_ofTwo 114 = .ok (.invokestatic 85, 3) by decide +kernel) rfl (Nat.le_of_ble_eq_true rfl) (by decide) (Nat.le_refl _) h (fun r25 σ25 h => ?_)
    have hr25 := h.1
    have h := h.2
    refine j_if_eq (tgt := 124) hr25 (show decode cX2_ofTwo 117 = .ok (.ifCond .eq 7, 3) by decide +kernel) (by decide) (fun c => ?_) (fun c => ?_)
    · have h := h.1 c
      refine j_iconst (show decode cX2_ofTwo 124 = .ok (.iconst 0, 1) by decide +kernel) ?_
      exact j_ret (rokI (show decode cX2_ofTwo 125 = .ok (.ireturn, 1) by decide +kernel) rfl) ⟨rfl, rfl, h⟩
    · have h := h.2 c
      refine j_iconst (show decode cX2_ofTwo 120 = .ok (.iconst 1, 1) by decide +kernel) ?_
      refine j_goto (tgt := 125) (show decode cX2_ofTwo 121 = .ok (.goto 4, 3) by decide +kernel) (by decide) ?_
      exact j_ret (rokI (show decode cX2_ofTwo 125 = .ok (.ireturn, 1) by decide +kernel) rfl) ⟨rfl, rfl, h⟩
  · refine j_tableIn (tgt := 111) hr0 (show decode cX2_ofTwo 1 = .ok (.tableswitch 110 14 25 #[63, 72, 81, 90, 110, 110, 110, 110, 110, 110, 102, 106], 63) by decide +kernel) (by omega) (by omega) (by rw [c]; rfl) (by decide) ?_
    have h := h.2.2.2.2.2.2.2.2.2.2.1 c
    refine j_iload_n (i := 0) rfl (show decode cX2_ofTwo 111 = .ok (.iload_n 0, 1) by decide +kernel) ?_
    refine j_iload_n (i := 1) rfl (show decode cX2_ofTwo 112 = .ok (.iload_n 1, 1) by decide +kernel) ?_
    refine j_iload_n (i := 2) rfl (show decode cX2_ofTwo 113 = .ok (.iload_n 2, 1) by decide +kernel) ?_
    refine j_ctS (m' := mX2_holdsOf) (As := [iv p0, iv p1, iv p2]) (tag := 0) (cw_X2_85 rfl) (show decode cX2_ofTwo 114 = .ok (.invokestatic 85, 3) by decide +kernel) rfl (Nat.le_of_ble_eq_true rfl) (by decide) (Nat.le_refl _) h (fun r27 σ27 h => ?_)
    have hr27 := h.1
    have h := h.2
    refine j_if_eq (tgt := 124) hr27 (show decode cX2_ofTwo 117 = .ok (.ifCond .eq 7, 3) by decide +kernel) (by decide) (fun c => ?_) (fun c => ?_)
    · have h := h.1 c
      refine j_iconst (show decode cX2_ofTwo 124 = .ok (.iconst 0, 1) by decide +kernel) ?_
      exact j_ret (rokI (show decode cX2_ofTwo 125 = .ok (.ireturn, 1) by decide +kernel) rfl) ⟨rfl, rfl, h⟩
    · have h := h.2 c
      refine j_iconst (show decode cX2_ofTwo 120 = .ok (.iconst 1, 1) by decide +kernel) ?_
      refine j_goto (tgt := 125) (show decode cX2_ofTwo 121 = .ok (.goto 4, 3) by decide +kernel) (by decide) ?_
      exact j_ret (rokI (show decode cX2_ofTwo 125 = .ok (.ireturn, 1) by decide +kernel) rfl) ⟨rfl, rfl, h⟩
  · refine j_tableIn (tgt := 103) hr0 (show decode cX2_ofTwo 1 = .ok (.tableswitch 110 14 25 #[63, 72, 81, 90, 110, 110, 110, 110, 110, 110, 102, 106], 63) by decide +kernel) (by omega) (by omega) (by rw [c]; rfl) (by decide) ?_
    have h := h.2.2.2.2.2.2.2.2.2.2.2.1 c
    refine j_iload_n (i := 1) rfl (show decode cX2_ofTwo 103 = .ok (.iload_n 1, 1) by decide +kernel) ?_
    refine j_iload_n (i := 2) rfl (show decode cX2_ofTwo 104 = .ok (.iload_n 2, 1) by decide +kernel) ?_
    refine j_iand (show decode cX2_ofTwo 105 = .ok (.iand, 1) by decide +kernel) ?_
    exact j_ret (rokI (show decode cX2_ofTwo 106 = .ok (.ireturn, 1) by decide +kernel) rfl) ⟨rfl, rfl, h⟩
  · refine j_tableIn (tgt := 107) hr0 (show decode cX2_ofTwo 1 = .ok (.tableswitch 110 14 25 #[63, 72, 81, 90, 110, 110, 110, 110, 110, 110, 102, 106], 63) by decide +kernel) (by omega) (by omega) (by rw [c]; rfl) (by decide) ?_
    have h := h.2.2.2.2.2.2.2.2.2.2.2.2 c
    refine j_iload_n (i := 1) rfl (show decode cX2_ofTwo 107 = .ok (.iload_n 1, 1) by decide +kernel) ?_
    refine j_iload_n (i := 2) rfl (show decode cX2_ofTwo 108 = .ok (.iload_n 2, 1) by decide +kernel) ?_
    refine j_ior (show decode cX2_ofTwo 109 = .ok (.ior, 1) by decide +kernel) ?_
    exact j_ret (rokI (show decode cX2_ofTwo 110 = .ok (.ireturn, 1) by decide +kernel) rfl) ⟨rfl, rfl, h⟩
theorem c_X2_ofTwo {d : Nat} {t : Int} {Q : Int → jM → Prop} {σ : jM} {p0 p1 p2 : Int} (h : (inR p0) ∧ ((p0 < 14 ∨ 25 < p0 → (Ct mX2_holdsOf d 0 t [iv p0, iv p1, iv p2] σ (fun r2 σ2 => ((inR r2) ∧ ((r2 = 0 → (Q 0 σ2)) ∧ (¬ r2 = 0 → (Q 1 σ2))))))) ∧ (p0 = 14 → ((inR p1) ∧ ((inR p2) ∧ (Ct mX2_within d 0 t [jv (p1 + p2)] σ (fun r6 σ6 => (Q r6 σ6)))))) ∧ (p0 = 15 → ((inR p1) ∧ ((inR p2) ∧ (Ct mX2_within d 0 t [jv (p1 - p2)] σ (fun r9 σ9 => (Q r9 σ9)))))) ∧ (p0 = 16 → ((inR p1) ∧ ((inR p2) ∧ (Ct mX2_within d 0 t [jv (p1 * p2)] σ (fun r12 σ12 => (Q r12 σ12)))))) ∧ (p0 = 17 → ((inR p2) ∧ ((¬ p2 = 0 → ((inR p1) ∧ ((inR p2) ∧ ((p2 ≠ 0) ∧ (Q (Int.tdiv p1 p2) σ))))) ∧ (p2 = 0 → (Q 0 σ))))) ∧ (p0 = 18 → (Ct mX2_holdsOf d 0 t [iv p0, iv p1, iv p2] σ (fun r17 σ17 => ((inR r17) ∧ ((r17 = 0 → (Q 0 σ17)) ∧ (¬ r17 = 0 → (Q 1 σ17))))))) ∧ (p0 = 19 → (Ct mX2_holdsOf d 0 t [iv p0, iv p1, iv p2] σ (fun r19 σ19 => ((inR r19) ∧ ((r19 = 0 → (Q 0 σ19)) ∧ (¬ r19 = 0 → (Q 1 σ19))))))) ∧ (p0 = 20 → (Ct mX2_holdsOf d 0 t [iv p0, iv p1, iv p2] σ (fun r21 σ21 => ((inR r21) ∧ ((r21 = 0 → (Q 0 σ21)) ∧ (¬ r21 = 0 → (Q 1 σ21))))))) ∧ (p0 = 21 → (Ct mX2_holdsOf d 0 t [iv p0, iv p1, iv p2] σ (fun r23 σ23 => ((inR r23) ∧ ((r23 = 0 → (Q 0 σ23)) ∧ (¬ r23 = 0 → (Q 1 σ23))))))) ∧ (p0 = 22 → (Ct mX2_holdsOf d 0 t [iv p0, iv p1, iv p2] σ (fun r25 σ25 => ((inR r25) ∧ ((r25 = 0 → (Q 0 σ25)) ∧ (¬ r25 = 0 → (Q 1 σ25))))))) ∧ (p0 = 23 → (Ct mX2_holdsOf d 0 t [iv p0, iv p1, iv p2] σ (fun r27 σ27 => ((inR r27) ∧ ((r27 = 0 → (Q 0 σ27)) ∧ (¬ r27 = 0 → (Q 1 σ27))))))) ∧ (p0 = 24 → (Q (i_and p1 p2) σ)) ∧ (p0 = 25 → (Q (i_or p1 p2) σ)))) : Ct mX2_ofTwo (d + 1) 0 t [iv p0, iv p1, iv p2] σ Q := Ct_of (by decide +kernel) (Nat.le_of_ble_eq_true rfl) (b_X2_ofTwo_0 h)
set_option maxRecDepth 4000 in
theorem b_X2_holdsOf_0 {d : Nat} {t : Int} {Q : Int → jM → Prop} {σ : jM} {p0 p1 p2 : Int} (h : (inR p0) ∧ ((p0 < 18 ∨ 22 < p0 → ((inR p1) ∧ ((inR p2) ∧ ((p1 = p2 → (Q 0 σ)) ∧ (¬ p1 = p2 → (Q 1 σ)))))) ∧ (p0 = 18 → ((inR p1) ∧ ((inR p2) ∧ ((p2 ≤ p1 → (Q 0 σ)) ∧ (p1 < p2 → (Q 1 σ)))))) ∧ (p0 = 19 → ((inR p1) ∧ ((inR p2) ∧ ((p2 < p1 → (Q 0 σ)) ∧ (p1 ≤ p2 → (Q 1 σ)))))) ∧ (p0 = 20 → ((inR p1) ∧ ((inR p2) ∧ ((p1 ≤ p2 → (Q 0 σ)) ∧ (p2 < p1 → (Q 1 σ)))))) ∧ (p0 = 21 → ((inR p1) ∧ ((inR p2) ∧ ((p1 < p2 → (Q 0 σ)) ∧ (p2 ≤ p1 → (Q 1 σ)))))) ∧ (p0 = 22 → ((inR p1) ∧ ((inR p2) ∧ ((¬ p1 = p2 → (Q 0 σ)) ∧ (p1 = p2 → (Q 1 σ)))))))) : Jt mX2_holdsOf (d) 0 t Q 0 [iv p0, iv p1, iv p2] [] σ := by
  refine j_iload_n (i := 0) rfl (show decode cX2_holdsOf 0 = .ok (.iload_n 0, 1) by decide +kernel) ?_
  have hr0 := h.1
  have h := h.2
  rcases (show (p0 < 18 ∨ 22 < p0) ∨ p0 = 18 ∨ p0 = 19 ∨ p0 = 20 ∨ p0 = 21 ∨ p0 = 22 by omega) with c | c | c | c | c | c
  · refine j_tableOut (tgt := 91) hr0 (show decode cX2_holdsOf 1 = .ok (.tableswitch 90 18 22 #[35, 46, 57, 68, 79], 35) by decide +kernel) c (by decide) ?_
    have h := h.1 c
    refine j_iload_n (i := 1) rfl (show decode cX2_holdsOf 91 = .ok (.iload_n 1, 1) by decide +kernel) ?_
    refine j_iload_n (i := 2) rfl (show decode cX2_holdsOf 92 = .ok (.iload_n 2, 1) by decide +kernel) ?_
    have hr1 := h.1
    have h := h.2
    have hr2 := h.1
    have h := h.2
    refine j_icmp_eq (tgt := 100) hr1 hr2 (show decode cX2_holdsOf 93 = .ok (.if_icmp .eq 7, 3) by decide +kernel) (by decide) (fun c => ?_) (fun c => ?_)
    · have h := h.1 c
      refine j_iconst (show decode cX2_holdsOf 100 = .ok (.iconst 0, 1) by decide +kernel) ?_
      exact j_ret (rokZ (show decode cX2_holdsOf 101 = .ok (.ireturn, 1) by decide +kernel) rfl (Or.inl rfl)) ⟨rfl, rfl, h⟩
    · have h := h.2 c
      refine j_iconst (show decode cX2_holdsOf 96 = .ok (.iconst 1, 1) by decide +kernel) ?_
      refine j_goto (tgt := 101) (show decode cX2_holdsOf 97 = .ok (.goto 4, 3) by decide +kernel) (by decide) ?_
      exact j_ret (rokZ (show decode cX2_holdsOf 101 = .ok (.ireturn, 1) by decide +kernel) rfl (Or.inr rfl)) ⟨rfl, rfl, h⟩
  · refine j_tableIn (tgt := 36) hr0 (show decode cX2_holdsOf 1 = .ok (.tableswitch 90 18 22 #[35, 46, 57, 68, 79], 35) by decide +kernel) (by omega) (by omega) (by rw [c]; rfl) (by decide) ?_
    have h := h.2.1 c
    refine j_iload_n (i := 1) rfl (show decode cX2_holdsOf 36 = .ok (.iload_n 1, 1) by decide +kernel) ?_
    refine j_iload_n (i := 2) rfl (show decode cX2_holdsOf 37 = .ok (.iload_n 2, 1) by decide +kernel) ?_
    have hr3 := h.1
    have h := h.2
    have hr4 := h.1
    have h := h.2
    refine j_icmp_ge (tgt := 45) hr3 hr4 (show decode cX2_holdsOf 38 = .ok (.if_icmp .ge 7, 3) by decide +kernel) (by decide) (fun c => ?_) (fun c => ?_)
    · have h := h.1 c
      refine j_iconst (show decode cX2_holdsOf 45 = .ok (.iconst 0, 1) by decide +kernel) ?_
      exact j_ret (rokZ (show decode cX2_holdsOf 46 = .ok (.ireturn, 1) by decide +kernel) rfl (Or.inl rfl)) ⟨rfl, rfl, h⟩
    · have h := h.2 c
      refine j_iconst (show decode cX2_holdsOf 41 = .ok (.iconst 1, 1) by decide +kernel) ?_
      refine j_goto (tgt := 46) (show decode cX2_holdsOf 42 = .ok (.goto 4, 3) by decide +kernel) (by decide) ?_
      exact j_ret (rokZ (show decode cX2_holdsOf 46 = .ok (.ireturn, 1) by decide +kernel) rfl (Or.inr rfl)) ⟨rfl, rfl, h⟩
  · refine j_tableIn (tgt := 47) hr0 (show decode cX2_holdsOf 1 = .ok (.tableswitch 90 18 22 #[35, 46, 57, 68, 79], 35) by decide +kernel) (by omega) (by omega) (by rw [c]; rfl) (by decide) ?_
    have h := h.2.2.1 c
    refine j_iload_n (i := 1) rfl (show decode cX2_holdsOf 47 = .ok (.iload_n 1, 1) by decide +kernel) ?_
    refine j_iload_n (i := 2) rfl (show decode cX2_holdsOf 48 = .ok (.iload_n 2, 1) by decide +kernel) ?_
    have hr5 := h.1
    have h := h.2
    have hr6 := h.1
    have h := h.2
    refine j_icmp_gt (tgt := 56) hr5 hr6 (show decode cX2_holdsOf 49 = .ok (.if_icmp .gt 7, 3) by decide +kernel) (by decide) (fun c => ?_) (fun c => ?_)
    · have h := h.1 c
      refine j_iconst (show decode cX2_holdsOf 56 = .ok (.iconst 0, 1) by decide +kernel) ?_
      exact j_ret (rokZ (show decode cX2_holdsOf 57 = .ok (.ireturn, 1) by decide +kernel) rfl (Or.inl rfl)) ⟨rfl, rfl, h⟩
    · have h := h.2 c
      refine j_iconst (show decode cX2_holdsOf 52 = .ok (.iconst 1, 1) by decide +kernel) ?_
      refine j_goto (tgt := 57) (show decode cX2_holdsOf 53 = .ok (.goto 4, 3) by decide +kernel) (by decide) ?_
      exact j_ret (rokZ (show decode cX2_holdsOf 57 = .ok (.ireturn, 1) by decide +kernel) rfl (Or.inr rfl)) ⟨rfl, rfl, h⟩
  · refine j_tableIn (tgt := 58) hr0 (show decode cX2_holdsOf 1 = .ok (.tableswitch 90 18 22 #[35, 46, 57, 68, 79], 35) by decide +kernel) (by omega) (by omega) (by rw [c]; rfl) (by decide) ?_
    have h := h.2.2.2.1 c
    refine j_iload_n (i := 1) rfl (show decode cX2_holdsOf 58 = .ok (.iload_n 1, 1) by decide +kernel) ?_
    refine j_iload_n (i := 2) rfl (show decode cX2_holdsOf 59 = .ok (.iload_n 2, 1) by decide +kernel) ?_
    have hr7 := h.1
    have h := h.2
    have hr8 := h.1
    have h := h.2
    refine j_icmp_le (tgt := 67) hr7 hr8 (show decode cX2_holdsOf 60 = .ok (.if_icmp .le 7, 3) by decide +kernel) (by decide) (fun c => ?_) (fun c => ?_)
    · have h := h.1 c
      refine j_iconst (show decode cX2_holdsOf 67 = .ok (.iconst 0, 1) by decide +kernel) ?_
      exact j_ret (rokZ (show decode cX2_holdsOf 68 = .ok (.ireturn, 1) by decide +kernel) rfl (Or.inl rfl)) ⟨rfl, rfl, h⟩
    · have h := h.2 c
      refine j_iconst (show decode cX2_holdsOf 63 = .ok (.iconst 1, 1) by decide +kernel) ?_
      refine j_goto (tgt := 68) (show decode cX2_holdsOf 64 = .ok (.goto 4, 3) by decide +kernel) (by decide) ?_
      exact j_ret (rokZ (show decode cX2_holdsOf 68 = .ok (.ireturn, 1) by decide +kernel) rfl (Or.inr rfl)) ⟨rfl, rfl, h⟩
  · refine j_tableIn (tgt := 69) hr0 (show decode cX2_holdsOf 1 = .ok (.tableswitch 90 18 22 #[35, 46, 57, 68, 79], 35) by decide +kernel) (by omega) (by omega) (by rw [c]; rfl) (by decide) ?_
    have h := h.2.2.2.2.1 c
    refine j_iload_n (i := 1) rfl (show decode cX2_holdsOf 69 = .ok (.iload_n 1, 1) by decide +kernel) ?_
    refine j_iload_n (i := 2) rfl (show decode cX2_holdsOf 70 = .ok (.iload_n 2, 1) by decide +kernel) ?_
    have hr9 := h.1
    have h := h.2
    have hr10 := h.1
    have h := h.2
    refine j_icmp_lt (tgt := 78) hr9 hr10 (show decode cX2_holdsOf 71 = .ok (.if_icmp .lt 7, 3) by decide +kernel) (by decide) (fun c => ?_) (fun c => ?_)
    · have h := h.1 c
      refine j_iconst (show decode cX2_holdsOf 78 = .ok (.iconst 0, 1) by decide +kernel) ?_
      exact j_ret (rokZ (show decode cX2_holdsOf 79 = .ok (.ireturn, 1) by decide +kernel) rfl (Or.inl rfl)) ⟨rfl, rfl, h⟩
    · have h := h.2 c
      refine j_iconst (show decode cX2_holdsOf 74 = .ok (.iconst 1, 1) by decide +kernel) ?_
      refine j_goto (tgt := 79) (show decode cX2_holdsOf 75 = .ok (.goto 4, 3) by decide +kernel) (by decide) ?_
      exact j_ret (rokZ (show decode cX2_holdsOf 79 = .ok (.ireturn, 1) by decide +kernel) rfl (Or.inr rfl)) ⟨rfl, rfl, h⟩
  · refine j_tableIn (tgt := 80) hr0 (show decode cX2_holdsOf 1 = .ok (.tableswitch 90 18 22 #[35, 46, 57, 68, 79], 35) by decide +kernel) (by omega) (by omega) (by rw [c]; rfl) (by decide) ?_
    have h := h.2.2.2.2.2 c
    refine j_iload_n (i := 1) rfl (show decode cX2_holdsOf 80 = .ok (.iload_n 1, 1) by decide +kernel) ?_
    refine j_iload_n (i := 2) rfl (show decode cX2_holdsOf 81 = .ok (.iload_n 2, 1) by decide +kernel) ?_
    have hr11 := h.1
    have h := h.2
    have hr12 := h.1
    have h := h.2
    refine j_icmp_ne (tgt := 89) hr11 hr12 (show decode cX2_holdsOf 82 = .ok (.if_icmp .ne 7, 3) by decide +kernel) (by decide) (fun c => ?_) (fun c => ?_)
    · have h := h.1 c
      refine j_iconst (show decode cX2_holdsOf 89 = .ok (.iconst 0, 1) by decide +kernel) ?_
      exact j_ret (rokZ (show decode cX2_holdsOf 90 = .ok (.ireturn, 1) by decide +kernel) rfl (Or.inl rfl)) ⟨rfl, rfl, h⟩
    · have h := h.2 c
      refine j_iconst (show decode cX2_holdsOf 85 = .ok (.iconst 1, 1) by decide +kernel) ?_
      refine j_goto (tgt := 90) (show decode cX2_holdsOf 86 = .ok (.goto 4, 3) by decide +kernel) (by decide) ?_
      exact j_ret (rokZ (show decode cX2_holdsOf 90 = .ok (.ireturn, 1) by decide +kernel) rfl (Or.inr rfl)) ⟨rfl, rfl, h⟩
theorem c_X2_holdsOf {d : Nat} {t : Int} {Q : Int → jM → Prop} {σ : jM} {p0 p1 p2 : Int} (h : (inR p0) ∧ ((p0 < 18 ∨ 22 < p0 → ((inR p1) ∧ ((inR p2) ∧ ((p1 = p2 → (Q 0 σ)) ∧ (¬ p1 = p2 → (Q 1 σ)))))) ∧ (p0 = 18 → ((inR p1) ∧ ((inR p2) ∧ ((p2 ≤ p1 → (Q 0 σ)) ∧ (p1 < p2 → (Q 1 σ)))))) ∧ (p0 = 19 → ((inR p1) ∧ ((inR p2) ∧ ((p2 < p1 → (Q 0 σ)) ∧ (p1 ≤ p2 → (Q 1 σ)))))) ∧ (p0 = 20 → ((inR p1) ∧ ((inR p2) ∧ ((p1 ≤ p2 → (Q 0 σ)) ∧ (p2 < p1 → (Q 1 σ)))))) ∧ (p0 = 21 → ((inR p1) ∧ ((inR p2) ∧ ((p1 < p2 → (Q 0 σ)) ∧ (p2 ≤ p1 → (Q 1 σ)))))) ∧ (p0 = 22 → ((inR p1) ∧ ((inR p2) ∧ ((¬ p1 = p2 → (Q 0 σ)) ∧ (p1 = p2 → (Q 1 σ)))))))) : Ct mX2_holdsOf (d) 0 t [iv p0, iv p1, iv p2] σ Q := Ct_of (by decide +kernel) (Nat.le_of_ble_eq_true rfl) (b_X2_holdsOf_0 h)
set_option maxRecDepth 4000 in
theorem b_X2_within_0 {d : Nat} {t : Int} {Q : Int → jM → Prop} {σ : jM} {p0 : Int} (h : (inL p0) ∧ ((p0 ≤ 1000000 → ((inL p0) ∧ (((-1000000) ≤ p0 → (Q p0 σ)) ∧ (p0 < (-1000000) → (Q (-1000000) σ))))) ∧ (1000000 < p0 → (Q 1000000 σ)))) : Jt mX2_within (d) 0 t Q 0 [jv p0, uv] [] σ := by
  refine j_lload_n (i := 0) rfl (show decode cX2_within 0 = .ok (.lload_n 0, 1) by decide +kernel) ?_
  refine j_ldc2 (x := 1000000) (tt_in 811 (by decide +kernel) rfl) (show decode cX2_within 1 = .ok (.ldc2_w 89, 3) by decide +kernel) ?_
  have hr0 := h.1
  have h := h.2
  refine s_lif_le (tgt := 13) hr0 (inll (by decide)) (show decode cX2_within 4 = .ok (.lcmp, 1) by decide +kernel) (show decode cX2_within 5 = .ok (.ifCond .le 8, 3) by decide +kernel) (by decide) (fun c => ?_) (fun c => ?_)
  · have h := h.1 c
    refine j_lload_n (i := 0) rfl (show decode cX2_within 13 = .ok (.lload_n 0, 1) by decide +kernel) ?_
    refine j_ldc2 (x := -1000000) (tt_in 813 (by decide +kernel) rfl) (show decode cX2_within 14 = .ok (.ldc2_w 92, 3) by decide +kernel) ?_
    have hr1 := h.1
    have h := h.2
    refine s_lif_ge (tgt := 26) hr1 (inll (by decide)) (show decode cX2_within 17 = .ok (.lcmp, 1) by decide +kernel) (show decode cX2_within 18 = .ok (.ifCond .ge 8, 3) by decide +kernel) (by decide) (fun c => ?_) (fun c => ?_)
    · have h := h.1 c
      refine j_lload_n (i := 0) rfl (show decode cX2_within 26 = .ok (.lload_n 0, 1) by decide +kernel) ?_
      refine j_l2i (show decode cX2_within 27 = .ok (.l2i, 1) by decide +kernel) ?_
      exact j_ret (rokI (show decode cX2_within 28 = .ok (.ireturn, 1) by decide +kernel) rfl) ⟨rfl, rfl, h⟩
    · have h := h.2 c
      refine j_ldc (x := -1000000) (tt_in 814 (by decide +kernel) rfl) (show decode cX2_within 21 = .ok (.ldc 94, 2) by decide +kernel) ?_
      refine j_goto (tgt := 28) (show decode cX2_within 23 = .ok (.goto 5, 3) by decide +kernel) (by decide) ?_
      exact j_ret (rokI (show decode cX2_within 28 = .ok (.ireturn, 1) by decide +kernel) rfl) ⟨rfl, rfl, h⟩
  · have h := h.2 c
    refine j_ldc (x := 1000000) (tt_in 812 (by decide +kernel) rfl) (show decode cX2_within 8 = .ok (.ldc 91, 2) by decide +kernel) ?_
    refine j_goto (tgt := 28) (show decode cX2_within 10 = .ok (.goto 18, 3) by decide +kernel) (by decide) ?_
    exact j_ret (rokI (show decode cX2_within 28 = .ok (.ireturn, 1) by decide +kernel) rfl) ⟨rfl, rfl, h⟩
theorem c_X2_within {d : Nat} {t : Int} {Q : Int → jM → Prop} {σ : jM} {p0 : Int} (h : (inL p0) ∧ ((p0 ≤ 1000000 → ((inL p0) ∧ (((-1000000) ≤ p0 → (Q p0 σ)) ∧ (p0 < (-1000000) → (Q (-1000000) σ))))) ∧ (1000000 < p0 → (Q 1000000 σ)))) : Ct mX2_within (d) 0 t [jv p0] σ Q := Ct_of (by decide +kernel) (Nat.le_of_ble_eq_true rfl) (b_X2_within_0 h)
set_option maxRecDepth 4000 in
theorem b_J6_numberOfTrailingZeros_0f7a4_74 {d : Nat} {t : Int} {Q : Int → jM → Prop} {σ : jM} {v0 v1 : Int} (h : Q (v1 + (i_ushr v0 1)) σ) : Jt mJ6_numberOfTrailingZeros_0f7a4 (d) 0 t Q 74 [iv v0, iv v1] [] σ := by
  refine j_iload_n (i := 1) rfl (show decode cJ6_numberOfTrailingZeros_0f7a4 74 = .ok (.iload_n 1, 1) by decide +kernel) ?_
  refine j_iload_n (i := 0) rfl (show decode cJ6_numberOfTrailingZeros_0f7a4 75 = .ok (.iload_n 0, 1) by decide +kernel) ?_
  refine j_iconst (show decode cJ6_numberOfTrailingZeros_0f7a4 76 = .ok (.iconst 1, 1) by decide +kernel) ?_
  refine j_iushr (show decode cJ6_numberOfTrailingZeros_0f7a4 77 = .ok (.iushr, 1) by decide +kernel) ?_
  refine j_iadd (show decode cJ6_numberOfTrailingZeros_0f7a4 78 = .ok (.iadd, 1) by decide +kernel) ?_
  exact j_ret (rokI (show decode cJ6_numberOfTrailingZeros_0f7a4 79 = .ok (.ireturn, 1) by decide +kernel) rfl) ⟨rfl, rfl, h⟩
set_option maxRecDepth 4000 in
theorem b_J6_numberOfTrailingZeros_0f7a4_0 {d : Nat} {t : Int} {Q : Int → jM → Prop} {σ : jM} {p0 : Int} (h : (inR (i_and (i_xor p0 (-1)) (p0 - 1))) ∧ ((0 < (i_and (i_xor p0 (-1)) (p0 - 1)) → ((inR (i_and (i_xor p0 (-1)) (p0 - 1))) ∧ (((i_and (i_xor p0 (-1)) (p0 - 1)) ≤ 65536 → ((inR (i_and (i_xor p0 (-1)) (p0 - 1))) ∧ (((i_and (i_xor p0 (-1)) (p0 - 1)) ≤ 256 → ((inR (i_and (i_xor p0 (-1)) (p0 - 1))) ∧ (((i_and (i_xor p0 (-1)) (p0 - 1)) ≤ 16 → ((inR (i_and (i_xor p0 (-1)) (p0 - 1))) ∧ (((i_and (i_xor p0 (-1)) (p0 - 1)) ≤ 4 → (Jt mJ6_numberOfTrailingZeros_0f7a4 (d) 0 t Q 74 [iv (i_and (i_xor p0 (-1)) (p0 - 1)), iv 1] [] σ)) ∧ (4 < (i_and (i_xor p0 (-1)) (p0 - 1)) → (Jt mJ6_numberOfTrailingZeros_0f7a4 (d) 0 t Q 74 [iv (i_ushr (i_and (i_xor p0 (-1)) (p0 - 1)) 2), iv (1 + 2)] [] σ))))) ∧ (16 < (i_and (i_xor p0 (-1)) (p0 - 1)) → ((inR (i_ushr (i_and (i_xor p0 (-1)) (p0 - 1)) 4)) ∧ (((i_ushr (i_and (i_xor p0 (-1)) (p0 - 1)) 4) ≤ 4 → (Jt mJ6_numberOfTrailingZeros_0f7a4 (d) 0 t Q 74 [iv (i_ushr (i_and (i_xor p0 (-1)) (p0 - 1)) 4), iv (1 + 4)] [] σ)) ∧ (4 < (i_ushr (i_and (i_xor p0 (-1)) (p0 - 1)) 4) → (Jt mJ6_numberOfTrailingZeros_0f7a4 (d) 0 t Q 74 [iv (i_ushr (i_ushr (i_and (i_xor p0 (-1)) (p0 - 1)) 4) 2), iv ((1 + 4) + 2)] [] σ)))))))) ∧ (256 < (i_and (i_xor p0 (-1)) (p0 - 1)) → ((inR (i_ushr (i_and (i_xor p0 (-1)) (p0 - 1)) 8)) ∧ (((i_ushr (i_and (i_xor p0 (-1)) (p0 - 1)) 8) ≤ 16 → ((inR (i_ushr (i_and (i_xor p0 (-1)) (p0 - 1)) 8)) ∧ (((i_ushr (i_and (i_xor p0 (-1)) (p0 - 1)) 8) ≤ 4 → (Jt mJ6_numberOfTrailingZeros_0f7a4 (d) 0 t Q 74 [iv (i_ushr (i_and (i_xor p0 (-1)) (p0 - 1)) 8), iv (1 + 8)] [] σ)) ∧ (4 < (i_ushr (i_and (i_xor p0 (-1)) (p0 - 1)) 8) → (Jt mJ6_numberOfTrailingZeros_0f7a4 (d) 0 t Q 74 [iv (i_ushr (i_ushr (i_and (i_xor p0 (-1)) (p0 - 1)) 8) 2), iv ((1 + 8) + 2)] [] σ))))) ∧ (16 < (i_ushr (i_and (i_xor p0 (-1)) (p0 - 1)) 8) → ((inR (i_ushr (i_ushr (i_and (i_xor p0 (-1)) (p0 - 1)) 8) 4)) ∧ (((i_ushr (i_ushr (i_and (i_xor p0 (-1)) (p0 - 1)) 8) 4) ≤ 4 → (Jt mJ6_numberOfTrailingZeros_0f7a4 (d) 0 t Q 74 [iv (i_ushr (i_ushr (i_and (i_xor p0 (-1)) (p0 - 1)) 8) 4), iv ((1 + 8) + 4)] [] σ)) ∧ (4 < (i_ushr (i_ushr (i_and (i_xor p0 (-1)) (p0 - 1)) 8) 4) → (Jt mJ6_numberOfTrailingZeros_0f7a4 (d) 0 t Q 74 [iv (i_ushr (i_ushr (i_ushr (i_and (i_xor p0 (-1)) (p0 - 1)) 8) 4) 2), iv (((1 + 8) + 4) + 2)] [] σ))))))))))) ∧ (65536 < (i_and (i_xor p0 (-1)) (p0 - 1)) → ((inR (i_ushr (i_and (i_xor p0 (-1)) (p0 - 1)) 16)) ∧ (((i_ushr (i_and (i_xor p0 (-1)) (p0 - 1)) 16) ≤ 256 → ((inR (i_ushr (i_and (i_xor p0 (-1)) (p0 - 1)) 16)) ∧ (((i_ushr (i_and (i_xor p0 (-1)) (p0 - 1)) 16) ≤ 16 → ((inR (i_ushr (i_and (i_xor p0 (-1)) (p0 - 1)) 16)) ∧ (((i_ushr (i_and (i_xor p0 (-1)) (p0 - 1)) 16) ≤ 4 → (Jt mJ6_numberOfTrailingZeros_0f7a4 (d) 0 t Q 74 [iv (i_ushr (i_and (i_xor p0 (-1)) (p0 - 1)) 16), iv (1 + 16)] [] σ)) ∧ (4 < (i_ushr (i_and (i_xor p0 (-1)) (p0 - 1)) 16) → (Jt mJ6_numberOfTrailingZeros_0f7a4 (d) 0 t Q 74 [iv (i_ushr (i_ushr (i_and (i_xor p0 (-1)) (p0 - 1)) 16) 2), iv ((1 + 16) + 2)] [] σ))))) ∧ (16 < (i_ushr (i_and (i_xor p0 (-1)) (p0 - 1)) 16) → ((inR (i_ushr (i_ushr (i_and (i_xor p0 (-1)) (p0 - 1)) 16) 4)) ∧ (((i_ushr (i_ushr (i_and (i_xor p0 (-1)) (p0 - 1)) 16) 4) ≤ 4 → (Jt mJ6_numberOfTrailingZeros_0f7a4 (d) 0 t Q 74 [iv (i_ushr (i_ushr (i_and (i_xor p0 (-1)) (p0 - 1)) 16) 4), iv ((1 + 16) + 4)] [] σ)) ∧ (4 < (i_ushr (i_ushr (i_and (i_xor p0 (-1)) (p0 - 1)) 16) 4) → (Jt mJ6_numberOfTrailingZeros_0f7a4 (d) 0 t Q 74 [iv (i_ushr (i_ushr (i_ushr (i_and (i_xor p0 (-1)) (p0 - 1)) 16) 4) 2), iv (((1 + 16) + 4) + 2)] [] σ)))))))) ∧ (256 < (i_ushr (i_and (i_xor p0 (-1)) (p0 - 1)) 16) → ((inR (i_ushr (i_ushr (i_and (i_xor p0 (-1)) (p0 - 1)) 16) 8)) ∧ (((i_ushr (i_ushr (i_and (i_xor p0 (-1)) (p0 - 1)) 16) 8) ≤ 16 → ((inR (i_ushr (i_ushr (i_and (i_xor p0 (-1)) (p0 - 1)) 16) 8)) ∧ (((i_ushr (i_ushr (i_and (i_xor p0 (-1)) (p0 - 1)) 16) 8) ≤ 4 → (Jt mJ6_numberOfTrailingZeros_0f7a4 (d) 0 t Q 74 [iv (i_ushr (i_ushr (i_and (i_xor p0 (-1)) (p0 - 1)) 16) 8), iv ((1 + 16) + 8)] [] σ)) ∧ (4 < (i_ushr (i_ushr (i_and (i_xor p0 (-1)) (p0 - 1)) 16) 8) → (Jt mJ6_numberOfTrailingZeros_0f7a4 (d) 0 t Q 74 [iv (i_ushr (i_ushr (i_ushr (i_and (i_xor p0 (-1)) (p0 - 1)) 16) 8) 2), iv (((1 + 16) + 8) + 2)] [] σ))))) ∧ (16 < (i_ushr (i_ushr (i_and (i_xor p0 (-1)) (p0 - 1)) 16) 8) → ((inR (i_ushr (i_ushr (i_ushr (i_and (i_xor p0 (-1)) (p0 - 1)) 16) 8) 4)) ∧ (((i_ushr (i_ushr (i_ushr (i_and (i_xor p0 (-1)) (p0 - 1)) 16) 8) 4) ≤ 4 → (Jt mJ6_numberOfTrailingZeros_0f7a4 (d) 0 t Q 74 [iv (i_ushr (i_ushr (i_ushr (i_and (i_xor p0 (-1)) (p0 - 1)) 16) 8) 4), iv (((1 + 16) + 8) + 4)] [] σ)) ∧ (4 < (i_ushr (i_ushr (i_ushr (i_and (i_xor p0 (-1)) (p0 - 1)) 16) 8) 4) → (Jt mJ6_numberOfTrailingZeros_0f7a4 (d) 0 t Q 74 [iv (i_ushr (i_ushr (i_ushr (i_ushr (i_and (i_xor p0 (-1)) (p0 - 1)) 16) 8) 4) 2), iv ((((1 + 16) + 8) + 4) + 2)] [] σ)))))))))))))) ∧ ((i_and (i_xor p0 (-1)) (p0 - 1)) ≤ 0 → (Q (i_and (i_and (i_xor p0 (-1)) (p0 - 1)) 32) σ)))) : Jt mJ6_numberOfTrailingZeros_0f7a4 (d) 0 t Q 0 [iv p0, uv] [] σ := by
  refine j_iload_n (i := 0) rfl (show decode cJ6_numberOfTrailingZeros_0f7a4 0 = .ok (.iload_n 0, 1) by decide +kernel) ?_
  refine j_iconst (show decode cJ6_numberOfTrailingZeros_0f7a4 1 = .ok (.iconst (-1), 1) by decide +kernel) ?_
  refine j_ixor (show decode cJ6_numberOfTrailingZeros_0f7a4 2 = .ok (.ixor, 1) by decide +kernel) ?_
  refine j_iload_n (i := 0) rfl (show decode cJ6_numberOfTrailingZeros_0f7a4 3 = .ok (.iload_n 0, 1) by decide +kernel) ?_
  refine j_iconst (show decode cJ6_numberOfTrailingZeros_0f7a4 4 = .ok (.iconst 1, 1) by decide +kernel) ?_
  refine j_isub (show decode cJ6_numberOfTrailingZeros_0f7a4 5 = .ok (.isub, 1) by decide +kernel) ?_
  refine j_iand (show decode cJ6_numberOfTrailingZeros_0f7a4 6 = .ok (.iand, 1) by decide +kernel) ?_
  refine s_ist_n (i := 0) (L' := [iv (i_and (i_xor p0 (-1)) (p0 - 1)), uv]) rfl (by decide) (show decode cJ6_numberOfTrailingZeros_0f7a4 7 = .ok (.istore_n 0, 1) by decide +kernel) ?_
  refine j_iload_n (i := 0) rfl (show decode cJ6_numberOfTrailingZeros_0f7a4 8 = .ok (.iload_n 0, 1) by decide +kernel) ?_
  have hr0 := h.1
  have h := h.2
  refine j_if_gt (tgt := 17) hr0 (show decode cJ6_numberOfTrailingZeros_0f7a4 9 = .ok (.ifCond .gt 8, 3) by decide +kernel) (by decide) (fun c => ?_) (fun c => ?_)
  · have h := h.1 c
    refine j_iconst (show decode cJ6_numberOfTrailingZeros_0f7a4 17 = .ok (.iconst 1, 1) by decide +kernel) ?_
    refine s_ist_n (i := 1) (L' := [iv (i_and (i_xor p0 (-1)) (p0 - 1)), iv 1]) rfl (by decide) (show decode cJ6_numberOfTrailingZeros_0f7a4 18 = .ok (.istore_n 1, 1) by decide +kernel) ?_
    refine j_iload_n (i := 0) rfl (show decode cJ6_numberOfTrailingZeros_0f7a4 19 = .ok (.iload_n 0, 1) by decide +kernel) ?_
    refine j_ldcw (x := 65536) (tt_in 897 (by decide +kernel) rfl) (show decode cJ6_numberOfTrailingZeros_0f7a4 20 = .ok (.ldc_w 264, 3) by decide +kernel) ?_
    have hr1 := h.1
    have h := h.2
    refine j_icmp_le (tgt := 34) hr1 (inl (by decide)) (show decode cJ6_numberOfTrailingZeros_0f7a4 23 = .ok (.if_icmp .le 11, 3) by decide +kernel) (by decide) (fun c => ?_) (fun c => ?_)
    · have h := h.1 c
      refine j_iload_n (i := 0) rfl (show decode cJ6_numberOfTrailingZeros_0f7a4 34 = .ok (.iload_n 0, 1) by decide +kernel) ?_
      refine j_sipush (n := 256) (by decide +kernel) (show decode cJ6_numberOfTrailingZeros_0f7a4 35 = .ok (.sipush 256, 3) by decide +kernel) ?_
      have hr2 := h.1
      have h := h.2
      refine j_icmp_le (tgt := 49) hr2 (inl (by decide)) (show decode cJ6_numberOfTrailingZeros_0f7a4 38 = .ok (.if_icmp .le 11, 3) by decide +kernel) (by decide) (fun c => ?_) (fun c => ?_)
      · have h := h.1 c
        refine j_iload_n (i := 0) rfl (show decode cJ6_numberOfTrailingZeros_0f7a4 49 = .ok (.iload_n 0, 1) by decide +kernel) ?_
        refine j_bipush (n := 16) (by decide +kernel) (show decode cJ6_numberOfTrailingZeros_0f7a4 50 = .ok (.bipush 16, 2) by decide +kernel) ?_
        have hr3 := h.1
        have h := h.2
        refine j_icmp_le (tgt := 62) hr3 (inl (by decide)) (show decode cJ6_numberOfTrailingZeros_0f7a4 52 = .ok (.if_icmp .le 10, 3) by decide +kernel) (by decide) (fun c => ?_) (fun c => ?_)
        · have h := h.1 c
          refine j_iload_n (i := 0) rfl (show decode cJ6_numberOfTrailingZeros_0f7a4 62 = .ok (.iload_n 0, 1) by decide +kernel) ?_
          refine j_iconst (show decode cJ6_numberOfTrailingZeros_0f7a4 63 = .ok (.iconst 4, 1) by decide +kernel) ?_
          have hr4 := h.1
          have h := h.2
          refine j_icmp_le (tgt := 74) hr4 (inl (by decide)) (show decode cJ6_numberOfTrailingZeros_0f7a4 64 = .ok (.if_icmp .le 10, 3) by decide +kernel) (by decide) (fun c => ?_) (fun c => ?_)
          · have h := h.1 c
            exact h
          · have h := h.2 c
            refine s_iinc (i := 1) rfl (L' := [iv (i_and (i_xor p0 (-1)) (p0 - 1)), iv (1 + 2)]) rfl (show decode cJ6_numberOfTrailingZeros_0f7a4 67 = .ok (.iinc 1 2, 3) by decide +kernel) ?_
            refine j_iload_n (i := 0) rfl (show decode cJ6_numberOfTrailingZeros_0f7a4 70 = .ok (.iload_n 0, 1) by decide +kernel) ?_
            refine j_iconst (show decode cJ6_numberOfTrailingZeros_0f7a4 71 = .ok (.iconst 2, 1) by decide +kernel) ?_
            refine j_iushr (show decode cJ6_numberOfTrailingZeros_0f7a4 72 = .ok (.iushr, 1) by decide +kernel) ?_
            refine s_ist_n (i := 0) (L' := [iv (i_ushr (i_and (i_xor p0 (-1)) (p0 - 1)) 2), iv (1 + 2)]) rfl (by decide) (show decode cJ6_numberOfTrailingZeros_0f7a4 73 = .ok (.istore_n 0, 1) by decide +kernel) ?_
            exact h
        · have h := h.2 c
          refine s_iinc (i := 1) rfl (L' := [iv (i_and (i_xor p0 (-1)) (p0 - 1)), iv (1 + 4)]) rfl (show decode cJ6_numberOfTrailingZeros_0f7a4 55 = .ok (.iinc 1 4, 3) by decide +kernel) ?_
          refine j_iload_n (i := 0) rfl (show decode cJ6_numberOfTrailingZeros_0f7a4 58 = .ok (.iload_n 0, 1) by decide +kernel) ?_
          refine j_iconst (show decode cJ6_numberOfTrailingZeros_0f7a4 59 = .ok (.iconst 4, 1) by decide +kernel) ?_
          refine j_iushr (show decode cJ6_numberOfTrailingZeros_0f7a4 60 = .ok (.iushr, 1) by decide +kernel) ?_
          refine s_ist_n (i := 0) (L' := [iv (i_ushr (i_and (i_xor p0 (-1)) (p0 - 1)) 4), iv (1 + 4)]) rfl (by decide) (show decode cJ6_numberOfTrailingZeros_0f7a4 61 = .ok (.istore_n 0, 1) by decide +kernel) ?_
          refine j_iload_n (i := 0) rfl (show decode cJ6_numberOfTrailingZeros_0f7a4 62 = .ok (.iload_n 0, 1) by decide +kernel) ?_
          refine j_iconst (show decode cJ6_numberOfTrailingZeros_0f7a4 63 = .ok (.iconst 4, 1) by decide +kernel) ?_
          have hr5 := h.1
          have h := h.2
          refine j_icmp_le (tgt := 74) hr5 (inl (by decide)) (show decode cJ6_numberOfTrailingZeros_0f7a4 64 = .ok (.if_icmp .le 10, 3) by decide +kernel) (by decide) (fun c => ?_) (fun c => ?_)
          · have h := h.1 c
            exact h
          · have h := h.2 c
            refine s_iinc (i := 1) rfl (L' := [iv (i_ushr (i_and (i_xor p0 (-1)) (p0 - 1)) 4), iv ((1 + 4) + 2)]) rfl (show decode cJ6_numberOfTrailingZeros_0f7a4 67 = .ok (.iinc 1 2, 3) by decide +kernel) ?_
            refine j_iload_n (i := 0) rfl (show decode cJ6_numberOfTrailingZeros_0f7a4 70 = .ok (.iload_n 0, 1) by decide +kernel) ?_
            refine j_iconst (show decode cJ6_numberOfTrailingZeros_0f7a4 71 = .ok (.iconst 2, 1) by decide +kernel) ?_
            refine j_iushr (show decode cJ6_numberOfTrailingZeros_0f7a4 72 = .ok (.iushr, 1) by decide +kernel) ?_
            refine s_ist_n (i := 0) (L' := [iv (i_ushr (i_ushr (i_and (i_xor p0 (-1)) (p0 - 1)) 4) 2), iv ((1 + 4) + 2)]) rfl (by decide) (show decode cJ6_numberOfTrailingZeros_0f7a4 73 = .ok (.istore_n 0, 1) by decide +kernel) ?_
            exact h
      · have h := h.2 c
        refine s_iinc (i := 1) rfl (L' := [iv (i_and (i_xor p0 (-1)) (p0 - 1)), iv (1 + 8)]) rfl (show decode cJ6_numberOfTrailingZeros_0f7a4 41 = .ok (.iinc 1 8, 3) by decide +kernel) ?_
        refine j_iload_n (i := 0) rfl (show decode cJ6_numberOfTrailingZeros_0f7a4 44 = .ok (.iload_n 0, 1) by decide +kernel) ?_
        refine j_bipush (n := 8) (by decide +kernel) (show decode cJ6_numberOfTrailingZeros_0f7a4 45 = .ok (.bipush 8, 2) by decide +kernel) ?_
        refine j_iushr (show decode cJ6_numberOfTrailingZeros_0f7a4 47 = .ok (.iushr, 1) by decide +kernel) ?_
        refine s_ist_n (i := 0) (L' := [iv (i_ushr (i_and (i_xor p0 (-1)) (p0 - 1)) 8), iv (1 + 8)]) rfl (by decide) (show decode cJ6_numberOfTrailingZeros_0f7a4 48 = .ok (.istore_n 0, 1) by decide +kernel) ?_
        refine j_iload_n (i := 0) rfl (show decode cJ6_numberOfTrailingZeros_0f7a4 49 = .ok (.iload_n 0, 1) by decide +kernel) ?_
        refine j_bipush (n := 16) (by decide +kernel) (show decode cJ6_numberOfTrailingZeros_0f7a4 50 = .ok (.bipush 16, 2) by decide +kernel) ?_
        have hr6 := h.1
        have h := h.2
        refine j_icmp_le (tgt := 62) hr6 (inl (by decide)) (show decode cJ6_numberOfTrailingZeros_0f7a4 52 = .ok (.if_icmp .le 10, 3) by decide +kernel) (by decide) (fun c => ?_) (fun c => ?_)
        · have h := h.1 c
          refine j_iload_n (i := 0) rfl (show decode cJ6_numberOfTrailingZeros_0f7a4 62 = .ok (.iload_n 0, 1) by decide +kernel) ?_
          refine j_iconst (show decode cJ6_numberOfTrailingZeros_0f7a4 63 = .ok (.iconst 4, 1) by decide +kernel) ?_
          have hr7 := h.1
          have h := h.2
          refine j_icmp_le (tgt := 74) hr7 (inl (by decide)) (show decode cJ6_numberOfTrailingZeros_0f7a4 64 = .ok (.if_icmp .le 10, 3) by decide +kernel) (by decide) (fun c => ?_) (fun c => ?_)
          · have h := h.1 c
            exact h
          · have h := h.2 c
            refine s_iinc (i := 1) rfl (L' := [iv (i_ushr (i_and (i_xor p0 (-1)) (p0 - 1)) 8), iv ((1 + 8) + 2)]) rfl (show decode cJ6_numberOfTrailingZeros_0f7a4 67 = .ok (.iinc 1 2, 3) by decide +kernel) ?_
            refine j_iload_n (i := 0) rfl (show decode cJ6_numberOfTrailingZeros_0f7a4 70 = .ok (.iload_n 0, 1) by decide +kernel) ?_
            refine j_iconst (show decode cJ6_numberOfTrailingZeros_0f7a4 71 = .ok (.iconst 2, 1) by decide +kernel) ?_
            refine j_iushr (show decode cJ6_numberOfTrailingZeros_0f7a4 72 = .ok (.iushr, 1) by decide +kernel) ?_
            refine s_ist_n (i := 0) (L' := [iv (i_ushr (i_ushr (i_and (i_xor p0 (-1)) (p0 - 1)) 8) 2), iv ((1 + 8) + 2)]) rfl (by decide) (show decode cJ6_numberOfTrailingZeros_0f7a4 73 = .ok (.istore_n 0, 1) by decide +kernel) ?_
            exact h
        · have h := h.2 c
          refine s_iinc (i := 1) rfl (L' := [iv (i_ushr (i_and (i_xor p0 (-1)) (p0 - 1)) 8), iv ((1 + 8) + 4)]) rfl (show decode cJ6_numberOfTrailingZeros_0f7a4 55 = .ok (.iinc 1 4, 3) by decide +kernel) ?_
          refine j_iload_n (i := 0) rfl (show decode cJ6_numberOfTrailingZeros_0f7a4 58 = .ok (.iload_n 0, 1) by decide +kernel) ?_
          refine j_iconst (show decode cJ6_numberOfTrailingZeros_0f7a4 59 = .ok (.iconst 4, 1) by decide +kernel) ?_
          refine j_iushr (show decode cJ6_numberOfTrailingZeros_0f7a4 60 = .ok (.iushr, 1) by decide +kernel) ?_
          refine s_ist_n (i := 0) (L' := [iv (i_ushr (i_ushr (i_and (i_xor p0 (-1)) (p0 - 1)) 8) 4), iv ((1 + 8) + 4)]) rfl (by decide) (show decode cJ6_numberOfTrailingZeros_0f7a4 61 = .ok (.istore_n 0, 1) by decide +kernel) ?_
          refine j_iload_n (i := 0) rfl (show decode cJ6_numberOfTrailingZeros_0f7a4 62 = .ok (.iload_n 0, 1) by decide +kernel) ?_
          refine j_iconst (show decode cJ6_numberOfTrailingZeros_0f7a4 63 = .ok (.iconst 4, 1) by decide +kernel) ?_
          have hr8 := h.1
          have h := h.2
          refine j_icmp_le (tgt := 74) hr8 (inl (by decide)) (show decode cJ6_numberOfTrailingZeros_0f7a4 64 = .ok (.if_icmp .le 10, 3) by decide +kernel) (by decide) (fun c => ?_) (fun c => ?_)
          · have h := h.1 c
            exact h
          · have h := h.2 c
            refine s_iinc (i := 1) rfl (L' := [iv (i_ushr (i_ushr (i_and (i_xor p0 (-1)) (p0 - 1)) 8) 4), iv (((1 + 8) + 4) + 2)]) rfl (show decode cJ6_numberOfTrailingZeros_0f7a4 67 = .ok (.iinc 1 2, 3) by decide +kernel) ?_
            refine j_iload_n (i := 0) rfl (show decode cJ6_numberOfTrailingZeros_0f7a4 70 = .ok (.iload_n 0, 1) by decide +kernel) ?_
            refine j_iconst (show decode cJ6_numberOfTrailingZeros_0f7a4 71 = .ok (.iconst 2, 1) by decide +kernel) ?_
            refine j_iushr (show decode cJ6_numberOfTrailingZeros_0f7a4 72 = .ok (.iushr, 1) by decide +kernel) ?_
            refine s_ist_n (i := 0) (L' := [iv (i_ushr (i_ushr (i_ushr (i_and (i_xor p0 (-1)) (p0 - 1)) 8) 4) 2), iv (((1 + 8) + 4) + 2)]) rfl (by decide) (show decode cJ6_numberOfTrailingZeros_0f7a4 73 = .ok (.istore_n 0, 1) by decide +kernel) ?_
            exact h
    · have h := h.2 c
      refine s_iinc (i := 1) rfl (L' := [iv (i_and (i_xor p0 (-1)) (p0 - 1)), iv (1 + 16)]) rfl (show decode cJ6_numberOfTrailingZeros_0f7a4 26 = .ok (.iinc 1 16, 3) by decide +kernel) ?_
      refine j_iload_n (i := 0) rfl (show decode cJ6_numberOfTrailingZeros_0f7a4 29 = .ok (.iload_n 0, 1) by decide +kernel) ?_
      refine j_bipush (n := 16) (by decide +kernel) (show decode cJ6_numberOfTrailingZeros_0f7a4 30 = .ok (.bipush 16, 2) by decide +kernel) ?_
      refine j_iushr (show decode cJ6_numberOfTrailingZeros_0f7a4 32 = .ok (.iushr, 1) by decide +kernel) ?_
      refine s_ist_n (i := 0) (L' := [iv (i_ushr (i_and (i_xor p0 (-1)) (p0 - 1)) 16), iv (1 + 16)]) rfl (by decide) (show decode cJ6_numberOfTrailingZeros_0f7a4 33 = .ok (.istore_n 0, 1) by decide +kernel) ?_
      refine j_iload_n (i := 0) rfl (show decode cJ6_numberOfTrailingZeros_0f7a4 34 = .ok (.iload_n 0, 1) by decide +kernel) ?_
      refine j_sipush (n := 256) (by decide +kernel) (show decode cJ6_numberOfTrailingZeros_0f7a4 35 = .ok (.sipush 256, 3) by decide +kernel) ?_
      have hr9 := h.1
      have h := h.2
      refine j_icmp_le (tgt := 49) hr9 (inl (by decide)) (show decode cJ6_numberOfTrailingZeros_0f7a4 38 = .ok (.if_icmp .le 11, 3) by decide +kernel) (by decide) (fun c => ?_) (fun c => ?_)
      · have h := h.1 c
        refine j_iload_n (i := 0) rfl (show decode cJ6_numberOfTrailingZeros_0f7a4 49 = .ok (.iload_n 0, 1) by decide +kernel) ?_
        refine j_bipush (n := 16) (by decide +kernel) (show decode cJ6_numberOfTrailingZeros_0f7a4 50 = .ok (.bipush 16, 2) by decide +kernel) ?_
        have hr10 := h.1
        have h := h.2
        refine j_icmp_le (tgt := 62) hr10 (inl (by decide)) (show decode cJ6_numberOfTrailingZeros_0f7a4 52 = .ok (.if_icmp .le 10, 3) by decide +kernel) (by decide) (fun c => ?_) (fun c => ?_)
        · have h := h.1 c
          refine j_iload_n (i := 0) rfl (show decode cJ6_numberOfTrailingZeros_0f7a4 62 = .ok (.iload_n 0, 1) by decide +kernel) ?_
          refine j_iconst (show decode cJ6_numberOfTrailingZeros_0f7a4 63 = .ok (.iconst 4, 1) by decide +kernel) ?_
          have hr11 := h.1
          have h := h.2
          refine j_icmp_le (tgt := 74) hr11 (inl (by decide)) (show decode cJ6_numberOfTrailingZeros_0f7a4 64 = .ok (.if_icmp .le 10, 3) by decide +kernel) (by decide) (fun c => ?_) (fun c => ?_)
          · have h := h.1 c
            exact h
          · have h := h.2 c
            refine s_iinc (i := 1) rfl (L' := [iv (i_ushr (i_and (i_xor p0 (-1)) (p0 - 1)) 16), iv ((1 + 16) + 2)]) rfl (show decode cJ6_numberOfTrailingZeros_0f7a4 67 = .ok (.iinc 1 2, 3) by decide +kernel) ?_
            refine j_iload_n (i := 0) rfl (show decode cJ6_numberOfTrailingZeros_0f7a4 70 = .ok (.iload_n 0, 1) by decide +kernel) ?_
            refine j_iconst (show decode cJ6_numberOfTrailingZeros_0f7a4 71 = .ok (.iconst 2, 1) by decide +kernel) ?_
            refine j_iushr (show decode cJ6_numberOfTrailingZeros_0f7a4 72 = .ok (.iushr, 1) by decide +kernel) ?_
            refine s_ist_n (i := 0) (L' := [iv (i_ushr (i_ushr (i_and (i_xor p0 (-1)) (p0 - 1)) 16) 2), iv ((1 + 16) + 2)]) rfl (by decide) (show decode cJ6_numberOfTrailingZeros_0f7a4 73 = .ok (.istore_n 0, 1) by decide +kernel) ?_
            exact h
        · have h := h.2 c
          refine s_iinc (i := 1) rfl (L' := [iv (i_ushr (i_and (i_xor p0 (-1)) (p0 - 1)) 16), iv ((1 + 16) + 4)]) rfl (show decode cJ6_numberOfTrailingZeros_0f7a4 55 = .ok (.iinc 1 4, 3) by decide +kernel) ?_
          refine j_iload_n (i := 0) rfl (show decode cJ6_numberOfTrailingZeros_0f7a4 58 = .ok (.iload_n 0, 1) by decide +kernel) ?_
          refine j_iconst (show decode cJ6_numberOfTrailingZeros_0f7a4 59 = .ok (.iconst 4, 1) by decide +kernel) ?_
          refine j_iushr (show decode cJ6_numberOfTrailingZeros_0f7a4 60 = .ok (.iushr, 1) by decide +kernel) ?_
          refine s_ist_n (i := 0) (L' := [iv (i_ushr (i_ushr (i_and (i_xor p0 (-1)) (p0 - 1)) 16) 4), iv ((1 + 16) + 4)]) rfl (by decide) (show decode cJ6_numberOfTrailingZeros_0f7a4 61 = .ok (.istore_n 0, 1) by decide +kernel) ?_
          refine j_iload_n (i := 0) rfl (show decode cJ6_numberOfTrailingZeros_0f7a4 62 = .ok (.iload_n 0, 1) by decide +kernel) ?_
          refine j_iconst (show decode cJ6_numberOfTrailingZeros_0f7a4 63 = .ok (.iconst 4, 1) by decide +kernel) ?_
          have hr12 := h.1
          have h := h.2
          refine j_icmp_le (tgt := 74) hr12 (inl (by decide)) (show decode cJ6_numberOfTrailingZeros_0f7a4 64 = .ok (.if_icmp .le 10, 3) by decide +kernel) (by decide) (fun c => ?_) (fun c => ?_)
          · have h := h.1 c
            exact h
          · have h := h.2 c
            refine s_iinc (i := 1) rfl (L' := [iv (i_ushr (i_ushr (i_and (i_xor p0 (-1)) (p0 - 1)) 16) 4), iv (((1 + 16) + 4) + 2)]) rfl (show decode cJ6_numberOfTrailingZeros_0f7a4 67 = .ok (.iinc 1 2, 3) by decide +kernel) ?_
            refine j_iload_n (i := 0) rfl (show decode cJ6_numberOfTrailingZeros_0f7a4 70 = .ok (.iload_n 0, 1) by decide +kernel) ?_
            refine j_iconst (show decode cJ6_numberOfTrailingZeros_0f7a4 71 = .ok (.iconst 2, 1) by decide +kernel) ?_
            refine j_iushr (show decode cJ6_numberOfTrailingZeros_0f7a4 72 = .ok (.iushr, 1) by decide +kernel) ?_
            refine s_ist_n (i := 0) (L' := [iv (i_ushr (i_ushr (i_ushr (i_and (i_xor p0 (-1)) (p0 - 1)) 16) 4) 2), iv (((1 + 16) + 4) + 2)]) rfl (by decide) (show decode cJ6_numberOfTrailingZeros_0f7a4 73 = .ok (.istore_n 0, 1) by decide +kernel) ?_
            exact h
      · have h := h.2 c
        refine s_iinc (i := 1) rfl (L' := [iv (i_ushr (i_and (i_xor p0 (-1)) (p0 - 1)) 16), iv ((1 + 16) + 8)]) rfl (show decode cJ6_numberOfTrailingZeros_0f7a4 41 = .ok (.iinc 1 8, 3) by decide +kernel) ?_
        refine j_iload_n (i := 0) rfl (show decode cJ6_numberOfTrailingZeros_0f7a4 44 = .ok (.iload_n 0, 1) by decide +kernel) ?_
        refine j_bipush (n := 8) (by decide +kernel) (show decode cJ6_numberOfTrailingZeros_0f7a4 45 = .ok (.bipush 8, 2) by decide +kernel) ?_
        refine j_iushr (show decode cJ6_numberOfTrailingZeros_0f7a4 47 = .ok (.iushr, 1) by decide +kernel) ?_
        refine s_ist_n (i := 0) (L' := [iv (i_ushr (i_ushr (i_and (i_xor p0 (-1)) (p0 - 1)) 16) 8), iv ((1 + 16) + 8)]) rfl (by decide) (show decode cJ6_numberOfTrailingZeros_0f7a4 48 = .ok (.istore_n 0, 1) by decide +kernel) ?_
        refine j_iload_n (i := 0) rfl (show decode cJ6_numberOfTrailingZeros_0f7a4 49 = .ok (.iload_n 0, 1) by decide +kernel) ?_
        refine j_bipush (n := 16) (by decide +kernel) (show decode cJ6_numberOfTrailingZeros_0f7a4 50 = .ok (.bipush 16, 2) by decide +kernel) ?_
        have hr13 := h.1
        have h := h.2
        refine j_icmp_le (tgt := 62) hr13 (inl (by decide)) (show decode cJ6_numberOfTrailingZeros_0f7a4 52 = .ok (.if_icmp .le 10, 3) by decide +kernel) (by decide) (fun c => ?_) (fun c => ?_)
        · have h := h.1 c
          refine j_iload_n (i := 0) rfl (show decode cJ6_numberOfTrailingZeros_0f7a4 62 = .ok (.iload_n 0, 1) by decide +kernel) ?_
          refine j_iconst (show decode cJ6_numberOfTrailingZeros_0f7a4 63 = .ok (.iconst 4, 1) by decide +kernel) ?_
          have hr14 := h.1
          have h := h.2
          refine j_icmp_le (tgt := 74) hr14 (inl (by decide)) (show decode cJ6_numberOfTrailingZeros_0f7a4 64 = .ok (.if_icmp .le 10, 3) by decide +kernel) (by decide) (fun c => ?_) (fun c => ?_)
          · have h := h.1 c
            exact h
          · have h := h.2 c
            refine s_iinc (i := 1) rfl (L' := [iv (i_ushr (i_ushr (i_and (i_xor p0 (-1)) (p0 - 1)) 16) 8), iv (((1 + 16) + 8) + 2)]) rfl (show decode cJ6_numberOfTrailingZeros_0f7a4 67 = .ok (.iinc 1 2, 3) by decide +kernel) ?_
            refine j_iload_n (i := 0) rfl (show decode cJ6_numberOfTrailingZeros_0f7a4 70 = .ok (.iload_n 0, 1) by decide +kernel) ?_
            refine j_iconst (show decode cJ6_numberOfTrailingZeros_0f7a4 71 = .ok (.iconst 2, 1) by decide +kernel) ?_
            refine j_iushr (show decode cJ6_numberOfTrailingZeros_0f7a4 72 = .ok (.iushr, 1) by decide +kernel) ?_
            refine s_ist_n (i := 0) (L' := [iv (i_ushr (i_ushr (i_ushr (i_and (i_xor p0 (-1)) (p0 - 1)) 16) 8) 2), iv (((1 + 16) + 8) + 2)]) rfl (by decide) (show decode cJ6_numberOfTrailingZeros_0f7a4 73 = .ok (.istore_n 0, 1) by decide +kernel) ?_
            exact h
        · have h := h.2 c
          refine s_iinc (i := 1) rfl (L' := [iv (i_ushr (i_ushr (i_and (i_xor p0 (-1)) (p0 - 1)) 16) 8), iv (((1 + 16) + 8) + 4)]) rfl (show decode cJ6_numberOfTrailingZeros_0f7a4 55 = .ok (.iinc 1 4, 3) by decide +kernel) ?_
          refine j_iload_n (i := 0) rfl (show decode cJ6_numberOfTrailingZeros_0f7a4 58 = .ok (.iload_n 0, 1) by decide +kernel) ?_
          refine j_iconst (show decode cJ6_numberOfTrailingZeros_0f7a4 59 = .ok (.iconst 4, 1) by decide +kernel) ?_
          refine j_iushr (show decode cJ6_numberOfTrailingZeros_0f7a4 60 = .ok (.iushr, 1) by decide +kernel) ?_
          refine s_ist_n (i := 0) (L' := [iv (i_ushr (i_ushr (i_ushr (i_and (i_xor p0 (-1)) (p0 - 1)) 16) 8) 4), iv (((1 + 16) + 8) + 4)]) rfl (by decide) (show decode cJ6_numberOfTrailingZeros_0f7a4 61 = .ok (.istore_n 0, 1) by decide +kernel) ?_
          refine j_iload_n (i := 0) rfl (show decode cJ6_numberOfTrailingZeros_0f7a4 62 = .ok (.iload_n 0, 1) by decide +kernel) ?_
          refine j_iconst (show decode cJ6_numberOfTrailingZeros_0f7a4 63 = .ok (.iconst 4, 1) by decide +kernel) ?_
          have hr15 := h.1
          have h := h.2
          refine j_icmp_le (tgt := 74) hr15 (inl (by decide)) (show decode cJ6_numberOfTrailingZeros_0f7a4 64 = .ok (.if_icmp .le 10, 3) by decide +kernel) (by decide) (fun c => ?_) (fun c => ?_)
          · have h := h.1 c
            exact h
          · have h := h.2 c
            refine s_iinc (i := 1) rfl (L' := [iv (i_ushr (i_ushr (i_ushr (i_and (i_xor p0 (-1)) (p0 - 1)) 16) 8) 4), iv ((((1 + 16) + 8) + 4) + 2)]) rfl (show decode cJ6_numberOfTrailingZeros_0f7a4 67 = .ok (.iinc 1 2, 3) by decide +kernel) ?_
            refine j_iload_n (i := 0) rfl (show decode cJ6_numberOfTrailingZeros_0f7a4 70 = .ok (.iload_n 0, 1) by decide +kernel) ?_
            refine j_iconst (show decode cJ6_numberOfTrailingZeros_0f7a4 71 = .ok (.iconst 2, 1) by decide +kernel) ?_
            refine j_iushr (show decode cJ6_numberOfTrailingZeros_0f7a4 72 = .ok (.iushr, 1) by decide +kernel) ?_
            refine s_ist_n (i := 0) (L' := [iv (i_ushr (i_ushr (i_ushr (i_ushr (i_and (i_xor p0 (-1)) (p0 - 1)) 16) 8) 4) 2), iv ((((1 + 16) + 8) + 4) + 2)]) rfl (by decide) (show decode cJ6_numberOfTrailingZeros_0f7a4 73 = .ok (.istore_n 0, 1) by decide +kernel) ?_
            exact h
  · have h := h.2 c
    refine j_iload_n (i := 0) rfl (show decode cJ6_numberOfTrailingZeros_0f7a4 12 = .ok (.iload_n 0, 1) by decide +kernel) ?_
    refine j_bipush (n := 32) (by decide +kernel) (show decode cJ6_numberOfTrailingZeros_0f7a4 13 = .ok (.bipush 32, 2) by decide +kernel) ?_
    refine j_iand (show decode cJ6_numberOfTrailingZeros_0f7a4 15 = .ok (.iand, 1) by decide +kernel) ?_
    exact j_ret (rokI (show decode cJ6_numberOfTrailingZeros_0f7a4 16 = .ok (.ireturn, 1) by decide +kernel) rfl) ⟨rfl, rfl, h⟩
theorem c_J6_numberOfTrailingZeros_0f7a4 {d : Nat} {t : Int} {Q : Int → jM → Prop} {σ : jM} {p0 : Int} (h : (inR (i_and (i_xor p0 (-1)) (p0 - 1))) ∧ ((0 < (i_and (i_xor p0 (-1)) (p0 - 1)) → ((inR (i_and (i_xor p0 (-1)) (p0 - 1))) ∧ (((i_and (i_xor p0 (-1)) (p0 - 1)) ≤ 65536 → ((inR (i_and (i_xor p0 (-1)) (p0 - 1))) ∧ (((i_and (i_xor p0 (-1)) (p0 - 1)) ≤ 256 → ((inR (i_and (i_xor p0 (-1)) (p0 - 1))) ∧ (((i_and (i_xor p0 (-1)) (p0 - 1)) ≤ 16 → ((inR (i_and (i_xor p0 (-1)) (p0 - 1))) ∧ (((i_and (i_xor p0 (-1)) (p0 - 1)) ≤ 4 → (Jt mJ6_numberOfTrailingZeros_0f7a4 (d) 0 t Q 74 [iv (i_and (i_xor p0 (-1)) (p0 - 1)), iv 1] [] σ)) ∧ (4 < (i_and (i_xor p0 (-1)) (p0 - 1)) → (Jt mJ6_numberOfTrailingZeros_0f7a4 (d) 0 t Q 74 [iv (i_ushr (i_and (i_xor p0 (-1)) (p0 - 1)) 2), iv (1 + 2)] [] σ))))) ∧ (16 < (i_and (i_xor p0 (-1)) (p0 - 1)) → ((inR (i_ushr (i_and (i_xor p0 (-1)) (p0 - 1)) 4)) ∧ (((i_ushr (i_and (i_xor p0 (-1)) (p0 - 1)) 4) ≤ 4 → (Jt mJ6_numberOfTrailingZeros_0f7a4 (d) 0 t Q 74 [iv (i_ushr (i_and (i_xor p0 (-1)) (p0 - 1)) 4), iv (1 + 4)] [] σ)) ∧ (4 < (i_ushr (i_and (i_xor p0 (-1)) (p0 - 1)) 4) → (Jt mJ6_numberOfTrailingZeros_0f7a4 (d) 0 t Q 74 [iv (i_ushr (i_ushr (i_and (i_xor p0 (-1)) (p0 - 1)) 4) 2), iv ((1 + 4) + 2)] [] σ)))))))) ∧ (256 < (i_and (i_xor p0 (-1)) (p0 - 1)) → ((inR (i_ushr (i_and (i_xor p0 (-1)) (p0 - 1)) 8)) ∧ (((i_ushr (i_and (i_xor p0 (-1)) (p0 - 1)) 8) ≤ 16 → ((inR (i_ushr (i_and (i_xor p0 (-1)) (p0 - 1)) 8)) ∧ (((i_ushr (i_and (i_xor p0 (-1)) (p0 - 1)) 8) ≤ 4 → (Jt mJ6_numberOfTrailingZeros_0f7a4 (d) 0 t Q 74 [iv (i_ushr (i_and (i_xor p0 (-1)) (p0 - 1)) 8), iv (1 + 8)] [] σ)) ∧ (4 < (i_ushr (i_and (i_xor p0 (-1)) (p0 - 1)) 8) → (Jt mJ6_numberOfTrailingZeros_0f7a4 (d) 0 t Q 74 [iv (i_ushr (i_ushr (i_and (i_xor p0 (-1)) (p0 - 1)) 8) 2), iv ((1 + 8) + 2)] [] σ))))) ∧ (16 < (i_ushr (i_and (i_xor p0 (-1)) (p0 - 1)) 8) → ((inR (i_ushr (i_ushr (i_and (i_xor p0 (-1)) (p0 - 1)) 8) 4)) ∧ (((i_ushr (i_ushr (i_and (i_xor p0 (-1)) (p0 - 1)) 8) 4) ≤ 4 → (Jt mJ6_numberOfTrailingZeros_0f7a4 (d) 0 t Q 74 [iv (i_ushr (i_ushr (i_and (i_xor p0 (-1)) (p0 - 1)) 8) 4), iv ((1 + 8) + 4)] [] σ)) ∧ (4 < (i_ushr (i_ushr (i_and (i_xor p0 (-1)) (p0 - 1)) 8) 4) → (Jt mJ6_numberOfTrailingZeros_0f7a4 (d) 0 t Q 74 [iv (i_ushr (i_ushr (i_ushr (i_and (i_xor p0 (-1)) (p0 - 1)) 8) 4) 2), iv (((1 + 8) + 4) + 2)] [] σ))))))))))) ∧ (65536 < (i_and (i_xor p0 (-1)) (p0 - 1)) → ((inR (i_ushr (i_and (i_xor p0 (-1)) (p0 - 1)) 16)) ∧ (((i_ushr (i_and (i_xor p0 (-1)) (p0 - 1)) 16) ≤ 256 → ((inR (i_ushr (i_and (i_xor p0 (-1)) (p0 - 1)) 16)) ∧ (((i_ushr (i_and (i_xor p0 (-1)) (p0 - 1)) 16) ≤ 16 → ((inR (i_ushr (i_and (i_xor p0 (-1)) (p0 - 1)) 16)) ∧ (((i_ushr (i_and (i_xor p0 (-1)) (p0 - 1)) 16) ≤ 4 → (Jt mJ6_numberOfTrailingZeros_0f7a4 (d) 0 t Q 74 [iv (i_ushr (i_and (i_xor p0 (-1)) (p0 - 1)) 16), iv (1 + 16)] [] σ)) ∧ (4 < (i_ushr (i_and (i_xor p0 (-1)) (p0 - 1)) 16) → (Jt mJ6_numberOfTrailingZeros_0f7a4 (d) 0 t Q 74 [iv (i_ushr (i_ushr (i_and (i_xor p0 (-1)) (p0 - 1)) 16) 2), iv ((1 + 16) + 2)] [] σ))))) ∧ (16 < (i_ushr (i_and (i_xor p0 (-1)) (p0 - 1)) 16) → ((inR (i_ushr (i_ushr (i_and (i_xor p0 (-1)) (p0 - 1)) 16) 4)) ∧ (((i_ushr (i_ushr (i_and (i_xor p0 (-1)) (p0 - 1)) 16) 4) ≤ 4 → (Jt mJ6_numberOfTrailingZeros_0f7a4 (d) 0 t Q 74 [iv (i_ushr (i_ushr (i_and (i_xor p0 (-1)) (p0 - 1)) 16) 4), iv ((1 + 16) + 4)] [] σ)) ∧ (4 < (i_ushr (i_ushr (i_and (i_xor p0 (-1)) (p0 - 1)) 16) 4) → (Jt mJ6_numberOfTrailingZeros_0f7a4 (d) 0 t Q 74 [iv (i_ushr (i_ushr (i_ushr (i_and (i_xor p0 (-1)) (p0 - 1)) 16) 4) 2), iv (((1 + 16) + 4) + 2)] [] σ)))))))) ∧ (256 < (i_ushr (i_and (i_xor p0 (-1)) (p0 - 1)) 16) → ((inR (i_ushr (i_ushr (i_and (i_xor p0 (-1)) (p0 - 1)) 16) 8)) ∧ (((i_ushr (i_ushr (i_and (i_xor p0 (-1)) (p0 - 1)) 16) 8) ≤ 16 → ((inR (i_ushr (i_ushr (i_and (i_xor p0 (-1)) (p0 - 1)) 16) 8)) ∧ (((i_ushr (i_ushr (i_and (i_xor p0 (-1)) (p0 - 1)) 16) 8) ≤ 4 → (Jt mJ6_numberOfTrailingZeros_0f7a4 (d) 0 t Q 74 [iv (i_ushr (i_ushr (i_and (i_xor p0 (-1)) (p0 - 1)) 16) 8), iv ((1 + 16) + 8)] [] σ)) ∧ (4 < (i_ushr (i_ushr (i_and (i_xor p0 (-1)) (p0 - 1)) 16) 8) → (Jt mJ6_numberOfTrailingZeros_0f7a4 (d) 0 t Q 74 [iv (i_ushr (i_ushr (i_ushr (i_and (i_xor p0 (-1)) (p0 - 1)) 16) 8) 2), iv (((1 + 16) + 8) + 2)] [] σ))))) ∧ (16 < (i_ushr (i_ushr (i_and (i_xor p0 (-1)) (p0 - 1)) 16) 8) → ((inR (i_ushr (i_ushr (i_ushr (i_and (i_xor p0 (-1)) (p0 - 1)) 16) 8) 4)) ∧ (((i_ushr (i_ushr (i_ushr (i_and (i_xor p0 (-1)) (p0 - 1)) 16) 8) 4) ≤ 4 → (Jt mJ6_numberOfTrailingZeros_0f7a4 (d) 0 t Q 74 [iv (i_ushr (i_ushr (i_ushr (i_and (i_xor p0 (-1)) (p0 - 1)) 16) 8) 4), iv (((1 + 16) + 8) + 4)] [] σ)) ∧ (4 < (i_ushr (i_ushr (i_ushr (i_and (i_xor p0 (-1)) (p0 - 1)) 16) 8) 4) → (Jt mJ6_numberOfTrailingZeros_0f7a4 (d) 0 t Q 74 [iv (i_ushr (i_ushr (i_ushr (i_ushr (i_and (i_xor p0 (-1)) (p0 - 1)) 16) 8) 4) 2), iv ((((1 + 16) + 8) + 4) + 2)] [] σ)))))))))))))) ∧ ((i_and (i_xor p0 (-1)) (p0 - 1)) ≤ 0 → (Q (i_and (i_and (i_xor p0 (-1)) (p0 - 1)) 32) σ)))) : Ct mJ6_numberOfTrailingZeros_0f7a4 (d) 0 t [iv p0] σ Q := Ct_of (by decide +kernel) (Nat.le_of_ble_eq_true rfl) (b_J6_numberOfTrailingZeros_0f7a4_0 h)
set_option maxRecDepth 4000 in
theorem b_J6_bitCount_0f7a4_0 {d : Nat} {t : Int} {Q : Int → jM → Prop} {σ : jM} {p0 : Int} (h : Q (i_and (((i_and (((i_and (p0 - (i_and (i_ushr p0 1) 1431655765)) 858993459) + (i_and (i_ushr (p0 - (i_and (i_ushr p0 1) 1431655765)) 2) 858993459)) + (i_ushr ((i_and (p0 - (i_and (i_ushr p0 1) 1431655765)) 858993459) + (i_and (i_ushr (p0 - (i_and (i_ushr p0 1) 1431655765)) 2) 858993459)) 4)) 252645135) + (i_ushr (i_and (((i_and (p0 - (i_and (i_ushr p0 1) 1431655765)) 858993459) + (i_and (i_ushr (p0 - (i_and (i_ushr p0 1) 1431655765)) 2) 858993459)) + (i_ushr ((i_and (p0 - (i_and (i_ushr p0 1) 1431655765)) 858993459) + (i_and (i_ushr (p0 - (i_and (i_ushr p0 1) 1431655765)) 2) 858993459)) 4)) 252645135) 8)) + (i_ushr ((i_and (((i_and (p0 - (i_and (i_ushr p0 1) 1431655765)) 858993459) + (i_and (i_ushr (p0 - (i_and (i_ushr p0 1) 1431655765)) 2) 858993459)) + (i_ushr ((i_and (p0 - (i_and (i_ushr p0 1) 1431655765)) 858993459) + (i_and (i_ushr (p0 - (i_and (i_ushr p0 1) 1431655765)) 2) 858993459)) 4)) 252645135) + (i_ushr (i_and (((i_and (p0 - (i_and (i_ushr p0 1) 1431655765)) 858993459) + (i_and (i_ushr (p0 - (i_and (i_ushr p0 1) 1431655765)) 2) 858993459)) + (i_ushr ((i_and (p0 - (i_and (i_ushr p0 1) 1431655765)) 858993459) + (i_and (i_ushr (p0 - (i_and (i_ushr p0 1) 1431655765)) 2) 858993459)) 4)) 252645135) 8)) 16)) 63) σ) : Jt mJ6_bitCount_0f7a4 (d) 0 t Q 0 [iv p0] [] σ := by
  refine j_iload_n (i := 0) rfl (show decode cJ6_bitCount_0f7a4 0 = .ok (.iload_n 0, 1) by decide +kernel) ?_
  refine j_iload_n (i := 0) rfl (show decode cJ6_bitCount_0f7a4 1 = .ok (.iload_n 0, 1) by decide +kernel) ?_
  refine j_iconst (show decode cJ6_bitCount_0f7a4 2 = .ok (.iconst 1, 1) by decide +kernel) ?_
  refine j_iushr (show decode cJ6_bitCount_0f7a4 3 = .ok (.iushr, 1) by decide +kernel) ?_
  refine j_ldcw (x := 1431655765) (tt_in 801 (by decide +kernel) rfl) (show decode cJ6_bitCount_0f7a4 4 = .ok (.ldc_w 265, 3) by decide +kernel) ?_
  refine j_iand (show decode cJ6_bitCount_0f7a4 7 = .ok (.iand, 1) by decide +kernel) ?_
  refine j_isub (show decode cJ6_bitCount_0f7a4 8 = .ok (.isub, 1) by decide +kernel) ?_
  refine s_ist_n (i := 0) (L' := [iv (p0 - (i_and (i_ushr p0 1) 1431655765))]) rfl (by decide) (show decode cJ6_bitCount_0f7a4 9 = .ok (.istore_n 0, 1) by decide +kernel) ?_
  refine j_iload_n (i := 0) rfl (show decode cJ6_bitCount_0f7a4 10 = .ok (.iload_n 0, 1) by decide +kernel) ?_
  refine j_ldcw (x := 858993459) (tt_in 802 (by decide +kernel) rfl) (show decode cJ6_bitCount_0f7a4 11 = .ok (.ldc_w 266, 3) by decide +kernel) ?_
  refine j_iand (show decode cJ6_bitCount_0f7a4 14 = .ok (.iand, 1) by decide +kernel) ?_
  refine j_iload_n (i := 0) rfl (show decode cJ6_bitCount_0f7a4 15 = .ok (.iload_n 0, 1) by decide +kernel) ?_
  refine j_iconst (show decode cJ6_bitCount_0f7a4 16 = .ok (.iconst 2, 1) by decide +kernel) ?_
  refine j_iushr (show decode cJ6_bitCount_0f7a4 17 = .ok (.iushr, 1) by decide +kernel) ?_
  refine j_ldcw (x := 858993459) (tt_in 802 (by decide +kernel) rfl) (show decode cJ6_bitCount_0f7a4 18 = .ok (.ldc_w 266, 3) by decide +kernel) ?_
  refine j_iand (show decode cJ6_bitCount_0f7a4 21 = .ok (.iand, 1) by decide +kernel) ?_
  refine j_iadd (show decode cJ6_bitCount_0f7a4 22 = .ok (.iadd, 1) by decide +kernel) ?_
  refine s_ist_n (i := 0) (L' := [iv ((i_and (p0 - (i_and (i_ushr p0 1) 1431655765)) 858993459) + (i_and (i_ushr (p0 - (i_and (i_ushr p0 1) 1431655765)) 2) 858993459))]) rfl (by decide) (show decode cJ6_bitCount_0f7a4 23 = .ok (.istore_n 0, 1) by decide +kernel) ?_
  refine j_iload_n (i := 0) rfl (show decode cJ6_bitCount_0f7a4 24 = .ok (.iload_n 0, 1) by decide +kernel) ?_
  refine j_iload_n (i := 0) rfl (show decode cJ6_bitCount_0f7a4 25 = .ok (.iload_n 0, 1) by decide +kernel) ?_
  refine j_iconst (show decode cJ6_bitCount_0f7a4 26 = .ok (.iconst 4, 1) by decide +kernel) ?_
  refine j_iushr (show decode cJ6_bitCount_0f7a4 27 = .ok (.iushr, 1) by decide +kernel) ?_
  refine j_iadd (show decode cJ6_bitCount_0f7a4 28 = .ok (.iadd, 1) by decide +kernel) ?_
  refine j_ldcw (x := 252645135) (tt_in 803 (by decide +kernel) rfl) (show decode cJ6_bitCount_0f7a4 29 = .ok (.ldc_w 267, 3) by decide +kernel) ?_
  refine j_iand (show decode cJ6_bitCount_0f7a4 32 = .ok (.iand, 1) by decide +kernel) ?_
  refine s_ist_n (i := 0) (L' := [iv (i_and (((i_and (p0 - (i_and (i_ushr p0 1) 1431655765)) 858993459) + (i_and (i_ushr (p0 - (i_and (i_ushr p0 1) 1431655765)) 2) 858993459)) + (i_ushr ((i_and (p0 - (i_and (i_ushr p0 1) 1431655765)) 858993459) + (i_and (i_ushr (p0 - (i_and (i_ushr p0 1) 1431655765)) 2) 858993459)) 4)) 252645135)]) rfl (by decide) (show decode cJ6_bitCount_0f7a4 33 = .ok (.istore_n 0, 1) by decide +kernel) ?_
  refine j_iload_n (i := 0) rfl (show decode cJ6_bitCount_0f7a4 34 = .ok (.iload_n 0, 1) by decide +kernel) ?_
  refine j_iload_n (i := 0) rfl (show decode cJ6_bitCount_0f7a4 35 = .ok (.iload_n 0, 1) by decide +kernel) ?_
  refine j_bipush (n := 8) (by decide +kernel) (show decode cJ6_bitCount_0f7a4 36 = .ok (.bipush 8, 2) by decide +kernel) ?_
  refine j_iushr (show decode cJ6_bitCount_0f7a4 38 = .ok (.iushr, 1) by decide +kernel) ?_
  refine j_iadd (show decode cJ6_bitCount_0f7a4 39 = .ok (.iadd, 1) by decide +kernel) ?_
  refine s_ist_n (i := 0) (L' := [iv ((i_and (((i_and (p0 - (i_and (i_ushr p0 1) 1431655765)) 858993459) + (i_and (i_ushr (p0 - (i_and (i_ushr p0 1) 1431655765)) 2) 858993459)) + (i_ushr ((i_and (p0 - (i_and (i_ushr p0 1) 1431655765)) 858993459) + (i_and (i_ushr (p0 - (i_and (i_ushr p0 1) 1431655765)) 2) 858993459)) 4)) 252645135) + (i_ushr (i_and (((i_and (p0 - (i_and (i_ushr p0 1) 1431655765)) 858993459) + (i_and (i_ushr (p0 - (i_and (i_ushr p0 1) 1431655765)) 2) 858993459)) + (i_ushr ((i_and (p0 - (i_and (i_ushr p0 1) 1431655765)) 858993459) + (i_and (i_ushr (p0 - (i_and (i_ushr p0 1) 1431655765)) 2) 858993459)) 4)) 252645135) 8))]) rfl (by decide) (show decode cJ6_bitCount_0f7a4 40 = .ok (.istore_n 0, 1) by decide +kernel) ?_
  refine j_iload_n (i := 0) rfl (show decode cJ6_bitCount_0f7a4 41 = .ok (.iload_n 0, 1) by decide +kernel) ?_
  refine j_iload_n (i := 0) rfl (show decode cJ6_bitCount_0f7a4 42 = .ok (.iload_n 0, 1) by decide +kernel) ?_
  refine j_bipush (n := 16) (by decide +kernel) (show decode cJ6_bitCount_0f7a4 43 = .ok (.bipush 16, 2) by decide +kernel) ?_
  refine j_iushr (show decode cJ6_bitCount_0f7a4 45 = .ok (.iushr, 1) by decide +kernel) ?_
  refine j_iadd (show decode cJ6_bitCount_0f7a4 46 = .ok (.iadd, 1) by decide +kernel) ?_
  refine s_ist_n (i := 0) (L' := [iv (((i_and (((i_and (p0 - (i_and (i_ushr p0 1) 1431655765)) 858993459) + (i_and (i_ushr (p0 - (i_and (i_ushr p0 1) 1431655765)) 2) 858993459)) + (i_ushr ((i_and (p0 - (i_and (i_ushr p0 1) 1431655765)) 858993459) + (i_and (i_ushr (p0 - (i_and (i_ushr p0 1) 1431655765)) 2) 858993459)) 4)) 252645135) + (i_ushr (i_and (((i_and (p0 - (i_and (i_ushr p0 1) 1431655765)) 858993459) + (i_and (i_ushr (p0 - (i_and (i_ushr p0 1) 1431655765)) 2) 858993459)) + (i_ushr ((i_and (p0 - (i_and (i_ushr p0 1) 1431655765)) 858993459) + (i_and (i_ushr (p0 - (i_and (i_ushr p0 1) 1431655765)) 2) 858993459)) 4)) 252645135) 8)) + (i_ushr ((i_and (((i_and (p0 - (i_and (i_ushr p0 1) 1431655765)) 858993459) + (i_and (i_ushr (p0 - (i_and (i_ushr p0 1) 1431655765)) 2) 858993459)) + (i_ushr ((i_and (p0 - (i_and (i_ushr p0 1) 1431655765)) 858993459) + (i_and (i_ushr (p0 - (i_and (i_ushr p0 1) 1431655765)) 2) 858993459)) 4)) 252645135) + (i_ushr (i_and (((i_and (p0 - (i_and (i_ushr p0 1) 1431655765)) 858993459) + (i_and (i_ushr (p0 - (i_and (i_ushr p0 1) 1431655765)) 2) 858993459)) + (i_ushr ((i_and (p0 - (i_and (i_ushr p0 1) 1431655765)) 858993459) + (i_and (i_ushr (p0 - (i_and (i_ushr p0 1) 1431655765)) 2) 858993459)) 4)) 252645135) 8)) 16))]) rfl (by decide) (show decode cJ6_bitCount_0f7a4 47 = .ok (.istore_n 0, 1) by decide +kernel) ?_
  refine j_iload_n (i := 0) rfl (show decode cJ6_bitCount_0f7a4 48 = .ok (.iload_n 0, 1) by decide +kernel) ?_
  refine j_bipush (n := 63) (by decide +kernel) (show decode cJ6_bitCount_0f7a4 49 = .ok (.bipush 63, 2) by decide +kernel) ?_
  refine j_iand (show decode cJ6_bitCount_0f7a4 51 = .ok (.iand, 1) by decide +kernel) ?_
  exact j_ret (rokI (show decode cJ6_bitCount_0f7a4 52 = .ok (.ireturn, 1) by decide +kernel) rfl) ⟨rfl, rfl, h⟩
theorem c_J6_bitCount_0f7a4 {d : Nat} {t : Int} {Q : Int → jM → Prop} {σ : jM} {p0 : Int} (h : Q (i_and (((i_and (((i_and (p0 - (i_and (i_ushr p0 1) 1431655765)) 858993459) + (i_and (i_ushr (p0 - (i_and (i_ushr p0 1) 1431655765)) 2) 858993459)) + (i_ushr ((i_and (p0 - (i_and (i_ushr p0 1) 1431655765)) 858993459) + (i_and (i_ushr (p0 - (i_and (i_ushr p0 1) 1431655765)) 2) 858993459)) 4)) 252645135) + (i_ushr (i_and (((i_and (p0 - (i_and (i_ushr p0 1) 1431655765)) 858993459) + (i_and (i_ushr (p0 - (i_and (i_ushr p0 1) 1431655765)) 2) 858993459)) + (i_ushr ((i_and (p0 - (i_and (i_ushr p0 1) 1431655765)) 858993459) + (i_and (i_ushr (p0 - (i_and (i_ushr p0 1) 1431655765)) 2) 858993459)) 4)) 252645135) 8)) + (i_ushr ((i_and (((i_and (p0 - (i_and (i_ushr p0 1) 1431655765)) 858993459) + (i_and (i_ushr (p0 - (i_and (i_ushr p0 1) 1431655765)) 2) 858993459)) + (i_ushr ((i_and (p0 - (i_and (i_ushr p0 1) 1431655765)) 858993459) + (i_and (i_ushr (p0 - (i_and (i_ushr p0 1) 1431655765)) 2) 858993459)) 4)) 252645135) + (i_ushr (i_and (((i_and (p0 - (i_and (i_ushr p0 1) 1431655765)) 858993459) + (i_and (i_ushr (p0 - (i_and (i_ushr p0 1) 1431655765)) 2) 858993459)) + (i_ushr ((i_and (p0 - (i_and (i_ushr p0 1) 1431655765)) 858993459) + (i_and (i_ushr (p0 - (i_and (i_ushr p0 1) 1431655765)) 2) 858993459)) 4)) 252645135) 8)) 16)) 63) σ) : Ct mJ6_bitCount_0f7a4 (d) 0 t [iv p0] σ Q := Ct_of (by decide +kernel) (Nat.le_of_ble_eq_true rfl) (b_J6_bitCount_0f7a4_0 h)
set_option maxRecDepth 4000 in
theorem b_J13_numberOfTrailingZeros_95d88_0 {d : Nat} {t : Int} {Q : Int → jM → Prop} {σ : jM} {p0 : Int} (h : (inR p0) ∧ ((¬ p0 = 0 → (Ct mJ6_numberOfTrailingZeros_0f7a4 d 0 t [iv p0] σ (fun r2 σ2 => (Q r2 σ2)))) ∧ (p0 = 0 → (Ct mJ6_numberOfTrailingZeros_0f7a4 d 0 t [iv (l_ushr p0 32)] σ (fun r3 σ3 => (Q (32 + r3) σ3)))))) : Jt mJ13_numberOfTrailingZeros_95d88 (d + 1) 0 t Q 0 [jv p0, uv, uv] [] σ := by
  refine j_lload_n (i := 0) rfl (show decode cJ13_numberOfTrailingZeros_95d88 0 = .ok (.lload_n 0, 1) by decide +kernel) ?_
  refine j_l2i (show decode cJ13_numberOfTrailingZeros_95d88 1 = .ok (.l2i, 1) by decide +kernel) ?_
  refine s_ist_n (i := 2) (L' := [jv p0, uv, iv p0]) rfl (by decide) (show decode cJ13_numberOfTrailingZeros_95d88 2 = .ok (.istore_n 2, 1) by decide +kernel) ?_
  refine j_iload_n (i := 2) rfl (show decode cJ13_numberOfTrailingZeros_95d88 3 = .ok (.iload_n 2, 1) by decide +kernel) ?_
  have hr0 := h.1
  have h := h.2
  refine j_if_ne (tgt := 21) hr0 (show decode cJ13_numberOfTrailingZeros_95d88 4 = .ok (.ifCond .ne 17, 3) by decide +kernel) (by decide) (fun c => ?_) (fun c => ?_)
  · have h := h.1 c
    refine j_iload_n (i := 2) rfl (show decode cJ13_numberOfTrailingZeros_95d88 21 = .ok (.iload_n 2, 1) by decide +kernel) ?_
    refine j_ctS (m' := mJ6_numberOfTrailingZeros_0f7a4) (As := [iv p0]) (tag := 0) (cw_J13_311 rfl) (show decode cJ13_numberOfTrailingZeros_95d88 22 = .ok (.invokestatic 311, 3) by decide +kernel) rfl (Nat.le_of_ble_eq_true rfl) (by decide) (Nat.le_refl _) h (fun r2 σ2 h => ?_)
    exact j_ret (rokI (show decode cJ13_numberOfTrailingZeros_95d88 25 = .ok (.ireturn, 1) by decide +kernel) rfl) ⟨rfl, rfl, h⟩
  · have h := h.2 c
    refine j_bipush (n := 32) (by decide +kernel) (show decode cJ13_numberOfTrailingZeros_95d88 7 = .ok (.bipush 32, 2) by decide +kernel) ?_
    refine j_lload_n (i := 0) rfl (show decode cJ13_numberOfTrailingZeros_95d88 9 = .ok (.lload_n 0, 1) by decide +kernel) ?_
    refine j_bipush (n := 32) (by decide +kernel) (show decode cJ13_numberOfTrailingZeros_95d88 10 = .ok (.bipush 32, 2) by decide +kernel) ?_
    refine j_lushr (show decode cJ13_numberOfTrailingZeros_95d88 12 = .ok (.lushr, 1) by decide +kernel) ?_
    refine j_l2i (show decode cJ13_numberOfTrailingZeros_95d88 13 = .ok (.l2i, 1) by decide +kernel) ?_
    refine j_ctS (m' := mJ6_numberOfTrailingZeros_0f7a4) (As := [iv (l_ushr p0 32)]) (tag := 0) (cw_J13_311 rfl) (show decode cJ13_numberOfTrailingZeros_95d88 14 = .ok (.invokestatic 311, 3) by decide +kernel) rfl (Nat.le_of_ble_eq_true rfl) (by decide) (Nat.le_refl _) h (fun r3 σ3 h => ?_)
    refine j_iadd (show decode cJ13_numberOfTrailingZeros_95d88 17 = .ok (.iadd, 1) by decide +kernel) ?_
    refine j_goto (tgt := 25) (show decode cJ13_numberOfTrailingZeros_95d88 18 = .ok (.goto 7, 3) by decide +kernel) (by decide) ?_
    exact j_ret (rokI (show decode cJ13_numberOfTrailingZeros_95d88 25 = .ok (.ireturn, 1) by decide +kernel) rfl) ⟨rfl, rfl, h⟩
theorem c_J13_numberOfTrailingZeros_95d88 {d : Nat} {t : Int} {Q : Int → jM → Prop} {σ : jM} {p0 : Int} (h : (inR p0) ∧ ((¬ p0 = 0 → (Ct mJ6_numberOfTrailingZeros_0f7a4 d 0 t [iv p0] σ (fun r2 σ2 => (Q r2 σ2)))) ∧ (p0 = 0 → (Ct mJ6_numberOfTrailingZeros_0f7a4 d 0 t [iv (l_ushr p0 32)] σ (fun r3 σ3 => (Q (32 + r3) σ3)))))) : Ct mJ13_numberOfTrailingZeros_95d88 (d + 1) 0 t [jv p0] σ Q := Ct_of (by decide +kernel) (Nat.le_of_ble_eq_true rfl) (b_J13_numberOfTrailingZeros_95d88_0 h)
