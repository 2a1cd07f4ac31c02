/-! ===== walks (printed by wip/whole/gen_blocks.py) ===== -/
set_option maxRecDepth 4000 in
theorem b_X12_ofOne_0 {d : Nat} {t : Int} {Q : Int → jM → Prop} {σ : jM} {p1 p2 : Int} (h : (inR p1) ∧ ((¬ p1 = 5 → ((inR p1) ∧ ((¬ p1 = 4 → (Ct mX12_held d 0 t [jv (2 * p2), iv (-1000000), iv 1000000] σ (fun r3 σ3 => ((inR r3) ∧ (Q r3 σ3))))) ∧ (p1 = 4 → ((inL p2) ∧ ((p2 < 0 → (Q 0 σ)) ∧ (0 ≤ p2 → ((inL p2) ∧ ((8 ≤ p2 → (Q 0 σ)) ∧ (p2 < 8 → (((0 : Int) ≤ (10 + p2) ∧ (10 + p2) < 2208) ∧ ((inR (σ 322 (10 + p2))) ∧ (Q (σ 322 (10 + p2)) σ))))))))))))) ∧ (p1 = 5 → (Q (-p2) σ)))) : Jt mX12_ofOne (d + 1) 1 t Q 0 [rv 321, iv p1, jv p2, uv] [] σ := by
  refine j_iload_n (i := 1) rfl (show decode cX12_ofOne 0 = .ok (.iload_n 1, 1) by decide +kernel) ?_
  refine j_iconst (show decode cX12_ofOne 1 = .ok (.iconst 5, 1) by decide +kernel) ?_
  have hr0 := h.1
  have h := h.2
  refine j_icmp_ne (tgt := 8) hr0 (inl (by decide)) (show decode cX12_ofOne 2 = .ok (.if_icmp .ne 6, 3) by decide +kernel) (by decide) (fun c => ?_) (fun c => ?_)
  · have h := h.1 c
    refine j_iload_n (i := 1) rfl (show decode cX12_ofOne 8 = .ok (.iload_n 1, 1) by decide +kernel) ?_
    refine j_iconst (show decode cX12_ofOne 9 = .ok (.iconst 4, 1) by decide +kernel) ?_
    have hr1 := h.1
    have h := h.2
    refine j_icmp_ne (tgt := 43) hr1 (inl (by decide)) (show decode cX12_ofOne 10 = .ok (.if_icmp .ne 33, 3) by decide +kernel) (by decide) (fun c => ?_) (fun c => ?_)
    · have h := h.1 c
      refine j_ldc2 (x := 2) (tt_in 1585 (by decide +kernel) rfl) (show decode cX12_ofOne 43 = .ok (.ldc2_w 271, 3) by decide +kernel) ?_
      refine j_lload_n (i := 2) rfl (show decode cX12_ofOne 46 = .ok (.lload_n 2, 1) by decide +kernel) ?_
      refine j_lmul (show decode cX12_ofOne 47 = .ok (.lmul, 1) by decide +kernel) ?_
      refine j_ldcw (x := -1000000) (tt_in 1586 (by decide +kernel) rfl) (show decode cX12_ofOne 48 = .ok (.ldc_w 273, 3) by decide +kernel) ?_
      refine j_ldcw (x := 1000000) (tt_in 1587 (by decide +kernel) rfl) (show decode cX12_ofOne 51 = .ok (.ldc_w 274, 3) by decide +kernel) ?_
      refine j_ctS (m' := mX12_held) (As := [jv (2 * p2), iv (-1000000), iv 1000000]) (tag := 0) (cw_X12_275 rfl) (show decode cX12_ofOne 54 = .ok (.invokestatic 275, 3) by decide +kernel) rfl (Nat.le_of_ble_eq_true rfl) (by decide) (Nat.le_refl _) h (fun r3 σ3 h => ?_)
      have hr3 := h.1
      have h := h.2
      refine j_i2l hr3 (show decode cX12_ofOne 57 = .ok (.i2l, 1) by decide +kernel) ?_
      exact j_ret (rokL (show decode cX12_ofOne 58 = .ok (.lreturn, 1) by decide +kernel) rfl) ⟨rfl, rfl, h⟩
    · have h := h.2 c
      refine j_lload_n (i := 2) rfl (show decode cX12_ofOne 13 = .ok (.lload_n 2, 1) by decide +kernel) ?_
      refine j_lconst (x := 0) (by decide +kernel) (show decode cX12_ofOne 14 = .ok (.lconst 0, 1) by decide +kernel) ?_
      have hr4 := h.1
      have h := h.2
      refine s_lif_lt (tgt := 41) hr4 (inll (by decide)) (show decode cX12_ofOne 15 = .ok (.lcmp, 1) by decide +kernel) (show decode cX12_ofOne 16 = .ok (.ifCond .lt 25, 3) by decide +kernel) (by decide) (fun c => ?_) (fun c => ?_)
      · have h := h.1 c
        refine j_lconst (x := 0) (by decide +kernel) (show decode cX12_ofOne 41 = .ok (.lconst 0, 1) by decide +kernel) ?_
        exact j_ret (rokL (show decode cX12_ofOne 42 = .ok (.lreturn, 1) by decide +kernel) rfl) ⟨rfl, rfl, h⟩
      · have h := h.2 c
        refine j_lload_n (i := 2) rfl (show decode cX12_ofOne 19 = .ok (.lload_n 2, 1) by decide +kernel) ?_
        refine j_ldc2 (x := 8) (tt_in 1584 (by decide +kernel) rfl) (show decode cX12_ofOne 20 = .ok (.ldc2_w 269, 3) by decide +kernel) ?_
        have hr5 := h.1
        have h := h.2
        refine s_lif_ge (tgt := 41) hr5 (inll (by decide)) (show decode cX12_ofOne 23 = .ok (.lcmp, 1) by decide +kernel) (show decode cX12_ofOne 24 = .ok (.ifCond .ge 17, 3) by decide +kernel) (by decide) (fun c => ?_) (fun c => ?_)
        · have h := h.1 c
          refine j_lconst (x := 0) (by decide +kernel) (show decode cX12_ofOne 41 = .ok (.lconst 0, 1) by decide +kernel) ?_
          exact j_ret (rokL (show decode cX12_ofOne 42 = .ok (.lreturn, 1) by decide +kernel) rfl) ⟨rfl, rfl, h⟩
        · have h := h.2 c
          refine s_aload_n (i := 0) rfl (show decode cX12_ofOne 27 = .ok (.aload_n 0, 1) by decide +kernel) ?_
          refine gf_X12_7 (x := 322) rfl (show decode cX12_ofOne 28 = .ok (.getfield 7, 3) by decide +kernel) okl_321 rfl ?_
          refine j_bipush (n := 10) (by decide +kernel) (show decode cX12_ofOne 31 = .ok (.bipush 10, 2) by decide +kernel) ?_
          refine j_lload_n (i := 2) rfl (show decode cX12_ofOne 33 = .ok (.lload_n 2, 1) by decide +kernel) ?_
          refine j_l2i (show decode cX12_ofOne 34 = .ok (.l2i, 1) by decide +kernel) ?_
          refine j_iadd (show decode cX12_ofOne 35 = .ok (.iadd, 1) by decide +kernel) ?_
          refine s_iald (show decode cX12_ofOne 36 = .ok (.iaload, 1) by decide +kernel) okl_322 h.1 ?_
          have h := h.2
          have hr6 := h.1
          have h := h.2
          refine j_i2l hr6 (show decode cX12_ofOne 37 = .ok (.i2l, 1) by decide +kernel) ?_
          refine j_goto (tgt := 42) (show decode cX12_ofOne 38 = .ok (.goto 4, 3) by decide +kernel) (by decide) ?_
          exact j_ret (rokL (show decode cX12_ofOne 42 = .ok (.lreturn, 1) by decide +kernel) rfl) ⟨rfl, rfl, h⟩
  · have h := h.2 c
    refine j_lload_n (i := 2) rfl (show decode cX12_ofOne 5 = .ok (.lload_n 2, 1) by decide +kernel) ?_
    refine j_lneg (show decode cX12_ofOne 6 = .ok (.lneg, 1) by decide +kernel) ?_
    exact j_ret (rokL (show decode cX12_ofOne 7 = .ok (.lreturn, 1) by decide +kernel) rfl) ⟨rfl, rfl, h⟩
theorem c_X12_ofOne {d : Nat} {t : Int} {Q : Int → jM → Prop} {σ : jM} {p1 p2 : Int} (h : (inR p1) ∧ ((¬ p1 = 5 → ((inR p1) ∧ ((¬ p1 = 4 → (Ct mX12_held d 0 t [jv (2 * p2), iv (-1000000), iv 1000000] σ (fun r3 σ3 => ((inR r3) ∧ (Q r3 σ3))))) ∧ (p1 = 4 → ((inL p2) ∧ ((p2 < 0 → (Q 0 σ)) ∧ (0 ≤ p2 → ((inL p2) ∧ ((8 ≤ p2 → (Q 0 σ)) ∧ (p2 < 8 → (((0 : Int) ≤ (10 + p2) ∧ (10 + p2) < 2208) ∧ ((inR (σ 322 (10 + p2))) ∧ (Q (σ 322 (10 + p2)) σ))))))))))))) ∧ (p1 = 5 → (Q (-p2) σ)))) : Ct mX12_ofOne (d + 1) 1 t [rv 321, iv p1, jv p2] σ Q := Ct_of (by decide +kernel) (Nat.le_of_ble_eq_true rfl) (b_X12_ofOne_0 h)
set_option maxRecDepth 4000 in
theorem b_X12_joined_0 {d : Nat} {t : Int} {Q : Int → jM → Prop} {σ : jM} {p0 p1 p2 : Int} (h : (inR p0) ∧ ((¬ p0 = 21 → ((inR p1) ∧ ((¬ p1 = 0 → (Q 1 σ)) ∧ (p1 = 0 → ((inR p2) ∧ ((p2 = 0 → (Q 0 σ)) ∧ (¬ p2 = 0 → (Q 1 σ)))))))) ∧ (p0 = 21 → ((inR p1) ∧ ((p1 = 0 → (Q 0 σ)) ∧ (¬ p1 = 0 → ((inR p2) ∧ ((p2 = 0 → (Q 0 σ)) ∧ (¬ p2 = 0 → (Q 1 σ)))))))))) : Jt mX12_joined (d) 0 t Q 0 [iv p0, iv p1, iv p2] [] σ := by
  refine j_iload_n (i := 0) rfl (show decode cX12_joined 0 = .ok (.iload_n 0, 1) by decide +kernel) ?_
  refine j_bipush (n := 21) (by decide +kernel) (show decode cX12_joined 1 = .ok (.bipush 21, 2) by decide +kernel) ?_
  have hr0 := h.1
  have h := h.2
  refine j_icmp_ne (tgt := 22) hr0 (inl (by decide)) (show decode cX12_joined 3 = .ok (.if_icmp .ne 19, 3) by decide +kernel) (by decide) (fun c => ?_) (fun c => ?_)
  · have h := h.1 c
    refine j_iload_n (i := 1) rfl (show decode cX12_joined 22 = .ok (.iload_n 1, 1) by decide +kernel) ?_
    have hr1 := h.1
    have h := h.2
    refine j_if_ne (tgt := 30) hr1 (show decode cX12_joined 23 = .ok (.ifCond .ne 7, 3) by decide +kernel) (by decide) (fun c => ?_) (fun c => ?_)
    · have h := h.1 c
      refine j_iconst (show decode cX12_joined 30 = .ok (.iconst 1, 1) by decide +kernel) ?_
      refine j_goto (tgt := 35) (show decode cX12_joined 31 = .ok (.goto 4, 3) by decide +kernel) (by decide) ?_
      exact j_ret (rokZ (show decode cX12_joined 35 = .ok (.ireturn, 1) by decide +kernel) rfl (Or.inr rfl)) ⟨rfl, rfl, h⟩
    · have h := h.2 c
      refine j_iload_n (i := 2) rfl (show decode cX12_joined 26 = .ok (.iload_n 2, 1) by decide +kernel) ?_
      have hr2 := h.1
      have h := h.2
      refine j_if_eq (tgt := 34) hr2 (show decode cX12_joined 27 = .ok (.ifCond .eq 7, 3) by decide +kernel) (by decide) (fun c => ?_) (fun c => ?_)
      · have h := h.1 c
        refine j_iconst (show decode cX12_joined 34 = .ok (.iconst 0, 1) by decide +kernel) ?_
        exact j_ret (rokZ (show decode cX12_joined 35 = .ok (.ireturn, 1) by decide +kernel) rfl (Or.inl rfl)) ⟨rfl, rfl, h⟩
      · have h := h.2 c
        refine j_iconst (show decode cX12_joined 30 = .ok (.iconst 1, 1) by decide +kernel) ?_
        refine j_goto (tgt := 35) (show decode cX12_joined 31 = .ok (.goto 4, 3) by decide +kernel) (by decide) ?_
        exact j_ret (rokZ (show decode cX12_joined 35 = .ok (.ireturn, 1) by decide +kernel) rfl (Or.inr rfl)) ⟨rfl, rfl, h⟩
  · have h := h.2 c
    refine j_iload_n (i := 1) rfl (show decode cX12_joined 6 = .ok (.iload_n 1, 1) by decide +kernel) ?_
    have hr3 := h.1
    have h := h.2
    refine j_if_eq (tgt := 18) hr3 (show decode cX12_joined 7 = .ok (.ifCond .eq 11, 3) by decide +kernel) (by decide) (fun c => ?_) (fun c => ?_)
    · have h := h.1 c
      refine j_iconst (show decode cX12_joined 18 = .ok (.iconst 0, 1) by decide +kernel) ?_
      refine j_goto (tgt := 35) (show decode cX12_joined 19 = .ok (.goto 16, 3) by decide +kernel) (by decide) ?_
      exact j_ret (rokZ (show decode cX12_joined 35 = .ok (.ireturn, 1) by decide +kernel) rfl (Or.inl rfl)) ⟨rfl, rfl, h⟩
    · have h := h.2 c
      refine j_iload_n (i := 2) rfl (show decode cX12_joined 10 = .ok (.iload_n 2, 1) by decide +kernel) ?_
      have hr4 := h.1
      have h := h.2
      refine j_if_eq (tgt := 18) hr4 (show decode cX12_joined 11 = .ok (.ifCond .eq 7, 3) by decide +kernel) (by decide) (fun c => ?_) (fun c => ?_)
      · have h := h.1 c
        refine j_iconst (show decode cX12_joined 18 = .ok (.iconst 0, 1) by decide +kernel) ?_
        refine j_goto (tgt := 35) (show decode cX12_joined 19 = .ok (.goto 16, 3) by decide +kernel) (by decide) ?_
        exact j_ret (rokZ (show decode cX12_joined 35 = .ok (.ireturn, 1) by decide +kernel) rfl (Or.inl rfl)) ⟨rfl, rfl, h⟩
      · have h := h.2 c
        refine j_iconst (show decode cX12_joined 14 = .ok (.iconst 1, 1) by decide +kernel) ?_
        refine j_goto (tgt := 35) (show decode cX12_joined 15 = .ok (.goto 20, 3) by decide +kernel) (by decide) ?_
        exact j_ret (rokZ (show decode cX12_joined 35 = .ok (.ireturn, 1) by decide +kernel) rfl (Or.inr rfl)) ⟨rfl, rfl, h⟩
theorem c_X12_joined {d : Nat} {t : Int} {Q : Int → jM → Prop} {σ : jM} {p0 p1 p2 : Int} (h : (inR p0) ∧ ((¬ p0 = 21 → ((inR p1) ∧ ((¬ p1 = 0 → (Q 1 σ)) ∧ (p1 = 0 → ((inR p2) ∧ ((p2 = 0 → (Q 0 σ)) ∧ (¬ p2 = 0 → (Q 1 σ)))))))) ∧ (p0 = 21 → ((inR p1) ∧ ((p1 = 0 → (Q 0 σ)) ∧ (¬ p1 = 0 → ((inR p2) ∧ ((p2 = 0 → (Q 0 σ)) ∧ (¬ p2 = 0 → (Q 1 σ)))))))))) : Ct mX12_joined (d) 0 t [iv p0, iv p1, iv p2] σ Q := Ct_of (by decide +kernel) (Nat.le_of_ble_eq_true rfl) (b_X12_joined_0 h)
set_option maxRecDepth 4000 in
theorem b_X12_summedUp_349 {d : Nat} {t : Int} {Q : Int → jM → Prop} {σ : jM} {p1 p2 v3 v4 v5 v6 v7 v8 v9 : Int} (h : Jt mX12_summedUp (d + 1) 1 t Q 38 [rv 321, iv p1, iv p2, iv v3, iv v4, iv v5, iv v6, iv (v7 + 1), uv, uv] [] σ) : Jt mX12_summedUp (d + 1) 1 t Q 349 [rv 321, iv p1, iv p2, iv v3, iv v4, iv v5, iv v6, iv v7, iv v8, iv v9] [] σ := by
  refine s_iinc (i := 7) rfl (L' := [rv 321, iv p1, iv p2, iv v3, iv v4, iv v5, iv v6, iv (v7 + 1), iv v8, iv v9]) rfl (show decode cX12_summedUp 349 = .ok (.iinc 7 1, 3) by decide +kernel) ?_
  refine j_goto (tgt := 38) (show decode cX12_summedUp 352 = .ok (.goto (-314), 3) by decide +kernel) (by decide) ?_
  refine j_drop 8 ?_
  refine j_drop 9 ?_
  exact h
set_option maxRecDepth 4000 in
theorem b_X12_summedUp_312 {d : Nat} {t : Int} {Q : Int → jM → Prop} {σ : jM} {p1 p2 v3 v4 v5 v6 v7 v8 v9 u0 u1 : Int} (h : ((0 : Int) ≤ u1 ∧ u1 < 330) ∧ ((u0 = 0 ∨ u0 = 1) ∧ (∀ σ3 : jM, σ3 = up σ 329 u1 u0 → (Jt mX12_summedUp (d + 1) 1 t Q 349 [rv 321, iv p1, iv p2, iv v3, iv v4, iv v5, iv v6, iv v7, iv v8, iv v9] [] σ3)))) : Jt mX12_summedUp (d + 1) 1 t Q 312 [rv 321, iv p1, iv p2, iv v3, iv v4, iv v5, iv v6, iv v7, iv v8, iv v9] [iv u0, iv u1, rv 329] σ := by
  have hb0 := h.1
  have h := h.2
  have hz1 := h.1
  have h := h.2
  refine s_zast (show decode cX12_summedUp 312 = .ok (.bastore, 1) by decide +kernel) okl_329 hb0 hz1 ?_
  obtain ⟨σ3, eσ3⟩ : ∃ z : jM, z = up σ 329 u1 u0 := ⟨_, rfl⟩
  refine j_sig eσ3 ?_
  have h := h σ3 eσ3
  refine j_goto (tgt := 349) (show decode cX12_summedUp 313 = .ok (.goto 36, 3) by decide +kernel) (by decide) ?_
  exact h
set_option maxRecDepth 4000 in
theorem b_X12_summedUp_112 {d : Nat} {t : Int} {Q : Int → jM → Prop} {σ : jM} {p1 p2 v3 v4 v5 v6 v7 v8 v9 u0 u1 : Int} (h : ((0 : Int) ≤ u1 ∧ u1 < 330) ∧ (∀ σ2 : jM, σ2 = up σ 328 u1 u0 → (Jt mX12_summedUp (d + 1) 1 t Q 349 [rv 321, iv p1, iv p2, iv v3, iv v4, iv (v5 + 1), iv v6, iv v7, iv v8, iv v9] [] σ2))) : Jt mX12_summedUp (d + 1) 1 t Q 112 [rv 321, iv p1, iv p2, iv v3, iv v4, iv v5, iv v6, iv v7, iv v8, iv v9] [jv u0, iv u1, rv 328] σ := by
  have hb0 := h.1
  have h := h.2
  refine s_last (show decode cX12_summedUp 112 = .ok (.lastore, 1) by decide +kernel) okl_328 hb0 ?_
  obtain ⟨σ2, eσ2⟩ : ∃ z : jM, z = up σ 328 u1 u0 := ⟨_, rfl⟩
  refine j_sig eσ2 ?_
  have h := h σ2 eσ2
  refine s_iinc (i := 5) rfl (L' := [rv 321, iv p1, iv p2, iv v3, iv v4, iv (v5 + 1), iv v6, iv v7, iv v8, iv v9]) rfl (show decode cX12_summedUp 113 = .ok (.iinc 5 1, 3) by decide +kernel) ?_
  refine j_goto (tgt := 349) (show decode cX12_summedUp 116 = .ok (.goto 233, 3) by decide +kernel) (by decide) ?_
  exact h
set_option maxRecDepth 4000 in
theorem b_X12_summedUp_38 {d : Nat} {t : Int} {Q : Int → jM → Prop} {σ : jM} {p1 p2 v3 v4 v5 v6 v7 : Int} (h : ((0 : Int) ≤ (v3 + 2) ∧ (v3 + 2) < 2724) ∧ ((inR v7) ∧ ((inR (σ 324 (v3 + 2))) ∧ (((σ 324 (v3 + 2)) ≤ v7 → (((0 : Int) ≤ 0 ∧ (0 : Int) < 330) ∧ (Q (σ 328 0) σ))) ∧ (v7 < (σ 324 (v3 + 2)) → (((0 : Int) ≤ (v4 + (2 * v7)) ∧ (v4 + (2 * v7)) < 2724) ∧ (((0 : Int) ≤ ((v4 + (2 * v7)) + 1) ∧ ((v4 + (2 * v7)) + 1) < 2724) ∧ ((inR (σ 324 (v4 + (2 * v7)))) ∧ ((1 < (σ 324 (v4 + (2 * v7))) → ((inR (σ 324 (v4 + (2 * v7)))) ∧ ((¬ (σ 324 (v4 + (2 * v7))) = 3 → ((inR (σ 324 (v4 + (2 * v7)))) ∧ ((5 < (σ 324 (v4 + (2 * v7))) → ((inR (σ 324 (v4 + (2 * v7)))) ∧ ((10 ≤ (σ 324 (v4 + (2 * v7))) → ((inR (σ 324 (v4 + (2 * v7)))) ∧ ((20 ≤ (σ 324 (v4 + (2 * v7))) → ((inR (σ 324 (v4 + (2 * v7)))) ∧ ((¬ (σ 324 (v4 + (2 * v7))) = 20 → (((0 : Int) ≤ ((v6 + (-1)) - 1) ∧ ((v6 + (-1)) - 1) < 330) ∧ (((0 : Int) ≤ (v6 + (-1)) ∧ (v6 + (-1)) < 330) ∧ (Ct mX12_joined d 0 t [iv (σ 324 (v4 + (2 * v7))), iv (σ 329 ((v6 + (-1)) - 1)), iv (σ 329 (v6 + (-1)))] σ (fun r9 σ9 => (((0 : Int) ≤ ((v6 + (-1)) - 1) ∧ ((v6 + (-1)) - 1) < 330) ∧ ((r9 = 0 ∨ r9 = 1) ∧ (∀ σ12 : jM, σ12 = up σ9 329 ((v6 + (-1)) - 1) r9 → (Jt mX12_summedUp (d + 1) 1 t Q 349 [rv 321, iv p1, iv p2, iv v3, iv v4, iv v5, iv (v6 + (-1)), iv v7, iv (σ 324 (v4 + (2 * v7))), iv (σ 324 ((v4 + (2 * v7)) + 1))] [] σ12))))))))) ∧ ((σ 324 (v4 + (2 * v7))) = 20 → (((0 : Int) ≤ (v6 - 1) ∧ (v6 - 1) < 330) ∧ ((inR (σ 329 (v6 - 1))) ∧ ((¬ (σ 329 (v6 - 1)) = 0 → (Jt mX12_summedUp (d + 1) 1 t Q 312 [rv 321, iv p1, iv p2, iv v3, iv v4, iv v5, iv v6, iv v7, iv (σ 324 (v4 + (2 * v7))), iv (σ 324 ((v4 + (2 * v7)) + 1))] [iv 0, iv (v6 - 1), rv 329] σ)) ∧ ((σ 329 (v6 - 1)) = 0 → (Jt mX12_summedUp (d + 1) 1 t Q 312 [rv 321, iv p1, iv p2, iv v3, iv v4, iv v5, iv v6, iv v7, iv (σ 324 (v4 + (2 * v7))), iv (σ 324 ((v4 + (2 * v7)) + 1))] [iv 1, iv (v6 - 1), rv 329] σ))))))))) ∧ ((σ 324 (v4 + (2 * v7))) < 20 → (((0 : Int) ≤ (v5 + (-2)) ∧ (v5 + (-2)) < 330) ∧ (((0 : Int) ≤ ((v5 + (-2)) + 1) ∧ ((v5 + (-2)) + 1) < 330) ∧ (Ct mX12_isAsked d 0 t [iv (σ 324 (v4 + (2 * v7))), jv (σ 328 (v5 + (-2))), jv (σ 328 ((v5 + (-2)) + 1))] σ (fun r14 σ14 => (((0 : Int) ≤ v6 ∧ v6 < 330) ∧ ((r14 = 0 ∨ r14 = 1) ∧ (∀ σ17 : jM, σ17 = up σ14 329 v6 r14 → (Jt mX12_summedUp (d + 1) 1 t Q 349 [rv 321, iv p1, iv p2, iv v3, iv v4, iv (v5 + (-2)), iv (v6 + 1), iv v7, iv (σ 324 (v4 + (2 * v7))), iv (σ 324 ((v4 + (2 * v7)) + 1))] [] σ17)))))))))))) ∧ ((σ 324 (v4 + (2 * v7))) < 10 → (((0 : Int) ≤ ((v5 + (-1)) - 1) ∧ ((v5 + (-1)) - 1) < 330) ∧ (((0 : Int) ≤ (v5 + (-1)) ∧ (v5 + (-1)) < 330) ∧ (Ct mX12_two d 1 t [iv (σ 324 (v4 + (2 * v7))), jv (σ 328 ((v5 + (-1)) - 1)), jv (σ 328 (v5 + (-1)))] σ (fun r18 σ18 => (((0 : Int) ≤ ((v5 + (-1)) - 1) ∧ ((v5 + (-1)) - 1) < 330) ∧ (∀ σ20 : jM, σ20 = up σ18 328 ((v5 + (-1)) - 1) r18 → (Jt mX12_summedUp (d + 1) 1 t Q 349 [rv 321, iv p1, iv p2, iv v3, iv v4, iv (v5 + (-1)), iv v6, iv v7, iv (σ 324 (v4 + (2 * v7))), iv (σ 324 ((v4 + (2 * v7)) + 1))] [] σ20))))))))))) ∧ ((σ 324 (v4 + (2 * v7))) ≤ 5 → (((0 : Int) ≤ (v5 - 1) ∧ (v5 - 1) < 330) ∧ (Ct mX12_ofOne d 1 t [rv 321, iv (σ 324 (v4 + (2 * v7))), jv (σ 328 (v5 - 1))] σ (fun r21 σ21 => (((0 : Int) ≤ (v5 - 1) ∧ (v5 - 1) < 330) ∧ (∀ σ23 : jM, σ23 = up σ21 328 (v5 - 1) r21 → (Jt mX12_summedUp (d + 1) 1 t Q 349 [rv 321, iv p1, iv p2, iv v3, iv v4, iv v5, iv v6, iv v7, iv (σ 324 (v4 + (2 * v7))), iv (σ 324 ((v4 + (2 * v7)) + 1))] [] σ23)))))))))) ∧ ((σ 324 (v4 + (2 * v7))) = 3 → (((0 : Int) ≤ (v6 + (-1)) ∧ (v6 + (-1)) < 330) ∧ ((inR (σ 329 (v6 + (-1)))) ∧ ((¬ (σ 329 (v6 + (-1))) = 0 → (Jt mX12_summedUp (d + 1) 1 t Q 349 [rv 321, iv p1, iv p2, iv v3, iv v4, iv (v5 + (-1)), iv (v6 + (-1)), iv v7, iv (σ 324 (v4 + (2 * v7))), iv (σ 324 ((v4 + (2 * v7)) + 1))] [] σ)) ∧ ((σ 329 (v6 + (-1))) = 0 → (((0 : Int) ≤ (v5 + (-1)) ∧ (v5 + (-1)) < 330) ∧ (((0 : Int) ≤ ((v5 + (-1)) - 1) ∧ ((v5 + (-1)) - 1) < 330) ∧ (∀ σ26 : jM, σ26 = up σ 328 ((v5 + (-1)) - 1) (σ 328 (v5 + (-1))) → (Jt mX12_summedUp (d + 1) 1 t Q 349 [rv 321, iv p1, iv p2, iv v3, iv v4, iv (v5 + (-1)), iv (v6 + (-1)), iv v7, iv (σ 324 (v4 + (2 * v7))), iv (σ 324 ((v4 + (2 * v7)) + 1))] [] σ26)))))))))))) ∧ ((σ 324 (v4 + (2 * v7))) ≤ 1 → ((inR (σ 324 (v4 + (2 * v7)))) ∧ ((¬ (σ 324 (v4 + (2 * v7))) = 0 → (((0 : Int) ≤ (σ 324 ((v4 + (2 * v7)) + 1)) ∧ (σ 324 ((v4 + (2 * v7)) + 1)) < 7) ∧ ((inR (σ 327 (σ 324 ((v4 + (2 * v7)) + 1)))) ∧ (Jt mX12_summedUp (d + 1) 1 t Q 112 [rv 321, iv p1, iv p2, iv v3, iv v4, iv v5, iv v6, iv v7, iv (σ 324 (v4 + (2 * v7))), iv (σ 324 ((v4 + (2 * v7)) + 1))] [jv (σ 327 (σ 324 ((v4 + (2 * v7)) + 1))), iv v5, rv 328] σ)))) ∧ ((σ 324 (v4 + (2 * v7))) = 0 → ((inR (σ 324 ((v4 + (2 * v7)) + 1))) ∧ (Jt mX12_summedUp (d + 1) 1 t Q 112 [rv 321, iv p1, iv p2, iv v3, iv v4, iv v5, iv v6, iv v7, iv (σ 324 (v4 + (2 * v7))), iv (σ 324 ((v4 + (2 * v7)) + 1))] [jv (σ 324 ((v4 + (2 * v7)) + 1)), iv v5, rv 328] σ))))))))))))))) : Jt mX12_summedUp (d + 1) 1 t Q 38 [rv 321, iv p1, iv p2, iv v3, iv v4, iv v5, iv v6, iv v7, uv, uv] [] σ := by
  refine j_iload (i := 7) rfl (show decode cX12_summedUp 38 = .ok (.iload 7, 2) by decide +kernel) ?_
  refine s_aload_n (i := 0) rfl (show decode cX12_summedUp 40 = .ok (.aload_n 0, 1) by decide +kernel) ?_
  refine gf_X12_16 (x := 324) rfl (show decode cX12_summedUp 41 = .ok (.getfield 16, 3) by decide +kernel) okl_321 rfl ?_
  refine j_iload_n (i := 3) rfl (show decode cX12_summedUp 44 = .ok (.iload_n 3, 1) by decide +kernel) ?_
  refine j_iconst (show decode cX12_summedUp 45 = .ok (.iconst 2, 1) by decide +kernel) ?_
  refine j_iadd (show decode cX12_summedUp 46 = .ok (.iadd, 1) by decide +kernel) ?_
  refine s_iald (show decode cX12_summedUp 47 = .ok (.iaload, 1) by decide +kernel) okl_324 h.1 ?_
  have h := h.2
  have hr0 := h.1
  have h := h.2
  have hr1 := h.1
  have h := h.2
  refine j_icmp_ge (tgt := 355) hr0 hr1 (show decode cX12_summedUp 48 = .ok (.if_icmp .ge 307, 3) by decide +kernel) (by decide) (fun c => ?_) (fun c => ?_)
  · have h := h.1 c
    refine s_aload_n (i := 0) rfl (show decode cX12_summedUp 355 = .ok (.aload_n 0, 1) by decide +kernel) ?_
    refine gf_X12_35 (x := 328) rfl (show decode cX12_summedUp 356 = .ok (.getfield 35, 3) by decide +kernel) okl_321 rfl ?_
    refine j_iconst (show decode cX12_summedUp 359 = .ok (.iconst 0, 1) by decide +kernel) ?_
    refine s_lald (show decode cX12_summedUp 360 = .ok (.laload, 1) by decide +kernel) okl_328 h.1 ?_
    have h := h.2
    exact j_ret (rokL (show decode cX12_summedUp 361 = .ok (.lreturn, 1) by decide +kernel) rfl) ⟨rfl, rfl, h⟩
  · have h := h.2 c
    refine s_aload_n (i := 0) rfl (show decode cX12_summedUp 51 = .ok (.aload_n 0, 1) by decide +kernel) ?_
    refine gf_X12_16 (x := 324) rfl (show decode cX12_summedUp 52 = .ok (.getfield 16, 3) by decide +kernel) okl_321 rfl ?_
    refine j_iload (i := 4) rfl (show decode cX12_summedUp 55 = .ok (.iload 4, 2) by decide +kernel) ?_
    refine j_iconst (show decode cX12_summedUp 57 = .ok (.iconst 2, 1) by decide +kernel) ?_
    refine j_iload (i := 7) rfl (show decode cX12_summedUp 58 = .ok (.iload 7, 2) by decide +kernel) ?_
    refine j_imul (show decode cX12_summedUp 60 = .ok (.imul, 1) by decide +kernel) ?_
    refine j_iadd (show decode cX12_summedUp 61 = .ok (.iadd, 1) by decide +kernel) ?_
    refine s_iald (show decode cX12_summedUp 62 = .ok (.iaload, 1) by decide +kernel) okl_324 h.1 ?_
    have h := h.2
    refine s_ist (i := 8) (L' := [rv 321, iv p1, iv p2, iv v3, iv v4, iv v5, iv v6, iv v7, iv (σ 324 (v4 + (2 * v7))), uv]) rfl (by decide) (show decode cX12_summedUp 63 = .ok (.istore 8, 2) by decide +kernel) ?_
    refine s_aload_n (i := 0) rfl (show decode cX12_summedUp 65 = .ok (.aload_n 0, 1) by decide +kernel) ?_
    refine gf_X12_16 (x := 324) rfl (show decode cX12_summedUp 66 = .ok (.getfield 16, 3) by decide +kernel) okl_321 rfl ?_
    refine j_iload (i := 4) rfl (show decode cX12_summedUp 69 = .ok (.iload 4, 2) by decide +kernel) ?_
    refine j_iconst (show decode cX12_summedUp 71 = .ok (.iconst 2, 1) by decide +kernel) ?_
    refine j_iload (i := 7) rfl (show decode cX12_summedUp 72 = .ok (.iload 7, 2) by decide +kernel) ?_
    refine j_imul (show decode cX12_summedUp 74 = .ok (.imul, 1) by decide +kernel) ?_
    refine j_iadd (show decode cX12_summedUp 75 = .ok (.iadd, 1) by decide +kernel) ?_
    refine j_iconst (show decode cX12_summedUp 76 = .ok (.iconst 1, 1) by decide +kernel) ?_
    refine j_iadd (show decode cX12_summedUp 77 = .ok (.iadd, 1) by decide +kernel) ?_
    refine s_iald (show decode cX12_summedUp 78 = .ok (.iaload, 1) by decide +kernel) okl_324 h.1 ?_
    have h := h.2
    refine s_ist (i := 9) (L' := [rv 321, iv p1, iv p2, iv v3, iv v4, iv v5, iv v6, iv v7, iv (σ 324 (v4 + (2 * v7))), iv (σ 324 ((v4 + (2 * v7)) + 1))]) rfl (by decide) (show decode cX12_summedUp 79 = .ok (.istore 9, 2) by decide +kernel) ?_
    refine j_iload (i := 8) rfl (show decode cX12_summedUp 81 = .ok (.iload 8, 2) by decide +kernel) ?_
    refine j_iconst (show decode cX12_summedUp 83 = .ok (.iconst 1, 1) by decide +kernel) ?_
    have hr2 := h.1
    have h := h.2
    refine j_icmp_gt (tgt := 119) hr2 (inl (by decide)) (show decode cX12_summedUp 84 = .ok (.if_icmp .gt 35, 3) by decide +kernel) (by decide) (fun c => ?_) (fun c => ?_)
    · have h := h.1 c
      refine j_iload (i := 8) rfl (show decode cX12_summedUp 119 = .ok (.iload 8, 2) by decide +kernel) ?_
      refine j_iconst (show decode cX12_summedUp 121 = .ok (.iconst 3, 1) by decide +kernel) ?_
      have hr3 := h.1
      have h := h.2
      refine j_icmp_ne (tgt := 160) hr3 (inl (by decide)) (show decode cX12_summedUp 122 = .ok (.if_icmp .ne 38, 3) by decide +kernel) (by decide) (fun c => ?_) (fun c => ?_)
      · have h := h.1 c
        refine j_iload (i := 8) rfl (show decode cX12_summedUp 160 = .ok (.iload 8, 2) by decide +kernel) ?_
        refine j_iconst (show decode cX12_summedUp 162 = .ok (.iconst 5, 1) by decide +kernel) ?_
        have hr4 := h.1
        have h := h.2
        refine j_icmp_gt (tgt := 193) hr4 (inl (by decide)) (show decode cX12_summedUp 163 = .ok (.if_icmp .gt 30, 3) by decide +kernel) (by decide) (fun c => ?_) (fun c => ?_)
        · have h := h.1 c
          refine j_iload (i := 8) rfl (show decode cX12_summedUp 193 = .ok (.iload 8, 2) by decide +kernel) ?_
          refine j_bipush (n := 10) (by decide +kernel) (show decode cX12_summedUp 195 = .ok (.bipush 10, 2) by decide +kernel) ?_
          have hr5 := h.1
          have h := h.2
          refine j_icmp_ge (tgt := 236) hr5 (inl (by decide)) (show decode cX12_summedUp 197 = .ok (.if_icmp .ge 39, 3) by decide +kernel) (by decide) (fun c => ?_) (fun c => ?_)
          · have h := h.1 c
            refine j_iload (i := 8) rfl (show decode cX12_summedUp 236 = .ok (.iload 8, 2) by decide +kernel) ?_
            refine j_bipush (n := 20) (by decide +kernel) (show decode cX12_summedUp 238 = .ok (.bipush 20, 2) by decide +kernel) ?_
            have hr6 := h.1
            have h := h.2
            refine j_icmp_ge (tgt := 280) hr6 (inl (by decide)) (show decode cX12_summedUp 240 = .ok (.if_icmp .ge 40, 3) by decide +kernel) (by decide) (fun c => ?_) (fun c => ?_)
            · have h := h.1 c
              refine j_iload (i := 8) rfl (show decode cX12_summedUp 280 = .ok (.iload 8, 2) by decide +kernel) ?_
              refine j_bipush (n := 20) (by decide +kernel) (show decode cX12_summedUp 282 = .ok (.bipush 20, 2) by decide +kernel) ?_
              have hr7 := h.1
              have h := h.2
              refine j_icmp_ne (tgt := 316) hr7 (inl (by decide)) (show decode cX12_summedUp 284 = .ok (.if_icmp .ne 32, 3) by decide +kernel) (by decide) (fun c => ?_) (fun c => ?_)
              · have h := h.1 c
                refine s_iinc (i := 6) rfl (L' := [rv 321, iv p1, iv p2, iv v3, iv v4, iv v5, iv (v6 + (-1)), iv v7, iv (σ 324 (v4 + (2 * v7))), iv (σ 324 ((v4 + (2 * v7)) + 1))]) rfl (show decode cX12_summedUp 316 = .ok (.iinc 6 (-1), 3) by decide +kernel) ?_
                refine s_aload_n (i := 0) rfl (show decode cX12_summedUp 319 = .ok (.aload_n 0, 1) by decide +kernel) ?_
                refine gf_X12_39 (x := 329) rfl (show decode cX12_summedUp 320 = .ok (.getfield 39, 3) by decide +kernel) okl_321 rfl ?_
                refine j_iload (i := 6) rfl (show decode cX12_summedUp 323 = .ok (.iload 6, 2) by decide +kernel) ?_
                refine j_iconst (show decode cX12_summedUp 325 = .ok (.iconst 1, 1) by decide +kernel) ?_
                refine j_isub (show decode cX12_summedUp 326 = .ok (.isub, 1) by decide +kernel) ?_
                refine j_iload (i := 8) rfl (show decode cX12_summedUp 327 = .ok (.iload 8, 2) by decide +kernel) ?_
                refine s_aload_n (i := 0) rfl (show decode cX12_summedUp 329 = .ok (.aload_n 0, 1) by decide +kernel) ?_
                refine gf_X12_39 (x := 329) rfl (show decode cX12_summedUp 330 = .ok (.getfield 39, 3) by decide +kernel) okl_321 rfl ?_
                refine j_iload (i := 6) rfl (show decode cX12_summedUp 333 = .ok (.iload 6, 2) by decide +kernel) ?_
                refine j_iconst (show decode cX12_summedUp 335 = .ok (.iconst 1, 1) by decide +kernel) ?_
                refine j_isub (show decode cX12_summedUp 336 = .ok (.isub, 1) by decide +kernel) ?_
                refine s_zald (show decode cX12_summedUp 337 = .ok (.baload, 1) by decide +kernel) okl_329 h.1 ?_
                have h := h.2
                refine s_aload_n (i := 0) rfl (show decode cX12_summedUp 338 = .ok (.aload_n 0, 1) by decide +kernel) ?_
                refine gf_X12_39 (x := 329) rfl (show decode cX12_summedUp 339 = .ok (.getfield 39, 3) by decide +kernel) okl_321 rfl ?_
                refine j_iload (i := 6) rfl (show decode cX12_summedUp 342 = .ok (.iload 6, 2) by decide +kernel) ?_
                refine s_zald (show decode cX12_summedUp 344 = .ok (.baload, 1) by decide +kernel) okl_329 h.1 ?_
                have h := h.2
                refine j_ctS (m' := mX12_joined) (As := [iv (σ 324 (v4 + (2 * v7))), iv (σ 329 ((v6 + (-1)) - 1)), iv (σ 329 (v6 + (-1)))]) (tag := 0) (cw_X12_291 rfl) (show decode cX12_summedUp 345 = .ok (.invokestatic 291, 3) by decide +kernel) rfl (Nat.le_of_ble_eq_true rfl) (by decide) (Nat.le_refl _) h (fun r9 σ9 h => ?_)
                have hb9 := h.1
                have h := h.2
                have hz10 := h.1
                have h := h.2
                refine s_zast (show decode cX12_summedUp 348 = .ok (.bastore, 1) by decide +kernel) okl_329 hb9 hz10 ?_
                obtain ⟨σ12, eσ12⟩ : ∃ z : jM, z = up σ9 329 ((v6 + (-1)) - 1) r9 := ⟨_, rfl⟩
                refine j_sig eσ12 ?_
                have h := h σ12 eσ12
                exact h
              · have h := h.2 c
                refine s_aload_n (i := 0) rfl (show decode cX12_summedUp 287 = .ok (.aload_n 0, 1) by decide +kernel) ?_
                refine gf_X12_39 (x := 329) rfl (show decode cX12_summedUp 288 = .ok (.getfield 39, 3) by decide +kernel) okl_321 rfl ?_
                refine j_iload (i := 6) rfl (show decode cX12_summedUp 291 = .ok (.iload 6, 2) by decide +kernel) ?_
                refine j_iconst (show decode cX12_summedUp 293 = .ok (.iconst 1, 1) by decide +kernel) ?_
                refine j_isub (show decode cX12_summedUp 294 = .ok (.isub, 1) by decide +kernel) ?_
                refine s_aload_n (i := 0) rfl (show decode cX12_summedUp 295 = .ok (.aload_n 0, 1) by decide +kernel) ?_
                refine gf_X12_39 (x := 329) rfl (show decode cX12_summedUp 296 = .ok (.getfield 39, 3) by decide +kernel) okl_321 rfl ?_
                refine j_iload (i := 6) rfl (show decode cX12_summedUp 299 = .ok (.iload 6, 2) by decide +kernel) ?_
                refine j_iconst (show decode cX12_summedUp 301 = .ok (.iconst 1, 1) by decide +kernel) ?_
                refine j_isub (show decode cX12_summedUp 302 = .ok (.isub, 1) by decide +kernel) ?_
                refine s_zald (show decode cX12_summedUp 303 = .ok (.baload, 1) by decide +kernel) okl_329 h.1 ?_
                have h := h.2
                have hr12 := h.1
                have h := h.2
                refine j_if_ne (tgt := 311) hr12 (show decode cX12_summedUp 304 = .ok (.ifCond .ne 7, 3) by decide +kernel) (by decide) (fun c => ?_) (fun c => ?_)
                · have h := h.1 c
                  refine j_iconst (show decode cX12_summedUp 311 = .ok (.iconst 0, 1) by decide +kernel) ?_
                  exact h
                · have h := h.2 c
                  refine j_iconst (show decode cX12_summedUp 307 = .ok (.iconst 1, 1) by decide +kernel) ?_
                  refine j_goto (tgt := 312) (show decode cX12_summedUp 308 = .ok (.goto 4, 3) by decide +kernel) (by decide) ?_
                  exact h
            · have h := h.2 c
              refine s_iinc (i := 5) rfl (L' := [rv 321, iv p1, iv p2, iv v3, iv v4, iv (v5 + (-2)), iv v6, iv v7, iv (σ 324 (v4 + (2 * v7))), iv (σ 324 ((v4 + (2 * v7)) + 1))]) rfl (show decode cX12_summedUp 243 = .ok (.iinc 5 (-2), 3) by decide +kernel) ?_
              refine s_aload_n (i := 0) rfl (show decode cX12_summedUp 246 = .ok (.aload_n 0, 1) by decide +kernel) ?_
              refine gf_X12_39 (x := 329) rfl (show decode cX12_summedUp 247 = .ok (.getfield 39, 3) by decide +kernel) okl_321 rfl ?_
              refine j_iload (i := 6) rfl (show decode cX12_summedUp 250 = .ok (.iload 6, 2) by decide +kernel) ?_
              refine j_iload (i := 8) rfl (show decode cX12_summedUp 252 = .ok (.iload 8, 2) by decide +kernel) ?_
              refine s_aload_n (i := 0) rfl (show decode cX12_summedUp 254 = .ok (.aload_n 0, 1) by decide +kernel) ?_
              refine gf_X12_35 (x := 328) rfl (show decode cX12_summedUp 255 = .ok (.getfield 35, 3) by decide +kernel) okl_321 rfl ?_
              refine j_iload (i := 5) rfl (show decode cX12_summedUp 258 = .ok (.iload 5, 2) by decide +kernel) ?_
              refine s_lald (show decode cX12_summedUp 260 = .ok (.laload, 1) by decide +kernel) okl_328 h.1 ?_
              have h := h.2
              refine s_aload_n (i := 0) rfl (show decode cX12_summedUp 261 = .ok (.aload_n 0, 1) by decide +kernel) ?_
              refine gf_X12_35 (x := 328) rfl (show decode cX12_summedUp 262 = .ok (.getfield 35, 3) by decide +kernel) okl_321 rfl ?_
              refine j_iload (i := 5) rfl (show decode cX12_summedUp 265 = .ok (.iload 5, 2) by decide +kernel) ?_
              refine j_iconst (show decode cX12_summedUp 267 = .ok (.iconst 1, 1) by decide +kernel) ?_
              refine j_iadd (show decode cX12_summedUp 268 = .ok (.iadd, 1) by decide +kernel) ?_
              refine s_lald (show decode cX12_summedUp 269 = .ok (.laload, 1) by decide +kernel) okl_328 h.1 ?_
              have h := h.2
              refine j_ctS (m' := mX12_isAsked) (As := [iv (σ 324 (v4 + (2 * v7))), jv (σ 328 (v5 + (-2))), jv (σ 328 ((v5 + (-2)) + 1))]) (tag := 0) (cw_X12_287 rfl) (show decode cX12_summedUp 270 = .ok (.invokestatic 287, 3) by decide +kernel) rfl (Nat.le_of_ble_eq_true rfl) (by decide) (Nat.le_refl _) h (fun r14 σ14 h => ?_)
              have hb14 := h.1
              have h := h.2
              have hz15 := h.1
              have h := h.2
              refine s_zast (show decode cX12_summedUp 273 = .ok (.bastore, 1) by decide +kernel) okl_329 hb14 hz15 ?_
              obtain ⟨σ17, eσ17⟩ : ∃ z : jM, z = up σ14 329 v6 r14 := ⟨_, rfl⟩
              refine j_sig eσ17 ?_
              have h := h σ17 eσ17
              refine s_iinc (i := 6) rfl (L' := [rv 321, iv p1, iv p2, iv v3, iv v4, iv (v5 + (-2)), iv (v6 + 1), iv v7, iv (σ 324 (v4 + (2 * v7))), iv (σ 324 ((v4 + (2 * v7)) + 1))]) rfl (show decode cX12_summedUp 274 = .ok (.iinc 6 1, 3) by decide +kernel) ?_
              refine j_goto (tgt := 349) (show decode cX12_summedUp 277 = .ok (.goto 72, 3) by decide +kernel) (by decide) ?_
              exact h
          · have h := h.2 c
            refine s_iinc (i := 5) rfl (L' := [rv 321, iv p1, iv p2, iv v3, iv v4, iv (v5 + (-1)), iv v6, iv v7, iv (σ 324 (v4 + (2 * v7))), iv (σ 324 ((v4 + (2 * v7)) + 1))]) rfl (show decode cX12_summedUp 200 = .ok (.iinc 5 (-1), 3) by decide +kernel) ?_
            refine s_aload_n (i := 0) rfl (show decode cX12_summedUp 203 = .ok (.aload_n 0, 1) by decide +kernel) ?_
            refine gf_X12_35 (x := 328) rfl (show decode cX12_summedUp 204 = .ok (.getfield 35, 3) by decide +kernel) okl_321 rfl ?_
            refine j_iload (i := 5) rfl (show decode cX12_summedUp 207 = .ok (.iload 5, 2) by decide +kernel) ?_
            refine j_iconst (show decode cX12_summedUp 209 = .ok (.iconst 1, 1) by decide +kernel) ?_
            refine j_isub (show decode cX12_summedUp 210 = .ok (.isub, 1) by decide +kernel) ?_
            refine j_iload (i := 8) rfl (show decode cX12_summedUp 211 = .ok (.iload 8, 2) by decide +kernel) ?_
            refine s_aload_n (i := 0) rfl (show decode cX12_summedUp 213 = .ok (.aload_n 0, 1) by decide +kernel) ?_
            refine gf_X12_35 (x := 328) rfl (show decode cX12_summedUp 214 = .ok (.getfield 35, 3) by decide +kernel) okl_321 rfl ?_
            refine j_iload (i := 5) rfl (show decode cX12_summedUp 217 = .ok (.iload 5, 2) by decide +kernel) ?_
            refine j_iconst (show decode cX12_summedUp 219 = .ok (.iconst 1, 1) by decide +kernel) ?_
            refine j_isub (show decode cX12_summedUp 220 = .ok (.isub, 1) by decide +kernel) ?_
            refine s_lald (show decode cX12_summedUp 221 = .ok (.laload, 1) by decide +kernel) okl_328 h.1 ?_
            have h := h.2
            refine s_aload_n (i := 0) rfl (show decode cX12_summedUp 222 = .ok (.aload_n 0, 1) by decide +kernel) ?_
            refine gf_X12_35 (x := 328) rfl (show decode cX12_summedUp 223 = .ok (.getfield 35, 3) by decide +kernel) okl_321 rfl ?_
            refine j_iload (i := 5) rfl (show decode cX12_summedUp 226 = .ok (.iload 5, 2) by decide +kernel) ?_
            refine s_lald (show decode cX12_summedUp 228 = .ok (.laload, 1) by decide +kernel) okl_328 h.1 ?_
            have h := h.2
            refine j_ctS (m' := mX12_two) (As := [iv (σ 324 (v4 + (2 * v7))), jv (σ 328 ((v5 + (-1)) - 1)), jv (σ 328 (v5 + (-1)))]) (tag := 1) (cw_X12_283 rfl) (show decode cX12_summedUp 229 = .ok (.invokestatic 283, 3) by decide +kernel) rfl (Nat.le_of_ble_eq_true rfl) (by decide) (Nat.le_refl _) h (fun r18 σ18 h => ?_)
            have hb18 := h.1
            have h := h.2
            refine s_last (show decode cX12_summedUp 232 = .ok (.lastore, 1) by decide +kernel) okl_328 hb18 ?_
            obtain ⟨σ20, eσ20⟩ : ∃ z : jM, z = up σ18 328 ((v5 + (-1)) - 1) r18 := ⟨_, rfl⟩
            refine j_sig eσ20 ?_
            have h := h σ20 eσ20
            refine j_goto (tgt := 349) (show decode cX12_summedUp 233 = .ok (.goto 116, 3) by decide +kernel) (by decide) ?_
            exact h
        · have h := h.2 c
          refine s_aload_n (i := 0) rfl (show decode cX12_summedUp 166 = .ok (.aload_n 0, 1) by decide +kernel) ?_
          refine gf_X12_35 (x := 328) rfl (show decode cX12_summedUp 167 = .ok (.getfield 35, 3) by decide +kernel) okl_321 rfl ?_
          refine j_iload (i := 5) rfl (show decode cX12_summedUp 170 = .ok (.iload 5, 2) by decide +kernel) ?_
          refine j_iconst (show decode cX12_summedUp 172 = .ok (.iconst 1, 1) by decide +kernel) ?_
          refine j_isub (show decode cX12_summedUp 173 = .ok (.isub, 1) by decide +kernel) ?_
          refine s_aload_n (i := 0) rfl (show decode cX12_summedUp 174 = .ok (.aload_n 0, 1) by decide +kernel) ?_
          refine j_iload (i := 8) rfl (show decode cX12_summedUp 175 = .ok (.iload 8, 2) by decide +kernel) ?_
          refine s_aload_n (i := 0) rfl (show decode cX12_summedUp 177 = .ok (.aload_n 0, 1) by decide +kernel) ?_
          refine gf_X12_35 (x := 328) rfl (show decode cX12_summedUp 178 = .ok (.getfield 35, 3) by decide +kernel) okl_321 rfl ?_
          refine j_iload (i := 5) rfl (show decode cX12_summedUp 181 = .ok (.iload 5, 2) by decide +kernel) ?_
          refine j_iconst (show decode cX12_summedUp 183 = .ok (.iconst 1, 1) by decide +kernel) ?_
          refine j_isub (show decode cX12_summedUp 184 = .ok (.isub, 1) by decide +kernel) ?_
          refine s_lald (show decode cX12_summedUp 185 = .ok (.laload, 1) by decide +kernel) okl_328 h.1 ?_
          have h := h.2
          refine j_ctV (m' := mX12_ofOne) (As := [iv (σ 324 (v4 + (2 * v7))), jv (σ 328 (v5 - 1))]) (ci := 12) (tag := 1) (N := 0) (cw_X12_279 rfl) (show decode cX12_summedUp 186 = .ok (.invokevirtual 279, 3) by decide +kernel) rfl (Nat.le_of_ble_eq_true rfl) (by decide) okl_321 rfl rfl (Nat.le_refl _) h (fun r21 σ21 h => ?_)
          have hb21 := h.1
          have h := h.2
          refine s_last (show decode cX12_summedUp 189 = .ok (.lastore, 1) by decide +kernel) okl_328 hb21 ?_
          obtain ⟨σ23, eσ23⟩ : ∃ z : jM, z = up σ21 328 (v5 - 1) r21 := ⟨_, rfl⟩
          refine j_sig eσ23 ?_
          have h := h σ23 eσ23
          refine j_goto (tgt := 349) (show decode cX12_summedUp 190 = .ok (.goto 159, 3) by decide +kernel) (by decide) ?_
          exact h
      · have h := h.2 c
        refine s_iinc (i := 5) rfl (L' := [rv 321, iv p1, iv p2, iv v3, iv v4, iv (v5 + (-1)), iv v6, iv v7, iv (σ 324 (v4 + (2 * v7))), iv (σ 324 ((v4 + (2 * v7)) + 1))]) rfl (show decode cX12_summedUp 125 = .ok (.iinc 5 (-1), 3) by decide +kernel) ?_
        refine s_iinc (i := 6) rfl (L' := [rv 321, iv p1, iv p2, iv v3, iv v4, iv (v5 + (-1)), iv (v6 + (-1)), iv v7, iv (σ 324 (v4 + (2 * v7))), iv (σ 324 ((v4 + (2 * v7)) + 1))]) rfl (show decode cX12_summedUp 128 = .ok (.iinc 6 (-1), 3) by decide +kernel) ?_
        refine s_aload_n (i := 0) rfl (show decode cX12_summedUp 131 = .ok (.aload_n 0, 1) by decide +kernel) ?_
        refine gf_X12_39 (x := 329) rfl (show decode cX12_summedUp 132 = .ok (.getfield 39, 3) by decide +kernel) okl_321 rfl ?_
        refine j_iload (i := 6) rfl (show decode cX12_summedUp 135 = .ok (.iload 6, 2) by decide +kernel) ?_
        refine s_zald (show decode cX12_summedUp 137 = .ok (.baload, 1) by decide +kernel) okl_329 h.1 ?_
        have h := h.2
        have hr23 := h.1
        have h := h.2
        refine j_if_ne (tgt := 349) hr23 (show decode cX12_summedUp 138 = .ok (.ifCond .ne 211, 3) by decide +kernel) (by decide) (fun c => ?_) (fun c => ?_)
        · have h := h.1 c
          exact h
        · have h := h.2 c
          refine s_aload_n (i := 0) rfl (show decode cX12_summedUp 141 = .ok (.aload_n 0, 1) by decide +kernel) ?_
          refine gf_X12_35 (x := 328) rfl (show decode cX12_summedUp 142 = .ok (.getfield 35, 3) by decide +kernel) okl_321 rfl ?_
          refine j_iload (i := 5) rfl (show decode cX12_summedUp 145 = .ok (.iload 5, 2) by decide +kernel) ?_
          refine j_iconst (show decode cX12_summedUp 147 = .ok (.iconst 1, 1) by decide +kernel) ?_
          refine j_isub (show decode cX12_summedUp 148 = .ok (.isub, 1) by decide +kernel) ?_
          refine s_aload_n (i := 0) rfl (show decode cX12_summedUp 149 = .ok (.aload_n 0, 1) by decide +kernel) ?_
          refine gf_X12_35 (x := 328) rfl (show decode cX12_summedUp 150 = .ok (.getfield 35, 3) by decide +kernel) okl_321 rfl ?_
          refine j_iload (i := 5) rfl (show decode cX12_summedUp 153 = .ok (.iload 5, 2) by decide +kernel) ?_
          refine s_lald (show decode cX12_summedUp 155 = .ok (.laload, 1) by decide +kernel) okl_328 h.1 ?_
          have h := h.2
          have hb24 := h.1
          have h := h.2
          refine s_last (show decode cX12_summedUp 156 = .ok (.lastore, 1) by decide +kernel) okl_328 hb24 ?_
          obtain ⟨σ26, eσ26⟩ : ∃ z : jM, z = up σ 328 ((v5 + (-1)) - 1) (σ 328 (v5 + (-1))) := ⟨_, rfl⟩
          refine j_sig eσ26 ?_
          have h := h σ26 eσ26
          refine j_goto (tgt := 349) (show decode cX12_summedUp 157 = .ok (.goto 192, 3) by decide +kernel) (by decide) ?_
          exact h
    · have h := h.2 c
      refine s_aload_n (i := 0) rfl (show decode cX12_summedUp 87 = .ok (.aload_n 0, 1) by decide +kernel) ?_
      refine gf_X12_35 (x := 328) rfl (show decode cX12_summedUp 88 = .ok (.getfield 35, 3) by decide +kernel) okl_321 rfl ?_
      refine j_iload (i := 5) rfl (show decode cX12_summedUp 91 = .ok (.iload 5, 2) by decide +kernel) ?_
      refine j_iload (i := 8) rfl (show decode cX12_summedUp 93 = .ok (.iload 8, 2) by decide +kernel) ?_
      have hr26 := h.1
      have h := h.2
      refine j_if_ne (tgt := 104) hr26 (show decode cX12_summedUp 95 = .ok (.ifCond .ne 9, 3) by decide +kernel) (by decide) (fun c => ?_) (fun c => ?_)
      · have h := h.1 c
        refine s_aload_n (i := 0) rfl (show decode cX12_summedUp 104 = .ok (.aload_n 0, 1) by decide +kernel) ?_
        refine gf_X12_32 (x := 327) rfl (show decode cX12_summedUp 105 = .ok (.getfield 32, 3) by decide +kernel) okl_321 rfl ?_
        refine j_iload (i := 9) rfl (show decode cX12_summedUp 108 = .ok (.iload 9, 2) by decide +kernel) ?_
        refine s_iald (show decode cX12_summedUp 110 = .ok (.iaload, 1) by decide +kernel) okl_327 h.1 ?_
        have h := h.2
        have hr27 := h.1
        have h := h.2
        refine j_i2l hr27 (show decode cX12_summedUp 111 = .ok (.i2l, 1) by decide +kernel) ?_
        exact h
      · have h := h.2 c
        refine j_iload (i := 9) rfl (show decode cX12_summedUp 98 = .ok (.iload 9, 2) by decide +kernel) ?_
        have hr28 := h.1
        have h := h.2
        refine j_i2l hr28 (show decode cX12_summedUp 100 = .ok (.i2l, 1) by decide +kernel) ?_
        refine j_goto (tgt := 112) (show decode cX12_summedUp 101 = .ok (.goto 11, 3) by decide +kernel) (by decide) ?_
        exact h
set_option maxRecDepth 4000 in
theorem b_X12_summedUp_0 {d : Nat} {t : Int} {Q : Int → jM → Prop} {σ : jM} {p1 p2 : Int} (h : ((0 : Int) ≤ ((((681 * p1) + 1) + (3 * p2)) + 1) ∧ ((((681 * p1) + 1) + (3 * p2)) + 1) < 2724) ∧ (Jt mX12_summedUp (d + 1) 1 t Q 38 [rv 321, iv p1, iv p2, iv (((681 * p1) + 1) + (3 * p2)), iv ((681 * p1) + 73), iv 0, iv 0, iv (σ 324 ((((681 * p1) + 1) + (3 * p2)) + 1)), uv, uv] [] σ)) : Jt mX12_summedUp (d + 1) 1 t Q 0 [rv 321, iv p1, iv p2, uv, uv, uv, uv, uv, uv, uv] [] σ := by
  refine j_sipush (n := 681) (by decide +kernel) (show decode cX12_summedUp 0 = .ok (.sipush 681, 3) by decide +kernel) ?_
  refine j_iload_n (i := 1) rfl (show decode cX12_summedUp 3 = .ok (.iload_n 1, 1) by decide +kernel) ?_
  refine j_imul (show decode cX12_summedUp 4 = .ok (.imul, 1) by decide +kernel) ?_
  refine j_iconst (show decode cX12_summedUp 5 = .ok (.iconst 1, 1) by decide +kernel) ?_
  refine j_iadd (show decode cX12_summedUp 6 = .ok (.iadd, 1) by decide +kernel) ?_
  refine j_iconst (show decode cX12_summedUp 7 = .ok (.iconst 3, 1) by decide +kernel) ?_
  refine j_iload_n (i := 2) rfl (show decode cX12_summedUp 8 = .ok (.iload_n 2, 1) by decide +kernel) ?_
  refine j_imul (show decode cX12_summedUp 9 = .ok (.imul, 1) by decide +kernel) ?_
  refine j_iadd (show decode cX12_summedUp 10 = .ok (.iadd, 1) by decide +kernel) ?_
  refine s_ist_n (i := 3) (L' := [rv 321, iv p1, iv p2, iv (((681 * p1) + 1) + (3 * p2)), uv, uv, uv, uv, uv, uv]) rfl (by decide) (show decode cX12_summedUp 11 = .ok (.istore_n 3, 1) by decide +kernel) ?_
  refine j_sipush (n := 681) (by decide +kernel) (show decode cX12_summedUp 12 = .ok (.sipush 681, 3) by decide +kernel) ?_
  refine j_iload_n (i := 1) rfl (show decode cX12_summedUp 15 = .ok (.iload_n 1, 1) by decide +kernel) ?_
  refine j_imul (show decode cX12_summedUp 16 = .ok (.imul, 1) by decide +kernel) ?_
  refine j_bipush (n := 73) (by decide +kernel) (show decode cX12_summedUp 17 = .ok (.bipush 73, 2) by decide +kernel) ?_
  refine j_iadd (show decode cX12_summedUp 19 = .ok (.iadd, 1) by decide +kernel) ?_
  refine s_ist (i := 4) (L' := [rv 321, iv p1, iv p2, iv (((681 * p1) + 1) + (3 * p2)), iv ((681 * p1) + 73), uv, uv, uv, uv, uv]) rfl (by decide) (show decode cX12_summedUp 20 = .ok (.istore 4, 2) by decide +kernel) ?_
  refine j_iconst (show decode cX12_summedUp 22 = .ok (.iconst 0, 1) by decide +kernel) ?_
  refine s_ist (i := 5) (L' := [rv 321, iv p1, iv p2, iv (((681 * p1) + 1) + (3 * p2)), iv ((681 * p1) + 73), iv 0, uv, uv, uv, uv]) rfl (by decide) (show decode cX12_summedUp 23 = .ok (.istore 5, 2) by decide +kernel) ?_
  refine j_iconst (show decode cX12_summedUp 25 = .ok (.iconst 0, 1) by decide +kernel) ?_
  refine s_ist (i := 6) (L' := [rv 321, iv p1, iv p2, iv (((681 * p1) + 1) + (3 * p2)), iv ((681 * p1) + 73), iv 0, iv 0, uv, uv, uv]) rfl (by decide) (show decode cX12_summedUp 26 = .ok (.istore 6, 2) by decide +kernel) ?_
  refine s_aload_n (i := 0) rfl (show decode cX12_summedUp 28 = .ok (.aload_n 0, 1) by decide +kernel) ?_
  refine gf_X12_16 (x := 324) rfl (show decode cX12_summedUp 29 = .ok (.getfield 16, 3) by decide +kernel) okl_321 rfl ?_
  refine j_iload_n (i := 3) rfl (show decode cX12_summedUp 32 = .ok (.iload_n 3, 1) by decide +kernel) ?_
  refine j_iconst (show decode cX12_summedUp 33 = .ok (.iconst 1, 1) by decide +kernel) ?_
  refine j_iadd (show decode cX12_summedUp 34 = .ok (.iadd, 1) by decide +kernel) ?_
  refine s_iald (show decode cX12_summedUp 35 = .ok (.iaload, 1) by decide +kernel) okl_324 h.1 ?_
  have h := h.2
  refine s_ist (i := 7) (L' := [rv 321, iv p1, iv p2, iv (((681 * p1) + 1) + (3 * p2)), iv ((681 * p1) + 73), iv 0, iv 0, iv (σ 324 ((((681 * p1) + 1) + (3 * p2)) + 1)), uv, uv]) rfl (by decide) (show decode cX12_summedUp 36 = .ok (.istore 7, 2) by decide +kernel) ?_
  exact h
theorem c_X12_summedUp {d : Nat} {t : Int} {Q : Int → jM → Prop} {σ : jM} {p1 p2 : Int} (h : ((0 : Int) ≤ ((((681 * p1) + 1) + (3 * p2)) + 1) ∧ ((((681 * p1) + 1) + (3 * p2)) + 1) < 2724) ∧ (Jt mX12_summedUp (d + 1) 1 t Q 38 [rv 321, iv p1, iv p2, iv (((681 * p1) + 1) + (3 * p2)), iv ((681 * p1) + 73), iv 0, iv 0, iv (σ 324 ((((681 * p1) + 1) + (3 * p2)) + 1)), uv, uv] [] σ)) : Ct mX12_summedUp (d + 1) 1 t [rv 321, iv p1, iv p2] σ Q := Ct_of (by decide +kernel) (Nat.le_of_ble_eq_true rfl) (b_X12_summedUp_0 h)
set_option maxRecDepth 4000 in
theorem b_X12_says_3 {d : Nat} {t : Int} {Q : Int → jM → Prop} {σ : jM} {p1 p2 p3 p4 v5 : Int} (h : (inR p1) ∧ ((p1 < 0 → (Q p3 σ)) ∧ (0 ≤ p1 → (((0 : Int) ≤ (681 * p1) ∧ (681 * p1) < 2724) ∧ ((inR v5) ∧ ((inR (σ 324 (681 * p1))) ∧ (((σ 324 (681 * p1)) ≤ v5 → (Q p3 σ)) ∧ (v5 < (σ 324 (681 * p1)) → (((0 : Int) ≤ (((681 * p1) + 1) + (3 * v5)) ∧ (((681 * p1) + 1) + (3 * v5)) < 2724) ∧ ((inR (σ 324 (((681 * p1) + 1) + (3 * v5)))) ∧ ((inR p2) ∧ ((¬ (σ 324 (((681 * p1) + 1) + (3 * v5))) = p2 → (Jt mX12_says (d + 1) 0 t Q 3 [rv 321, iv p1, iv p2, iv p3, iv p4, iv (v5 + 1)] [] σ)) ∧ ((σ 324 (((681 * p1) + 1) + (3 * v5))) = p2 → (Ct mX12_summedUp d 1 t [rv 321, iv p1, iv v5] σ (fun r6 σ6 => (Ct mX12_held d 0 t [jv r6, iv 0, iv p4] σ6 (fun r7 σ7 => (Q r7 σ7)))))))))))))))))) : Jt mX12_says (d + 1) 0 t Q 3 [rv 321, iv p1, iv p2, iv p3, iv p4, iv v5] [] σ := by
  refine j_iload_n (i := 1) rfl (show decode cX12_says 3 = .ok (.iload_n 1, 1) by decide +kernel) ?_
  have hr0 := h.1
  have h := h.2
  refine j_if_lt (tgt := 63) hr0 (show decode cX12_says 4 = .ok (.ifCond .lt 59, 3) by decide +kernel) (by decide) (fun c => ?_) (fun c => ?_)
  · have h := h.1 c
    refine j_iload_n (i := 3) rfl (show decode cX12_says 63 = .ok (.iload_n 3, 1) by decide +kernel) ?_
    exact j_ret (rokI (show decode cX12_says 64 = .ok (.ireturn, 1) by decide +kernel) rfl) ⟨rfl, rfl, h⟩
  · have h := h.2 c
    refine j_iload (i := 5) rfl (show decode cX12_says 7 = .ok (.iload 5, 2) by decide +kernel) ?_
    refine s_aload_n (i := 0) rfl (show decode cX12_says 9 = .ok (.aload_n 0, 1) by decide +kernel) ?_
    refine gf_X12_16 (x := 324) rfl (show decode cX12_says 10 = .ok (.getfield 16, 3) by decide +kernel) okl_321 rfl ?_
    refine j_sipush (n := 681) (by decide +kernel) (show decode cX12_says 13 = .ok (.sipush 681, 3) by decide +kernel) ?_
    refine j_iload_n (i := 1) rfl (show decode cX12_says 16 = .ok (.iload_n 1, 1) by decide +kernel) ?_
    refine j_imul (show decode cX12_says 17 = .ok (.imul, 1) by decide +kernel) ?_
    refine s_iald (show decode cX12_says 18 = .ok (.iaload, 1) by decide +kernel) okl_324 h.1 ?_
    have h := h.2
    have hr1 := h.1
    have h := h.2
    have hr2 := h.1
    have h := h.2
    refine j_icmp_ge (tgt := 63) hr1 hr2 (show decode cX12_says 19 = .ok (.if_icmp .ge 44, 3) by decide +kernel) (by decide) (fun c => ?_) (fun c => ?_)
    · have h := h.1 c
      refine j_iload_n (i := 3) rfl (show decode cX12_says 63 = .ok (.iload_n 3, 1) by decide +kernel) ?_
      exact j_ret (rokI (show decode cX12_says 64 = .ok (.ireturn, 1) by decide +kernel) rfl) ⟨rfl, rfl, h⟩
    · have h := h.2 c
      refine s_aload_n (i := 0) rfl (show decode cX12_says 22 = .ok (.aload_n 0, 1) by decide +kernel) ?_
      refine gf_X12_16 (x := 324) rfl (show decode cX12_says 23 = .ok (.getfield 16, 3) by decide +kernel) okl_321 rfl ?_
      refine j_sipush (n := 681) (by decide +kernel) (show decode cX12_says 26 = .ok (.sipush 681, 3) by decide +kernel) ?_
      refine j_iload_n (i := 1) rfl (show decode cX12_says 29 = .ok (.iload_n 1, 1) by decide +kernel) ?_
      refine j_imul (show decode cX12_says 30 = .ok (.imul, 1) by decide +kernel) ?_
      refine j_iconst (show decode cX12_says 31 = .ok (.iconst 1, 1) by decide +kernel) ?_
      refine j_iadd (show decode cX12_says 32 = .ok (.iadd, 1) by decide +kernel) ?_
      refine j_iconst (show decode cX12_says 33 = .ok (.iconst 3, 1) by decide +kernel) ?_
      refine j_iload (i := 5) rfl (show decode cX12_says 34 = .ok (.iload 5, 2) by decide +kernel) ?_
      refine j_imul (show decode cX12_says 36 = .ok (.imul, 1) by decide +kernel) ?_
      refine j_iadd (show decode cX12_says 37 = .ok (.iadd, 1) by decide +kernel) ?_
      refine s_iald (show decode cX12_says 38 = .ok (.iaload, 1) by decide +kernel) okl_324 h.1 ?_
      have h := h.2
      refine j_iload_n (i := 2) rfl (show decode cX12_says 39 = .ok (.iload_n 2, 1) by decide +kernel) ?_
      have hr3 := h.1
      have h := h.2
      have hr4 := h.1
      have h := h.2
      refine j_icmp_ne (tgt := 57) hr3 hr4 (show decode cX12_says 40 = .ok (.if_icmp .ne 17, 3) by decide +kernel) (by decide) (fun c => ?_) (fun c => ?_)
      · have h := h.1 c
        refine s_iinc (i := 5) rfl (L' := [rv 321, iv p1, iv p2, iv p3, iv p4, iv (v5 + 1)]) rfl (show decode cX12_says 57 = .ok (.iinc 5 1, 3) by decide +kernel) ?_
        refine j_goto (tgt := 3) (show decode cX12_says 60 = .ok (.goto (-57), 3) by decide +kernel) (by decide) ?_
        exact h
      · have h := h.2 c
        refine s_aload_n (i := 0) rfl (show decode cX12_says 43 = .ok (.aload_n 0, 1) by decide +kernel) ?_
        refine j_iload_n (i := 1) rfl (show decode cX12_says 44 = .ok (.iload_n 1, 1) by decide +kernel) ?_
        refine j_iload (i := 5) rfl (show decode cX12_says 45 = .ok (.iload 5, 2) by decide +kernel) ?_
        refine j_ctV (m' := mX12_summedUp) (As := [iv p1, iv v5]) (ci := 12) (tag := 1) (N := 0) (cw_X12_295 rfl) (show decode cX12_says 47 = .ok (.invokevirtual 295, 3) by decide +kernel) rfl (Nat.le_of_ble_eq_true rfl) (by decide) okl_321 rfl rfl (Nat.le_refl _) h (fun r6 σ6 h => ?_)
        refine j_iconst (show decode cX12_says 50 = .ok (.iconst 0, 1) by decide +kernel) ?_
        refine j_iload (i := 4) rfl (show decode cX12_says 51 = .ok (.iload 4, 2) by decide +kernel) ?_
        refine j_ctS (m' := mX12_held) (As := [jv r6, iv 0, iv p4]) (tag := 0) (cw_X12_275 rfl) (show decode cX12_says 53 = .ok (.invokestatic 275, 3) by decide +kernel) rfl (Nat.le_of_ble_eq_true rfl) (by decide) (Nat.le_refl _) h (fun r7 σ7 h => ?_)
        exact j_ret (rokI (show decode cX12_says 56 = .ok (.ireturn, 1) by decide +kernel) rfl) ⟨rfl, rfl, h⟩
set_option maxRecDepth 4000 in
theorem b_X12_says_0 {d : Nat} {t : Int} {Q : Int → jM → Prop} {σ : jM} {p1 p2 p3 p4 : Int} (h : Jt mX12_says (d + 1) 0 t Q 3 [rv 321, iv p1, iv p2, iv p3, iv p4, iv 0] [] σ) : Jt mX12_says (d + 1) 0 t Q 0 [rv 321, iv p1, iv p2, iv p3, iv p4, uv] [] σ := by
  refine j_iconst (show decode cX12_says 0 = .ok (.iconst 0, 1) by decide +kernel) ?_
  refine s_ist (i := 5) (L' := [rv 321, iv p1, iv p2, iv p3, iv p4, iv 0]) rfl (by decide) (show decode cX12_says 1 = .ok (.istore 5, 2) by decide +kernel) ?_
  exact h
theorem c_X12_says {d : Nat} {t : Int} {Q : Int → jM → Prop} {σ : jM} {p1 p2 p3 p4 : Int} (h : Jt mX12_says (d + 1) 0 t Q 3 [rv 321, iv p1, iv p2, iv p3, iv p4, iv 0] [] σ) : Ct mX12_says (d + 1) 0 t [rv 321, iv p1, iv p2, iv p3, iv p4] σ Q := Ct_of (by decide +kernel) (Nat.le_of_ble_eq_true rfl) (b_X12_says_0 h)
set_option maxRecDepth 4000 in
theorem b_X12_name_0 {d : Nat} {t : Int} {Q : Int → jM → Prop} {σ : jM} {p1 : Int} (h : ((0 : Int) ≤ 6 ∧ (6 : Int) < 2208) ∧ (((0 : Int) ≤ 0 ∧ (0 : Int) < 7) ∧ (∀ σ2 : jM, σ2 = up σ 327 0 (σ 322 6) → (((0 : Int) ≤ 1 ∧ (1 : Int) < 7) ∧ (∀ σ4 : jM, σ4 = up σ2 327 1 p1 → (((0 : Int) ≤ (10 + p1) ∧ (10 + p1) < 2208) ∧ (((0 : Int) ≤ 2 ∧ (2 : Int) < 7) ∧ (∀ σ6 : jM, σ6 = up σ4 327 2 (σ4 322 (10 + p1)) → (((0 : Int) ≤ (18 + p1) ∧ (18 + p1) < 2208) ∧ (((0 : Int) ≤ 3 ∧ (3 : Int) < 7) ∧ (∀ σ8 : jM, σ8 = up σ6 327 3 (σ6 322 (18 + p1)) → (Ct mX12_fullNow d 0 t [rv 321] σ8 (fun r9 σ9 => (((0 : Int) ≤ 4 ∧ (4 : Int) < 7) ∧ (∀ σ11 : jM, σ11 = up σ9 327 4 r9 → (((0 : Int) ≤ (10 + p1) ∧ (10 + p1) < 2208) ∧ ((inR (σ11 322 (10 + p1))) ∧ (((0 : Int) ≤ 5 ∧ (5 : Int) < 7) ∧ (∀ σ14 : jM, σ14 = up σ11 327 5 (Int.tmod (σ11 322 (10 + p1)) 2) → (((0 : Int) ≤ 8 ∧ (8 : Int) < 2208) ∧ (((0 : Int) ≤ 6 ∧ (6 : Int) < 7) ∧ (∀ σ16 : jM, σ16 = up σ14 327 6 (σ14 322 8) → (Q 0 σ16))))))))))))))))))))))) : Jt mX12_name (d + 1) 9 t Q 0 [rv 321, iv p1] [] σ := by
  refine s_aload_n (i := 0) rfl (show decode cX12_name 0 = .ok (.aload_n 0, 1) by decide +kernel) ?_
  refine gf_X12_32 (x := 327) rfl (show decode cX12_name 1 = .ok (.getfield 32, 3) by decide +kernel) okl_321 rfl ?_
  refine j_iconst (show decode cX12_name 4 = .ok (.iconst 0, 1) by decide +kernel) ?_
  refine s_aload_n (i := 0) rfl (show decode cX12_name 5 = .ok (.aload_n 0, 1) by decide +kernel) ?_
  refine gf_X12_7 (x := 322) rfl (show decode cX12_name 6 = .ok (.getfield 7, 3) by decide +kernel) okl_321 rfl ?_
  refine j_bipush (n := 6) (by decide +kernel) (show decode cX12_name 9 = .ok (.bipush 6, 2) by decide +kernel) ?_
  refine s_iald (show decode cX12_name 11 = .ok (.iaload, 1) by decide +kernel) okl_322 h.1 ?_
  have h := h.2
  have hb0 := h.1
  have h := h.2
  refine s_iast (show decode cX12_name 12 = .ok (.iastore, 1) by decide +kernel) okl_327 hb0 ?_
  obtain ⟨σ2, eσ2⟩ : ∃ z : jM, z = up σ 327 0 (σ 322 6) := ⟨_, rfl⟩
  refine j_sig eσ2 ?_
  have h := h σ2 eσ2
  refine s_aload_n (i := 0) rfl (show decode cX12_name 13 = .ok (.aload_n 0, 1) by decide +kernel) ?_
  refine gf_X12_32 (x := 327) rfl (show decode cX12_name 14 = .ok (.getfield 32, 3) by decide +kernel) okl_321 rfl ?_
  refine j_iconst (show decode cX12_name 17 = .ok (.iconst 1, 1) by decide +kernel) ?_
  refine j_iload_n (i := 1) rfl (show decode cX12_name 18 = .ok (.iload_n 1, 1) by decide +kernel) ?_
  have hb2 := h.1
  have h := h.2
  refine s_iast (show decode cX12_name 19 = .ok (.iastore, 1) by decide +kernel) okl_327 hb2 ?_
  obtain ⟨σ4, eσ4⟩ : ∃ z : jM, z = up σ2 327 1 p1 := ⟨_, rfl⟩
  refine j_sig eσ4 ?_
  have h := h σ4 eσ4
  refine s_aload_n (i := 0) rfl (show decode cX12_name 20 = .ok (.aload_n 0, 1) by decide +kernel) ?_
  refine gf_X12_32 (x := 327) rfl (show decode cX12_name 21 = .ok (.getfield 32, 3) by decide +kernel) okl_321 rfl ?_
  refine j_iconst (show decode cX12_name 24 = .ok (.iconst 2, 1) by decide +kernel) ?_
  refine s_aload_n (i := 0) rfl (show decode cX12_name 25 = .ok (.aload_n 0, 1) by decide +kernel) ?_
  refine gf_X12_7 (x := 322) rfl (show decode cX12_name 26 = .ok (.getfield 7, 3) by decide +kernel) okl_321 rfl ?_
  refine j_bipush (n := 10) (by decide +kernel) (show decode cX12_name 29 = .ok (.bipush 10, 2) by decide +kernel) ?_
  refine j_iload_n (i := 1) rfl (show decode cX12_name 31 = .ok (.iload_n 1, 1) by decide +kernel) ?_
  refine j_iadd (show decode cX12_name 32 = .ok (.iadd, 1) by decide +kernel) ?_
  refine s_iald (show decode cX12_name 33 = .ok (.iaload, 1) by decide +kernel) okl_322 h.1 ?_
  have h := h.2
  have hb4 := h.1
  have h := h.2
  refine s_iast (show decode cX12_name 34 = .ok (.iastore, 1) by decide +kernel) okl_327 hb4 ?_
  obtain ⟨σ6, eσ6⟩ : ∃ z : jM, z = up σ4 327 2 (σ4 322 (10 + p1)) := ⟨_, rfl⟩
  refine j_sig eσ6 ?_
  have h := h σ6 eσ6
  refine s_aload_n (i := 0) rfl (show decode cX12_name 35 = .ok (.aload_n 0, 1) by decide +kernel) ?_
  refine gf_X12_32 (x := 327) rfl (show decode cX12_name 36 = .ok (.getfield 32, 3) by decide +kernel) okl_321 rfl ?_
  refine j_iconst (show decode cX12_name 39 = .ok (.iconst 3, 1) by decide +kernel) ?_
  refine s_aload_n (i := 0) rfl (show decode cX12_name 40 = .ok (.aload_n 0, 1) by decide +kernel) ?_
  refine gf_X12_7 (x := 322) rfl (show decode cX12_name 41 = .ok (.getfield 7, 3) by decide +kernel) okl_321 rfl ?_
  refine j_bipush (n := 18) (by decide +kernel) (show decode cX12_name 44 = .ok (.bipush 18, 2) by decide +kernel) ?_
  refine j_iload_n (i := 1) rfl (show decode cX12_name 46 = .ok (.iload_n 1, 1) by decide +kernel) ?_
  refine j_iadd (show decode cX12_name 47 = .ok (.iadd, 1) by decide +kernel) ?_
  refine s_iald (show decode cX12_name 48 = .ok (.iaload, 1) by decide +kernel) okl_322 h.1 ?_
  have h := h.2
  have hb6 := h.1
  have h := h.2
  refine s_iast (show decode cX12_name 49 = .ok (.iastore, 1) by decide +kernel) okl_327 hb6 ?_
  obtain ⟨σ8, eσ8⟩ : ∃ z : jM, z = up σ6 327 3 (σ6 322 (18 + p1)) := ⟨_, rfl⟩
  refine j_sig eσ8 ?_
  have h := h σ8 eσ8
  refine s_aload_n (i := 0) rfl (show decode cX12_name 50 = .ok (.aload_n 0, 1) by decide +kernel) ?_
  refine gf_X12_32 (x := 327) rfl (show decode cX12_name 51 = .ok (.getfield 32, 3) by decide +kernel) okl_321 rfl ?_
  refine j_iconst (show decode cX12_name 54 = .ok (.iconst 4, 1) by decide +kernel) ?_
  refine s_aload_n (i := 0) rfl (show decode cX12_name 55 = .ok (.aload_n 0, 1) by decide +kernel) ?_
  refine j_ctV (m' := mX12_fullNow) (As := []) (ci := 12) (tag := 0) (N := 0) (cw_X12_298 rfl) (show decode cX12_name 56 = .ok (.invokevirtual 298, 3) by decide +kernel) rfl (Nat.le_of_ble_eq_true rfl) (by decide) okl_321 rfl rfl (Nat.le_refl _) h (fun r9 σ9 h => ?_)
  have hb9 := h.1
  have h := h.2
  refine s_iast (show decode cX12_name 59 = .ok (.iastore, 1) by decide +kernel) okl_327 hb9 ?_
  obtain ⟨σ11, eσ11⟩ : ∃ z : jM, z = up σ9 327 4 r9 := ⟨_, rfl⟩
  refine j_sig eσ11 ?_
  have h := h σ11 eσ11
  refine s_aload_n (i := 0) rfl (show decode cX12_name 60 = .ok (.aload_n 0, 1) by decide +kernel) ?_
  refine gf_X12_32 (x := 327) rfl (show decode cX12_name 61 = .ok (.getfield 32, 3) by decide +kernel) okl_321 rfl ?_
  refine j_iconst (show decode cX12_name 64 = .ok (.iconst 5, 1) by decide +kernel) ?_
  refine s_aload_n (i := 0) rfl (show decode cX12_name 65 = .ok (.aload_n 0, 1) by decide +kernel) ?_
  refine gf_X12_7 (x := 322) rfl (show decode cX12_name 66 = .ok (.getfield 7, 3) by decide +kernel) okl_321 rfl ?_
  refine j_bipush (n := 10) (by decide +kernel) (show decode cX12_name 69 = .ok (.bipush 10, 2) by decide +kernel) ?_
  refine j_iload_n (i := 1) rfl (show decode cX12_name 71 = .ok (.iload_n 1, 1) by decide +kernel) ?_
  refine j_iadd (show decode cX12_name 72 = .ok (.iadd, 1) by decide +kernel) ?_
  refine s_iald (show decode cX12_name 73 = .ok (.iaload, 1) by decide +kernel) okl_322 h.1 ?_
  have h := h.2
  refine j_iconst (show decode cX12_name 74 = .ok (.iconst 2, 1) by decide +kernel) ?_
  have hr11 := h.1
  have h := h.2
  refine j_irem hr11 (inl (by decide)) (by decide) (show decode cX12_name 75 = .ok (.irem, 1) by decide +kernel) ?_
  have hb12 := h.1
  have h := h.2
  refine s_iast (show decode cX12_name 76 = .ok (.iastore, 1) by decide +kernel) okl_327 hb12 ?_
  obtain ⟨σ14, eσ14⟩ : ∃ z : jM, z = up σ11 327 5 (Int.tmod (σ11 322 (10 + p1)) 2) := ⟨_, rfl⟩
  refine j_sig eσ14 ?_
  have h := h σ14 eσ14
  refine s_aload_n (i := 0) rfl (show decode cX12_name 77 = .ok (.aload_n 0, 1) by decide +kernel) ?_
  refine gf_X12_32 (x := 327) rfl (show decode cX12_name 78 = .ok (.getfield 32, 3) by decide +kernel) okl_321 rfl ?_
  refine j_bipush (n := 6) (by decide +kernel) (show decode cX12_name 81 = .ok (.bipush 6, 2) by decide +kernel) ?_
  refine s_aload_n (i := 0) rfl (show decode cX12_name 83 = .ok (.aload_n 0, 1) by decide +kernel) ?_
  refine gf_X12_7 (x := 322) rfl (show decode cX12_name 84 = .ok (.getfield 7, 3) by decide +kernel) okl_321 rfl ?_
  refine j_bipush (n := 8) (by decide +kernel) (show decode cX12_name 87 = .ok (.bipush 8, 2) by decide +kernel) ?_
  refine s_iald (show decode cX12_name 89 = .ok (.iaload, 1) by decide +kernel) okl_322 h.1 ?_
  have h := h.2
  have hb14 := h.1
  have h := h.2
  refine s_iast (show decode cX12_name 90 = .ok (.iastore, 1) by decide +kernel) okl_327 hb14 ?_
  obtain ⟨σ16, eσ16⟩ : ∃ z : jM, z = up σ14 327 6 (σ14 322 8) := ⟨_, rfl⟩
  refine j_sig eσ16 ?_
  have h := h σ16 eσ16
  exact j_ret (rokV (show decode cX12_name 91 = .ok (.return_, 1) by decide +kernel) rfl) ⟨rfl, rfl, h⟩
theorem c_X12_name {d : Nat} {t : Int} {Q : Int → jM → Prop} {σ : jM} {p1 : Int} (h : ((0 : Int) ≤ 6 ∧ (6 : Int) < 2208) ∧ (((0 : Int) ≤ 0 ∧ (0 : Int) < 7) ∧ (∀ σ2 : jM, σ2 = up σ 327 0 (σ 322 6) → (((0 : Int) ≤ 1 ∧ (1 : Int) < 7) ∧ (∀ σ4 : jM, σ4 = up σ2 327 1 p1 → (((0 : Int) ≤ (10 + p1) ∧ (10 + p1) < 2208) ∧ (((0 : Int) ≤ 2 ∧ (2 : Int) < 7) ∧ (∀ σ6 : jM, σ6 = up σ4 327 2 (σ4 322 (10 + p1)) → (((0 : Int) ≤ (18 + p1) ∧ (18 + p1) < 2208) ∧ (((0 : Int) ≤ 3 ∧ (3 : Int) < 7) ∧ (∀ σ8 : jM, σ8 = up σ6 327 3 (σ6 322 (18 + p1)) → (Ct mX12_fullNow d 0 t [rv 321] σ8 (fun r9 σ9 => (((0 : Int) ≤ 4 ∧ (4 : Int) < 7) ∧ (∀ σ11 : jM, σ11 = up σ9 327 4 r9 → (((0 : Int) ≤ (10 + p1) ∧ (10 + p1) < 2208) ∧ ((inR (σ11 322 (10 + p1))) ∧ (((0 : Int) ≤ 5 ∧ (5 : Int) < 7) ∧ (∀ σ14 : jM, σ14 = up σ11 327 5 (Int.tmod (σ11 322 (10 + p1)) 2) → (((0 : Int) ≤ 8 ∧ (8 : Int) < 2208) ∧ (((0 : Int) ≤ 6 ∧ (6 : Int) < 7) ∧ (∀ σ16 : jM, σ16 = up σ14 327 6 (σ14 322 8) → (Q 0 σ16))))))))))))))))))))))) : Ct mX12_name (d + 1) 9 t [rv 321, iv p1] σ Q := Ct_of (by decide +kernel) (Nat.le_of_ble_eq_true rfl) (b_X12_name_0 h)
set_option maxRecDepth 4000 in
theorem b_X12_tiresOf_0 {d : Nat} {t : Int} {Q : Int → jM → Prop} {σ : jM} {p1 p2 : Int} (h : Ct mX12_name d 9 t [rv 321, iv p2] σ (fun r1 σ1 => (Ct mX12_says d 0 t [rv 321, iv p1, iv 0, iv 2, iv 10] σ1 (fun r2 σ2 => (Q r2 σ2))))) : Jt mX12_tiresOf (d + 1) 0 t Q 0 [rv 321, iv p1, iv p2] [] σ := by
  refine s_aload_n (i := 0) rfl (show decode cX12_tiresOf 0 = .ok (.aload_n 0, 1) by decide +kernel) ?_
  refine j_iload_n (i := 2) rfl (show decode cX12_tiresOf 1 = .ok (.iload_n 2, 1) by decide +kernel) ?_
  refine j_ctVv (m' := mX12_name) (As := [iv p2]) (ci := 12) (N := 0) (cw_X12_301 rfl) (show decode cX12_tiresOf 2 = .ok (.invokevirtual 301, 3) by decide +kernel) rfl (Nat.le_of_ble_eq_true rfl) okl_321 rfl rfl (Nat.le_refl _) h (fun r1 σ1 h => ?_)
  refine s_aload_n (i := 0) rfl (show decode cX12_tiresOf 5 = .ok (.aload_n 0, 1) by decide +kernel) ?_
  refine j_iload_n (i := 1) rfl (show decode cX12_tiresOf 6 = .ok (.iload_n 1, 1) by decide +kernel) ?_
  refine j_iconst (show decode cX12_tiresOf 7 = .ok (.iconst 0, 1) by decide +kernel) ?_
  refine j_iconst (show decode cX12_tiresOf 8 = .ok (.iconst 2, 1) by decide +kernel) ?_
  refine j_bipush (n := 10) (by decide +kernel) (show decode cX12_tiresOf 9 = .ok (.bipush 10, 2) by decide +kernel) ?_
  refine j_ctV (m' := mX12_says) (As := [iv p1, iv 0, iv 2, iv 10]) (ci := 12) (tag := 0) (N := 0) (cw_X12_304 rfl) (show decode cX12_tiresOf 11 = .ok (.invokevirtual 304, 3) by decide +kernel) rfl (Nat.le_of_ble_eq_true rfl) (by decide) okl_321 rfl rfl (Nat.le_refl _) h (fun r2 σ2 h => ?_)
  exact j_ret (rokI (show decode cX12_tiresOf 14 = .ok (.ireturn, 1) by decide +kernel) rfl) ⟨rfl, rfl, h⟩
theorem c_X12_tiresOf {d : Nat} {t : Int} {Q : Int → jM → Prop} {σ : jM} {p1 p2 : Int} (h : Ct mX12_name d 9 t [rv 321, iv p2] σ (fun r1 σ1 => (Ct mX12_says d 0 t [rv 321, iv p1, iv 0, iv 2, iv 10] σ1 (fun r2 σ2 => (Q r2 σ2))))) : Ct mX12_tiresOf (d + 1) 0 t [rv 321, iv p1, iv p2] σ Q := Ct_of (by decide +kernel) (Nat.le_of_ble_eq_true rfl) (b_X12_tiresOf_0 h)
set_option maxRecDepth 4000 in
theorem b_X12_priceOf_0 {d : Nat} {t : Int} {Q : Int → jM → Prop} {σ : jM} {p1 : Int} (h : Ct mX12_name d 9 t [rv 321, iv p1] σ (fun r1 σ1 => (((0 : Int) ≤ 1 ∧ (1 : Int) < 2208) ∧ (((0 : Int) ≤ (10 + p1) ∧ (10 + p1) < 2208) ∧ (Ct mX12_says d 0 t [rv 321, iv (σ1 322 1), iv 1, iv (σ1 322 (10 + p1)), iv 9999] σ1 (fun r2 σ2 => (Q r2 σ2))))))) : Jt mX12_priceOf (d + 1) 0 t Q 0 [rv 321, iv p1] [] σ := by
  refine s_aload_n (i := 0) rfl (show decode cX12_priceOf 0 = .ok (.aload_n 0, 1) by decide +kernel) ?_
  refine j_iload_n (i := 1) rfl (show decode cX12_priceOf 1 = .ok (.iload_n 1, 1) by decide +kernel) ?_
  refine j_ctVv (m' := mX12_name) (As := [iv p1]) (ci := 12) (N := 0) (cw_X12_301 rfl) (show decode cX12_priceOf 2 = .ok (.invokevirtual 301, 3) by decide +kernel) rfl (Nat.le_of_ble_eq_true rfl) okl_321 rfl rfl (Nat.le_refl _) h (fun r1 σ1 h => ?_)
  refine s_aload_n (i := 0) rfl (show decode cX12_priceOf 5 = .ok (.aload_n 0, 1) by decide +kernel) ?_
  refine s_aload_n (i := 0) rfl (show decode cX12_priceOf 6 = .ok (.aload_n 0, 1) by decide +kernel) ?_
  refine gf_X12_7 (x := 322) rfl (show decode cX12_priceOf 7 = .ok (.getfield 7, 3) by decide +kernel) okl_321 rfl ?_
  refine j_iconst (show decode cX12_priceOf 10 = .ok (.iconst 1, 1) by decide +kernel) ?_
  refine s_iald (show decode cX12_priceOf 11 = .ok (.iaload, 1) by decide +kernel) okl_322 h.1 ?_
  have h := h.2
  refine j_iconst (show decode cX12_priceOf 12 = .ok (.iconst 1, 1) by decide +kernel) ?_
  refine s_aload_n (i := 0) rfl (show decode cX12_priceOf 13 = .ok (.aload_n 0, 1) by decide +kernel) ?_
  refine gf_X12_7 (x := 322) rfl (show decode cX12_priceOf 14 = .ok (.getfield 7, 3) by decide +kernel) okl_321 rfl ?_
  refine j_bipush (n := 10) (by decide +kernel) (show decode cX12_priceOf 17 = .ok (.bipush 10, 2) by decide +kernel) ?_
  refine j_iload_n (i := 1) rfl (show decode cX12_priceOf 19 = .ok (.iload_n 1, 1) by decide +kernel) ?_
  refine j_iadd (show decode cX12_priceOf 20 = .ok (.iadd, 1) by decide +kernel) ?_
  refine s_iald (show decode cX12_priceOf 21 = .ok (.iaload, 1) by decide +kernel) okl_322 h.1 ?_
  have h := h.2
  refine j_sipush (n := 9999) (by decide +kernel) (show decode cX12_priceOf 22 = .ok (.sipush 9999, 3) by decide +kernel) ?_
  refine j_ctV (m' := mX12_says) (As := [iv (σ1 322 1), iv 1, iv (σ1 322 (10 + p1)), iv 9999]) (ci := 12) (tag := 0) (N := 0) (cw_X12_304 rfl) (show decode cX12_priceOf 25 = .ok (.invokevirtual 304, 3) by decide +kernel) rfl (Nat.le_of_ble_eq_true rfl) (by decide) okl_321 rfl rfl (Nat.le_refl _) h (fun r2 σ2 h => ?_)
  exact j_ret (rokI (show decode cX12_priceOf 28 = .ok (.ireturn, 1) by decide +kernel) rfl) ⟨rfl, rfl, h⟩
theorem c_X12_priceOf {d : Nat} {t : Int} {Q : Int → jM → Prop} {σ : jM} {p1 : Int} (h : Ct mX12_name d 9 t [rv 321, iv p1] σ (fun r1 σ1 => (((0 : Int) ≤ 1 ∧ (1 : Int) < 2208) ∧ (((0 : Int) ≤ (10 + p1) ∧ (10 + p1) < 2208) ∧ (Ct mX12_says d 0 t [rv 321, iv (σ1 322 1), iv 1, iv (σ1 322 (10 + p1)), iv 9999] σ1 (fun r2 σ2 => (Q r2 σ2))))))) : Ct mX12_priceOf (d + 1) 0 t [rv 321, iv p1] σ Q := Ct_of (by decide +kernel) (Nat.le_of_ble_eq_true rfl) (b_X12_priceOf_0 h)
set_option maxRecDepth 4000 in
theorem b_X12_write_23 {d : Nat} {t : Int} {Q : Int → jM → Prop} {σ : jM} {p1 p2 p3 v4 : Int} (h : (inR v4) ∧ ((50 ≤ v4 → (((0 : Int) ≤ 9 ∧ (9 : Int) < 2208) ∧ (((0 : Int) ≤ 9 ∧ (9 : Int) < 2208) ∧ (∀ σ3 : jM, σ3 = up σ 322 9 ((σ 322 9) - 1) → (((0 : Int) ≤ 9 ∧ (9 : Int) < 2208) ∧ (((0 : Int) ≤ 6 ∧ (6 : Int) < 2208) ∧ (((0 : Int) ≤ (2158 + (2 * (σ3 322 9))) ∧ (2158 + (2 * (σ3 322 9))) < 2208) ∧ (∀ σ5 : jM, σ5 = up σ3 322 (2158 + (2 * (σ3 322 9))) (((((σ3 322 6) * 4) + p1) * 8) + p2) → (((0 : Int) ≤ 9 ∧ (9 : Int) < 2208) ∧ (((0 : Int) ≤ ((2158 + (2 * (σ5 322 9))) + 1) ∧ ((2158 + (2 * (σ5 322 9))) + 1) < 2208) ∧ (∀ σ7 : jM, σ7 = up σ5 322 ((2158 + (2 * (σ5 322 9))) + 1) p3 → (((0 : Int) ≤ 9 ∧ (9 : Int) < 2208) ∧ (((0 : Int) ≤ 9 ∧ (9 : Int) < 2208) ∧ (∀ σ9 : jM, σ9 = up σ7 322 9 ((σ7 322 9) + 1) → (Q 0 σ9))))))))))))))) ∧ (v4 < 50 → (((0 : Int) ≤ (2158 + v4) ∧ (2158 + v4) < 2208) ∧ (((0 : Int) ≤ ((2158 + v4) - 2) ∧ ((2158 + v4) - 2) < 2208) ∧ (∀ σ11 : jM, σ11 = up σ 322 ((2158 + v4) - 2) (σ 322 (2158 + v4)) → (Jt mX12_write (d) 9 t Q 23 [rv 321, iv p1, iv p2, iv p3, iv (v4 + 1)] [] σ11))))))) : Jt mX12_write (d) 9 t Q 23 [rv 321, iv p1, iv p2, iv p3, iv v4] [] σ := by
  refine j_iload (i := 4) rfl (show decode cX12_write 23 = .ok (.iload 4, 2) by decide +kernel) ?_
  refine j_bipush (n := 50) (by decide +kernel) (show decode cX12_write 25 = .ok (.bipush 50, 2) by decide +kernel) ?_
  have hr0 := h.1
  have h := h.2
  refine j_icmp_ge (tgt := 60) hr0 (inl (by decide)) (show decode cX12_write 27 = .ok (.if_icmp .ge 33, 3) by decide +kernel) (by decide) (fun c => ?_) (fun c => ?_)
  · have h := h.1 c
    refine s_aload_n (i := 0) rfl (show decode cX12_write 60 = .ok (.aload_n 0, 1) by decide +kernel) ?_
    refine gf_X12_7 (x := 322) rfl (show decode cX12_write 61 = .ok (.getfield 7, 3) by decide +kernel) okl_321 rfl ?_
    refine j_bipush (n := 9) (by decide +kernel) (show decode cX12_write 64 = .ok (.bipush 9, 2) by decide +kernel) ?_
    refine j_dup2 (show (0 : Nat) ≠ 1 by decide) (show (2 : Nat) ≠ 1 by decide) (show decode cX12_write 66 = .ok (.dup2, 1) by decide +kernel) ?_
    refine s_iald (show decode cX12_write 67 = .ok (.iaload, 1) by decide +kernel) okl_322 h.1 ?_
    have h := h.2
    refine j_iconst (show decode cX12_write 68 = .ok (.iconst 1, 1) by decide +kernel) ?_
    refine j_isub (show decode cX12_write 69 = .ok (.isub, 1) by decide +kernel) ?_
    have hb1 := h.1
    have h := h.2
    refine s_iast (show decode cX12_write 70 = .ok (.iastore, 1) by decide +kernel) okl_322 hb1 ?_
    obtain ⟨σ3, eσ3⟩ : ∃ z : jM, z = up σ 322 9 ((σ 322 9) - 1) := ⟨_, rfl⟩
    refine j_sig eσ3 ?_
    have h := h σ3 eσ3
    refine s_aload_n (i := 0) rfl (show decode cX12_write 71 = .ok (.aload_n 0, 1) by decide +kernel) ?_
    refine gf_X12_7 (x := 322) rfl (show decode cX12_write 72 = .ok (.getfield 7, 3) by decide +kernel) okl_321 rfl ?_
    refine j_sipush (n := 2158) (by decide +kernel) (show decode cX12_write 75 = .ok (.sipush 2158, 3) by decide +kernel) ?_
    refine j_iconst (show decode cX12_write 78 = .ok (.iconst 2, 1) by decide +kernel) ?_
    refine s_aload_n (i := 0) rfl (show decode cX12_write 79 = .ok (.aload_n 0, 1) by decide +kernel) ?_
    refine gf_X12_7 (x := 322) rfl (show decode cX12_write 80 = .ok (.getfield 7, 3) by decide +kernel) okl_321 rfl ?_
    refine j_bipush (n := 9) (by decide +kernel) (show decode cX12_write 83 = .ok (.bipush 9, 2) by decide +kernel) ?_
    refine s_iald (show decode cX12_write 85 = .ok (.iaload, 1) by decide +kernel) okl_322 h.1 ?_
    have h := h.2
    refine j_imul (show decode cX12_write 86 = .ok (.imul, 1) by decide +kernel) ?_
    refine j_iadd (show decode cX12_write 87 = .ok (.iadd, 1) by decide +kernel) ?_
    refine s_aload_n (i := 0) rfl (show decode cX12_write 88 = .ok (.aload_n 0, 1) by decide +kernel) ?_
    refine gf_X12_7 (x := 322) rfl (show decode cX12_write 89 = .ok (.getfield 7, 3) by decide +kernel) okl_321 rfl ?_
    refine j_bipush (n := 6) (by decide +kernel) (show decode cX12_write 92 = .ok (.bipush 6, 2) by decide +kernel) ?_
    refine s_iald (show decode cX12_write 94 = .ok (.iaload, 1) by decide +kernel) okl_322 h.1 ?_
    have h := h.2
    refine j_iconst (show decode cX12_write 95 = .ok (.iconst 4, 1) by decide +kernel) ?_
    refine j_imul (show decode cX12_write 96 = .ok (.imul, 1) by decide +kernel) ?_
    refine j_iload_n (i := 1) rfl (show decode cX12_write 97 = .ok (.iload_n 1, 1) by decide +kernel) ?_
    refine j_iadd (show decode cX12_write 98 = .ok (.iadd, 1) by decide +kernel) ?_
    refine j_bipush (n := 8) (by decide +kernel) (show decode cX12_write 99 = .ok (.bipush 8, 2) by decide +kernel) ?_
    refine j_imul (show decode cX12_write 101 = .ok (.imul, 1) by decide +kernel) ?_
    refine j_iload_n (i := 2) rfl (show decode cX12_write 102 = .ok (.iload_n 2, 1) by decide +kernel) ?_
    refine j_iadd (show decode cX12_write 103 = .ok (.iadd, 1) by decide +kernel) ?_
    have hb3 := h.1
    have h := h.2
    refine s_iast (show decode cX12_write 104 = .ok (.iastore, 1) by decide +kernel) okl_322 hb3 ?_
    obtain ⟨σ5, eσ5⟩ : ∃ z : jM, z = up σ3 322 (2158 + (2 * (σ3 322 9))) (((((σ3 322 6) * 4) + p1) * 8) + p2) := ⟨_, rfl⟩
    refine j_sig eσ5 ?_
    have h := h σ5 eσ5
    refine s_aload_n (i := 0) rfl (show decode cX12_write 105 = .ok (.aload_n 0, 1) by decide +kernel) ?_
    refine gf_X12_7 (x := 322) rfl (show decode cX12_write 106 = .ok (.getfield 7, 3) by decide +kernel) okl_321 rfl ?_
    refine j_sipush (n := 2158) (by decide +kernel) (show decode cX12_write 109 = .ok (.sipush 2158, 3) by decide +kernel) ?_
    refine j_iconst (show decode cX12_write 112 = .ok (.iconst 2, 1) by decide +kernel) ?_
    refine s_aload_n (i := 0) rfl (show decode cX12_write 113 = .ok (.aload_n 0, 1) by decide +kernel) ?_
    refine gf_X12_7 (x := 322) rfl (show decode cX12_write 114 = .ok (.getfield 7, 3) by decide +kernel) okl_321 rfl ?_
    refine j_bipush (n := 9) (by decide +kernel) (show decode cX12_write 117 = .ok (.bipush 9, 2) by decide +kernel) ?_
    refine s_iald (show decode cX12_write 119 = .ok (.iaload, 1) by decide +kernel) okl_322 h.1 ?_
    have h := h.2
    refine j_imul (show decode cX12_write 120 = .ok (.imul, 1) by decide +kernel) ?_
    refine j_iadd (show decode cX12_write 121 = .ok (.iadd, 1) by decide +kernel) ?_
    refine j_iconst (show decode cX12_write 122 = .ok (.iconst 1, 1) by decide +kernel) ?_
    refine j_iadd (show decode cX12_write 123 = .ok (.iadd, 1) by decide +kernel) ?_
    refine j_iload_n (i := 3) rfl (show decode cX12_write 124 = .ok (.iload_n 3, 1) by decide +kernel) ?_
    have hb5 := h.1
    have h := h.2
    refine s_iast (show decode cX12_write 125 = .ok (.iastore, 1) by decide +kernel) okl_322 hb5 ?_
    obtain ⟨σ7, eσ7⟩ : ∃ z : jM, z = up σ5 322 ((2158 + (2 * (σ5 322 9))) + 1) p3 := ⟨_, rfl⟩
    refine j_sig eσ7 ?_
    have h := h σ7 eσ7
    refine s_aload_n (i := 0) rfl (show decode cX12_write 126 = .ok (.aload_n 0, 1) by decide +kernel) ?_
    refine gf_X12_7 (x := 322) rfl (show decode cX12_write 127 = .ok (.getfield 7, 3) by decide +kernel) okl_321 rfl ?_
    refine j_bipush (n := 9) (by decide +kernel) (show decode cX12_write 130 = .ok (.bipush 9, 2) by decide +kernel) ?_
    refine j_dup2 (show (0 : Nat) ≠ 1 by decide) (show (2 : Nat) ≠ 1 by decide) (show decode cX12_write 132 = .ok (.dup2, 1) by decide +kernel) ?_
    refine s_iald (show decode cX12_write 133 = .ok (.iaload, 1) by decide +kernel) okl_322 h.1 ?_
    have h := h.2
    refine j_iconst (show decode cX12_write 134 = .ok (.iconst 1, 1) by decide +kernel) ?_
    refine j_iadd (show decode cX12_write 135 = .ok (.iadd, 1) by decide +kernel) ?_
    have hb7 := h.1
    have h := h.2
    refine s_iast (show decode cX12_write 136 = .ok (.iastore, 1) by decide +kernel) okl_322 hb7 ?_
    obtain ⟨σ9, eσ9⟩ : ∃ z : jM, z = up σ7 322 9 ((σ7 322 9) + 1) := ⟨_, rfl⟩
    refine j_sig eσ9 ?_
    have h := h σ9 eσ9
    exact j_ret (rokV (show decode cX12_write 137 = .ok (.return_, 1) by decide +kernel) rfl) ⟨rfl, rfl, h⟩
  · have h := h.2 c
    refine s_aload_n (i := 0) rfl (show decode cX12_write 30 = .ok (.aload_n 0, 1) by decide +kernel) ?_
    refine gf_X12_7 (x := 322) rfl (show decode cX12_write 31 = .ok (.getfield 7, 3) by decide +kernel) okl_321 rfl ?_
    refine j_sipush (n := 2158) (by decide +kernel) (show decode cX12_write 34 = .ok (.sipush 2158, 3) by decide +kernel) ?_
    refine j_iload (i := 4) rfl (show decode cX12_write 37 = .ok (.iload 4, 2) by decide +kernel) ?_
    refine j_iadd (show decode cX12_write 39 = .ok (.iadd, 1) by decide +kernel) ?_
    refine j_iconst (show decode cX12_write 40 = .ok (.iconst 2, 1) by decide +kernel) ?_
    refine j_isub (show decode cX12_write 41 = .ok (.isub, 1) by decide +kernel) ?_
    refine s_aload_n (i := 0) rfl (show decode cX12_write 42 = .ok (.aload_n 0, 1) by decide +kernel) ?_
    refine gf_X12_7 (x := 322) rfl (show decode cX12_write 43 = .ok (.getfield 7, 3) by decide +kernel) okl_321 rfl ?_
    refine j_sipush (n := 2158) (by decide +kernel) (show decode cX12_write 46 = .ok (.sipush 2158, 3) by decide +kernel) ?_
    refine j_iload (i := 4) rfl (show decode cX12_write 49 = .ok (.iload 4, 2) by decide +kernel) ?_
    refine j_iadd (show decode cX12_write 51 = .ok (.iadd, 1) by decide +kernel) ?_
    refine s_iald (show decode cX12_write 52 = .ok (.iaload, 1) by decide +kernel) okl_322 h.1 ?_
    have h := h.2
    have hb9 := h.1
    have h := h.2
    refine s_iast (show decode cX12_write 53 = .ok (.iastore, 1) by decide +kernel) okl_322 hb9 ?_
    obtain ⟨σ11, eσ11⟩ : ∃ z : jM, z = up σ 322 ((2158 + v4) - 2) (σ 322 (2158 + v4)) := ⟨_, rfl⟩
    refine j_sig eσ11 ?_
    have h := h σ11 eσ11
    refine s_iinc (i := 4) rfl (L' := [rv 321, iv p1, iv p2, iv p3, iv (v4 + 1)]) rfl (show decode cX12_write 54 = .ok (.iinc 4 1, 3) by decide +kernel) ?_
    refine j_goto (tgt := 23) (show decode cX12_write 57 = .ok (.goto (-34), 3) by decide +kernel) (by decide) ?_
    exact h
set_option maxRecDepth 4000 in
theorem b_X12_write_0 {d : Nat} {t : Int} {Q : Int → jM → Prop} {σ : jM} {p1 p2 p3 : Int} (h : (inR (σ 321 23)) ∧ ((¬ (σ 321 23) = 0 → (((0 : Int) ≤ 9 ∧ (9 : Int) < 2208) ∧ ((inR (σ 322 9)) ∧ ((¬ (σ 322 9) = 25 → (((0 : Int) ≤ 9 ∧ (9 : Int) < 2208) ∧ (((0 : Int) ≤ 6 ∧ (6 : Int) < 2208) ∧ (((0 : Int) ≤ (2158 + (2 * (σ 322 9))) ∧ (2158 + (2 * (σ 322 9))) < 2208) ∧ (∀ σ4 : jM, σ4 = up σ 322 (2158 + (2 * (σ 322 9))) (((((σ 322 6) * 4) + p1) * 8) + p2) → (((0 : Int) ≤ 9 ∧ (9 : Int) < 2208) ∧ (((0 : Int) ≤ ((2158 + (2 * (σ4 322 9))) + 1) ∧ ((2158 + (2 * (σ4 322 9))) + 1) < 2208) ∧ (∀ σ6 : jM, σ6 = up σ4 322 ((2158 + (2 * (σ4 322 9))) + 1) p3 → (((0 : Int) ≤ 9 ∧ (9 : Int) < 2208) ∧ (((0 : Int) ≤ 9 ∧ (9 : Int) < 2208) ∧ (∀ σ8 : jM, σ8 = up σ6 322 9 ((σ6 322 9) + 1) → (Q 0 σ8)))))))))))) ∧ ((σ 322 9) = 25 → (Jt mX12_write (d) 9 t Q 23 [rv 321, iv p1, iv p2, iv p3, iv 2] [] σ)))))) ∧ ((σ 321 23) = 0 → (Q 0 σ)))) : Jt mX12_write (d) 9 t Q 0 [rv 321, iv p1, iv p2, iv p3, uv] [] σ := by
  refine s_aload_n (i := 0) rfl (show decode cX12_write 0 = .ok (.aload_n 0, 1) by decide +kernel) ?_
  refine gf_X12_43 rfl (show decode cX12_write 1 = .ok (.getfield 43, 3) by decide +kernel) okl_321 ?_
  have hr0 := h.1
  have h := h.2
  refine j_if_ne (tgt := 8) hr0 (show decode cX12_write 4 = .ok (.ifCond .ne 4, 3) by decide +kernel) (by decide) (fun c => ?_) (fun c => ?_)
  · have h := h.1 c
    refine s_aload_n (i := 0) rfl (show decode cX12_write 8 = .ok (.aload_n 0, 1) by decide +kernel) ?_
    refine gf_X12_7 (x := 322) rfl (show decode cX12_write 9 = .ok (.getfield 7, 3) by decide +kernel) okl_321 rfl ?_
    refine j_bipush (n := 9) (by decide +kernel) (show decode cX12_write 12 = .ok (.bipush 9, 2) by decide +kernel) ?_
    refine s_iald (show decode cX12_write 14 = .ok (.iaload, 1) by decide +kernel) okl_322 h.1 ?_
    have h := h.2
    refine j_bipush (n := 25) (by decide +kernel) (show decode cX12_write 15 = .ok (.bipush 25, 2) by decide +kernel) ?_
    have hr1 := h.1
    have h := h.2
    refine j_icmp_ne (tgt := 71) hr1 (inl (by decide)) (show decode cX12_write 17 = .ok (.if_icmp .ne 54, 3) by decide +kernel) (by decide) (fun c => ?_) (fun c => ?_)
    · have h := h.1 c
      refine s_aload_n (i := 0) rfl (show decode cX12_write 71 = .ok (.aload_n 0, 1) by decide +kernel) ?_
      refine gf_X12_7 (x := 322) rfl (show decode cX12_write 72 = .ok (.getfield 7, 3) by decide +kernel) okl_321 rfl ?_
      refine j_sipush (n := 2158) (by decide +kernel) (show decode cX12_write 75 = .ok (.sipush 2158, 3) by decide +kernel) ?_
      refine j_iconst (show decode cX12_write 78 = .ok (.iconst 2, 1) by decide +kernel) ?_
      refine s_aload_n (i := 0) rfl (show decode cX12_write 79 = .ok (.aload_n 0, 1) by decide +kernel) ?_
      refine gf_X12_7 (x := 322) rfl (show decode cX12_write 80 = .ok (.getfield 7, 3) by decide +kernel) okl_321 rfl ?_
      refine j_bipush (n := 9) (by decide +kernel) (show decode cX12_write 83 = .ok (.bipush 9, 2) by decide +kernel) ?_
      refine s_iald (show decode cX12_write 85 = .ok (.iaload, 1) by decide +kernel) okl_322 h.1 ?_
      have h := h.2
      refine j_imul (show decode cX12_write 86 = .ok (.imul, 1) by decide +kernel) ?_
      refine j_iadd (show decode cX12_write 87 = .ok (.iadd, 1) by decide +kernel) ?_
      refine s_aload_n (i := 0) rfl (show decode cX12_write 88 = .ok (.aload_n 0, 1) by decide +kernel) ?_
      refine gf_X12_7 (x := 322) rfl (show decode cX12_write 89 = .ok (.getfield 7, 3) by decide +kernel) okl_321 rfl ?_
      refine j_bipush (n := 6) (by decide +kernel) (show decode cX12_write 92 = .ok (.bipush 6, 2) by decide +kernel) ?_
      refine s_iald (show decode cX12_write 94 = .ok (.iaload, 1) by decide +kernel) okl_322 h.1 ?_
      have h := h.2
      refine j_iconst (show decode cX12_write 95 = .ok (.iconst 4, 1) by decide +kernel) ?_
      refine j_imul (show decode cX12_write 96 = .ok (.imul, 1) by decide +kernel) ?_
      refine j_iload_n (i := 1) rfl (show decode cX12_write 97 = .ok (.iload_n 1, 1) by decide +kernel) ?_
      refine j_iadd (show decode cX12_write 98 = .ok (.iadd, 1) by decide +kernel) ?_
      refine j_bipush (n := 8) (by decide +kernel) (show decode cX12_write 99 = .ok (.bipush 8, 2) by decide +kernel) ?_
      refine j_imul (show decode cX12_write 101 = .ok (.imul, 1) by decide +kernel) ?_
      refine j_iload_n (i := 2) rfl (show decode cX12_write 102 = .ok (.iload_n 2, 1) by decide +kernel) ?_
      refine j_iadd (show decode cX12_write 103 = .ok (.iadd, 1) by decide +kernel) ?_
      have hb2 := h.1
      have h := h.2
      refine s_iast (show decode cX12_write 104 = .ok (.iastore, 1) by decide +kernel) okl_322 hb2 ?_
      obtain ⟨σ4, eσ4⟩ : ∃ z : jM, z = up σ 322 (2158 + (2 * (σ 322 9))) (((((σ 322 6) * 4) + p1) * 8) + p2) := ⟨_, rfl⟩
      refine j_sig eσ4 ?_
      have h := h σ4 eσ4
      refine s_aload_n (i := 0) rfl (show decode cX12_write 105 = .ok (.aload_n 0, 1) by decide +kernel) ?_
      refine gf_X12_7 (x := 322) rfl (show decode cX12_write 106 = .ok (.getfield 7, 3) by decide +kernel) okl_321 rfl ?_
      refine j_sipush (n := 2158) (by decide +kernel) (show decode cX12_write 109 = .ok (.sipush 2158, 3) by decide +kernel) ?_
      refine j_iconst (show decode cX12_write 112 = .ok (.iconst 2, 1) by decide +kernel) ?_
      refine s_aload_n (i := 0) rfl (show decode cX12_write 113 = .ok (.aload_n 0, 1) by decide +kernel) ?_
      refine gf_X12_7 (x := 322) rfl (show decode cX12_write 114 = .ok (.getfield 7, 3) by decide +kernel) okl_321 rfl ?_
      refine j_bipush (n := 9) (by decide +kernel) (show decode cX12_write 117 = .ok (.bipush 9, 2) by decide +kernel) ?_
      refine s_iald (show decode cX12_write 119 = .ok (.iaload, 1) by decide +kernel) okl_322 h.1 ?_
      have h := h.2
      refine j_imul (show decode cX12_write 120 = .ok (.imul, 1) by decide +kernel) ?_
      refine j_iadd (show decode cX12_write 121 = .ok (.iadd, 1) by decide +kernel) ?_
      refine j_iconst (show decode cX12_write 122 = .ok (.iconst 1, 1) by decide +kernel) ?_
      refine j_iadd (show decode cX12_write 123 = .ok (.iadd, 1) by decide +kernel) ?_
      refine j_iload_n (i := 3) rfl (show decode cX12_write 124 = .ok (.iload_n 3, 1) by decide +kernel) ?_
      have hb4 := h.1
      have h := h.2
      refine s_iast (show decode cX12_write 125 = .ok (.iastore, 1) by decide +kernel) okl_322 hb4 ?_
      obtain ⟨σ6, eσ6⟩ : ∃ z : jM, z = up σ4 322 ((2158 + (2 * (σ4 322 9))) + 1) p3 := ⟨_, rfl⟩
      refine j_sig eσ6 ?_
      have h := h σ6 eσ6
      refine s_aload_n (i := 0) rfl (show decode cX12_write 126 = .ok (.aload_n 0, 1) by decide +kernel) ?_
      refine gf_X12_7 (x := 322) rfl (show decode cX12_write 127 = .ok (.getfield 7, 3) by decide +kernel) okl_321 rfl ?_
      refine j_bipush (n := 9) (by decide +kernel) (show decode cX12_write 130 = .ok (.bipush 9, 2) by decide +kernel) ?_
      refine j_dup2 (show (0 : Nat) ≠ 1 by decide) (show (2 : Nat) ≠ 1 by decide) (show decode cX12_write 132 = .ok (.dup2, 1) by decide +kernel) ?_
      refine s_iald (show decode cX12_write 133 = .ok (.iaload, 1) by decide +kernel) okl_322 h.1 ?_
      have h := h.2
      refine j_iconst (show decode cX12_write 134 = .ok (.iconst 1, 1) by decide +kernel) ?_
      refine j_iadd (show decode cX12_write 135 = .ok (.iadd, 1) by decide +kernel) ?_
      have hb6 := h.1
      have h := h.2
      refine s_iast (show decode cX12_write 136 = .ok (.iastore, 1) by decide +kernel) okl_322 hb6 ?_
      obtain ⟨σ8, eσ8⟩ : ∃ z : jM, z = up σ6 322 9 ((σ6 322 9) + 1) := ⟨_, rfl⟩
      refine j_sig eσ8 ?_
      have h := h σ8 eσ8
      exact j_ret (rokV (show decode cX12_write 137 = .ok (.return_, 1) by decide +kernel) rfl) ⟨rfl, rfl, h⟩
    · have h := h.2 c
      refine j_iconst (show decode cX12_write 20 = .ok (.iconst 2, 1) by decide +kernel) ?_
      refine s_ist (i := 4) (L' := [rv 321, iv p1, iv p2, iv p3, iv 2]) rfl (by decide) (show decode cX12_write 21 = .ok (.istore 4, 2) by decide +kernel) ?_
      exact h
  · have h := h.2 c
    exact j_ret (rokV (show decode cX12_write 7 = .ok (.return_, 1) by decide +kernel) rfl) ⟨rfl, rfl, h⟩
theorem c_X12_write {d : Nat} {t : Int} {Q : Int → jM → Prop} {σ : jM} {p1 p2 p3 : Int} (h : (inR (σ 321 23)) ∧ ((¬ (σ 321 23) = 0 → (((0 : Int) ≤ 9 ∧ (9 : Int) < 2208) ∧ ((inR (σ 322 9)) ∧ ((¬ (σ 322 9) = 25 → (((0 : Int) ≤ 9 ∧ (9 : Int) < 2208) ∧ (((0 : Int) ≤ 6 ∧ (6 : Int) < 2208) ∧ (((0 : Int) ≤ (2158 + (2 * (σ 322 9))) ∧ (2158 + (2 * (σ 322 9))) < 2208) ∧ (∀ σ4 : jM, σ4 = up σ 322 (2158 + (2 * (σ 322 9))) (((((σ 322 6) * 4) + p1) * 8) + p2) → (((0 : Int) ≤ 9 ∧ (9 : Int) < 2208) ∧ (((0 : Int) ≤ ((2158 + (2 * (σ4 322 9))) + 1) ∧ ((2158 + (2 * (σ4 322 9))) + 1) < 2208) ∧ (∀ σ6 : jM, σ6 = up σ4 322 ((2158 + (2 * (σ4 322 9))) + 1) p3 → (((0 : Int) ≤ 9 ∧ (9 : Int) < 2208) ∧ (((0 : Int) ≤ 9 ∧ (9 : Int) < 2208) ∧ (∀ σ8 : jM, σ8 = up σ6 322 9 ((σ6 322 9) + 1) → (Q 0 σ8)))))))))))) ∧ ((σ 322 9) = 25 → (Jt mX12_write (d) 9 t Q 23 [rv 321, iv p1, iv p2, iv p3, iv 2] [] σ)))))) ∧ ((σ 321 23) = 0 → (Q 0 σ)))) : Ct mX12_write (d) 9 t [rv 321, iv p1, iv p2, iv p3] σ Q := Ct_of (by decide +kernel) (Nat.le_of_ble_eq_true rfl) (b_X12_write_0 h)
set_option maxRecDepth 4000 in
theorem b_X12_drawnBy_0 {d : Nat} {t : Int} {Q : Int → jM → Prop} {σ : jM} {p1 : Int} (h : ((0 : Int) ≤ 7 ∧ (7 : Int) < 2208) ∧ ((inR (σ 322 7)) ∧ ((inR p1) ∧ ((p1 ≠ 0) ∧ (Ct mX12_anew d 9 t [rv 321] σ (fun r4 σ4 => (Q (Int.tmod (σ 322 7) p1) σ4))))))) : Jt mX12_drawnBy (d + 1) 0 t Q 0 [rv 321, iv p1, uv] [] σ := by
  refine s_aload_n (i := 0) rfl (show decode cX12_drawnBy 0 = .ok (.aload_n 0, 1) by decide +kernel) ?_
  refine gf_X12_7 (x := 322) rfl (show decode cX12_drawnBy 1 = .ok (.getfield 7, 3) by decide +kernel) okl_321 rfl ?_
  refine j_bipush (n := 7) (by decide +kernel) (show decode cX12_drawnBy 4 = .ok (.bipush 7, 2) by decide +kernel) ?_
  refine s_iald (show decode cX12_drawnBy 6 = .ok (.iaload, 1) by decide +kernel) okl_322 h.1 ?_
  have h := h.2
  refine j_iload_n (i := 1) rfl (show decode cX12_drawnBy 7 = .ok (.iload_n 1, 1) by decide +kernel) ?_
  have hr0 := h.1
  have h := h.2
  have hr1 := h.1
  have h := h.2
  have hz2 := h.1
  have h := h.2
  refine j_irem hr0 hr1 hz2 (show decode cX12_drawnBy 8 = .ok (.irem, 1) by decide +kernel) ?_
  refine s_ist_n (i := 2) (L' := [rv 321, iv p1, iv (Int.tmod (σ 322 7) p1)]) rfl (by decide) (show decode cX12_drawnBy 9 = .ok (.istore_n 2, 1) by decide +kernel) ?_
  refine s_aload_n (i := 0) rfl (show decode cX12_drawnBy 10 = .ok (.aload_n 0, 1) by decide +kernel) ?_
  refine j_ctVv (m' := mX12_anew) (As := []) (ci := 12) (N := 0) (cw_X12_308 rfl) (show decode cX12_drawnBy 11 = .ok (.invokevirtual 308, 3) by decide +kernel) rfl (Nat.le_of_ble_eq_true rfl) okl_321 rfl rfl (Nat.le_refl _) h (fun r4 σ4 h => ?_)
  refine j_iload_n (i := 2) rfl (show decode cX12_drawnBy 14 = .ok (.iload_n 2, 1) by decide +kernel) ?_
  exact j_ret (rokI (show decode cX12_drawnBy 15 = .ok (.ireturn, 1) by decide +kernel) rfl) ⟨rfl, rfl, h⟩
theorem c_X12_drawnBy {d : Nat} {t : Int} {Q : Int → jM → Prop} {σ : jM} {p1 : Int} (h : ((0 : Int) ≤ 7 ∧ (7 : Int) < 2208) ∧ ((inR (σ 322 7)) ∧ ((inR p1) ∧ ((p1 ≠ 0) ∧ (Ct mX12_anew d 9 t [rv 321] σ (fun r4 σ4 => (Q (Int.tmod (σ 322 7) p1) σ4))))))) : Ct mX12_drawnBy (d + 1) 0 t [rv 321, iv p1] σ Q := Ct_of (by decide +kernel) (Nat.le_of_ble_eq_true rfl) (b_X12_drawnBy_0 h)
set_option maxRecDepth 4000 in
theorem b_X12_anew_0 {d : Nat} {t : Int} {Q : Int → jM → Prop} {σ : jM} (h : ((0 : Int) ≤ 7 ∧ (7 : Int) < 2208) ∧ ((inR (σ 322 7)) ∧ ((inL (((σ 322 7) * 683) + 563)) ∧ (((0 : Int) ≤ 7 ∧ (7 : Int) < 2208) ∧ (∀ σ4 : jM, σ4 = up σ 322 7 (Int.tmod (((σ 322 7) * 683) + 563) 30997) → (Q 0 σ4)))))) : Jt mX12_anew (d) 9 t Q 0 [rv 321] [] σ := by
  refine s_aload_n (i := 0) rfl (show decode cX12_anew 0 = .ok (.aload_n 0, 1) by decide +kernel) ?_
  refine gf_X12_7 (x := 322) rfl (show decode cX12_anew 1 = .ok (.getfield 7, 3) by decide +kernel) okl_321 rfl ?_
  refine j_bipush (n := 7) (by decide +kernel) (show decode cX12_anew 4 = .ok (.bipush 7, 2) by decide +kernel) ?_
  refine s_aload_n (i := 0) rfl (show decode cX12_anew 6 = .ok (.aload_n 0, 1) by decide +kernel) ?_
  refine gf_X12_7 (x := 322) rfl (show decode cX12_anew 7 = .ok (.getfield 7, 3) by decide +kernel) okl_321 rfl ?_
  refine j_bipush (n := 7) (by decide +kernel) (show decode cX12_anew 10 = .ok (.bipush 7, 2) by decide +kernel) ?_
  refine s_iald (show decode cX12_anew 12 = .ok (.iaload, 1) by decide +kernel) okl_322 h.1 ?_
  have h := h.2
  have hr0 := h.1
  have h := h.2
  refine j_i2l hr0 (show decode cX12_anew 13 = .ok (.i2l, 1) by decide +kernel) ?_
  refine j_ldc2 (x := 683) (tt_in 1626 (by decide +kernel) rfl) (show decode cX12_anew 14 = .ok (.ldc2_w 311, 3) by decide +kernel) ?_
  refine j_lmul (show decode cX12_anew 17 = .ok (.lmul, 1) by decide +kernel) ?_
  refine j_ldc2 (x := 563) (tt_in 1627 (by decide +kernel) rfl) (show decode cX12_anew 18 = .ok (.ldc2_w 313, 3) by decide +kernel) ?_
  refine j_ladd (show decode cX12_anew 21 = .ok (.ladd, 1) by decide +kernel) ?_
  refine j_ldc2 (x := 30997) (tt_in 1628 (by decide +kernel) rfl) (show decode cX12_anew 22 = .ok (.ldc2_w 315, 3) by decide +kernel) ?_
  have hr1 := h.1
  have h := h.2
  refine j_lrem hr1 (inll (by decide)) (by decide) (show decode cX12_anew 25 = .ok (.lrem, 1) by decide +kernel) ?_
  refine j_l2i (show decode cX12_anew 26 = .ok (.l2i, 1) by decide +kernel) ?_
  have hb2 := h.1
  have h := h.2
  refine s_iast (show decode cX12_anew 27 = .ok (.iastore, 1) by decide +kernel) okl_322 hb2 ?_
  obtain ⟨σ4, eσ4⟩ : ∃ z : jM, z = up σ 322 7 (Int.tmod (((σ 322 7) * 683) + 563) 30997) := ⟨_, rfl⟩
  refine j_sig eσ4 ?_
  have h := h σ4 eσ4
  exact j_ret (rokV (show decode cX12_anew 28 = .ok (.return_, 1) by decide +kernel) rfl) ⟨rfl, rfl, h⟩
theorem c_X12_anew {d : Nat} {t : Int} {Q : Int → jM → Prop} {σ : jM} (h : ((0 : Int) ≤ 7 ∧ (7 : Int) < 2208) ∧ ((inR (σ 322 7)) ∧ ((inL (((σ 322 7) * 683) + 563)) ∧ (((0 : Int) ≤ 7 ∧ (7 : Int) < 2208) ∧ (∀ σ4 : jM, σ4 = up σ 322 7 (Int.tmod (((σ 322 7) * 683) + 563) 30997) → (Q 0 σ4)))))) : Ct mX12_anew (d) 9 t [rv 321] σ Q := Ct_of (by decide +kernel) (Nat.le_of_ble_eq_true rfl) (b_X12_anew_0 h)
set_option maxRecDepth 4000 in
theorem b_X12_freeCrock_2 {d : Nat} {t : Int} {Q : Int → jM → Prop} {σ : jM} {v1 : Int} (h : (inR v1) ∧ ((8 ≤ v1 → (Q (-1) σ)) ∧ (v1 < 8 → (Ct mX12_isFull d 0 t [rv 321, iv v1] σ (fun r2 σ2 => ((inR r2) ∧ ((¬ r2 = 0 → (Jt mX12_freeCrock (d + 1) 0 t Q 2 [rv 321, iv (v1 + 1)] [] σ2)) ∧ (r2 = 0 → (Q v1 σ2))))))))) : Jt mX12_freeCrock (d + 1) 0 t Q 2 [rv 321, iv v1] [] σ := by
  refine j_iload_n (i := 1) rfl (show decode cX12_freeCrock 2 = .ok (.iload_n 1, 1) by decide +kernel) ?_
  refine j_bipush (n := 8) (by decide +kernel) (show decode cX12_freeCrock 3 = .ok (.bipush 8, 2) by decide +kernel) ?_
  have hr0 := h.1
  have h := h.2
  refine j_icmp_ge (tgt := 24) hr0 (inl (by decide)) (show decode cX12_freeCrock 5 = .ok (.if_icmp .ge 19, 3) by decide +kernel) (by decide) (fun c => ?_) (fun c => ?_)
  · have h := h.1 c
    refine j_iconst (show decode cX12_freeCrock 24 = .ok (.iconst (-1), 1) by decide +kernel) ?_
    exact j_ret (rokI (show decode cX12_freeCrock 25 = .ok (.ireturn, 1) by decide +kernel) rfl) ⟨rfl, rfl, h⟩
  · have h := h.2 c
    refine s_aload_n (i := 0) rfl (show decode cX12_freeCrock 8 = .ok (.aload_n 0, 1) by decide +kernel) ?_
    refine j_iload_n (i := 1) rfl (show decode cX12_freeCrock 9 = .ok (.iload_n 1, 1) by decide +kernel) ?_
    refine j_ctV (m' := mX12_isFull) (As := [iv v1]) (ci := 12) (tag := 0) (N := 0) (cw_X12_93 rfl) (show decode cX12_freeCrock 10 = .ok (.invokevirtual 93, 3) by decide +kernel) rfl (Nat.le_of_ble_eq_true rfl) (by decide) okl_321 rfl rfl (Nat.le_refl _) h (fun r2 σ2 h => ?_)
    have hr2 := h.1
    have h := h.2
    refine j_if_ne (tgt := 18) hr2 (show decode cX12_freeCrock 13 = .ok (.ifCond .ne 5, 3) by decide +kernel) (by decide) (fun c => ?_) (fun c => ?_)
    · have h := h.1 c
      refine s_iinc (i := 1) rfl (L' := [rv 321, iv (v1 + 1)]) rfl (show decode cX12_freeCrock 18 = .ok (.iinc 1 1, 3) by decide +kernel) ?_
      refine j_goto (tgt := 2) (show decode cX12_freeCrock 21 = .ok (.goto (-19), 3) by decide +kernel) (by decide) ?_
      exact h
    · have h := h.2 c
      refine j_iload_n (i := 1) rfl (show decode cX12_freeCrock 16 = .ok (.iload_n 1, 1) by decide +kernel) ?_
      exact j_ret (rokI (show decode cX12_freeCrock 17 = .ok (.ireturn, 1) by decide +kernel) rfl) ⟨rfl, rfl, h⟩
set_option maxRecDepth 4000 in
theorem b_X12_freeCrock_0 {d : Nat} {t : Int} {Q : Int → jM → Prop} {σ : jM} (h : Jt mX12_freeCrock (d + 1) 0 t Q 2 [rv 321, iv 0] [] σ) : Jt mX12_freeCrock (d + 1) 0 t Q 0 [rv 321, uv] [] σ := by
  refine j_iconst (show decode cX12_freeCrock 0 = .ok (.iconst 0, 1) by decide +kernel) ?_
  refine s_ist_n (i := 1) (L' := [rv 321, iv 0]) rfl (by decide) (show decode cX12_freeCrock 1 = .ok (.istore_n 1, 1) by decide +kernel) ?_
  exact h
theorem c_X12_freeCrock {d : Nat} {t : Int} {Q : Int → jM → Prop} {σ : jM} (h : Jt mX12_freeCrock (d + 1) 0 t Q 2 [rv 321, iv 0] [] σ) : Ct mX12_freeCrock (d + 1) 0 t [rv 321] σ Q := Ct_of (by decide +kernel) (Nat.le_of_ble_eq_true rfl) (b_X12_freeCrock_0 h)
set_option maxRecDepth 4000 in
theorem b_X12_canJoin_0 {d : Nat} {t : Int} {Q : Int → jM → Prop} {σ : jM} {p1 p2 : Int} (h : Ct mX12_isFull d 0 t [rv 321, iv p1] σ (fun r1 σ1 => ((inR r1) ∧ ((r1 = 0 → (Q 0 σ1)) ∧ (¬ r1 = 0 → (Ct mX12_isFull d 0 t [rv 321, iv p2] σ1 (fun r3 σ3 => ((inR r3) ∧ ((r3 = 0 → (Q 0 σ3)) ∧ (¬ r3 = 0 → (((0 : Int) ≤ (10 + p1) ∧ (10 + p1) < 2208) ∧ (((0 : Int) ≤ (10 + p2) ∧ (10 + p2) < 2208) ∧ ((inR ((σ3 322 (10 + p1)) + (σ3 322 (10 + p2)))) ∧ ((9999 < ((σ3 322 (10 + p1)) + (σ3 322 (10 + p2))) → (Q 0 σ3)) ∧ (((σ3 322 (10 + p1)) + (σ3 322 (10 + p2))) ≤ 9999 → (Ct mX12_freeCrock d 0 t [rv 321] σ3 (fun r6 σ6 => ((inR r6) ∧ ((r6 = (-1) → (Q 0 σ6)) ∧ (¬ r6 = (-1) → (Q 1 σ6))))))))))))))))))))) : Jt mX12_canJoin (d + 1) 0 t Q 0 [rv 321, iv p1, iv p2] [] σ := by
  refine s_aload_n (i := 0) rfl (show decode cX12_canJoin 0 = .ok (.aload_n 0, 1) by decide +kernel) ?_
  refine j_iload_n (i := 1) rfl (show decode cX12_canJoin 1 = .ok (.iload_n 1, 1) by decide +kernel) ?_
  refine j_ctV (m' := mX12_isFull) (As := [iv p1]) (ci := 12) (tag := 0) (N := 0) (cw_X12_93 rfl) (show decode cX12_canJoin 2 = .ok (.invokevirtual 93, 3) by decide +kernel) rfl (Nat.le_of_ble_eq_true rfl) (by decide) okl_321 rfl rfl (Nat.le_refl _) h (fun r1 σ1 h => ?_)
  have hr1 := h.1
  have h := h.2
  refine j_if_eq (tgt := 53) hr1 (show decode cX12_canJoin 5 = .ok (.ifCond .eq 48, 3) by decide +kernel) (by decide) (fun c => ?_) (fun c => ?_)
  · have h := h.1 c
    refine j_iconst (show decode cX12_canJoin 53 = .ok (.iconst 0, 1) by decide +kernel) ?_
    exact j_ret (rokZ (show decode cX12_canJoin 54 = .ok (.ireturn, 1) by decide +kernel) rfl (Or.inl rfl)) ⟨rfl, rfl, h⟩
  · have h := h.2 c
    refine s_aload_n (i := 0) rfl (show decode cX12_canJoin 8 = .ok (.aload_n 0, 1) by decide +kernel) ?_
    refine j_iload_n (i := 2) rfl (show decode cX12_canJoin 9 = .ok (.iload_n 2, 1) by decide +kernel) ?_
    refine j_ctV (m' := mX12_isFull) (As := [iv p2]) (ci := 12) (tag := 0) (N := 0) (cw_X12_93 rfl) (show decode cX12_canJoin 10 = .ok (.invokevirtual 93, 3) by decide +kernel) rfl (Nat.le_of_ble_eq_true rfl) (by decide) okl_321 rfl rfl (Nat.le_refl _) h (fun r3 σ3 h => ?_)
    have hr3 := h.1
    have h := h.2
    refine j_if_eq (tgt := 53) hr3 (show decode cX12_canJoin 13 = .ok (.ifCond .eq 40, 3) by decide +kernel) (by decide) (fun c => ?_) (fun c => ?_)
    · have h := h.1 c
      refine j_iconst (show decode cX12_canJoin 53 = .ok (.iconst 0, 1) by decide +kernel) ?_
      exact j_ret (rokZ (show decode cX12_canJoin 54 = .ok (.ireturn, 1) by decide +kernel) rfl (Or.inl rfl)) ⟨rfl, rfl, h⟩
    · have h := h.2 c
      refine s_aload_n (i := 0) rfl (show decode cX12_canJoin 16 = .ok (.aload_n 0, 1) by decide +kernel) ?_
      refine gf_X12_7 (x := 322) rfl (show decode cX12_canJoin 17 = .ok (.getfield 7, 3) by decide +kernel) okl_321 rfl ?_
      refine j_bipush (n := 10) (by decide +kernel) (show decode cX12_canJoin 20 = .ok (.bipush 10, 2) by decide +kernel) ?_
      refine j_iload_n (i := 1) rfl (show decode cX12_canJoin 22 = .ok (.iload_n 1, 1) by decide +kernel) ?_
      refine j_iadd (show decode cX12_canJoin 23 = .ok (.iadd, 1) by decide +kernel) ?_
      refine s_iald (show decode cX12_canJoin 24 = .ok (.iaload, 1) by decide +kernel) okl_322 h.1 ?_
      have h := h.2
      refine s_aload_n (i := 0) rfl (show decode cX12_canJoin 25 = .ok (.aload_n 0, 1) by decide +kernel) ?_
      refine gf_X12_7 (x := 322) rfl (show decode cX12_canJoin 26 = .ok (.getfield 7, 3) by decide +kernel) okl_321 rfl ?_
      refine j_bipush (n := 10) (by decide +kernel) (show decode cX12_canJoin 29 = .ok (.bipush 10, 2) by decide +kernel) ?_
      refine j_iload_n (i := 2) rfl (show decode cX12_canJoin 31 = .ok (.iload_n 2, 1) by decide +kernel) ?_
      refine j_iadd (show decode cX12_canJoin 32 = .ok (.iadd, 1) by decide +kernel) ?_
      refine s_iald (show decode cX12_canJoin 33 = .ok (.iaload, 1) by decide +kernel) okl_322 h.1 ?_
      have h := h.2
      refine j_iadd (show decode cX12_canJoin 34 = .ok (.iadd, 1) by decide +kernel) ?_
      refine j_sipush (n := 9999) (by decide +kernel) (show decode cX12_canJoin 35 = .ok (.sipush 9999, 3) by decide +kernel) ?_
      have hr4 := h.1
      have h := h.2
      refine j_icmp_gt (tgt := 53) hr4 (inl (by decide)) (show decode cX12_canJoin 38 = .ok (.if_icmp .gt 15, 3) by decide +kernel) (by decide) (fun c => ?_) (fun c => ?_)
      · have h := h.1 c
        refine j_iconst (show decode cX12_canJoin 53 = .ok (.iconst 0, 1) by decide +kernel) ?_
        exact j_ret (rokZ (show decode cX12_canJoin 54 = .ok (.ireturn, 1) by decide +kernel) rfl (Or.inl rfl)) ⟨rfl, rfl, h⟩
      · have h := h.2 c
        refine s_aload_n (i := 0) rfl (show decode cX12_canJoin 41 = .ok (.aload_n 0, 1) by decide +kernel) ?_
        refine j_ctV (m' := mX12_freeCrock) (As := []) (ci := 12) (tag := 0) (N := 0) (cw_X12_317 rfl) (show decode cX12_canJoin 42 = .ok (.invokevirtual 317, 3) by decide +kernel) rfl (Nat.le_of_ble_eq_true rfl) (by decide) okl_321 rfl rfl (Nat.le_refl _) h (fun r6 σ6 h => ?_)
        refine j_iconst (show decode cX12_canJoin 45 = .ok (.iconst (-1), 1) by decide +kernel) ?_
        have hr6 := h.1
        have h := h.2
        refine j_icmp_eq (tgt := 53) hr6 (inl (by decide)) (show decode cX12_canJoin 46 = .ok (.if_icmp .eq 7, 3) by decide +kernel) (by decide) (fun c => ?_) (fun c => ?_)
        · have h := h.1 c
          refine j_iconst (show decode cX12_canJoin 53 = .ok (.iconst 0, 1) by decide +kernel) ?_
          exact j_ret (rokZ (show decode cX12_canJoin 54 = .ok (.ireturn, 1) by decide +kernel) rfl (Or.inl rfl)) ⟨rfl, rfl, h⟩
        · have h := h.2 c
          refine j_iconst (show decode cX12_canJoin 49 = .ok (.iconst 1, 1) by decide +kernel) ?_
          refine j_goto (tgt := 54) (show decode cX12_canJoin 50 = .ok (.goto 4, 3) by decide +kernel) (by decide) ?_
          exact j_ret (rokZ (show decode cX12_canJoin 54 = .ok (.ireturn, 1) by decide +kernel) rfl (Or.inr rfl)) ⟨rfl, rfl, h⟩
theorem c_X12_canJoin {d : Nat} {t : Int} {Q : Int → jM → Prop} {σ : jM} {p1 p2 : Int} (h : Ct mX12_isFull d 0 t [rv 321, iv p1] σ (fun r1 σ1 => ((inR r1) ∧ ((r1 = 0 → (Q 0 σ1)) ∧ (¬ r1 = 0 → (Ct mX12_isFull d 0 t [rv 321, iv p2] σ1 (fun r3 σ3 => ((inR r3) ∧ ((r3 = 0 → (Q 0 σ3)) ∧ (¬ r3 = 0 → (((0 : Int) ≤ (10 + p1) ∧ (10 + p1) < 2208) ∧ (((0 : Int) ≤ (10 + p2) ∧ (10 + p2) < 2208) ∧ ((inR ((σ3 322 (10 + p1)) + (σ3 322 (10 + p2)))) ∧ ((9999 < ((σ3 322 (10 + p1)) + (σ3 322 (10 + p2))) → (Q 0 σ3)) ∧ (((σ3 322 (10 + p1)) + (σ3 322 (10 + p2))) ≤ 9999 → (Ct mX12_freeCrock d 0 t [rv 321] σ3 (fun r6 σ6 => ((inR r6) ∧ ((r6 = (-1) → (Q 0 σ6)) ∧ (¬ r6 = (-1) → (Q 1 σ6))))))))))))))))))))) : Ct mX12_canJoin (d + 1) 0 t [rv 321, iv p1, iv p2] σ Q := Ct_of (by decide +kernel) (Nat.le_of_ble_eq_true rfl) (b_X12_canJoin_0 h)
set_option maxRecDepth 4000 in
theorem b_X12_joinNow_0 {d : Nat} {t : Int} {Q : Int → jM → Prop} {σ : jM} {p1 p2 : Int} (h : Ct mX12_freeCrock d 0 t [rv 321] σ (fun r1 σ1 => (((0 : Int) ≤ (10 + p1) ∧ (10 + p1) < 2208) ∧ (((0 : Int) ≤ (10 + p2) ∧ (10 + p2) < 2208) ∧ (((0 : Int) ≤ (10 + r1) ∧ (10 + r1) < 2208) ∧ (∀ σ3 : jM, σ3 = up σ1 322 (10 + r1) ((σ1 322 (10 + p1)) + (σ1 322 (10 + p2))) → (((0 : Int) ≤ (18 + r1) ∧ (18 + r1) < 2208) ∧ (∀ σ5 : jM, σ5 = up σ3 322 (18 + r1) 0 → (((0 : Int) ≤ (10 + r1) ∧ (10 + r1) < 2208) ∧ (Ct mX12_write d 9 t [rv 321, iv 0, iv r1, iv (σ5 322 (10 + r1))] σ5 (fun r6 σ6 => (Q r1 σ6)))))))))))) : Jt mX12_joinNow (d + 1) 0 t Q 0 [rv 321, iv p1, iv p2, uv] [] σ := by
  refine s_aload_n (i := 0) rfl (show decode cX12_joinNow 0 = .ok (.aload_n 0, 1) by decide +kernel) ?_
  refine j_ctV (m' := mX12_freeCrock) (As := []) (ci := 12) (tag := 0) (N := 0) (cw_X12_317 rfl) (show decode cX12_joinNow 1 = .ok (.invokevirtual 317, 3) by decide +kernel) rfl (Nat.le_of_ble_eq_true rfl) (by decide) okl_321 rfl rfl (Nat.le_refl _) h (fun r1 σ1 h => ?_)
  refine s_ist_n (i := 3) (L' := [rv 321, iv p1, iv p2, iv r1]) rfl (by decide) (show decode cX12_joinNow 4 = .ok (.istore_n 3, 1) by decide +kernel) ?_
  refine s_aload_n (i := 0) rfl (show decode cX12_joinNow 5 = .ok (.aload_n 0, 1) by decide +kernel) ?_
  refine gf_X12_7 (x := 322) rfl (show decode cX12_joinNow 6 = .ok (.getfield 7, 3) by decide +kernel) okl_321 rfl ?_
  refine j_bipush (n := 10) (by decide +kernel) (show decode cX12_joinNow 9 = .ok (.bipush 10, 2) by decide +kernel) ?_
  refine j_iload_n (i := 3) rfl (show decode cX12_joinNow 11 = .ok (.iload_n 3, 1) by decide +kernel) ?_
  refine j_iadd (show decode cX12_joinNow 12 = .ok (.iadd, 1) by decide +kernel) ?_
  refine s_aload_n (i := 0) rfl (show decode cX12_joinNow 13 = .ok (.aload_n 0, 1) by decide +kernel) ?_
  refine gf_X12_7 (x := 322) rfl (show decode cX12_joinNow 14 = .ok (.getfield 7, 3) by decide +kernel) okl_321 rfl ?_
  refine j_bipush (n := 10) (by decide +kernel) (show decode cX12_joinNow 17 = .ok (.bipush 10, 2) by decide +kernel) ?_
  refine j_iload_n (i := 1) rfl (show decode cX12_joinNow 19 = .ok (.iload_n 1, 1) by decide +kernel) ?_
  refine j_iadd (show decode cX12_joinNow 20 = .ok (.iadd, 1) by decide +kernel) ?_
  refine s_iald (show decode cX12_joinNow 21 = .ok (.iaload, 1) by decide +kernel) okl_322 h.1 ?_
  have h := h.2
  refine s_aload_n (i := 0) rfl (show decode cX12_joinNow 22 = .ok (.aload_n 0, 1) by decide +kernel) ?_
  refine gf_X12_7 (x := 322) rfl (show decode cX12_joinNow 23 = .ok (.getfield 7, 3) by decide +kernel) okl_321 rfl ?_
  refine j_bipush (n := 10) (by decide +kernel) (show decode cX12_joinNow 26 = .ok (.bipush 10, 2) by decide +kernel) ?_
  refine j_iload_n (i := 2) rfl (show decode cX12_joinNow 28 = .ok (.iload_n 2, 1) by decide +kernel) ?_
  refine j_iadd (show decode cX12_joinNow 29 = .ok (.iadd, 1) by decide +kernel) ?_
  refine s_iald (show decode cX12_joinNow 30 = .ok (.iaload, 1) by decide +kernel) okl_322 h.1 ?_
  have h := h.2
  refine j_iadd (show decode cX12_joinNow 31 = .ok (.iadd, 1) by decide +kernel) ?_
  have hb1 := h.1
  have h := h.2
  refine s_iast (show decode cX12_joinNow 32 = .ok (.iastore, 1) by decide +kernel) okl_322 hb1 ?_
  obtain ⟨σ3, eσ3⟩ : ∃ z : jM, z = up σ1 322 (10 + r1) ((σ1 322 (10 + p1)) + (σ1 322 (10 + p2))) := ⟨_, rfl⟩
  refine j_sig eσ3 ?_
  have h := h σ3 eσ3
  refine s_aload_n (i := 0) rfl (show decode cX12_joinNow 33 = .ok (.aload_n 0, 1) by decide +kernel) ?_
  refine gf_X12_7 (x := 322) rfl (show decode cX12_joinNow 34 = .ok (.getfield 7, 3) by decide +kernel) okl_321 rfl ?_
  refine j_bipush (n := 18) (by decide +kernel) (show decode cX12_joinNow 37 = .ok (.bipush 18, 2) by decide +kernel) ?_
  refine j_iload_n (i := 3) rfl (show decode cX12_joinNow 39 = .ok (.iload_n 3, 1) by decide +kernel) ?_
  refine j_iadd (show decode cX12_joinNow 40 = .ok (.iadd, 1) by decide +kernel) ?_
  refine j_iconst (show decode cX12_joinNow 41 = .ok (.iconst 0, 1) by decide +kernel) ?_
  have hb3 := h.1
  have h := h.2
  refine s_iast (show decode cX12_joinNow 42 = .ok (.iastore, 1) by decide +kernel) okl_322 hb3 ?_
  obtain ⟨σ5, eσ5⟩ : ∃ z : jM, z = up σ3 322 (18 + r1) 0 := ⟨_, rfl⟩
  refine j_sig eσ5 ?_
  have h := h σ5 eσ5
  refine s_aload_n (i := 0) rfl (show decode cX12_joinNow 43 = .ok (.aload_n 0, 1) by decide +kernel) ?_
  refine j_iconst (show decode cX12_joinNow 44 = .ok (.iconst 0, 1) by decide +kernel) ?_
  refine j_iload_n (i := 3) rfl (show decode cX12_joinNow 45 = .ok (.iload_n 3, 1) by decide +kernel) ?_
  refine s_aload_n (i := 0) rfl (show decode cX12_joinNow 46 = .ok (.aload_n 0, 1) by decide +kernel) ?_
  refine gf_X12_7 (x := 322) rfl (show decode cX12_joinNow 47 = .ok (.getfield 7, 3) by decide +kernel) okl_321 rfl ?_
  refine j_bipush (n := 10) (by decide +kernel) (show decode cX12_joinNow 50 = .ok (.bipush 10, 2) by decide +kernel) ?_
  refine j_iload_n (i := 3) rfl (show decode cX12_joinNow 52 = .ok (.iload_n 3, 1) by decide +kernel) ?_
  refine j_iadd (show decode cX12_joinNow 53 = .ok (.iadd, 1) by decide +kernel) ?_
  refine s_iald (show decode cX12_joinNow 54 = .ok (.iaload, 1) by decide +kernel) okl_322 h.1 ?_
  have h := h.2
  refine j_ctVv (m' := mX12_write) (As := [iv 0, iv r1, iv (σ5 322 (10 + r1))]) (ci := 12) (N := 0) (cw_X12_320 rfl) (show decode cX12_joinNow 55 = .ok (.invokevirtual 320, 3) by decide +kernel) rfl (Nat.le_of_ble_eq_true rfl) okl_321 rfl rfl (Nat.le_refl _) h (fun r6 σ6 h => ?_)
  refine j_iload_n (i := 3) rfl (show decode cX12_joinNow 58 = .ok (.iload_n 3, 1) by decide +kernel) ?_
  exact j_ret (rokI (show decode cX12_joinNow 59 = .ok (.ireturn, 1) by decide +kernel) rfl) ⟨rfl, rfl, h⟩
theorem c_X12_joinNow {d : Nat} {t : Int} {Q : Int → jM → Prop} {σ : jM} {p1 p2 : Int} (h : Ct mX12_freeCrock d 0 t [rv 321] σ (fun r1 σ1 => (((0 : Int) ≤ (10 + p1) ∧ (10 + p1) < 2208) ∧ (((0 : Int) ≤ (10 + p2) ∧ (10 + p2) < 2208) ∧ (((0 : Int) ≤ (10 + r1) ∧ (10 + r1) < 2208) ∧ (∀ σ3 : jM, σ3 = up σ1 322 (10 + r1) ((σ1 322 (10 + p1)) + (σ1 322 (10 + p2))) → (((0 : Int) ≤ (18 + r1) ∧ (18 + r1) < 2208) ∧ (∀ σ5 : jM, σ5 = up σ3 322 (18 + r1) 0 → (((0 : Int) ≤ (10 + r1) ∧ (10 + r1) < 2208) ∧ (Ct mX12_write d 9 t [rv 321, iv 0, iv r1, iv (σ5 322 (10 + r1))] σ5 (fun r6 σ6 => (Q r1 σ6)))))))))))) : Ct mX12_joinNow (d + 1) 0 t [rv 321, iv p1, iv p2] σ Q := Ct_of (by decide +kernel) (Nat.le_of_ble_eq_true rfl) (b_X12_joinNow_0 h)
set_option maxRecDepth 4000 in
theorem b_X12_emptyNow_0 {d : Nat} {t : Int} {Q : Int → jM → Prop} {σ : jM} {p1 p2 : Int} (h : ((0 : Int) ≤ (10 + p1) ∧ (10 + p1) < 2208) ∧ (((0 : Int) ≤ (10 + p1) ∧ (10 + p1) < 2208) ∧ (∀ σ2 : jM, σ2 = up σ 322 (10 + p1) 0 → (((0 : Int) ≤ (18 + p1) ∧ (18 + p1) < 2208) ∧ (∀ σ4 : jM, σ4 = up σ2 322 (18 + p1) 0 → (Ct mX12_write d 9 t [rv 321, iv p2, iv p1, iv (σ 322 (10 + p1))] σ4 (fun r5 σ5 => (Q 0 σ5)))))))) : Jt mX12_emptyNow (d + 1) 9 t Q 0 [rv 321, iv p1, iv p2, uv] [] σ := by
  refine s_aload_n (i := 0) rfl (show decode cX12_emptyNow 0 = .ok (.aload_n 0, 1) by decide +kernel) ?_
  refine gf_X12_7 (x := 322) rfl (show decode cX12_emptyNow 1 = .ok (.getfield 7, 3) by decide +kernel) okl_321 rfl ?_
  refine j_bipush (n := 10) (by decide +kernel) (show decode cX12_emptyNow 4 = .ok (.bipush 10, 2) by decide +kernel) ?_
  refine j_iload_n (i := 1) rfl (show decode cX12_emptyNow 6 = .ok (.iload_n 1, 1) by decide +kernel) ?_
  refine j_iadd (show decode cX12_emptyNow 7 = .ok (.iadd, 1) by decide +kernel) ?_
  refine s_iald (show decode cX12_emptyNow 8 = .ok (.iaload, 1) by decide +kernel) okl_322 h.1 ?_
  have h := h.2
  refine s_ist_n (i := 3) (L' := [rv 321, iv p1, iv p2, iv (σ 322 (10 + p1))]) rfl (by decide) (show decode cX12_emptyNow 9 = .ok (.istore_n 3, 1) by decide +kernel) ?_
  refine s_aload_n (i := 0) rfl (show decode cX12_emptyNow 10 = .ok (.aload_n 0, 1) by decide +kernel) ?_
  refine gf_X12_7 (x := 322) rfl (show decode cX12_emptyNow 11 = .ok (.getfield 7, 3) by decide +kernel) okl_321 rfl ?_
  refine j_bipush (n := 10) (by decide +kernel) (show decode cX12_emptyNow 14 = .ok (.bipush 10, 2) by decide +kernel) ?_
  refine j_iload_n (i := 1) rfl (show decode cX12_emptyNow 16 = .ok (.iload_n 1, 1) by decide +kernel) ?_
  refine j_iadd (show decode cX12_emptyNow 17 = .ok (.iadd, 1) by decide +kernel) ?_
  refine j_iconst (show decode cX12_emptyNow 18 = .ok (.iconst 0, 1) by decide +kernel) ?_
  have hb0 := h.1
  have h := h.2
  refine s_iast (show decode cX12_emptyNow 19 = .ok (.iastore, 1) by decide +kernel) okl_322 hb0 ?_
  obtain ⟨σ2, eσ2⟩ : ∃ z : jM, z = up σ 322 (10 + p1) 0 := ⟨_, rfl⟩
  refine j_sig eσ2 ?_
  have h := h σ2 eσ2
  refine s_aload_n (i := 0) rfl (show decode cX12_emptyNow 20 = .ok (.aload_n 0, 1) by decide +kernel) ?_
  refine gf_X12_7 (x := 322) rfl (show decode cX12_emptyNow 21 = .ok (.getfield 7, 3) by decide +kernel) okl_321 rfl ?_
  refine j_bipush (n := 18) (by decide +kernel) (show decode cX12_emptyNow 24 = .ok (.bipush 18, 2) by decide +kernel) ?_
  refine j_iload_n (i := 1) rfl (show decode cX12_emptyNow 26 = .ok (.iload_n 1, 1) by decide +kernel) ?_
  refine j_iadd (show decode cX12_emptyNow 27 = .ok (.iadd, 1) by decide +kernel) ?_
  refine j_iconst (show decode cX12_emptyNow 28 = .ok (.iconst 0, 1) by decide +kernel) ?_
  have hb2 := h.1
  have h := h.2
  refine s_iast (show decode cX12_emptyNow 29 = .ok (.iastore, 1) by decide +kernel) okl_322 hb2 ?_
  obtain ⟨σ4, eσ4⟩ : ∃ z : jM, z = up σ2 322 (18 + p1) 0 := ⟨_, rfl⟩
  refine j_sig eσ4 ?_
  have h := h σ4 eσ4
  refine s_aload_n (i := 0) rfl (show decode cX12_emptyNow 30 = .ok (.aload_n 0, 1) by decide +kernel) ?_
  refine j_iload_n (i := 2) rfl (show decode cX12_emptyNow 31 = .ok (.iload_n 2, 1) by decide +kernel) ?_
  refine j_iload_n (i := 1) rfl (show decode cX12_emptyNow 32 = .ok (.iload_n 1, 1) by decide +kernel) ?_
  refine j_iload_n (i := 3) rfl (show decode cX12_emptyNow 33 = .ok (.iload_n 3, 1) by decide +kernel) ?_
  refine j_ctVv (m' := mX12_write) (As := [iv p2, iv p1, iv (σ 322 (10 + p1))]) (ci := 12) (N := 0) (cw_X12_320 rfl) (show decode cX12_emptyNow 34 = .ok (.invokevirtual 320, 3) by decide +kernel) rfl (Nat.le_of_ble_eq_true rfl) okl_321 rfl rfl (Nat.le_refl _) h (fun r5 σ5 h => ?_)
  exact j_ret (rokV (show decode cX12_emptyNow 37 = .ok (.return_, 1) by decide +kernel) rfl) ⟨rfl, rfl, h⟩
theorem c_X12_emptyNow {d : Nat} {t : Int} {Q : Int → jM → Prop} {σ : jM} {p1 p2 : Int} (h : ((0 : Int) ≤ (10 + p1) ∧ (10 + p1) < 2208) ∧ (((0 : Int) ≤ (10 + p1) ∧ (10 + p1) < 2208) ∧ (∀ σ2 : jM, σ2 = up σ 322 (10 + p1) 0 → (((0 : Int) ≤ (18 + p1) ∧ (18 + p1) < 2208) ∧ (∀ σ4 : jM, σ4 = up σ2 322 (18 + p1) 0 → (Ct mX12_write d 9 t [rv 321, iv p2, iv p1, iv (σ 322 (10 + p1))] σ4 (fun r5 σ5 => (Q 0 σ5)))))))) : Ct mX12_emptyNow (d + 1) 9 t [rv 321, iv p1, iv p2] σ Q := Ct_of (by decide +kernel) (Nat.le_of_ble_eq_true rfl) (b_X12_emptyNow_0 h)
set_option maxRecDepth 4000 in
theorem b_X12_bakeNow_0 {d : Nat} {t : Int} {Q : Int → jM → Prop} {σ : jM} {p1 : Int} (h : Ct mX12_priceOf d 0 t [rv 321, iv p1] σ (fun r1 σ1 => (((0 : Int) ≤ 8 ∧ (8 : Int) < 2208) ∧ ((inR ((σ1 322 8) + r1)) ∧ (Ct mX12_held d 0 t [jv ((σ1 322 8) + r1), iv 0, iv 999999] σ1 (fun r3 σ3 => (((0 : Int) ≤ 8 ∧ (8 : Int) < 2208) ∧ (∀ σ5 : jM, σ5 = up σ3 322 8 r3 → (Ct mX12_emptyNow d 9 t [rv 321, iv p1, iv 2] σ5 (fun r6 σ6 => (Q r1 σ6))))))))))) : Jt mX12_bakeNow (d + 1) 0 t Q 0 [rv 321, iv p1, uv] [] σ := by
  refine s_aload_n (i := 0) rfl (show decode cX12_bakeNow 0 = .ok (.aload_n 0, 1) by decide +kernel) ?_
  refine j_iload_n (i := 1) rfl (show decode cX12_bakeNow 1 = .ok (.iload_n 1, 1) by decide +kernel) ?_
  refine j_ctV (m' := mX12_priceOf) (As := [iv p1]) (ci := 12) (tag := 0) (N := 0) (cw_X12_324 rfl) (show decode cX12_bakeNow 2 = .ok (.invokevirtual 324, 3) by decide +kernel) rfl (Nat.le_of_ble_eq_true rfl) (by decide) okl_321 rfl rfl (Nat.le_refl _) h (fun r1 σ1 h => ?_)
  refine s_ist_n (i := 2) (L' := [rv 321, iv p1, iv r1]) rfl (by decide) (show decode cX12_bakeNow 5 = .ok (.istore_n 2, 1) by decide +kernel) ?_
  refine s_aload_n (i := 0) rfl (show decode cX12_bakeNow 6 = .ok (.aload_n 0, 1) by decide +kernel) ?_
  refine gf_X12_7 (x := 322) rfl (show decode cX12_bakeNow 7 = .ok (.getfield 7, 3) by decide +kernel) okl_321 rfl ?_
  refine j_bipush (n := 8) (by decide +kernel) (show decode cX12_bakeNow 10 = .ok (.bipush 8, 2) by decide +kernel) ?_
  refine s_aload_n (i := 0) rfl (show decode cX12_bakeNow 12 = .ok (.aload_n 0, 1) by decide +kernel) ?_
  refine gf_X12_7 (x := 322) rfl (show decode cX12_bakeNow 13 = .ok (.getfield 7, 3) by decide +kernel) okl_321 rfl ?_
  refine j_bipush (n := 8) (by decide +kernel) (show decode cX12_bakeNow 16 = .ok (.bipush 8, 2) by decide +kernel) ?_
  refine s_iald (show decode cX12_bakeNow 18 = .ok (.iaload, 1) by decide +kernel) okl_322 h.1 ?_
  have h := h.2
  refine j_iload_n (i := 2) rfl (show decode cX12_bakeNow 19 = .ok (.iload_n 2, 1) by decide +kernel) ?_
  refine j_iadd (show decode cX12_bakeNow 20 = .ok (.iadd, 1) by decide +kernel) ?_
  have hr1 := h.1
  have h := h.2
  refine j_i2l hr1 (show decode cX12_bakeNow 21 = .ok (.i2l, 1) by decide +kernel) ?_
  refine j_iconst (show decode cX12_bakeNow 22 = .ok (.iconst 0, 1) by decide +kernel) ?_
  refine j_ldcw (x := 999999) (tt_in 1605 (by decide +kernel) rfl) (show decode cX12_bakeNow 23 = .ok (.ldc_w 327, 3) by decide +kernel) ?_
  refine j_ctS (m' := mX12_held) (As := [jv ((σ1 322 8) + r1), iv 0, iv 999999]) (tag := 0) (cw_X12_275 rfl) (show decode cX12_bakeNow 26 = .ok (.invokestatic 275, 3) by decide +kernel) rfl (Nat.le_of_ble_eq_true rfl) (by decide) (Nat.le_refl _) h (fun r3 σ3 h => ?_)
  have hb3 := h.1
  have h := h.2
  refine s_iast (show decode cX12_bakeNow 29 = .ok (.iastore, 1) by decide +kernel) okl_322 hb3 ?_
  obtain ⟨σ5, eσ5⟩ : ∃ z : jM, z = up σ3 322 8 r3 := ⟨_, rfl⟩
  refine j_sig eσ5 ?_
  have h := h σ5 eσ5
  refine s_aload_n (i := 0) rfl (show decode cX12_bakeNow 30 = .ok (.aload_n 0, 1) by decide +kernel) ?_
  refine j_iload_n (i := 1) rfl (show decode cX12_bakeNow 31 = .ok (.iload_n 1, 1) by decide +kernel) ?_
  refine j_iconst (show decode cX12_bakeNow 32 = .ok (.iconst 2, 1) by decide +kernel) ?_
  refine j_ctVv (m' := mX12_emptyNow) (As := [iv p1, iv 2]) (ci := 12) (N := 0) (cw_X12_328 rfl) (show decode cX12_bakeNow 33 = .ok (.invokevirtual 328, 3) by decide +kernel) rfl (Nat.le_of_ble_eq_true rfl) okl_321 rfl rfl (Nat.le_refl _) h (fun r6 σ6 h => ?_)
  refine j_iload_n (i := 2) rfl (show decode cX12_bakeNow 36 = .ok (.iload_n 2, 1) by decide +kernel) ?_
  exact j_ret (rokI (show decode cX12_bakeNow 37 = .ok (.ireturn, 1) by decide +kernel) rfl) ⟨rfl, rfl, h⟩
theorem c_X12_bakeNow {d : Nat} {t : Int} {Q : Int → jM → Prop} {σ : jM} {p1 : Int} (h : Ct mX12_priceOf d 0 t [rv 321, iv p1] σ (fun r1 σ1 => (((0 : Int) ≤ 8 ∧ (8 : Int) < 2208) ∧ ((inR ((σ1 322 8) + r1)) ∧ (Ct mX12_held d 0 t [jv ((σ1 322 8) + r1), iv 0, iv 999999] σ1 (fun r3 σ3 => (((0 : Int) ≤ 8 ∧ (8 : Int) < 2208) ∧ (∀ σ5 : jM, σ5 = up σ3 322 8 r3 → (Ct mX12_emptyNow d 9 t [rv 321, iv p1, iv 2] σ5 (fun r6 σ6 => (Q r1 σ6))))))))))) : Ct mX12_bakeNow (d + 1) 0 t [rv 321, iv p1] σ Q := Ct_of (by decide +kernel) (Nat.le_of_ble_eq_true rfl) (b_X12_bakeNow_0 h)
set_option maxRecDepth 4000 in
theorem b_X12_pass_2 {d : Nat} {t : Int} {Q : Int → jM → Prop} {σ : jM} {v1 : Int} (h : (inR v1) ∧ ((8 ≤ v1 → (((0 : Int) ≤ 6 ∧ (6 : Int) < 2208) ∧ (((0 : Int) ≤ 6 ∧ (6 : Int) < 2208) ∧ (∀ σ3 : jM, σ3 = up σ 322 6 ((σ 322 6) + 1) → (Q 0 σ3))))) ∧ (v1 < 8 → (Ct mX12_isFull d 0 t [rv 321, iv v1] σ (fun r4 σ4 => ((inR r4) ∧ ((¬ r4 = 0 → (((0 : Int) ≤ (18 + v1) ∧ (18 + v1) < 2208) ∧ ((inR ((σ4 322 (18 + v1)) + 1)) ∧ (Ct mX12_held d 0 t [jv ((σ4 322 (18 + v1)) + 1), iv 0, iv 99] σ4 (fun r7 σ7 => (((0 : Int) ≤ (18 + v1) ∧ (18 + v1) < 2208) ∧ (∀ σ9 : jM, σ9 = up σ7 322 (18 + v1) r7 → (Ct mX12_drawnBy d 0 t [rv 321, iv 10] σ9 (fun r10 σ10 => (((0 : Int) ≤ 1 ∧ (1 : Int) < 2208) ∧ (Ct mX12_tiresOf d 0 t [rv 321, iv (σ10 322 1), iv v1] σ10 (fun r11 σ11 => ((inR r10) ∧ ((inR r11) ∧ ((r10 < r11 → (((0 : Int) ≤ (10 + v1) ∧ (10 + v1) < 2208) ∧ ((inR (σ11 322 (10 + v1))) ∧ (((0 : Int) ≤ (10 + v1) ∧ (10 + v1) < 2208) ∧ (∀ σ16 : jM, σ16 = up σ11 322 (10 + v1) (Int.tdiv (σ11 322 (10 + v1)) 2) → (((0 : Int) ≤ (10 + v1) ∧ (10 + v1) < 2208) ∧ ((inR (σ16 322 (10 + v1))) ∧ ((¬ (σ16 322 (10 + v1)) = 0 → (∀ σ18 : jM, σ18 = up σ16 321 24 ((σ16 321 24) + 1) → (((0 : Int) ≤ (10 + v1) ∧ (10 + v1) < 2208) ∧ (Ct mX12_write d 9 t [rv 321, iv 3, iv v1, iv (σ18 322 (10 + v1))] σ18 (fun r19 σ19 => (Jt mX12_pass (d + 1) 9 t Q 2 [rv 321, iv (v1 + 1)] [] σ19)))))) ∧ ((σ16 322 (10 + v1)) = 0 → (((0 : Int) ≤ (18 + v1) ∧ (18 + v1) < 2208) ∧ (∀ σ21 : jM, σ21 = up σ16 322 (18 + v1) 0 → (∀ σ22 : jM, σ22 = up σ21 321 24 ((σ21 321 24) + 1) → (((0 : Int) ≤ (10 + v1) ∧ (10 + v1) < 2208) ∧ (Ct mX12_write d 9 t [rv 321, iv 3, iv v1, iv (σ22 322 (10 + v1))] σ22 (fun r23 σ23 => (Jt mX12_pass (d + 1) 9 t Q 2 [rv 321, iv (v1 + 1)] [] σ23)))))))))))))))) ∧ (r11 ≤ r10 → (Jt mX12_pass (d + 1) 9 t Q 2 [rv 321, iv (v1 + 1)] [] σ11))))))))))))))))) ∧ (r4 = 0 → (Jt mX12_pass (d + 1) 9 t Q 2 [rv 321, iv (v1 + 1)] [] σ4))))))))) : Jt mX12_pass (d + 1) 9 t Q 2 [rv 321, iv v1] [] σ := by
  refine j_iload_n (i := 1) rfl (show decode cX12_pass 2 = .ok (.iload_n 1, 1) by decide +kernel) ?_
  refine j_bipush (n := 8) (by decide +kernel) (show decode cX12_pass 3 = .ok (.bipush 8, 2) by decide +kernel) ?_
  have hr0 := h.1
  have h := h.2
  refine j_icmp_ge (tgt := 135) hr0 (inl (by decide)) (show decode cX12_pass 5 = .ok (.if_icmp .ge 130, 3) by decide +kernel) (by decide) (fun c => ?_) (fun c => ?_)
  · have h := h.1 c
    refine s_aload_n (i := 0) rfl (show decode cX12_pass 135 = .ok (.aload_n 0, 1) by decide +kernel) ?_
    refine gf_X12_7 (x := 322) rfl (show decode cX12_pass 136 = .ok (.getfield 7, 3) by decide +kernel) okl_321 rfl ?_
    refine j_bipush (n := 6) (by decide +kernel) (show decode cX12_pass 139 = .ok (.bipush 6, 2) by decide +kernel) ?_
    refine j_dup2 (show (0 : Nat) ≠ 1 by decide) (show (2 : Nat) ≠ 1 by decide) (show decode cX12_pass 141 = .ok (.dup2, 1) by decide +kernel) ?_
    refine s_iald (show decode cX12_pass 142 = .ok (.iaload, 1) by decide +kernel) okl_322 h.1 ?_
    have h := h.2
    refine j_iconst (show decode cX12_pass 143 = .ok (.iconst 1, 1) by decide +kernel) ?_
    refine j_iadd (show decode cX12_pass 144 = .ok (.iadd, 1) by decide +kernel) ?_
    have hb1 := h.1
    have h := h.2
    refine s_iast (show decode cX12_pass 145 = .ok (.iastore, 1) by decide +kernel) okl_322 hb1 ?_
    obtain ⟨σ3, eσ3⟩ : ∃ z : jM, z = up σ 322 6 ((σ 322 6) + 1) := ⟨_, rfl⟩
    refine j_sig eσ3 ?_
    have h := h σ3 eσ3
    exact j_ret (rokV (show decode cX12_pass 146 = .ok (.return_, 1) by decide +kernel) rfl) ⟨rfl, rfl, h⟩
  · have h := h.2 c
    refine s_aload_n (i := 0) rfl (show decode cX12_pass 8 = .ok (.aload_n 0, 1) by decide +kernel) ?_
    refine j_iload_n (i := 1) rfl (show decode cX12_pass 9 = .ok (.iload_n 1, 1) by decide +kernel) ?_
    refine j_ctV (m' := mX12_isFull) (As := [iv v1]) (ci := 12) (tag := 0) (N := 0) (cw_X12_93 rfl) (show decode cX12_pass 10 = .ok (.invokevirtual 93, 3) by decide +kernel) rfl (Nat.le_of_ble_eq_true rfl) (by decide) okl_321 rfl rfl (Nat.le_refl _) h (fun r4 σ4 h => ?_)
    have hr4 := h.1
    have h := h.2
    refine j_if_ne (tgt := 19) hr4 (show decode cX12_pass 13 = .ok (.ifCond .ne 6, 3) by decide +kernel) (by decide) (fun c => ?_) (fun c => ?_)
    · have h := h.1 c
      refine s_aload_n (i := 0) rfl (show decode cX12_pass 19 = .ok (.aload_n 0, 1) by decide +kernel) ?_
      refine gf_X12_7 (x := 322) rfl (show decode cX12_pass 20 = .ok (.getfield 7, 3) by decide +kernel) okl_321 rfl ?_
      refine j_bipush (n := 18) (by decide +kernel) (show decode cX12_pass 23 = .ok (.bipush 18, 2) by decide +kernel) ?_
      refine j_iload_n (i := 1) rfl (show decode cX12_pass 25 = .ok (.iload_n 1, 1) by decide +kernel) ?_
      refine j_iadd (show decode cX12_pass 26 = .ok (.iadd, 1) by decide +kernel) ?_
      refine s_aload_n (i := 0) rfl (show decode cX12_pass 27 = .ok (.aload_n 0, 1) by decide +kernel) ?_
      refine gf_X12_7 (x := 322) rfl (show decode cX12_pass 28 = .ok (.getfield 7, 3) by decide +kernel) okl_321 rfl ?_
      refine j_bipush (n := 18) (by decide +kernel) (show decode cX12_pass 31 = .ok (.bipush 18, 2) by decide +kernel) ?_
      refine j_iload_n (i := 1) rfl (show decode cX12_pass 33 = .ok (.iload_n 1, 1) by decide +kernel) ?_
      refine j_iadd (show decode cX12_pass 34 = .ok (.iadd, 1) by decide +kernel) ?_
      refine s_iald (show decode cX12_pass 35 = .ok (.iaload, 1) by decide +kernel) okl_322 h.1 ?_
      have h := h.2
      refine j_iconst (show decode cX12_pass 36 = .ok (.iconst 1, 1) by decide +kernel) ?_
      refine j_iadd (show decode cX12_pass 37 = .ok (.iadd, 1) by decide +kernel) ?_
      have hr5 := h.1
      have h := h.2
      refine j_i2l hr5 (show decode cX12_pass 38 = .ok (.i2l, 1) by decide +kernel) ?_
      refine j_iconst (show decode cX12_pass 39 = .ok (.iconst 0, 1) by decide +kernel) ?_
      refine j_bipush (n := 99) (by decide +kernel) (show decode cX12_pass 40 = .ok (.bipush 99, 2) by decide +kernel) ?_
      refine j_ctS (m' := mX12_held) (As := [jv ((σ4 322 (18 + v1)) + 1), iv 0, iv 99]) (tag := 0) (cw_X12_275 rfl) (show decode cX12_pass 42 = .ok (.invokestatic 275, 3) by decide +kernel) rfl (Nat.le_of_ble_eq_true rfl) (by decide) (Nat.le_refl _) h (fun r7 σ7 h => ?_)
      have hb7 := h.1
      have h := h.2
      refine s_iast (show decode cX12_pass 45 = .ok (.iastore, 1) by decide +kernel) okl_322 hb7 ?_
      obtain ⟨σ9, eσ9⟩ : ∃ z : jM, z = up σ7 322 (18 + v1) r7 := ⟨_, rfl⟩
      refine j_sig eσ9 ?_
      have h := h σ9 eσ9
      refine s_aload_n (i := 0) rfl (show decode cX12_pass 46 = .ok (.aload_n 0, 1) by decide +kernel) ?_
      refine j_bipush (n := 10) (by decide +kernel) (show decode cX12_pass 47 = .ok (.bipush 10, 2) by decide +kernel) ?_
      refine j_ctV (m' := mX12_drawnBy) (As := [iv 10]) (ci := 12) (tag := 0) (N := 0) (cw_X12_331 rfl) (show decode cX12_pass 49 = .ok (.invokevirtual 331, 3) by decide +kernel) rfl (Nat.le_of_ble_eq_true rfl) (by decide) okl_321 rfl rfl (Nat.le_refl _) h (fun r10 σ10 h => ?_)
      refine s_aload_n (i := 0) rfl (show decode cX12_pass 52 = .ok (.aload_n 0, 1) by decide +kernel) ?_
      refine s_aload_n (i := 0) rfl (show decode cX12_pass 53 = .ok (.aload_n 0, 1) by decide +kernel) ?_
      refine gf_X12_7 (x := 322) rfl (show decode cX12_pass 54 = .ok (.getfield 7, 3) by decide +kernel) okl_321 rfl ?_
      refine j_iconst (show decode cX12_pass 57 = .ok (.iconst 1, 1) by decide +kernel) ?_
      refine s_iald (show decode cX12_pass 58 = .ok (.iaload, 1) by decide +kernel) okl_322 h.1 ?_
      have h := h.2
      refine j_iload_n (i := 1) rfl (show decode cX12_pass 59 = .ok (.iload_n 1, 1) by decide +kernel) ?_
      refine j_ctV (m' := mX12_tiresOf) (As := [iv (σ10 322 1), iv v1]) (ci := 12) (tag := 0) (N := 0) (cw_X12_334 rfl) (show decode cX12_pass 60 = .ok (.invokevirtual 334, 3) by decide +kernel) rfl (Nat.le_of_ble_eq_true rfl) (by decide) okl_321 rfl rfl (Nat.le_refl _) h (fun r11 σ11 h => ?_)
      have hr11 := h.1
      have h := h.2
      have hr12 := h.1
      have h := h.2
      refine j_icmp_lt (tgt := 69) hr11 hr12 (show decode cX12_pass 63 = .ok (.if_icmp .lt 6, 3) by decide +kernel) (by decide) (fun c => ?_) (fun c => ?_)
      · have h := h.1 c
        refine s_aload_n (i := 0) rfl (show decode cX12_pass 69 = .ok (.aload_n 0, 1) by decide +kernel) ?_
        refine gf_X12_7 (x := 322) rfl (show decode cX12_pass 70 = .ok (.getfield 7, 3) by decide +kernel) okl_321 rfl ?_
        refine j_bipush (n := 10) (by decide +kernel) (show decode cX12_pass 73 = .ok (.bipush 10, 2) by decide +kernel) ?_
        refine j_iload_n (i := 1) rfl (show decode cX12_pass 75 = .ok (.iload_n 1, 1) by decide +kernel) ?_
        refine j_iadd (show decode cX12_pass 76 = .ok (.iadd, 1) by decide +kernel) ?_
        refine j_dup2 (show (0 : Nat) ≠ 1 by decide) (show (2 : Nat) ≠ 1 by decide) (show decode cX12_pass 77 = .ok (.dup2, 1) by decide +kernel) ?_
        refine s_iald (show decode cX12_pass 78 = .ok (.iaload, 1) by decide +kernel) okl_322 h.1 ?_
        have h := h.2
        refine j_iconst (show decode cX12_pass 79 = .ok (.iconst 2, 1) by decide +kernel) ?_
        have hr13 := h.1
        have h := h.2
        refine j_idiv hr13 (inl (by decide)) (by decide) (show decode cX12_pass 80 = .ok (.idiv, 1) by decide +kernel) ?_
        have hb14 := h.1
        have h := h.2
        refine s_iast (show decode cX12_pass 81 = .ok (.iastore, 1) by decide +kernel) okl_322 hb14 ?_
        obtain ⟨σ16, eσ16⟩ : ∃ z : jM, z = up σ11 322 (10 + v1) (Int.tdiv (σ11 322 (10 + v1)) 2) := ⟨_, rfl⟩
        refine j_sig eσ16 ?_
        have h := h σ16 eσ16
        refine s_aload_n (i := 0) rfl (show decode cX12_pass 82 = .ok (.aload_n 0, 1) by decide +kernel) ?_
        refine gf_X12_7 (x := 322) rfl (show decode cX12_pass 83 = .ok (.getfield 7, 3) by decide +kernel) okl_321 rfl ?_
        refine j_bipush (n := 10) (by decide +kernel) (show decode cX12_pass 86 = .ok (.bipush 10, 2) by decide +kernel) ?_
        refine j_iload_n (i := 1) rfl (show decode cX12_pass 88 = .ok (.iload_n 1, 1) by decide +kernel) ?_
        refine j_iadd (show decode cX12_pass 89 = .ok (.iadd, 1) by decide +kernel) ?_
        refine s_iald (show decode cX12_pass 90 = .ok (.iaload, 1) by decide +kernel) okl_322 h.1 ?_
        have h := h.2
        have hr16 := h.1
        have h := h.2
        refine j_if_ne (tgt := 104) hr16 (show decode cX12_pass 91 = .ok (.ifCond .ne 13, 3) by decide +kernel) (by decide) (fun c => ?_) (fun c => ?_)
        · have h := h.1 c
          refine s_aload_n (i := 0) rfl (show decode cX12_pass 104 = .ok (.aload_n 0, 1) by decide +kernel) ?_
          refine j_dup (show (2 : Nat) ≠ 1 by decide) (show decode cX12_pass 105 = .ok (.dup, 1) by decide +kernel) ?_
          refine gf_X12_337 rfl (show decode cX12_pass 106 = .ok (.getfield 337, 3) by decide +kernel) okl_321 ?_
          refine j_iconst (show decode cX12_pass 109 = .ok (.iconst 1, 1) by decide +kernel) ?_
          refine j_iadd (show decode cX12_pass 110 = .ok (.iadd, 1) by decide +kernel) ?_
          refine pf_X12_337 rfl (show decode cX12_pass 111 = .ok (.putfield 337, 3) by decide +kernel) okl_321 ?_
          obtain ⟨σ18, eσ18⟩ : ∃ z : jM, z = up σ16 321 24 ((σ16 321 24) + 1) := ⟨_, rfl⟩
          refine j_sig eσ18 ?_
          have h := h σ18 eσ18
          refine s_aload_n (i := 0) rfl (show decode cX12_pass 114 = .ok (.aload_n 0, 1) by decide +kernel) ?_
          refine j_iconst (show decode cX12_pass 115 = .ok (.iconst 3, 1) by decide +kernel) ?_
          refine j_iload_n (i := 1) rfl (show decode cX12_pass 116 = .ok (.iload_n 1, 1) by decide +kernel) ?_
          refine s_aload_n (i := 0) rfl (show decode cX12_pass 117 = .ok (.aload_n 0, 1) by decide +kernel) ?_
          refine gf_X12_7 (x := 322) rfl (show decode cX12_pass 118 = .ok (.getfield 7, 3) by decide +kernel) okl_321 rfl ?_
          refine j_bipush (n := 10) (by decide +kernel) (show decode cX12_pass 121 = .ok (.bipush 10, 2) by decide +kernel) ?_
          refine j_iload_n (i := 1) rfl (show decode cX12_pass 123 = .ok (.iload_n 1, 1) by decide +kernel) ?_
          refine j_iadd (show decode cX12_pass 124 = .ok (.iadd, 1) by decide +kernel) ?_
          refine s_iald (show decode cX12_pass 125 = .ok (.iaload, 1) by decide +kernel) okl_322 h.1 ?_
          have h := h.2
          refine j_ctVv (m' := mX12_write) (As := [iv 3, iv v1, iv (σ18 322 (10 + v1))]) (ci := 12) (N := 0) (cw_X12_320 rfl) (show decode cX12_pass 126 = .ok (.invokevirtual 320, 3) by decide +kernel) rfl (Nat.le_of_ble_eq_true rfl) okl_321 rfl rfl (Nat.le_refl _) h (fun r19 σ19 h => ?_)
          refine s_iinc (i := 1) rfl (L' := [rv 321, iv (v1 + 1)]) rfl (show decode cX12_pass 129 = .ok (.iinc 1 1, 3) by decide +kernel) ?_
          refine j_goto (tgt := 2) (show decode cX12_pass 132 = .ok (.goto (-130), 3) by decide +kernel) (by decide) ?_
          exact h
        · have h := h.2 c
          refine s_aload_n (i := 0) rfl (show decode cX12_pass 94 = .ok (.aload_n 0, 1) by decide +kernel) ?_
          refine gf_X12_7 (x := 322) rfl (show decode cX12_pass 95 = .ok (.getfield 7, 3) by decide +kernel) okl_321 rfl ?_
          refine j_bipush (n := 18) (by decide +kernel) (show decode cX12_pass 98 = .ok (.bipush 18, 2) by decide +kernel) ?_
          refine j_iload_n (i := 1) rfl (show decode cX12_pass 100 = .ok (.iload_n 1, 1) by decide +kernel) ?_
          refine j_iadd (show decode cX12_pass 101 = .ok (.iadd, 1) by decide +kernel) ?_
          refine j_iconst (show decode cX12_pass 102 = .ok (.iconst 0, 1) by decide +kernel) ?_
          have hb19 := h.1
          have h := h.2
          refine s_iast (show decode cX12_pass 103 = .ok (.iastore, 1) by decide +kernel) okl_322 hb19 ?_
          obtain ⟨σ21, eσ21⟩ : ∃ z : jM, z = up σ16 322 (18 + v1) 0 := ⟨_, rfl⟩
          refine j_sig eσ21 ?_
          have h := h σ21 eσ21
          refine s_aload_n (i := 0) rfl (show decode cX12_pass 104 = .ok (.aload_n 0, 1) by decide +kernel) ?_
          refine j_dup (show (2 : Nat) ≠ 1 by decide) (show decode cX12_pass 105 = .ok (.dup, 1) by decide +kernel) ?_
          refine gf_X12_337 rfl (show decode cX12_pass 106 = .ok (.getfield 337, 3) by decide +kernel) okl_321 ?_
          refine j_iconst (show decode cX12_pass 109 = .ok (.iconst 1, 1) by decide +kernel) ?_
          refine j_iadd (show decode cX12_pass 110 = .ok (.iadd, 1) by decide +kernel) ?_
          refine pf_X12_337 rfl (show decode cX12_pass 111 = .ok (.putfield 337, 3) by decide +kernel) okl_321 ?_
          obtain ⟨σ22, eσ22⟩ : ∃ z : jM, z = up σ21 321 24 ((σ21 321 24) + 1) := ⟨_, rfl⟩
          refine j_sig eσ22 ?_
          have h := h σ22 eσ22
          refine s_aload_n (i := 0) rfl (show decode cX12_pass 114 = .ok (.aload_n 0, 1) by decide +kernel) ?_
          refine j_iconst (show decode cX12_pass 115 = .ok (.iconst 3, 1) by decide +kernel) ?_
          refine j_iload_n (i := 1) rfl (show decode cX12_pass 116 = .ok (.iload_n 1, 1) by decide +kernel) ?_
          refine s_aload_n (i := 0) rfl (show decode cX12_pass 117 = .ok (.aload_n 0, 1) by decide +kernel) ?_
          refine gf_X12_7 (x := 322) rfl (show decode cX12_pass 118 = .ok (.getfield 7, 3) by decide +kernel) okl_321 rfl ?_
          refine j_bipush (n := 10) (by decide +kernel) (show decode cX12_pass 121 = .ok (.bipush 10, 2) by decide +kernel) ?_
          refine j_iload_n (i := 1) rfl (show decode cX12_pass 123 = .ok (.iload_n 1, 1) by decide +kernel) ?_
          refine j_iadd (show decode cX12_pass 124 = .ok (.iadd, 1) by decide +kernel) ?_
          refine s_iald (show decode cX12_pass 125 = .ok (.iaload, 1) by decide +kernel) okl_322 h.1 ?_
          have h := h.2
          refine j_ctVv (m' := mX12_write) (As := [iv 3, iv v1, iv (σ22 322 (10 + v1))]) (ci := 12) (N := 0) (cw_X12_320 rfl) (show decode cX12_pass 126 = .ok (.invokevirtual 320, 3) by decide +kernel) rfl (Nat.le_of_ble_eq_true rfl) okl_321 rfl rfl (Nat.le_refl _) h (fun r23 σ23 h => ?_)
          refine s_iinc (i := 1) rfl (L' := [rv 321, iv (v1 + 1)]) rfl (show decode cX12_pass 129 = .ok (.iinc 1 1, 3) by decide +kernel) ?_
          refine j_goto (tgt := 2) (show decode cX12_pass 132 = .ok (.goto (-130), 3) by decide +kernel) (by decide) ?_
          exact h
      · have h := h.2 c
        refine j_goto (tgt := 129) (show decode cX12_pass 66 = .ok (.goto 63, 3) by decide +kernel) (by decide) ?_
        refine s_iinc (i := 1) rfl (L' := [rv 321, iv (v1 + 1)]) rfl (show decode cX12_pass 129 = .ok (.iinc 1 1, 3) by decide +kernel) ?_
        refine j_goto (tgt := 2) (show decode cX12_pass 132 = .ok (.goto (-130), 3) by decide +kernel) (by decide) ?_
        exact h
    · have h := h.2 c
      refine j_goto (tgt := 129) (show decode cX12_pass 16 = .ok (.goto 113, 3) by decide +kernel) (by decide) ?_
      refine s_iinc (i := 1) rfl (L' := [rv 321, iv (v1 + 1)]) rfl (show decode cX12_pass 129 = .ok (.iinc 1 1, 3) by decide +kernel) ?_
      refine j_goto (tgt := 2) (show decode cX12_pass 132 = .ok (.goto (-130), 3) by decide +kernel) (by decide) ?_
      exact h
set_option maxRecDepth 4000 in
theorem b_X12_pass_0 {d : Nat} {t : Int} {Q : Int → jM → Prop} {σ : jM} (h : Jt mX12_pass (d + 1) 9 t Q 2 [rv 321, iv 0] [] σ) : Jt mX12_pass (d + 1) 9 t Q 0 [rv 321, uv] [] σ := by
  refine j_iconst (show decode cX12_pass 0 = .ok (.iconst 0, 1) by decide +kernel) ?_
  refine s_ist_n (i := 1) (L' := [rv 321, iv 0]) rfl (by decide) (show decode cX12_pass 1 = .ok (.istore_n 1, 1) by decide +kernel) ?_
  exact h
theorem c_X12_pass {d : Nat} {t : Int} {Q : Int → jM → Prop} {σ : jM} (h : Jt mX12_pass (d + 1) 9 t Q 2 [rv 321, iv 0] [] σ) : Ct mX12_pass (d + 1) 9 t [rv 321] σ Q := Ct_of (by decide +kernel) (Nat.le_of_ble_eq_true rfl) (b_X12_pass_0 h)
set_option maxRecDepth 4000 in
theorem b_X12_keep_101 {d : Nat} {t : Int} {Q : Int → jM → Prop} {σ : jM} {v1 v2 : Int} (h : (inR v2) ∧ ((50 ≤ v2 → (((0 : Int) ≤ 2 ∧ (2 : Int) < 2208) ∧ (((0 : Int) ≤ 2 ∧ (2 : Int) < 2208) ∧ (∀ σ3 : jM, σ3 = up σ 322 2 ((σ 322 2) + 1) → (Q 0 σ3))))) ∧ (v2 < 50 → (((0 : Int) ≤ (2158 + v2) ∧ (2158 + v2) < 2208) ∧ (((0 : Int) ≤ ((v1 + 20) + v2) ∧ ((v1 + 20) + v2) < 2208) ∧ (∀ σ5 : jM, σ5 = up σ 322 ((v1 + 20) + v2) (σ 322 (2158 + v2)) → (Jt mX12_keep (d) 9 t Q 101 [rv 321, iv v1, iv (v2 + 1)] [] σ5))))))) : Jt mX12_keep (d) 9 t Q 101 [rv 321, iv v1, iv v2] [] σ := by
  refine j_iload_n (i := 2) rfl (show decode cX12_keep 101 = .ok (.iload_n 2, 1) by decide +kernel) ?_
  refine j_bipush (n := 50) (by decide +kernel) (show decode cX12_keep 102 = .ok (.bipush 50, 2) by decide +kernel) ?_
  have hr0 := h.1
  have h := h.2
  refine j_icmp_ge (tgt := 134) hr0 (inl (by decide)) (show decode cX12_keep 104 = .ok (.if_icmp .ge 30, 3) by decide +kernel) (by decide) (fun c => ?_) (fun c => ?_)
  · have h := h.1 c
    refine s_aload_n (i := 0) rfl (show decode cX12_keep 134 = .ok (.aload_n 0, 1) by decide +kernel) ?_
    refine gf_X12_7 (x := 322) rfl (show decode cX12_keep 135 = .ok (.getfield 7, 3) by decide +kernel) okl_321 rfl ?_
    refine j_iconst (show decode cX12_keep 138 = .ok (.iconst 2, 1) by decide +kernel) ?_
    refine j_dup2 (show (0 : Nat) ≠ 1 by decide) (show (2 : Nat) ≠ 1 by decide) (show decode cX12_keep 139 = .ok (.dup2, 1) by decide +kernel) ?_
    refine s_iald (show decode cX12_keep 140 = .ok (.iaload, 1) by decide +kernel) okl_322 h.1 ?_
    have h := h.2
    refine j_iconst (show decode cX12_keep 141 = .ok (.iconst 1, 1) by decide +kernel) ?_
    refine j_iadd (show decode cX12_keep 142 = .ok (.iadd, 1) by decide +kernel) ?_
    have hb1 := h.1
    have h := h.2
    refine s_iast (show decode cX12_keep 143 = .ok (.iastore, 1) by decide +kernel) okl_322 hb1 ?_
    obtain ⟨σ3, eσ3⟩ : ∃ z : jM, z = up σ 322 2 ((σ 322 2) + 1) := ⟨_, rfl⟩
    refine j_sig eσ3 ?_
    have h := h σ3 eσ3
    exact j_ret (rokV (show decode cX12_keep 144 = .ok (.return_, 1) by decide +kernel) rfl) ⟨rfl, rfl, h⟩
  · have h := h.2 c
    refine s_aload_n (i := 0) rfl (show decode cX12_keep 107 = .ok (.aload_n 0, 1) by decide +kernel) ?_
    refine gf_X12_7 (x := 322) rfl (show decode cX12_keep 108 = .ok (.getfield 7, 3) by decide +kernel) okl_321 rfl ?_
    refine j_iload_n (i := 1) rfl (show decode cX12_keep 111 = .ok (.iload_n 1, 1) by decide +kernel) ?_
    refine j_bipush (n := 20) (by decide +kernel) (show decode cX12_keep 112 = .ok (.bipush 20, 2) by decide +kernel) ?_
    refine j_iadd (show decode cX12_keep 114 = .ok (.iadd, 1) by decide +kernel) ?_
    refine j_iload_n (i := 2) rfl (show decode cX12_keep 115 = .ok (.iload_n 2, 1) by decide +kernel) ?_
    refine j_iadd (show decode cX12_keep 116 = .ok (.iadd, 1) by decide +kernel) ?_
    refine s_aload_n (i := 0) rfl (show decode cX12_keep 117 = .ok (.aload_n 0, 1) by decide +kernel) ?_
    refine gf_X12_7 (x := 322) rfl (show decode cX12_keep 118 = .ok (.getfield 7, 3) by decide +kernel) okl_321 rfl ?_
    refine j_sipush (n := 2158) (by decide +kernel) (show decode cX12_keep 121 = .ok (.sipush 2158, 3) by decide +kernel) ?_
    refine j_iload_n (i := 2) rfl (show decode cX12_keep 124 = .ok (.iload_n 2, 1) by decide +kernel) ?_
    refine j_iadd (show decode cX12_keep 125 = .ok (.iadd, 1) by decide +kernel) ?_
    refine s_iald (show decode cX12_keep 126 = .ok (.iaload, 1) by decide +kernel) okl_322 h.1 ?_
    have h := h.2
    have hb3 := h.1
    have h := h.2
    refine s_iast (show decode cX12_keep 127 = .ok (.iastore, 1) by decide +kernel) okl_322 hb3 ?_
    obtain ⟨σ5, eσ5⟩ : ∃ z : jM, z = up σ 322 ((v1 + 20) + v2) (σ 322 (2158 + v2)) := ⟨_, rfl⟩
    refine j_sig eσ5 ?_
    have h := h σ5 eσ5
    refine s_iinc (i := 2) rfl (L' := [rv 321, iv v1, iv (v2 + 1)]) rfl (show decode cX12_keep 128 = .ok (.iinc 2 1, 3) by decide +kernel) ?_
    refine j_goto (tgt := 101) (show decode cX12_keep 131 = .ok (.goto (-30), 3) by decide +kernel) (by decide) ?_
    exact h
set_option maxRecDepth 4000 in
theorem b_X12_keep_70 {d : Nat} {t : Int} {Q : Int → jM → Prop} {σ : jM} {v1 v2 : Int} (h : (inR v2) ∧ ((20 ≤ v2 → (Jt mX12_keep (d) 9 t Q 101 [rv 321, iv v1, iv 0] [] σ)) ∧ (v2 < 20 → (((0 : Int) ≤ (6 + v2) ∧ (6 + v2) < 2208) ∧ (((0 : Int) ≤ (v1 + v2) ∧ (v1 + v2) < 2208) ∧ (∀ σ3 : jM, σ3 = up σ 322 (v1 + v2) (σ 322 (6 + v2)) → (Jt mX12_keep (d) 9 t Q 70 [rv 321, iv v1, iv (v2 + 1)] [] σ3))))))) : Jt mX12_keep (d) 9 t Q 70 [rv 321, iv v1, iv v2] [] σ := by
  refine j_iload_n (i := 2) rfl (show decode cX12_keep 70 = .ok (.iload_n 2, 1) by decide +kernel) ?_
  refine j_bipush (n := 20) (by decide +kernel) (show decode cX12_keep 71 = .ok (.bipush 20, 2) by decide +kernel) ?_
  have hr0 := h.1
  have h := h.2
  refine j_icmp_ge (tgt := 99) hr0 (inl (by decide)) (show decode cX12_keep 73 = .ok (.if_icmp .ge 26, 3) by decide +kernel) (by decide) (fun c => ?_) (fun c => ?_)
  · have h := h.1 c
    refine j_iconst (show decode cX12_keep 99 = .ok (.iconst 0, 1) by decide +kernel) ?_
    refine s_ist_n (i := 2) (L' := [rv 321, iv v1, iv 0]) rfl (by decide) (show decode cX12_keep 100 = .ok (.istore_n 2, 1) by decide +kernel) ?_
    exact h
  · have h := h.2 c
    refine s_aload_n (i := 0) rfl (show decode cX12_keep 76 = .ok (.aload_n 0, 1) by decide +kernel) ?_
    refine gf_X12_7 (x := 322) rfl (show decode cX12_keep 77 = .ok (.getfield 7, 3) by decide +kernel) okl_321 rfl ?_
    refine j_iload_n (i := 1) rfl (show decode cX12_keep 80 = .ok (.iload_n 1, 1) by decide +kernel) ?_
    refine j_iload_n (i := 2) rfl (show decode cX12_keep 81 = .ok (.iload_n 2, 1) by decide +kernel) ?_
    refine j_iadd (show decode cX12_keep 82 = .ok (.iadd, 1) by decide +kernel) ?_
    refine s_aload_n (i := 0) rfl (show decode cX12_keep 83 = .ok (.aload_n 0, 1) by decide +kernel) ?_
    refine gf_X12_7 (x := 322) rfl (show decode cX12_keep 84 = .ok (.getfield 7, 3) by decide +kernel) okl_321 rfl ?_
    refine j_bipush (n := 6) (by decide +kernel) (show decode cX12_keep 87 = .ok (.bipush 6, 2) by decide +kernel) ?_
    refine j_iload_n (i := 2) rfl (show decode cX12_keep 89 = .ok (.iload_n 2, 1) by decide +kernel) ?_
    refine j_iadd (show decode cX12_keep 90 = .ok (.iadd, 1) by decide +kernel) ?_
    refine s_iald (show decode cX12_keep 91 = .ok (.iaload, 1) by decide +kernel) okl_322 h.1 ?_
    have h := h.2
    have hb1 := h.1
    have h := h.2
    refine s_iast (show decode cX12_keep 92 = .ok (.iastore, 1) by decide +kernel) okl_322 hb1 ?_
    obtain ⟨σ3, eσ3⟩ : ∃ z : jM, z = up σ 322 (v1 + v2) (σ 322 (6 + v2)) := ⟨_, rfl⟩
    refine j_sig eσ3 ?_
    have h := h σ3 eσ3
    refine s_iinc (i := 2) rfl (L' := [rv 321, iv v1, iv (v2 + 1)]) rfl (show decode cX12_keep 93 = .ok (.iinc 2 1, 3) by decide +kernel) ?_
    refine j_goto (tgt := 70) (show decode cX12_keep 96 = .ok (.goto (-26), 3) by decide +kernel) (by decide) ?_
    exact h
set_option maxRecDepth 4000 in
theorem b_X12_keep_13 {d : Nat} {t : Int} {Q : Int → jM → Prop} {σ : jM} {v1 : Int} (h : (inR v1) ∧ ((2030 ≤ v1 → (((0 : Int) ≤ 2 ∧ (2 : Int) < 2208) ∧ (((0 : Int) ≤ 2 ∧ (2 : Int) < 2208) ∧ (∀ σ3 : jM, σ3 = up σ 322 2 ((σ 322 2) - 1) → (((0 : Int) ≤ 2 ∧ (2 : Int) < 2208) ∧ (Jt mX12_keep (d) 9 t Q 70 [rv 321, iv (58 + (70 * (σ3 322 2))), iv 0] [] σ3)))))) ∧ (v1 < 2030 → (((0 : Int) ≤ (128 + v1) ∧ (128 + v1) < 2208) ∧ (((0 : Int) ≤ (58 + v1) ∧ (58 + v1) < 2208) ∧ (∀ σ5 : jM, σ5 = up σ 322 (58 + v1) (σ 322 (128 + v1)) → (Jt mX12_keep (d) 9 t Q 13 [rv 321, iv (v1 + 1), uv] [] σ5))))))) : Jt mX12_keep (d) 9 t Q 13 [rv 321, iv v1, uv] [] σ := by
  refine j_iload_n (i := 1) rfl (show decode cX12_keep 13 = .ok (.iload_n 1, 1) by decide +kernel) ?_
  refine j_sipush (n := 2030) (by decide +kernel) (show decode cX12_keep 14 = .ok (.sipush 2030, 3) by decide +kernel) ?_
  have hr0 := h.1
  have h := h.2
  refine j_icmp_ge (tgt := 45) hr0 (inl (by decide)) (show decode cX12_keep 17 = .ok (.if_icmp .ge 28, 3) by decide +kernel) (by decide) (fun c => ?_) (fun c => ?_)
  · have h := h.1 c
    refine s_aload_n (i := 0) rfl (show decode cX12_keep 45 = .ok (.aload_n 0, 1) by decide +kernel) ?_
    refine gf_X12_7 (x := 322) rfl (show decode cX12_keep 46 = .ok (.getfield 7, 3) by decide +kernel) okl_321 rfl ?_
    refine j_iconst (show decode cX12_keep 49 = .ok (.iconst 2, 1) by decide +kernel) ?_
    refine j_dup2 (show (0 : Nat) ≠ 1 by decide) (show (2 : Nat) ≠ 1 by decide) (show decode cX12_keep 50 = .ok (.dup2, 1) by decide +kernel) ?_
    refine s_iald (show decode cX12_keep 51 = .ok (.iaload, 1) by decide +kernel) okl_322 h.1 ?_
    have h := h.2
    refine j_iconst (show decode cX12_keep 52 = .ok (.iconst 1, 1) by decide +kernel) ?_
    refine j_isub (show decode cX12_keep 53 = .ok (.isub, 1) by decide +kernel) ?_
    have hb1 := h.1
    have h := h.2
    refine s_iast (show decode cX12_keep 54 = .ok (.iastore, 1) by decide +kernel) okl_322 hb1 ?_
    obtain ⟨σ3, eσ3⟩ : ∃ z : jM, z = up σ 322 2 ((σ 322 2) - 1) := ⟨_, rfl⟩
    refine j_sig eσ3 ?_
    have h := h σ3 eσ3
    refine j_bipush (n := 58) (by decide +kernel) (show decode cX12_keep 55 = .ok (.bipush 58, 2) by decide +kernel) ?_
    refine j_bipush (n := 70) (by decide +kernel) (show decode cX12_keep 57 = .ok (.bipush 70, 2) by decide +kernel) ?_
    refine s_aload_n (i := 0) rfl (show decode cX12_keep 59 = .ok (.aload_n 0, 1) by decide +kernel) ?_
    refine gf_X12_7 (x := 322) rfl (show decode cX12_keep 60 = .ok (.getfield 7, 3) by decide +kernel) okl_321 rfl ?_
    refine j_iconst (show decode cX12_keep 63 = .ok (.iconst 2, 1) by decide +kernel) ?_
    refine s_iald (show decode cX12_keep 64 = .ok (.iaload, 1) by decide +kernel) okl_322 h.1 ?_
    have h := h.2
    refine j_imul (show decode cX12_keep 65 = .ok (.imul, 1) by decide +kernel) ?_
    refine j_iadd (show decode cX12_keep 66 = .ok (.iadd, 1) by decide +kernel) ?_
    refine s_ist_n (i := 1) (L' := [rv 321, iv (58 + (70 * (σ3 322 2))), uv]) rfl (by decide) (show decode cX12_keep 67 = .ok (.istore_n 1, 1) by decide +kernel) ?_
    refine j_iconst (show decode cX12_keep 68 = .ok (.iconst 0, 1) by decide +kernel) ?_
    refine s_ist_n (i := 2) (L' := [rv 321, iv (58 + (70 * (σ3 322 2))), iv 0]) rfl (by decide) (show decode cX12_keep 69 = .ok (.istore_n 2, 1) by decide +kernel) ?_
    exact h
  · have h := h.2 c
    refine s_aload_n (i := 0) rfl (show decode cX12_keep 20 = .ok (.aload_n 0, 1) by decide +kernel) ?_
    refine gf_X12_7 (x := 322) rfl (show decode cX12_keep 21 = .ok (.getfield 7, 3) by decide +kernel) okl_321 rfl ?_
    refine j_bipush (n := 58) (by decide +kernel) (show decode cX12_keep 24 = .ok (.bipush 58, 2) by decide +kernel) ?_
    refine j_iload_n (i := 1) rfl (show decode cX12_keep 26 = .ok (.iload_n 1, 1) by decide +kernel) ?_
    refine j_iadd (show decode cX12_keep 27 = .ok (.iadd, 1) by decide +kernel) ?_
    refine s_aload_n (i := 0) rfl (show decode cX12_keep 28 = .ok (.aload_n 0, 1) by decide +kernel) ?_
    refine gf_X12_7 (x := 322) rfl (show decode cX12_keep 29 = .ok (.getfield 7, 3) by decide +kernel) okl_321 rfl ?_
    refine j_sipush (n := 128) (by decide +kernel) (show decode cX12_keep 32 = .ok (.sipush 128, 3) by decide +kernel) ?_
    refine j_iload_n (i := 1) rfl (show decode cX12_keep 35 = .ok (.iload_n 1, 1) by decide +kernel) ?_
    refine j_iadd (show decode cX12_keep 36 = .ok (.iadd, 1) by decide +kernel) ?_
    refine s_iald (show decode cX12_keep 37 = .ok (.iaload, 1) by decide +kernel) okl_322 h.1 ?_
    have h := h.2
    have hb3 := h.1
    have h := h.2
    refine s_iast (show decode cX12_keep 38 = .ok (.iastore, 1) by decide +kernel) okl_322 hb3 ?_
    obtain ⟨σ5, eσ5⟩ : ∃ z : jM, z = up σ 322 (58 + v1) (σ 322 (128 + v1)) := ⟨_, rfl⟩
    refine j_sig eσ5 ?_
    have h := h σ5 eσ5
    refine s_iinc (i := 1) rfl (L' := [rv 321, iv (v1 + 1), uv]) rfl (show decode cX12_keep 39 = .ok (.iinc 1 1, 3) by decide +kernel) ?_
    refine j_goto (tgt := 13) (show decode cX12_keep 42 = .ok (.goto (-29), 3) by decide +kernel) (by decide) ?_
    exact h
set_option maxRecDepth 4000 in
theorem b_X12_keep_0 {d : Nat} {t : Int} {Q : Int → jM → Prop} {σ : jM} (h : ((0 : Int) ≤ 2 ∧ (2 : Int) < 2208) ∧ ((inR (σ 322 2)) ∧ ((¬ (σ 322 2) = 30 → (((0 : Int) ≤ 2 ∧ (2 : Int) < 2208) ∧ (Jt mX12_keep (d) 9 t Q 70 [rv 321, iv (58 + (70 * (σ 322 2))), iv 0] [] σ))) ∧ ((σ 322 2) = 30 → (Jt mX12_keep (d) 9 t Q 13 [rv 321, iv 0, uv] [] σ))))) : Jt mX12_keep (d) 9 t Q 0 [rv 321, uv, uv] [] σ := by
  refine s_aload_n (i := 0) rfl (show decode cX12_keep 0 = .ok (.aload_n 0, 1) by decide +kernel) ?_
  refine gf_X12_7 (x := 322) rfl (show decode cX12_keep 1 = .ok (.getfield 7, 3) by decide +kernel) okl_321 rfl ?_
  refine j_iconst (show decode cX12_keep 4 = .ok (.iconst 2, 1) by decide +kernel) ?_
  refine s_iald (show decode cX12_keep 5 = .ok (.iaload, 1) by decide +kernel) okl_322 h.1 ?_
  have h := h.2
  refine j_bipush (n := 30) (by decide +kernel) (show decode cX12_keep 6 = .ok (.bipush 30, 2) by decide +kernel) ?_
  have hr0 := h.1
  have h := h.2
  refine j_icmp_ne (tgt := 55) hr0 (inl (by decide)) (show decode cX12_keep 8 = .ok (.if_icmp .ne 47, 3) by decide +kernel) (by decide) (fun c => ?_) (fun c => ?_)
  · have h := h.1 c
    refine j_bipush (n := 58) (by decide +kernel) (show decode cX12_keep 55 = .ok (.bipush 58, 2) by decide +kernel) ?_
    refine j_bipush (n := 70) (by decide +kernel) (show decode cX12_keep 57 = .ok (.bipush 70, 2) by decide +kernel) ?_
    refine s_aload_n (i := 0) rfl (show decode cX12_keep 59 = .ok (.aload_n 0, 1) by decide +kernel) ?_
    refine gf_X12_7 (x := 322) rfl (show decode cX12_keep 60 = .ok (.getfield 7, 3) by decide +kernel) okl_321 rfl ?_
    refine j_iconst (show decode cX12_keep 63 = .ok (.iconst 2, 1) by decide +kernel) ?_
    refine s_iald (show decode cX12_keep 64 = .ok (.iaload, 1) by decide +kernel) okl_322 h.1 ?_
    have h := h.2
    refine j_imul (show decode cX12_keep 65 = .ok (.imul, 1) by decide +kernel) ?_
    refine j_iadd (show decode cX12_keep 66 = .ok (.iadd, 1) by decide +kernel) ?_
    refine s_ist_n (i := 1) (L' := [rv 321, iv (58 + (70 * (σ 322 2))), uv]) rfl (by decide) (show decode cX12_keep 67 = .ok (.istore_n 1, 1) by decide +kernel) ?_
    refine j_iconst (show decode cX12_keep 68 = .ok (.iconst 0, 1) by decide +kernel) ?_
    refine s_ist_n (i := 2) (L' := [rv 321, iv (58 + (70 * (σ 322 2))), iv 0]) rfl (by decide) (show decode cX12_keep 69 = .ok (.istore_n 2, 1) by decide +kernel) ?_
    exact h
  · have h := h.2 c
    refine j_iconst (show decode cX12_keep 11 = .ok (.iconst 0, 1) by decide +kernel) ?_
    refine s_ist_n (i := 1) (L' := [rv 321, iv 0, uv]) rfl (by decide) (show decode cX12_keep 12 = .ok (.istore_n 1, 1) by decide +kernel) ?_
    exact h
theorem c_X12_keep {d : Nat} {t : Int} {Q : Int → jM → Prop} {σ : jM} (h : ((0 : Int) ≤ 2 ∧ (2 : Int) < 2208) ∧ ((inR (σ 322 2)) ∧ ((¬ (σ 322 2) = 30 → (((0 : Int) ≤ 2 ∧ (2 : Int) < 2208) ∧ (Jt mX12_keep (d) 9 t Q 70 [rv 321, iv (58 + (70 * (σ 322 2))), iv 0] [] σ))) ∧ ((σ 322 2) = 30 → (Jt mX12_keep (d) 9 t Q 13 [rv 321, iv 0, uv] [] σ))))) : Ct mX12_keep (d) 9 t [rv 321] σ Q := Ct_of (by decide +kernel) (Nat.le_of_ble_eq_true rfl) (b_X12_keep_0 h)
set_option maxRecDepth 4000 in
theorem b_X12_undo_67 {d : Nat} {t : Int} {Q : Int → jM → Prop} {σ : jM} {v1 v2 : Int} (h : (inR v2) ∧ ((50 ≤ v2 → (((0 : Int) ≤ 2 ∧ (2 : Int) < 2208) ∧ (Q (σ 322 2) σ))) ∧ (v2 < 50 → (((0 : Int) ≤ ((v1 + 20) + v2) ∧ ((v1 + 20) + v2) < 2208) ∧ (((0 : Int) ≤ (2158 + v2) ∧ (2158 + v2) < 2208) ∧ (∀ σ3 : jM, σ3 = up σ 322 (2158 + v2) (σ 322 ((v1 + 20) + v2)) → (Jt mX12_undo (d) 0 t Q 67 [rv 321, iv v1, iv (v2 + 1)] [] σ3))))))) : Jt mX12_undo (d) 0 t Q 67 [rv 321, iv v1, iv v2] [] σ := by
  refine j_iload_n (i := 2) rfl (show decode cX12_undo 67 = .ok (.iload_n 2, 1) by decide +kernel) ?_
  refine j_bipush (n := 50) (by decide +kernel) (show decode cX12_undo 68 = .ok (.bipush 50, 2) by decide +kernel) ?_
  have hr0 := h.1
  have h := h.2
  refine j_icmp_ge (tgt := 100) hr0 (inl (by decide)) (show decode cX12_undo 70 = .ok (.if_icmp .ge 30, 3) by decide +kernel) (by decide) (fun c => ?_) (fun c => ?_)
  · have h := h.1 c
    refine s_aload_n (i := 0) rfl (show decode cX12_undo 100 = .ok (.aload_n 0, 1) by decide +kernel) ?_
    refine gf_X12_7 (x := 322) rfl (show decode cX12_undo 101 = .ok (.getfield 7, 3) by decide +kernel) okl_321 rfl ?_
    refine j_iconst (show decode cX12_undo 104 = .ok (.iconst 2, 1) by decide +kernel) ?_
    refine s_iald (show decode cX12_undo 105 = .ok (.iaload, 1) by decide +kernel) okl_322 h.1 ?_
    have h := h.2
    exact j_ret (rokI (show decode cX12_undo 106 = .ok (.ireturn, 1) by decide +kernel) rfl) ⟨rfl, rfl, h⟩
  · have h := h.2 c
    refine s_aload_n (i := 0) rfl (show decode cX12_undo 73 = .ok (.aload_n 0, 1) by decide +kernel) ?_
    refine gf_X12_7 (x := 322) rfl (show decode cX12_undo 74 = .ok (.getfield 7, 3) by decide +kernel) okl_321 rfl ?_
    refine j_sipush (n := 2158) (by decide +kernel) (show decode cX12_undo 77 = .ok (.sipush 2158, 3) by decide +kernel) ?_
    refine j_iload_n (i := 2) rfl (show decode cX12_undo 80 = .ok (.iload_n 2, 1) by decide +kernel) ?_
    refine j_iadd (show decode cX12_undo 81 = .ok (.iadd, 1) by decide +kernel) ?_
    refine s_aload_n (i := 0) rfl (show decode cX12_undo 82 = .ok (.aload_n 0, 1) by decide +kernel) ?_
    refine gf_X12_7 (x := 322) rfl (show decode cX12_undo 83 = .ok (.getfield 7, 3) by decide +kernel) okl_321 rfl ?_
    refine j_iload_n (i := 1) rfl (show decode cX12_undo 86 = .ok (.iload_n 1, 1) by decide +kernel) ?_
    refine j_bipush (n := 20) (by decide +kernel) (show decode cX12_undo 87 = .ok (.bipush 20, 2) by decide +kernel) ?_
    refine j_iadd (show decode cX12_undo 89 = .ok (.iadd, 1) by decide +kernel) ?_
    refine j_iload_n (i := 2) rfl (show decode cX12_undo 90 = .ok (.iload_n 2, 1) by decide +kernel) ?_
    refine j_iadd (show decode cX12_undo 91 = .ok (.iadd, 1) by decide +kernel) ?_
    refine s_iald (show decode cX12_undo 92 = .ok (.iaload, 1) by decide +kernel) okl_322 h.1 ?_
    have h := h.2
    have hb1 := h.1
    have h := h.2
    refine s_iast (show decode cX12_undo 93 = .ok (.iastore, 1) by decide +kernel) okl_322 hb1 ?_
    obtain ⟨σ3, eσ3⟩ : ∃ z : jM, z = up σ 322 (2158 + v2) (σ 322 ((v1 + 20) + v2)) := ⟨_, rfl⟩
    refine j_sig eσ3 ?_
    have h := h σ3 eσ3
    refine s_iinc (i := 2) rfl (L' := [rv 321, iv v1, iv (v2 + 1)]) rfl (show decode cX12_undo 94 = .ok (.iinc 2 1, 3) by decide +kernel) ?_
    refine j_goto (tgt := 67) (show decode cX12_undo 97 = .ok (.goto (-30), 3) by decide +kernel) (by decide) ?_
    exact h
set_option maxRecDepth 4000 in
theorem b_X12_undo_36 {d : Nat} {t : Int} {Q : Int → jM → Prop} {σ : jM} {v1 v2 : Int} (h : (inR v2) ∧ ((20 ≤ v2 → (Jt mX12_undo (d) 0 t Q 67 [rv 321, iv v1, iv 0] [] σ)) ∧ (v2 < 20 → (((0 : Int) ≤ (v1 + v2) ∧ (v1 + v2) < 2208) ∧ (((0 : Int) ≤ (6 + v2) ∧ (6 + v2) < 2208) ∧ (∀ σ3 : jM, σ3 = up σ 322 (6 + v2) (σ 322 (v1 + v2)) → (Jt mX12_undo (d) 0 t Q 36 [rv 321, iv v1, iv (v2 + 1)] [] σ3))))))) : Jt mX12_undo (d) 0 t Q 36 [rv 321, iv v1, iv v2] [] σ := by
  refine j_iload_n (i := 2) rfl (show decode cX12_undo 36 = .ok (.iload_n 2, 1) by decide +kernel) ?_
  refine j_bipush (n := 20) (by decide +kernel) (show decode cX12_undo 37 = .ok (.bipush 20, 2) by decide +kernel) ?_
  have hr0 := h.1
  have h := h.2
  refine j_icmp_ge (tgt := 65) hr0 (inl (by decide)) (show decode cX12_undo 39 = .ok (.if_icmp .ge 26, 3) by decide +kernel) (by decide) (fun c => ?_) (fun c => ?_)
  · have h := h.1 c
    refine j_iconst (show decode cX12_undo 65 = .ok (.iconst 0, 1) by decide +kernel) ?_
    refine s_ist_n (i := 2) (L' := [rv 321, iv v1, iv 0]) rfl (by decide) (show decode cX12_undo 66 = .ok (.istore_n 2, 1) by decide +kernel) ?_
    exact h
  · have h := h.2 c
    refine s_aload_n (i := 0) rfl (show decode cX12_undo 42 = .ok (.aload_n 0, 1) by decide +kernel) ?_
    refine gf_X12_7 (x := 322) rfl (show decode cX12_undo 43 = .ok (.getfield 7, 3) by decide +kernel) okl_321 rfl ?_
    refine j_bipush (n := 6) (by decide +kernel) (show decode cX12_undo 46 = .ok (.bipush 6, 2) by decide +kernel) ?_
    refine j_iload_n (i := 2) rfl (show decode cX12_undo 48 = .ok (.iload_n 2, 1) by decide +kernel) ?_
    refine j_iadd (show decode cX12_undo 49 = .ok (.iadd, 1) by decide +kernel) ?_
    refine s_aload_n (i := 0) rfl (show decode cX12_undo 50 = .ok (.aload_n 0, 1) by decide +kernel) ?_
    refine gf_X12_7 (x := 322) rfl (show decode cX12_undo 51 = .ok (.getfield 7, 3) by decide +kernel) okl_321 rfl ?_
    refine j_iload_n (i := 1) rfl (show decode cX12_undo 54 = .ok (.iload_n 1, 1) by decide +kernel) ?_
    refine j_iload_n (i := 2) rfl (show decode cX12_undo 55 = .ok (.iload_n 2, 1) by decide +kernel) ?_
    refine j_iadd (show decode cX12_undo 56 = .ok (.iadd, 1) by decide +kernel) ?_
    refine s_iald (show decode cX12_undo 57 = .ok (.iaload, 1) by decide +kernel) okl_322 h.1 ?_
    have h := h.2
    have hb1 := h.1
    have h := h.2
    refine s_iast (show decode cX12_undo 58 = .ok (.iastore, 1) by decide +kernel) okl_322 hb1 ?_
    obtain ⟨σ3, eσ3⟩ : ∃ z : jM, z = up σ 322 (6 + v2) (σ 322 (v1 + v2)) := ⟨_, rfl⟩
    refine j_sig eσ3 ?_
    have h := h σ3 eσ3
    refine s_iinc (i := 2) rfl (L' := [rv 321, iv v1, iv (v2 + 1)]) rfl (show decode cX12_undo 59 = .ok (.iinc 2 1, 3) by decide +kernel) ?_
    refine j_goto (tgt := 36) (show decode cX12_undo 62 = .ok (.goto (-26), 3) by decide +kernel) (by decide) ?_
    exact h
set_option maxRecDepth 4000 in
theorem b_X12_undo_0 {d : Nat} {t : Int} {Q : Int → jM → Prop} {σ : jM} (h : ((0 : Int) ≤ 2 ∧ (2 : Int) < 2208) ∧ ((inR (σ 322 2)) ∧ ((¬ (σ 322 2) = 0 → (((0 : Int) ≤ 2 ∧ (2 : Int) < 2208) ∧ (((0 : Int) ≤ 2 ∧ (2 : Int) < 2208) ∧ (∀ σ3 : jM, σ3 = up σ 322 2 ((σ 322 2) - 1) → (((0 : Int) ≤ 2 ∧ (2 : Int) < 2208) ∧ (Jt mX12_undo (d) 0 t Q 36 [rv 321, iv (58 + (70 * (σ3 322 2))), iv 0] [] σ3)))))) ∧ ((σ 322 2) = 0 → (Q (-1) σ))))) : Jt mX12_undo (d) 0 t Q 0 [rv 321, uv, uv] [] σ := by
  refine s_aload_n (i := 0) rfl (show decode cX12_undo 0 = .ok (.aload_n 0, 1) by decide +kernel) ?_
  refine gf_X12_7 (x := 322) rfl (show decode cX12_undo 1 = .ok (.getfield 7, 3) by decide +kernel) okl_321 rfl ?_
  refine j_iconst (show decode cX12_undo 4 = .ok (.iconst 2, 1) by decide +kernel) ?_
  refine s_iald (show decode cX12_undo 5 = .ok (.iaload, 1) by decide +kernel) okl_322 h.1 ?_
  have h := h.2
  have hr0 := h.1
  have h := h.2
  refine j_if_ne (tgt := 11) hr0 (show decode cX12_undo 6 = .ok (.ifCond .ne 5, 3) by decide +kernel) (by decide) (fun c => ?_) (fun c => ?_)
  · have h := h.1 c
    refine s_aload_n (i := 0) rfl (show decode cX12_undo 11 = .ok (.aload_n 0, 1) by decide +kernel) ?_
    refine gf_X12_7 (x := 322) rfl (show decode cX12_undo 12 = .ok (.getfield 7, 3) by decide +kernel) okl_321 rfl ?_
    refine j_iconst (show decode cX12_undo 15 = .ok (.iconst 2, 1) by decide +kernel) ?_
    refine j_dup2 (show (0 : Nat) ≠ 1 by decide) (show (2 : Nat) ≠ 1 by decide) (show decode cX12_undo 16 = .ok (.dup2, 1) by decide +kernel) ?_
    refine s_iald (show decode cX12_undo 17 = .ok (.iaload, 1) by decide +kernel) okl_322 h.1 ?_
    have h := h.2
    refine j_iconst (show decode cX12_undo 18 = .ok (.iconst 1, 1) by decide +kernel) ?_
    refine j_isub (show decode cX12_undo 19 = .ok (.isub, 1) by decide +kernel) ?_
    have hb1 := h.1
    have h := h.2
    refine s_iast (show decode cX12_undo 20 = .ok (.iastore, 1) by decide +kernel) okl_322 hb1 ?_
    obtain ⟨σ3, eσ3⟩ : ∃ z : jM, z = up σ 322 2 ((σ 322 2) - 1) := ⟨_, rfl⟩
    refine j_sig eσ3 ?_
    have h := h σ3 eσ3
    refine j_bipush (n := 58) (by decide +kernel) (show decode cX12_undo 21 = .ok (.bipush 58, 2) by decide +kernel) ?_
    refine j_bipush (n := 70) (by decide +kernel) (show decode cX12_undo 23 = .ok (.bipush 70, 2) by decide +kernel) ?_
    refine s_aload_n (i := 0) rfl (show decode cX12_undo 25 = .ok (.aload_n 0, 1) by decide +kernel) ?_
    refine gf_X12_7 (x := 322) rfl (show decode cX12_undo 26 = .ok (.getfield 7, 3) by decide +kernel) okl_321 rfl ?_
    refine j_iconst (show decode cX12_undo 29 = .ok (.iconst 2, 1) by decide +kernel) ?_
    refine s_iald (show decode cX12_undo 30 = .ok (.iaload, 1) by decide +kernel) okl_322 h.1 ?_
    have h := h.2
    refine j_imul (show decode cX12_undo 31 = .ok (.imul, 1) by decide +kernel) ?_
    refine j_iadd (show decode cX12_undo 32 = .ok (.iadd, 1) by decide +kernel) ?_
    refine s_ist_n (i := 1) (L' := [rv 321, iv (58 + (70 * (σ3 322 2))), uv]) rfl (by decide) (show decode cX12_undo 33 = .ok (.istore_n 1, 1) by decide +kernel) ?_
    refine j_iconst (show decode cX12_undo 34 = .ok (.iconst 0, 1) by decide +kernel) ?_
    refine s_ist_n (i := 2) (L' := [rv 321, iv (58 + (70 * (σ3 322 2))), iv 0]) rfl (by decide) (show decode cX12_undo 35 = .ok (.istore_n 2, 1) by decide +kernel) ?_
    exact h
  · have h := h.2 c
    refine j_iconst (show decode cX12_undo 9 = .ok (.iconst (-1), 1) by decide +kernel) ?_
    exact j_ret (rokI (show decode cX12_undo 10 = .ok (.ireturn, 1) by decide +kernel) rfl) ⟨rfl, rfl, h⟩
theorem c_X12_undo {d : Nat} {t : Int} {Q : Int → jM → Prop} {σ : jM} (h : ((0 : Int) ≤ 2 ∧ (2 : Int) < 2208) ∧ ((inR (σ 322 2)) ∧ ((¬ (σ 322 2) = 0 → (((0 : Int) ≤ 2 ∧ (2 : Int) < 2208) ∧ (((0 : Int) ≤ 2 ∧ (2 : Int) < 2208) ∧ (∀ σ3 : jM, σ3 = up σ 322 2 ((σ 322 2) - 1) → (((0 : Int) ≤ 2 ∧ (2 : Int) < 2208) ∧ (Jt mX12_undo (d) 0 t Q 36 [rv 321, iv (58 + (70 * (σ3 322 2))), iv 0] [] σ3)))))) ∧ ((σ 322 2) = 0 → (Q (-1) σ))))) : Ct mX12_undo (d) 0 t [rv 321] σ Q := Ct_of (by decide +kernel) (Nat.le_of_ble_eq_true rfl) (b_X12_undo_0 h)
set_option maxRecDepth 4000 in
theorem b_X12_join_0 {d : Nat} {t : Int} {Q : Int → jM → Prop} {σ : jM} {p1 p2 : Int} (h : Ct mX12_canJoin d 0 t [rv 321, iv p1, iv p2] σ (fun r1 σ1 => ((inR r1) ∧ ((¬ r1 = 0 → (Ct mX12_keep d 9 t [rv 321] σ1 (fun r3 σ3 => (Ct mX12_joinNow d 0 t [rv 321, iv p1, iv p2] σ3 (fun r4 σ4 => (Q r4 σ4)))))) ∧ (r1 = 0 → (Q (-1) σ1)))))) : Jt mX12_join (d + 1) 0 t Q 0 [rv 321, iv p1, iv p2] [] σ := by
  refine s_aload_n (i := 0) rfl (show decode cX12_join 0 = .ok (.aload_n 0, 1) by decide +kernel) ?_
  refine j_iload_n (i := 1) rfl (show decode cX12_join 1 = .ok (.iload_n 1, 1) by decide +kernel) ?_
  refine j_iload_n (i := 2) rfl (show decode cX12_join 2 = .ok (.iload_n 2, 1) by decide +kernel) ?_
  refine j_ctV (m' := mX12_canJoin) (As := [iv p1, iv p2]) (ci := 12) (tag := 0) (N := 0) (cw_X12_340 rfl) (show decode cX12_join 3 = .ok (.invokevirtual 340, 3) by decide +kernel) rfl (Nat.le_of_ble_eq_true rfl) (by decide) okl_321 rfl rfl (Nat.le_refl _) h (fun r1 σ1 h => ?_)
  have hr1 := h.1
  have h := h.2
  refine j_if_ne (tgt := 11) hr1 (show decode cX12_join 6 = .ok (.ifCond .ne 5, 3) by decide +kernel) (by decide) (fun c => ?_) (fun c => ?_)
  · have h := h.1 c
    refine s_aload_n (i := 0) rfl (show decode cX12_join 11 = .ok (.aload_n 0, 1) by decide +kernel) ?_
    refine j_ctVv (m' := mX12_keep) (As := []) (ci := 12) (N := 0) (cw_X12_343 rfl) (show decode cX12_join 12 = .ok (.invokevirtual 343, 3) by decide +kernel) rfl (Nat.le_of_ble_eq_true rfl) okl_321 rfl rfl (Nat.le_refl _) h (fun r3 σ3 h => ?_)
    refine s_aload_n (i := 0) rfl (show decode cX12_join 15 = .ok (.aload_n 0, 1) by decide +kernel) ?_
    refine j_iload_n (i := 1) rfl (show decode cX12_join 16 = .ok (.iload_n 1, 1) by decide +kernel) ?_
    refine j_iload_n (i := 2) rfl (show decode cX12_join 17 = .ok (.iload_n 2, 1) by decide +kernel) ?_
    refine j_ctV (m' := mX12_joinNow) (As := [iv p1, iv p2]) (ci := 12) (tag := 0) (N := 0) (cw_X12_346 rfl) (show decode cX12_join 18 = .ok (.invokevirtual 346, 3) by decide +kernel) rfl (Nat.le_of_ble_eq_true rfl) (by decide) okl_321 rfl rfl (Nat.le_refl _) h (fun r4 σ4 h => ?_)
    exact j_ret (rokI (show decode cX12_join 21 = .ok (.ireturn, 1) by decide +kernel) rfl) ⟨rfl, rfl, h⟩
  · have h := h.2 c
    refine j_iconst (show decode cX12_join 9 = .ok (.iconst (-1), 1) by decide +kernel) ?_
    exact j_ret (rokI (show decode cX12_join 10 = .ok (.ireturn, 1) by decide +kernel) rfl) ⟨rfl, rfl, h⟩
theorem c_X12_join {d : Nat} {t : Int} {Q : Int → jM → Prop} {σ : jM} {p1 p2 : Int} (h : Ct mX12_canJoin d 0 t [rv 321, iv p1, iv p2] σ (fun r1 σ1 => ((inR r1) ∧ ((¬ r1 = 0 → (Ct mX12_keep d 9 t [rv 321] σ1 (fun r3 σ3 => (Ct mX12_joinNow d 0 t [rv 321, iv p1, iv p2] σ3 (fun r4 σ4 => (Q r4 σ4)))))) ∧ (r1 = 0 → (Q (-1) σ1)))))) : Ct mX12_join (d + 1) 0 t [rv 321, iv p1, iv p2] σ Q := Ct_of (by decide +kernel) (Nat.le_of_ble_eq_true rfl) (b_X12_join_0 h)
set_option maxRecDepth 4000 in
theorem b_X12_pour_0 {d : Nat} {t : Int} {Q : Int → jM → Prop} {σ : jM} {p1 : Int} (h : Ct mX12_isFull d 0 t [rv 321, iv p1] σ (fun r1 σ1 => ((inR r1) ∧ ((¬ r1 = 0 → (Ct mX12_keep d 9 t [rv 321] σ1 (fun r3 σ3 => (Ct mX12_emptyNow d 9 t [rv 321, iv p1, iv 1] σ3 (fun r4 σ4 => (Q 1 σ4)))))) ∧ (r1 = 0 → (Q 0 σ1)))))) : Jt mX12_pour (d + 1) 0 t Q 0 [rv 321, iv p1] [] σ := by
  refine s_aload_n (i := 0) rfl (show decode cX12_pour 0 = .ok (.aload_n 0, 1) by decide +kernel) ?_
  refine j_iload_n (i := 1) rfl (show decode cX12_pour 1 = .ok (.iload_n 1, 1) by decide +kernel) ?_
  refine j_ctV (m' := mX12_isFull) (As := [iv p1]) (ci := 12) (tag := 0) (N := 0) (cw_X12_93 rfl) (show decode cX12_pour 2 = .ok (.invokevirtual 93, 3) by decide +kernel) rfl (Nat.le_of_ble_eq_true rfl) (by decide) okl_321 rfl rfl (Nat.le_refl _) h (fun r1 σ1 h => ?_)
  have hr1 := h.1
  have h := h.2
  refine j_if_ne (tgt := 10) hr1 (show decode cX12_pour 5 = .ok (.ifCond .ne 5, 3) by decide +kernel) (by decide) (fun c => ?_) (fun c => ?_)
  · have h := h.1 c
    refine s_aload_n (i := 0) rfl (show decode cX12_pour 10 = .ok (.aload_n 0, 1) by decide +kernel) ?_
    refine j_ctVv (m' := mX12_keep) (As := []) (ci := 12) (N := 0) (cw_X12_343 rfl) (show decode cX12_pour 11 = .ok (.invokevirtual 343, 3) by decide +kernel) rfl (Nat.le_of_ble_eq_true rfl) okl_321 rfl rfl (Nat.le_refl _) h (fun r3 σ3 h => ?_)
    refine s_aload_n (i := 0) rfl (show decode cX12_pour 14 = .ok (.aload_n 0, 1) by decide +kernel) ?_
    refine j_iload_n (i := 1) rfl (show decode cX12_pour 15 = .ok (.iload_n 1, 1) by decide +kernel) ?_
    refine j_iconst (show decode cX12_pour 16 = .ok (.iconst 1, 1) by decide +kernel) ?_
    refine j_ctVv (m' := mX12_emptyNow) (As := [iv p1, iv 1]) (ci := 12) (N := 0) (cw_X12_328 rfl) (show decode cX12_pour 17 = .ok (.invokevirtual 328, 3) by decide +kernel) rfl (Nat.le_of_ble_eq_true rfl) okl_321 rfl rfl (Nat.le_refl _) h (fun r4 σ4 h => ?_)
    refine j_iconst (show decode cX12_pour 20 = .ok (.iconst 1, 1) by decide +kernel) ?_
    exact j_ret (rokZ (show decode cX12_pour 21 = .ok (.ireturn, 1) by decide +kernel) rfl (Or.inr rfl)) ⟨rfl, rfl, h⟩
  · have h := h.2 c
    refine j_iconst (show decode cX12_pour 8 = .ok (.iconst 0, 1) by decide +kernel) ?_
    exact j_ret (rokZ (show decode cX12_pour 9 = .ok (.ireturn, 1) by decide +kernel) rfl (Or.inl rfl)) ⟨rfl, rfl, h⟩
theorem c_X12_pour {d : Nat} {t : Int} {Q : Int → jM → Prop} {σ : jM} {p1 : Int} (h : Ct mX12_isFull d 0 t [rv 321, iv p1] σ (fun r1 σ1 => ((inR r1) ∧ ((¬ r1 = 0 → (Ct mX12_keep d 9 t [rv 321] σ1 (fun r3 σ3 => (Ct mX12_emptyNow d 9 t [rv 321, iv p1, iv 1] σ3 (fun r4 σ4 => (Q 1 σ4)))))) ∧ (r1 = 0 → (Q 0 σ1)))))) : Ct mX12_pour (d + 1) 0 t [rv 321, iv p1] σ Q := Ct_of (by decide +kernel) (Nat.le_of_ble_eq_true rfl) (b_X12_pour_0 h)
set_option maxRecDepth 4000 in
theorem b_X12_bake_0 {d : Nat} {t : Int} {Q : Int → jM → Prop} {σ : jM} {p1 : Int} (h : Ct mX12_isFull d 0 t [rv 321, iv p1] σ (fun r1 σ1 => ((inR r1) ∧ ((¬ r1 = 0 → (Ct mX12_keep d 9 t [rv 321] σ1 (fun r3 σ3 => (Ct mX12_bakeNow d 0 t [rv 321, iv p1] σ3 (fun r4 σ4 => (Q r4 σ4)))))) ∧ (r1 = 0 → (Q (-1) σ1)))))) : Jt mX12_bake (d + 1) 0 t Q 0 [rv 321, iv p1] [] σ := by
  refine s_aload_n (i := 0) rfl (show decode cX12_bake 0 = .ok (.aload_n 0, 1) by decide +kernel) ?_
  refine j_iload_n (i := 1) rfl (show decode cX12_bake 1 = .ok (.iload_n 1, 1) by decide +kernel) ?_
  refine j_ctV (m' := mX12_isFull) (As := [iv p1]) (ci := 12) (tag := 0) (N := 0) (cw_X12_93 rfl) (show decode cX12_bake 2 = .ok (.invokevirtual 93, 3) by decide +kernel) rfl (Nat.le_of_ble_eq_true rfl) (by decide) okl_321 rfl rfl (Nat.le_refl _) h (fun r1 σ1 h => ?_)
  have hr1 := h.1
  have h := h.2
  refine j_if_ne (tgt := 10) hr1 (show decode cX12_bake 5 = .ok (.ifCond .ne 5, 3) by decide +kernel) (by decide) (fun c => ?_) (fun c => ?_)
  · have h := h.1 c
    refine s_aload_n (i := 0) rfl (show decode cX12_bake 10 = .ok (.aload_n 0, 1) by decide +kernel) ?_
    refine j_ctVv (m' := mX12_keep) (As := []) (ci := 12) (N := 0) (cw_X12_343 rfl) (show decode cX12_bake 11 = .ok (.invokevirtual 343, 3) by decide +kernel) rfl (Nat.le_of_ble_eq_true rfl) okl_321 rfl rfl (Nat.le_refl _) h (fun r3 σ3 h => ?_)
    refine s_aload_n (i := 0) rfl (show decode cX12_bake 14 = .ok (.aload_n 0, 1) by decide +kernel) ?_
    refine j_iload_n (i := 1) rfl (show decode cX12_bake 15 = .ok (.iload_n 1, 1) by decide +kernel) ?_
    refine j_ctV (m' := mX12_bakeNow) (As := [iv p1]) (ci := 12) (tag := 0) (N := 0) (cw_X12_349 rfl) (show decode cX12_bake 16 = .ok (.invokevirtual 349, 3) by decide +kernel) rfl (Nat.le_of_ble_eq_true rfl) (by decide) okl_321 rfl rfl (Nat.le_refl _) h (fun r4 σ4 h => ?_)
    exact j_ret (rokI (show decode cX12_bake 19 = .ok (.ireturn, 1) by decide +kernel) rfl) ⟨rfl, rfl, h⟩
  · have h := h.2 c
    refine j_iconst (show decode cX12_bake 8 = .ok (.iconst (-1), 1) by decide +kernel) ?_
    exact j_ret (rokI (show decode cX12_bake 9 = .ok (.ireturn, 1) by decide +kernel) rfl) ⟨rfl, rfl, h⟩
theorem c_X12_bake {d : Nat} {t : Int} {Q : Int → jM → Prop} {σ : jM} {p1 : Int} (h : Ct mX12_isFull d 0 t [rv 321, iv p1] σ (fun r1 σ1 => ((inR r1) ∧ ((¬ r1 = 0 → (Ct mX12_keep d 9 t [rv 321] σ1 (fun r3 σ3 => (Ct mX12_bakeNow d 0 t [rv 321, iv p1] σ3 (fun r4 σ4 => (Q r4 σ4)))))) ∧ (r1 = 0 → (Q (-1) σ1)))))) : Ct mX12_bake (d + 1) 0 t [rv 321, iv p1] σ Q := Ct_of (by decide +kernel) (Nat.le_of_ble_eq_true rfl) (b_X12_bake_0 h)
set_option maxRecDepth 4000 in
theorem b_X12_arePassed_7 {d : Nat} {t : Int} {Q : Int → jM → Prop} {σ : jM} {p1 v2 : Int} (h : (inR v2) ∧ ((inR p1) ∧ ((p1 ≤ v2 → (Q 1 σ)) ∧ (v2 < p1 → (((0 : Int) ≤ 6 ∧ (6 : Int) < 2208) ∧ ((inR (σ 322 6)) ∧ ((¬ (σ 322 6) = 9999 → (Ct mX12_keep d 9 t [rv 321] σ (fun r4 σ4 => (Ct mX12_pass d 9 t [rv 321] σ4 (fun r5 σ5 => (Jt mX12_arePassed (d + 1) 0 t Q 7 [rv 321, iv p1, iv (v2 + 1)] [] σ5)))))) ∧ ((σ 322 6) = 9999 → (Q 0 σ))))))))) : Jt mX12_arePassed (d + 1) 0 t Q 7 [rv 321, iv p1, iv v2] [] σ := by
  refine j_iload_n (i := 2) rfl (show decode cX12_arePassed 7 = .ok (.iload_n 2, 1) by decide +kernel) ?_
  refine j_iload_n (i := 1) rfl (show decode cX12_arePassed 8 = .ok (.iload_n 1, 1) by decide +kernel) ?_
  have hr0 := h.1
  have h := h.2
  have hr1 := h.1
  have h := h.2
  refine j_icmp_ge (tgt := 41) hr0 hr1 (show decode cX12_arePassed 9 = .ok (.if_icmp .ge 32, 3) by decide +kernel) (by decide) (fun c => ?_) (fun c => ?_)
  · have h := h.1 c
    refine j_iconst (show decode cX12_arePassed 41 = .ok (.iconst 1, 1) by decide +kernel) ?_
    exact j_ret (rokZ (show decode cX12_arePassed 42 = .ok (.ireturn, 1) by decide +kernel) rfl (Or.inr rfl)) ⟨rfl, rfl, h⟩
  · have h := h.2 c
    refine s_aload_n (i := 0) rfl (show decode cX12_arePassed 12 = .ok (.aload_n 0, 1) by decide +kernel) ?_
    refine gf_X12_7 (x := 322) rfl (show decode cX12_arePassed 13 = .ok (.getfield 7, 3) by decide +kernel) okl_321 rfl ?_
    refine j_bipush (n := 6) (by decide +kernel) (show decode cX12_arePassed 16 = .ok (.bipush 6, 2) by decide +kernel) ?_
    refine s_iald (show decode cX12_arePassed 18 = .ok (.iaload, 1) by decide +kernel) okl_322 h.1 ?_
    have h := h.2
    refine j_sipush (n := 9999) (by decide +kernel) (show decode cX12_arePassed 19 = .ok (.sipush 9999, 3) by decide +kernel) ?_
    have hr2 := h.1
    have h := h.2
    refine j_icmp_ne (tgt := 27) hr2 (inl (by decide)) (show decode cX12_arePassed 22 = .ok (.if_icmp .ne 5, 3) by decide +kernel) (by decide) (fun c => ?_) (fun c => ?_)
    · have h := h.1 c
      refine s_aload_n (i := 0) rfl (show decode cX12_arePassed 27 = .ok (.aload_n 0, 1) by decide +kernel) ?_
      refine j_ctVv (m' := mX12_keep) (As := []) (ci := 12) (N := 0) (cw_X12_343 rfl) (show decode cX12_arePassed 28 = .ok (.invokevirtual 343, 3) by decide +kernel) rfl (Nat.le_of_ble_eq_true rfl) okl_321 rfl rfl (Nat.le_refl _) h (fun r4 σ4 h => ?_)
      refine s_aload_n (i := 0) rfl (show decode cX12_arePassed 31 = .ok (.aload_n 0, 1) by decide +kernel) ?_
      refine j_ctVv (m' := mX12_pass) (As := []) (ci := 12) (N := 0) (cw_X12_352 rfl) (show decode cX12_arePassed 32 = .ok (.invokevirtual 352, 3) by decide +kernel) rfl (Nat.le_of_ble_eq_true rfl) okl_321 rfl rfl (Nat.le_refl _) h (fun r5 σ5 h => ?_)
      refine s_iinc (i := 2) rfl (L' := [rv 321, iv p1, iv (v2 + 1)]) rfl (show decode cX12_arePassed 35 = .ok (.iinc 2 1, 3) by decide +kernel) ?_
      refine j_goto (tgt := 7) (show decode cX12_arePassed 38 = .ok (.goto (-31), 3) by decide +kernel) (by decide) ?_
      exact h
    · have h := h.2 c
      refine j_iconst (show decode cX12_arePassed 25 = .ok (.iconst 0, 1) by decide +kernel) ?_
      exact j_ret (rokZ (show decode cX12_arePassed 26 = .ok (.ireturn, 1) by decide +kernel) rfl (Or.inl rfl)) ⟨rfl, rfl, h⟩
set_option maxRecDepth 4000 in
theorem b_X12_arePassed_0 {d : Nat} {t : Int} {Q : Int → jM → Prop} {σ : jM} {p1 : Int} (h : ∀ σ1 : jM, σ1 = up σ 321 24 0 → (Jt mX12_arePassed (d + 1) 0 t Q 7 [rv 321, iv p1, iv 0] [] σ1)) : Jt mX12_arePassed (d + 1) 0 t Q 0 [rv 321, iv p1, uv] [] σ := by
  refine s_aload_n (i := 0) rfl (show decode cX12_arePassed 0 = .ok (.aload_n 0, 1) by decide +kernel) ?_
  refine j_iconst (show decode cX12_arePassed 1 = .ok (.iconst 0, 1) by decide +kernel) ?_
  refine pf_X12_337 rfl (show decode cX12_arePassed 2 = .ok (.putfield 337, 3) by decide +kernel) okl_321 ?_
  obtain ⟨σ1, eσ1⟩ : ∃ z : jM, z = up σ 321 24 0 := ⟨_, rfl⟩
  refine j_sig eσ1 ?_
  have h := h σ1 eσ1
  refine j_iconst (show decode cX12_arePassed 5 = .ok (.iconst 0, 1) by decide +kernel) ?_
  refine s_ist_n (i := 2) (L' := [rv 321, iv p1, iv 0]) rfl (by decide) (show decode cX12_arePassed 6 = .ok (.istore_n 2, 1) by decide +kernel) ?_
  exact h
theorem c_X12_arePassed {d : Nat} {t : Int} {Q : Int → jM → Prop} {σ : jM} {p1 : Int} (h : ∀ σ1 : jM, σ1 = up σ 321 24 0 → (Jt mX12_arePassed (d + 1) 0 t Q 7 [rv 321, iv p1, iv 0] [] σ1)) : Ct mX12_arePassed (d + 1) 0 t [rv 321, iv p1] σ Q := Ct_of (by decide +kernel) (Nat.le_of_ble_eq_true rfl) (b_X12_arePassed_0 h)
set_option maxRecDepth 4000 in
theorem b_X12_day_0 {d : Nat} {t : Int} {Q : Int → jM → Prop} {σ : jM} {p1 : Int} (h : Ct mX12_isIn d 0 t [iv p1, iv 1, iv 60] σ (fun r1 σ1 => ((inR r1) ∧ ((r1 = 0 → (Q (-1) σ1)) ∧ (¬ r1 = 0 → (((0 : Int) ≤ 6 ∧ (6 : Int) < 2208) ∧ ((inR ((σ1 322 6) + p1)) ∧ ((9999 < ((σ1 322 6) + p1) → (Q (-1) σ1)) ∧ (((σ1 322 6) + p1) ≤ 9999 → (Ct mX12_arePassed d 0 t [rv 321, iv p1] σ1 (fun r4 σ4 => ((inR r4) ∧ ((r4 = 0 → (Q (-1) σ4)) ∧ (¬ r4 = 0 → (Q (σ4 321 24) σ4))))))))))))))) : Jt mX12_day (d + 1) 0 t Q 0 [rv 321, iv p1] [] σ := by
  refine j_iload_n (i := 1) rfl (show decode cX12_day 0 = .ok (.iload_n 1, 1) by decide +kernel) ?_
  refine j_iconst (show decode cX12_day 1 = .ok (.iconst 1, 1) by decide +kernel) ?_
  refine j_bipush (n := 60) (by decide +kernel) (show decode cX12_day 2 = .ok (.bipush 60, 2) by decide +kernel) ?_
  refine j_ctS (m' := mX12_isIn) (As := [iv p1, iv 1, iv 60]) (tag := 0) (cw_X12_85 rfl) (show decode cX12_day 4 = .ok (.invokestatic 85, 3) by decide +kernel) rfl (Nat.le_of_ble_eq_true rfl) (by decide) (Nat.le_refl _) h (fun r1 σ1 h => ?_)
  have hr1 := h.1
  have h := h.2
  refine j_if_eq (tgt := 40) hr1 (show decode cX12_day 7 = .ok (.ifCond .eq 33, 3) by decide +kernel) (by decide) (fun c => ?_) (fun c => ?_)
  · have h := h.1 c
    refine j_iconst (show decode cX12_day 40 = .ok (.iconst (-1), 1) by decide +kernel) ?_
    exact j_ret (rokI (show decode cX12_day 41 = .ok (.ireturn, 1) by decide +kernel) rfl) ⟨rfl, rfl, h⟩
  · have h := h.2 c
    refine s_aload_n (i := 0) rfl (show decode cX12_day 10 = .ok (.aload_n 0, 1) by decide +kernel) ?_
    refine gf_X12_7 (x := 322) rfl (show decode cX12_day 11 = .ok (.getfield 7, 3) by decide +kernel) okl_321 rfl ?_
    refine j_bipush (n := 6) (by decide +kernel) (show decode cX12_day 14 = .ok (.bipush 6, 2) by decide +kernel) ?_
    refine s_iald (show decode cX12_day 16 = .ok (.iaload, 1) by decide +kernel) okl_322 h.1 ?_
    have h := h.2
    refine j_iload_n (i := 1) rfl (show decode cX12_day 17 = .ok (.iload_n 1, 1) by decide +kernel) ?_
    refine j_iadd (show decode cX12_day 18 = .ok (.iadd, 1) by decide +kernel) ?_
    refine j_sipush (n := 9999) (by decide +kernel) (show decode cX12_day 19 = .ok (.sipush 9999, 3) by decide +kernel) ?_
    have hr2 := h.1
    have h := h.2
    refine j_icmp_gt (tgt := 40) hr2 (inl (by decide)) (show decode cX12_day 22 = .ok (.if_icmp .gt 18, 3) by decide +kernel) (by decide) (fun c => ?_) (fun c => ?_)
    · have h := h.1 c
      refine j_iconst (show decode cX12_day 40 = .ok (.iconst (-1), 1) by decide +kernel) ?_
      exact j_ret (rokI (show decode cX12_day 41 = .ok (.ireturn, 1) by decide +kernel) rfl) ⟨rfl, rfl, h⟩
    · have h := h.2 c
      refine s_aload_n (i := 0) rfl (show decode cX12_day 25 = .ok (.aload_n 0, 1) by decide +kernel) ?_
      refine j_iload_n (i := 1) rfl (show decode cX12_day 26 = .ok (.iload_n 1, 1) by decide +kernel) ?_
      refine j_ctV (m' := mX12_arePassed) (As := [iv p1]) (ci := 12) (tag := 0) (N := 0) (cw_X12_355 rfl) (show decode cX12_day 27 = .ok (.invokevirtual 355, 3) by decide +kernel) rfl (Nat.le_of_ble_eq_true rfl) (by decide) okl_321 rfl rfl (Nat.le_refl _) h (fun r4 σ4 h => ?_)
      have hr4 := h.1
      have h := h.2
      refine j_if_eq (tgt := 40) hr4 (show decode cX12_day 30 = .ok (.ifCond .eq 10, 3) by decide +kernel) (by decide) (fun c => ?_) (fun c => ?_)
      · have h := h.1 c
        refine j_iconst (show decode cX12_day 40 = .ok (.iconst (-1), 1) by decide +kernel) ?_
        exact j_ret (rokI (show decode cX12_day 41 = .ok (.ireturn, 1) by decide +kernel) rfl) ⟨rfl, rfl, h⟩
      · have h := h.2 c
        refine s_aload_n (i := 0) rfl (show decode cX12_day 33 = .ok (.aload_n 0, 1) by decide +kernel) ?_
        refine gf_X12_337 rfl (show decode cX12_day 34 = .ok (.getfield 337, 3) by decide +kernel) okl_321 ?_
        refine j_goto (tgt := 41) (show decode cX12_day 37 = .ok (.goto 4, 3) by decide +kernel) (by decide) ?_
        exact j_ret (rokI (show decode cX12_day 41 = .ok (.ireturn, 1) by decide +kernel) rfl) ⟨rfl, rfl, h⟩
theorem c_X12_day {d : Nat} {t : Int} {Q : Int → jM → Prop} {σ : jM} {p1 : Int} (h : Ct mX12_isIn d 0 t [iv p1, iv 1, iv 60] σ (fun r1 σ1 => ((inR r1) ∧ ((r1 = 0 → (Q (-1) σ1)) ∧ (¬ r1 = 0 → (((0 : Int) ≤ 6 ∧ (6 : Int) < 2208) ∧ ((inR ((σ1 322 6) + p1)) ∧ ((9999 < ((σ1 322 6) + p1) → (Q (-1) σ1)) ∧ (((σ1 322 6) + p1) ≤ 9999 → (Ct mX12_arePassed d 0 t [rv 321, iv p1] σ1 (fun r4 σ4 => ((inR r4) ∧ ((r4 = 0 → (Q (-1) σ4)) ∧ (¬ r4 = 0 → (Q (σ4 321 24) σ4))))))))))))))) : Ct mX12_day (d + 1) 0 t [rv 321, iv p1] σ Q := Ct_of (by decide +kernel) (Nat.le_of_ble_eq_true rfl) (b_X12_day_0 h)
set_option maxRecDepth 4000 in
theorem b_X12_stands_2 {d : Nat} {t : Int} {Q : Int → jM → Prop} {σ : jM} {p1 v2 : Int} (h : (inR v2) ∧ ((8 ≤ v2 → (Q 0 σ)) ∧ (v2 < 8 → (((0 : Int) ≤ (10 + v2) ∧ (10 + v2) < 2208) ∧ ((inR (σ 322 (10 + v2))) ∧ ((inR p1) ∧ ((¬ (σ 322 (10 + v2)) = p1 → (Jt mX12_stands (d) 0 t Q 2 [rv 321, iv p1, iv (v2 + 1)] [] σ)) ∧ ((σ 322 (10 + v2)) = p1 → (Q 1 σ))))))))) : Jt mX12_stands (d) 0 t Q 2 [rv 321, iv p1, iv v2] [] σ := by
  refine j_iload_n (i := 2) rfl (show decode cX12_stands 2 = .ok (.iload_n 2, 1) by decide +kernel) ?_
  refine j_bipush (n := 8) (by decide +kernel) (show decode cX12_stands 3 = .ok (.bipush 8, 2) by decide +kernel) ?_
  have hr0 := h.1
  have h := h.2
  refine j_icmp_ge (tgt := 29) hr0 (inl (by decide)) (show decode cX12_stands 5 = .ok (.if_icmp .ge 24, 3) by decide +kernel) (by decide) (fun c => ?_) (fun c => ?_)
  · have h := h.1 c
    refine j_iconst (show decode cX12_stands 29 = .ok (.iconst 0, 1) by decide +kernel) ?_
    exact j_ret (rokZ (show decode cX12_stands 30 = .ok (.ireturn, 1) by decide +kernel) rfl (Or.inl rfl)) ⟨rfl, rfl, h⟩
  · have h := h.2 c
    refine s_aload_n (i := 0) rfl (show decode cX12_stands 8 = .ok (.aload_n 0, 1) by decide +kernel) ?_
    refine gf_X12_7 (x := 322) rfl (show decode cX12_stands 9 = .ok (.getfield 7, 3) by decide +kernel) okl_321 rfl ?_
    refine j_bipush (n := 10) (by decide +kernel) (show decode cX12_stands 12 = .ok (.bipush 10, 2) by decide +kernel) ?_
    refine j_iload_n (i := 2) rfl (show decode cX12_stands 14 = .ok (.iload_n 2, 1) by decide +kernel) ?_
    refine j_iadd (show decode cX12_stands 15 = .ok (.iadd, 1) by decide +kernel) ?_
    refine s_iald (show decode cX12_stands 16 = .ok (.iaload, 1) by decide +kernel) okl_322 h.1 ?_
    have h := h.2
    refine j_iload_n (i := 1) rfl (show decode cX12_stands 17 = .ok (.iload_n 1, 1) by decide +kernel) ?_
    have hr1 := h.1
    have h := h.2
    have hr2 := h.1
    have h := h.2
    refine j_icmp_ne (tgt := 23) hr1 hr2 (show decode cX12_stands 18 = .ok (.if_icmp .ne 5, 3) by decide +kernel) (by decide) (fun c => ?_) (fun c => ?_)
    · have h := h.1 c
      refine s_iinc (i := 2) rfl (L' := [rv 321, iv p1, iv (v2 + 1)]) rfl (show decode cX12_stands 23 = .ok (.iinc 2 1, 3) by decide +kernel) ?_
      refine j_goto (tgt := 2) (show decode cX12_stands 26 = .ok (.goto (-24), 3) by decide +kernel) (by decide) ?_
      exact h
    · have h := h.2 c
      refine j_iconst (show decode cX12_stands 21 = .ok (.iconst 1, 1) by decide +kernel) ?_
      exact j_ret (rokZ (show decode cX12_stands 22 = .ok (.ireturn, 1) by decide +kernel) rfl (Or.inr rfl)) ⟨rfl, rfl, h⟩
set_option maxRecDepth 4000 in
theorem b_X12_stands_0 {d : Nat} {t : Int} {Q : Int → jM → Prop} {σ : jM} {p1 : Int} (h : Jt mX12_stands (d) 0 t Q 2 [rv 321, iv p1, iv 0] [] σ) : Jt mX12_stands (d) 0 t Q 0 [rv 321, iv p1, uv] [] σ := by
  refine j_iconst (show decode cX12_stands 0 = .ok (.iconst 0, 1) by decide +kernel) ?_
  refine s_ist_n (i := 2) (L' := [rv 321, iv p1, iv 0]) rfl (by decide) (show decode cX12_stands 1 = .ok (.istore_n 2, 1) by decide +kernel) ?_
  exact h
theorem c_X12_stands {d : Nat} {t : Int} {Q : Int → jM → Prop} {σ : jM} {p1 : Int} (h : Jt mX12_stands (d) 0 t Q 2 [rv 321, iv p1, iv 0] [] σ) : Ct mX12_stands (d) 0 t [rv 321, iv p1] σ Q := Ct_of (by decide +kernel) (Nat.le_of_ble_eq_true rfl) (b_X12_stands_0 h)
set_option maxRecDepth 4000 in
theorem b_X12_twoFor_10 {d : Nat} {t : Int} {Q : Int → jM → Prop} {σ : jM} {p1 v2 v3 : Int} (h : (inR v3) ∧ ((8 ≤ v3 → (Jt mX12_twoFor (d + 1) 0 t Q 2 [rv 321, iv p1, iv (v2 + 1), uv] [] σ)) ∧ (v3 < 8 → (Ct mX12_isFull d 0 t [rv 321, iv v2] σ (fun r2 σ2 => ((inR r2) ∧ ((r2 = 0 → (Jt mX12_twoFor (d + 1) 0 t Q 10 [rv 321, iv p1, iv v2, iv (v3 + 1)] [] σ2)) ∧ (¬ r2 = 0 → (Ct mX12_isFull d 0 t [rv 321, iv v3] σ2 (fun r4 σ4 => ((inR r4) ∧ ((r4 = 0 → (Jt mX12_twoFor (d + 1) 0 t Q 10 [rv 321, iv p1, iv v2, iv (v3 + 1)] [] σ4)) ∧ (¬ r4 = 0 → (((0 : Int) ≤ (10 + v2) ∧ (10 + v2) < 2208) ∧ (((0 : Int) ≤ (10 + v3) ∧ (10 + v3) < 2208) ∧ ((inR ((σ4 322 (10 + v2)) + (σ4 322 (10 + v3)))) ∧ ((inR p1) ∧ ((¬ ((σ4 322 (10 + v2)) + (σ4 322 (10 + v3))) = p1 → (Jt mX12_twoFor (d + 1) 0 t Q 10 [rv 321, iv p1, iv v2, iv (v3 + 1)] [] σ4)) ∧ (((σ4 322 (10 + v2)) + (σ4 322 (10 + v3))) = p1 → (Q ((8 * v2) + v3) σ4)))))))))))))))))))) : Jt mX12_twoFor (d + 1) 0 t Q 10 [rv 321, iv p1, iv v2, iv v3] [] σ := by
  refine j_iload_n (i := 3) rfl (show decode cX12_twoFor 10 = .ok (.iload_n 3, 1) by decide +kernel) ?_
  refine j_bipush (n := 8) (by decide +kernel) (show decode cX12_twoFor 11 = .ok (.bipush 8, 2) by decide +kernel) ?_
  have hr0 := h.1
  have h := h.2
  refine j_icmp_ge (tgt := 68) hr0 (inl (by decide)) (show decode cX12_twoFor 13 = .ok (.if_icmp .ge 55, 3) by decide +kernel) (by decide) (fun c => ?_) (fun c => ?_)
  · have h := h.1 c
    refine s_iinc (i := 2) rfl (L' := [rv 321, iv p1, iv (v2 + 1), iv v3]) rfl (show decode cX12_twoFor 68 = .ok (.iinc 2 1, 3) by decide +kernel) ?_
    refine j_goto (tgt := 2) (show decode cX12_twoFor 71 = .ok (.goto (-69), 3) by decide +kernel) (by decide) ?_
    refine j_drop 3 ?_
    exact h
  · have h := h.2 c
    refine s_aload_n (i := 0) rfl (show decode cX12_twoFor 16 = .ok (.aload_n 0, 1) by decide +kernel) ?_
    refine j_iload_n (i := 2) rfl (show decode cX12_twoFor 17 = .ok (.iload_n 2, 1) by decide +kernel) ?_
    refine j_ctV (m' := mX12_isFull) (As := [iv v2]) (ci := 12) (tag := 0) (N := 0) (cw_X12_93 rfl) (show decode cX12_twoFor 18 = .ok (.invokevirtual 93, 3) by decide +kernel) rfl (Nat.le_of_ble_eq_true rfl) (by decide) okl_321 rfl rfl (Nat.le_refl _) h (fun r2 σ2 h => ?_)
    have hr2 := h.1
    have h := h.2
    refine j_if_eq (tgt := 62) hr2 (show decode cX12_twoFor 21 = .ok (.ifCond .eq 41, 3) by decide +kernel) (by decide) (fun c => ?_) (fun c => ?_)
    · have h := h.1 c
      refine s_iinc (i := 3) rfl (L' := [rv 321, iv p1, iv v2, iv (v3 + 1)]) rfl (show decode cX12_twoFor 62 = .ok (.iinc 3 1, 3) by decide +kernel) ?_
      refine j_goto (tgt := 10) (show decode cX12_twoFor 65 = .ok (.goto (-55), 3) by decide +kernel) (by decide) ?_
      exact h
    · have h := h.2 c
      refine s_aload_n (i := 0) rfl (show decode cX12_twoFor 24 = .ok (.aload_n 0, 1) by decide +kernel) ?_
      refine j_iload_n (i := 3) rfl (show decode cX12_twoFor 25 = .ok (.iload_n 3, 1) by decide +kernel) ?_
      refine j_ctV (m' := mX12_isFull) (As := [iv v3]) (ci := 12) (tag := 0) (N := 0) (cw_X12_93 rfl) (show decode cX12_twoFor 26 = .ok (.invokevirtual 93, 3) by decide +kernel) rfl (Nat.le_of_ble_eq_true rfl) (by decide) okl_321 rfl rfl (Nat.le_refl _) h (fun r4 σ4 h => ?_)
      have hr4 := h.1
      have h := h.2
      refine j_if_eq (tgt := 62) hr4 (show decode cX12_twoFor 29 = .ok (.ifCond .eq 33, 3) by decide +kernel) (by decide) (fun c => ?_) (fun c => ?_)
      · have h := h.1 c
        refine s_iinc (i := 3) rfl (L' := [rv 321, iv p1, iv v2, iv (v3 + 1)]) rfl (show decode cX12_twoFor 62 = .ok (.iinc 3 1, 3) by decide +kernel) ?_
        refine j_goto (tgt := 10) (show decode cX12_twoFor 65 = .ok (.goto (-55), 3) by decide +kernel) (by decide) ?_
        exact h
      · have h := h.2 c
        refine s_aload_n (i := 0) rfl (show decode cX12_twoFor 32 = .ok (.aload_n 0, 1) by decide +kernel) ?_
        refine gf_X12_7 (x := 322) rfl (show decode cX12_twoFor 33 = .ok (.getfield 7, 3) by decide +kernel) okl_321 rfl ?_
        refine j_bipush (n := 10) (by decide +kernel) (show decode cX12_twoFor 36 = .ok (.bipush 10, 2) by decide +kernel) ?_
        refine j_iload_n (i := 2) rfl (show decode cX12_twoFor 38 = .ok (.iload_n 2, 1) by decide +kernel) ?_
        refine j_iadd (show decode cX12_twoFor 39 = .ok (.iadd, 1) by decide +kernel) ?_
        refine s_iald (show decode cX12_twoFor 40 = .ok (.iaload, 1) by decide +kernel) okl_322 h.1 ?_
        have h := h.2
        refine s_aload_n (i := 0) rfl (show decode cX12_twoFor 41 = .ok (.aload_n 0, 1) by decide +kernel) ?_
        refine gf_X12_7 (x := 322) rfl (show decode cX12_twoFor 42 = .ok (.getfield 7, 3) by decide +kernel) okl_321 rfl ?_
        refine j_bipush (n := 10) (by decide +kernel) (show decode cX12_twoFor 45 = .ok (.bipush 10, 2) by decide +kernel) ?_
        refine j_iload_n (i := 3) rfl (show decode cX12_twoFor 47 = .ok (.iload_n 3, 1) by decide +kernel) ?_
        refine j_iadd (show decode cX12_twoFor 48 = .ok (.iadd, 1) by decide +kernel) ?_
        refine s_iald (show decode cX12_twoFor 49 = .ok (.iaload, 1) by decide +kernel) okl_322 h.1 ?_
        have h := h.2
        refine j_iadd (show decode cX12_twoFor 50 = .ok (.iadd, 1) by decide +kernel) ?_
        refine j_iload_n (i := 1) rfl (show decode cX12_twoFor 51 = .ok (.iload_n 1, 1) by decide +kernel) ?_
        have hr5 := h.1
        have h := h.2
        have hr6 := h.1
        have h := h.2
        refine j_icmp_ne (tgt := 62) hr5 hr6 (show decode cX12_twoFor 52 = .ok (.if_icmp .ne 10, 3) by decide +kernel) (by decide) (fun c => ?_) (fun c => ?_)
        · have h := h.1 c
          refine s_iinc (i := 3) rfl (L' := [rv 321, iv p1, iv v2, iv (v3 + 1)]) rfl (show decode cX12_twoFor 62 = .ok (.iinc 3 1, 3) by decide +kernel) ?_
          refine j_goto (tgt := 10) (show decode cX12_twoFor 65 = .ok (.goto (-55), 3) by decide +kernel) (by decide) ?_
          exact h
        · have h := h.2 c
          refine j_bipush (n := 8) (by decide +kernel) (show decode cX12_twoFor 55 = .ok (.bipush 8, 2) by decide +kernel) ?_
          refine j_iload_n (i := 2) rfl (show decode cX12_twoFor 57 = .ok (.iload_n 2, 1) by decide +kernel) ?_
          refine j_imul (show decode cX12_twoFor 58 = .ok (.imul, 1) by decide +kernel) ?_
          refine j_iload_n (i := 3) rfl (show decode cX12_twoFor 59 = .ok (.iload_n 3, 1) by decide +kernel) ?_
          refine j_iadd (show decode cX12_twoFor 60 = .ok (.iadd, 1) by decide +kernel) ?_
          exact j_ret (rokI (show decode cX12_twoFor 61 = .ok (.ireturn, 1) by decide +kernel) rfl) ⟨rfl, rfl, h⟩
set_option maxRecDepth 4000 in
theorem b_X12_twoFor_2 {d : Nat} {t : Int} {Q : Int → jM → Prop} {σ : jM} {p1 v2 : Int} (h : (inR v2) ∧ ((8 ≤ v2 → (Q (-1) σ)) ∧ (v2 < 8 → (Jt mX12_twoFor (d + 1) 0 t Q 10 [rv 321, iv p1, iv v2, iv v2] [] σ)))) : Jt mX12_twoFor (d + 1) 0 t Q 2 [rv 321, iv p1, iv v2, uv] [] σ := by
  refine j_iload_n (i := 2) rfl (show decode cX12_twoFor 2 = .ok (.iload_n 2, 1) by decide +kernel) ?_
  refine j_bipush (n := 8) (by decide +kernel) (show decode cX12_twoFor 3 = .ok (.bipush 8, 2) by decide +kernel) ?_
  have hr0 := h.1
  have h := h.2
  refine j_icmp_ge (tgt := 74) hr0 (inl (by decide)) (show decode cX12_twoFor 5 = .ok (.if_icmp .ge 69, 3) by decide +kernel) (by decide) (fun c => ?_) (fun c => ?_)
  · have h := h.1 c
    refine j_iconst (show decode cX12_twoFor 74 = .ok (.iconst (-1), 1) by decide +kernel) ?_
    exact j_ret (rokI (show decode cX12_twoFor 75 = .ok (.ireturn, 1) by decide +kernel) rfl) ⟨rfl, rfl, h⟩
  · have h := h.2 c
    refine j_iload_n (i := 2) rfl (show decode cX12_twoFor 8 = .ok (.iload_n 2, 1) by decide +kernel) ?_
    refine s_ist_n (i := 3) (L' := [rv 321, iv p1, iv v2, iv v2]) rfl (by decide) (show decode cX12_twoFor 9 = .ok (.istore_n 3, 1) by decide +kernel) ?_
    exact h
set_option maxRecDepth 4000 in
theorem b_X12_twoFor_0 {d : Nat} {t : Int} {Q : Int → jM → Prop} {σ : jM} {p1 : Int} (h : Jt mX12_twoFor (d + 1) 0 t Q 2 [rv 321, iv p1, iv 0, uv] [] σ) : Jt mX12_twoFor (d + 1) 0 t Q 0 [rv 321, iv p1, uv, uv] [] σ := by
  refine j_iconst (show decode cX12_twoFor 0 = .ok (.iconst 0, 1) by decide +kernel) ?_
  refine s_ist_n (i := 2) (L' := [rv 321, iv p1, iv 0, uv]) rfl (by decide) (show decode cX12_twoFor 1 = .ok (.istore_n 2, 1) by decide +kernel) ?_
  exact h
theorem c_X12_twoFor {d : Nat} {t : Int} {Q : Int → jM → Prop} {σ : jM} {p1 : Int} (h : Jt mX12_twoFor (d + 1) 0 t Q 2 [rv 321, iv p1, iv 0, uv] [] σ) : Ct mX12_twoFor (d + 1) 0 t [rv 321, iv p1] σ Q := Ct_of (by decide +kernel) (Nat.le_of_ble_eq_true rfl) (b_X12_twoFor_0 h)
set_option maxRecDepth 4000 in
theorem b_X12_isMade_8 {d : Nat} {t : Int} {Q : Int → jM → Prop} {σ : jM} {p1 v2 v3 : Int} (h : (inR v3) ∧ ((inR v2) ∧ ((v2 < v3 → (Q 1 σ)) ∧ (v3 ≤ v2 → (((0 : Int) ≤ v3 ∧ v3 < 44) ∧ (Ct mX12_stands d 0 t [rv 321, iv (σ 331 v3)] σ (fun r3 σ3 => ((inR r3) ∧ ((r3 = 0 → (((0 : Int) ≤ v3 ∧ v3 < 44) ∧ (Ct mX12_twoFor d 0 t [rv 321, iv (σ3 331 v3)] σ3 (fun r5 σ5 => ((inR r5) ∧ ((r5 = (-1) → (Q 0 σ5)) ∧ (¬ r5 = (-1) → ((inR r5) ∧ ((inR r5) ∧ (Ct mX12_join d 0 t [rv 321, iv (Int.tdiv r5 8), iv (Int.tmod r5 8)] σ5 (fun r9 σ9 => ((inR r9) ∧ ((¬ r9 = (-1) → (Jt mX12_isMade (d + 1) 0 t Q 8 [rv 321, iv p1, iv v2, iv (v3 + 1), uv] [] σ9)) ∧ (r9 = (-1) → (Q 0 σ9))))))))))))))) ∧ (¬ r3 = 0 → (Jt mX12_isMade (d + 1) 0 t Q 8 [rv 321, iv p1, iv v2, iv (v3 + 1), uv] [] σ3))))))))))) : Jt mX12_isMade (d + 1) 0 t Q 8 [rv 321, iv p1, iv v2, iv v3, uv] [] σ := by
  refine j_iload_n (i := 3) rfl (show decode cX12_isMade 8 = .ok (.iload_n 3, 1) by decide +kernel) ?_
  refine j_iload_n (i := 2) rfl (show decode cX12_isMade 9 = .ok (.iload_n 2, 1) by decide +kernel) ?_
  have hr0 := h.1
  have h := h.2
  have hr1 := h.1
  have h := h.2
  refine j_icmp_gt (tgt := 73) hr0 hr1 (show decode cX12_isMade 10 = .ok (.if_icmp .gt 63, 3) by decide +kernel) (by decide) (fun c => ?_) (fun c => ?_)
  · have h := h.1 c
    refine j_iconst (show decode cX12_isMade 73 = .ok (.iconst 1, 1) by decide +kernel) ?_
    exact j_ret (rokZ (show decode cX12_isMade 74 = .ok (.ireturn, 1) by decide +kernel) rfl (Or.inr rfl)) ⟨rfl, rfl, h⟩
  · have h := h.2 c
    refine s_aload_n (i := 0) rfl (show decode cX12_isMade 13 = .ok (.aload_n 0, 1) by decide +kernel) ?_
    refine s_aload_n (i := 0) rfl (show decode cX12_isMade 14 = .ok (.aload_n 0, 1) by decide +kernel) ?_
    refine gf_X12_50 (x := 331) rfl (show decode cX12_isMade 15 = .ok (.getfield 50, 3) by decide +kernel) okl_321 rfl ?_
    refine j_iload_n (i := 3) rfl (show decode cX12_isMade 18 = .ok (.iload_n 3, 1) by decide +kernel) ?_
    refine s_iald (show decode cX12_isMade 19 = .ok (.iaload, 1) by decide +kernel) okl_331 h.1 ?_
    have h := h.2
    refine j_ctV (m' := mX12_stands) (As := [iv (σ 331 v3)]) (ci := 12) (tag := 0) (N := 0) (cw_X12_361 rfl) (show decode cX12_isMade 20 = .ok (.invokevirtual 361, 3) by decide +kernel) rfl (Nat.le_of_ble_eq_true rfl) (by decide) okl_321 rfl rfl (Nat.le_refl _) h (fun r3 σ3 h => ?_)
    have hr3 := h.1
    have h := h.2
    refine j_if_eq (tgt := 29) hr3 (show decode cX12_isMade 23 = .ok (.ifCond .eq 6, 3) by decide +kernel) (by decide) (fun c => ?_) (fun c => ?_)
    · have h := h.1 c
      refine s_aload_n (i := 0) rfl (show decode cX12_isMade 29 = .ok (.aload_n 0, 1) by decide +kernel) ?_
      refine s_aload_n (i := 0) rfl (show decode cX12_isMade 30 = .ok (.aload_n 0, 1) by decide +kernel) ?_
      refine gf_X12_50 (x := 331) rfl (show decode cX12_isMade 31 = .ok (.getfield 50, 3) by decide +kernel) okl_321 rfl ?_
      refine j_iload_n (i := 3) rfl (show decode cX12_isMade 34 = .ok (.iload_n 3, 1) by decide +kernel) ?_
      refine s_iald (show decode cX12_isMade 35 = .ok (.iaload, 1) by decide +kernel) okl_331 h.1 ?_
      have h := h.2
      refine j_ctV (m' := mX12_twoFor) (As := [iv (σ3 331 v3)]) (ci := 12) (tag := 0) (N := 0) (cw_X12_364 rfl) (show decode cX12_isMade 36 = .ok (.invokevirtual 364, 3) by decide +kernel) rfl (Nat.le_of_ble_eq_true rfl) (by decide) okl_321 rfl rfl (Nat.le_refl _) h (fun r5 σ5 h => ?_)
      refine s_ist (i := 4) (L' := [rv 321, iv p1, iv v2, iv v3, iv r5]) rfl (by decide) (show decode cX12_isMade 39 = .ok (.istore 4, 2) by decide +kernel) ?_
      refine j_iload (i := 4) rfl (show decode cX12_isMade 41 = .ok (.iload 4, 2) by decide +kernel) ?_
      refine j_iconst (show decode cX12_isMade 43 = .ok (.iconst (-1), 1) by decide +kernel) ?_
      have hr5 := h.1
      have h := h.2
      refine j_icmp_eq (tgt := 65) hr5 (inl (by decide)) (show decode cX12_isMade 44 = .ok (.if_icmp .eq 21, 3) by decide +kernel) (by decide) (fun c => ?_) (fun c => ?_)
      · have h := h.1 c
        refine j_iconst (show decode cX12_isMade 65 = .ok (.iconst 0, 1) by decide +kernel) ?_
        exact j_ret (rokZ (show decode cX12_isMade 66 = .ok (.ireturn, 1) by decide +kernel) rfl (Or.inl rfl)) ⟨rfl, rfl, h⟩
      · have h := h.2 c
        refine s_aload_n (i := 0) rfl (show decode cX12_isMade 47 = .ok (.aload_n 0, 1) by decide +kernel) ?_
        refine j_iload (i := 4) rfl (show decode cX12_isMade 48 = .ok (.iload 4, 2) by decide +kernel) ?_
        refine j_bipush (n := 8) (by decide +kernel) (show decode cX12_isMade 50 = .ok (.bipush 8, 2) by decide +kernel) ?_
        have hr6 := h.1
        have h := h.2
        refine j_idiv hr6 (inl (by decide)) (by decide) (show decode cX12_isMade 52 = .ok (.idiv, 1) by decide +kernel) ?_
        refine j_iload (i := 4) rfl (show decode cX12_isMade 53 = .ok (.iload 4, 2) by decide +kernel) ?_
        refine j_bipush (n := 8) (by decide +kernel) (show decode cX12_isMade 55 = .ok (.bipush 8, 2) by decide +kernel) ?_
        have hr7 := h.1
        have h := h.2
        refine j_irem hr7 (inl (by decide)) (by decide) (show decode cX12_isMade 57 = .ok (.irem, 1) by decide +kernel) ?_
        refine j_ctV (m' := mX12_join) (As := [iv (Int.tdiv r5 8), iv (Int.tmod r5 8)]) (ci := 12) (tag := 0) (N := 0) (cw_X12_367 rfl) (show decode cX12_isMade 58 = .ok (.invokevirtual 367, 3) by decide +kernel) rfl (Nat.le_of_ble_eq_true rfl) (by decide) okl_321 rfl rfl (Nat.le_refl _) h (fun r9 σ9 h => ?_)
        refine j_iconst (show decode cX12_isMade 61 = .ok (.iconst (-1), 1) by decide +kernel) ?_
        have hr9 := h.1
        have h := h.2
        refine j_icmp_ne (tgt := 67) hr9 (inl (by decide)) (show decode cX12_isMade 62 = .ok (.if_icmp .ne 5, 3) by decide +kernel) (by decide) (fun c => ?_) (fun c => ?_)
        · have h := h.1 c
          refine s_iinc (i := 3) rfl (L' := [rv 321, iv p1, iv v2, iv (v3 + 1), iv r5]) rfl (show decode cX12_isMade 67 = .ok (.iinc 3 1, 3) by decide +kernel) ?_
          refine j_goto (tgt := 8) (show decode cX12_isMade 70 = .ok (.goto (-62), 3) by decide +kernel) (by decide) ?_
          refine j_drop 4 ?_
          exact h
        · have h := h.2 c
          refine j_iconst (show decode cX12_isMade 65 = .ok (.iconst 0, 1) by decide +kernel) ?_
          exact j_ret (rokZ (show decode cX12_isMade 66 = .ok (.ireturn, 1) by decide +kernel) rfl (Or.inl rfl)) ⟨rfl, rfl, h⟩
    · have h := h.2 c
      refine j_goto (tgt := 67) (show decode cX12_isMade 26 = .ok (.goto 41, 3) by decide +kernel) (by decide) ?_
      refine s_iinc (i := 3) rfl (L' := [rv 321, iv p1, iv v2, iv (v3 + 1), uv]) rfl (show decode cX12_isMade 67 = .ok (.iinc 3 1, 3) by decide +kernel) ?_
      refine j_goto (tgt := 8) (show decode cX12_isMade 70 = .ok (.goto (-62), 3) by decide +kernel) (by decide) ?_
      exact h
set_option maxRecDepth 4000 in
theorem b_X12_isMade_0 {d : Nat} {t : Int} {Q : Int → jM → Prop} {σ : jM} {p1 : Int} (h : Ct mX12_layChain d 0 t [rv 321, iv p1] σ (fun r1 σ1 => (Jt mX12_isMade (d + 1) 0 t Q 8 [rv 321, iv p1, iv r1, iv 1, uv] [] σ1))) : Jt mX12_isMade (d + 1) 0 t Q 0 [rv 321, iv p1, uv, uv, uv] [] σ := by
  refine s_aload_n (i := 0) rfl (show decode cX12_isMade 0 = .ok (.aload_n 0, 1) by decide +kernel) ?_
  refine j_iload_n (i := 1) rfl (show decode cX12_isMade 1 = .ok (.iload_n 1, 1) by decide +kernel) ?_
  refine j_ctV (m' := mX12_layChain) (As := [iv p1]) (ci := 12) (tag := 0) (N := 0) (cw_X12_358 rfl) (show decode cX12_isMade 2 = .ok (.invokevirtual 358, 3) by decide +kernel) rfl (Nat.le_of_ble_eq_true rfl) (by decide) okl_321 rfl rfl (Nat.le_refl _) h (fun r1 σ1 h => ?_)
  refine s_ist_n (i := 2) (L' := [rv 321, iv p1, iv r1, uv, uv]) rfl (by decide) (show decode cX12_isMade 5 = .ok (.istore_n 2, 1) by decide +kernel) ?_
  refine j_iconst (show decode cX12_isMade 6 = .ok (.iconst 1, 1) by decide +kernel) ?_
  refine s_ist_n (i := 3) (L' := [rv 321, iv p1, iv r1, iv 1, uv]) rfl (by decide) (show decode cX12_isMade 7 = .ok (.istore_n 3, 1) by decide +kernel) ?_
  exact h
theorem c_X12_isMade {d : Nat} {t : Int} {Q : Int → jM → Prop} {σ : jM} {p1 : Int} (h : Ct mX12_layChain d 0 t [rv 321, iv p1] σ (fun r1 σ1 => (Jt mX12_isMade (d + 1) 0 t Q 8 [rv 321, iv p1, iv r1, iv 1, uv] [] σ1))) : Ct mX12_isMade (d + 1) 0 t [rv 321, iv p1] σ Q := Ct_of (by decide +kernel) (Nat.le_of_ble_eq_true rfl) (b_X12_isMade_0 h)
set_option maxRecDepth 4000 in
theorem b_X12_isPlayed_0 {d : Nat} {t : Int} {Q : Int → jM → Prop} {σ : jM} {p1 : Int} (h : ((0 : Int) ≤ (p1 + 1) ∧ (p1 + 1) < 2724) ∧ (((0 : Int) ≤ (p1 + 2) ∧ (p1 + 2) < 2724) ∧ (((0 : Int) ≤ p1 ∧ p1 < 2724) ∧ ((inR (σ 324 p1)) ∧ (((σ 324 p1) < 2 ∨ 6 < (σ 324 p1) → (Q 1 σ)) ∧ ((σ 324 p1) = 2 → (Ct mX12_join d 0 t [rv 321, iv (σ 324 (p1 + 1)), iv (σ 324 (p1 + 2))] σ (fun r2 σ2 => ((inR r2) ∧ ((r2 < 0 → (Q 0 σ2)) ∧ (0 ≤ r2 → (Q 1 σ2))))))) ∧ ((σ 324 p1) = 3 → (Ct mX12_pour d 0 t [rv 321, iv (σ 324 (p1 + 1))] σ (fun r4 σ4 => ((r4 = 0 ∨ r4 = 1) ∧ (Q r4 σ4))))) ∧ ((σ 324 p1) = 4 → (Ct mX12_bake d 0 t [rv 321, iv (σ 324 (p1 + 1))] σ (fun r6 σ6 => ((inR r6) ∧ ((r6 < 0 → (Q 0 σ6)) ∧ (0 ≤ r6 → (Q 1 σ6))))))) ∧ ((σ 324 p1) = 5 → (Ct mX12_arePassed d 0 t [rv 321, iv (σ 324 (p1 + 1))] σ (fun r8 σ8 => ((r8 = 0 ∨ r8 = 1) ∧ (Q r8 σ8))))) ∧ ((σ 324 p1) = 6 → (Ct mX12_isMade d 0 t [rv 321, iv (σ 324 (p1 + 1))] σ (fun r10 σ10 => ((r10 = 0 ∨ r10 = 1) ∧ (Q r10 σ10)))))))))) : Jt mX12_isPlayed (d + 1) 0 t Q 0 [rv 321, iv p1, uv, uv] [] σ := by
  refine s_aload_n (i := 0) rfl (show decode cX12_isPlayed 0 = .ok (.aload_n 0, 1) by decide +kernel) ?_
  refine gf_X12_16 (x := 324) rfl (show decode cX12_isPlayed 1 = .ok (.getfield 16, 3) by decide +kernel) okl_321 rfl ?_
  refine j_iload_n (i := 1) rfl (show decode cX12_isPlayed 4 = .ok (.iload_n 1, 1) by decide +kernel) ?_
  refine j_iconst (show decode cX12_isPlayed 5 = .ok (.iconst 1, 1) by decide +kernel) ?_
  refine j_iadd (show decode cX12_isPlayed 6 = .ok (.iadd, 1) by decide +kernel) ?_
  refine s_iald (show decode cX12_isPlayed 7 = .ok (.iaload, 1) by decide +kernel) okl_324 h.1 ?_
  have h := h.2
  refine s_ist_n (i := 2) (L' := [rv 321, iv p1, iv (σ 324 (p1 + 1)), uv]) rfl (by decide) (show decode cX12_isPlayed 8 = .ok (.istore_n 2, 1) by decide +kernel) ?_
  refine s_aload_n (i := 0) rfl (show decode cX12_isPlayed 9 = .ok (.aload_n 0, 1) by decide +kernel) ?_
  refine gf_X12_16 (x := 324) rfl (show decode cX12_isPlayed 10 = .ok (.getfield 16, 3) by decide +kernel) okl_321 rfl ?_
  refine j_iload_n (i := 1) rfl (show decode cX12_isPlayed 13 = .ok (.iload_n 1, 1) by decide +kernel) ?_
  refine j_iconst (show decode cX12_isPlayed 14 = .ok (.iconst 2, 1) by decide +kernel) ?_
  refine j_iadd (show decode cX12_isPlayed 15 = .ok (.iadd, 1) by decide +kernel) ?_
  refine s_iald (show decode cX12_isPlayed 16 = .ok (.iaload, 1) by decide +kernel) okl_324 h.1 ?_
  have h := h.2
  refine s_ist_n (i := 3) (L' := [rv 321, iv p1, iv (σ 324 (p1 + 1)), iv (σ 324 (p1 + 2))]) rfl (by decide) (show decode cX12_isPlayed 17 = .ok (.istore_n 3, 1) by decide +kernel) ?_
  refine s_aload_n (i := 0) rfl (show decode cX12_isPlayed 18 = .ok (.aload_n 0, 1) by decide +kernel) ?_
  refine gf_X12_16 (x := 324) rfl (show decode cX12_isPlayed 19 = .ok (.getfield 16, 3) by decide +kernel) okl_321 rfl ?_
  refine j_iload_n (i := 1) rfl (show decode cX12_isPlayed 22 = .ok (.iload_n 1, 1) by decide +kernel) ?_
  refine s_iald (show decode cX12_isPlayed 23 = .ok (.iaload, 1) by decide +kernel) okl_324 h.1 ?_
  have h := h.2
  have hr0 := h.1
  have h := h.2
  rcases (show ((σ 324 p1) < 2 ∨ 6 < (σ 324 p1)) ∨ (σ 324 p1) = 2 ∨ (σ 324 p1) = 3 ∨ (σ 324 p1) = 4 ∨ (σ 324 p1) = 5 ∨ (σ 324 p1) = 6 by omega) with c | c | c | c | c | c
  · refine j_tableOut (tgt := 107) hr0 (show decode cX12_isPlayed 24 = .ok (.tableswitch 83 2 6 #[36, 51, 57, 71, 77], 36) by decide +kernel) c (by decide) ?_
    have h := h.1 c
    refine j_iconst (show decode cX12_isPlayed 107 = .ok (.iconst 1, 1) by decide +kernel) ?_
    exact j_ret (rokZ (show decode cX12_isPlayed 108 = .ok (.ireturn, 1) by decide +kernel) rfl (Or.inr rfl)) ⟨rfl, rfl, h⟩
  · refine j_tableIn (tgt := 60) hr0 (show decode cX12_isPlayed 24 = .ok (.tableswitch 83 2 6 #[36, 51, 57, 71, 77], 36) by decide +kernel) (by omega) (by omega) (by rw [c]; rfl) (by decide) ?_
    have h := h.2.1 c
    refine s_aload_n (i := 0) rfl (show decode cX12_isPlayed 60 = .ok (.aload_n 0, 1) by decide +kernel) ?_
    refine j_iload_n (i := 2) rfl (show decode cX12_isPlayed 61 = .ok (.iload_n 2, 1) by decide +kernel) ?_
    refine j_iload_n (i := 3) rfl (show decode cX12_isPlayed 62 = .ok (.iload_n 3, 1) by decide +kernel) ?_
    refine j_ctV (m' := mX12_join) (As := [iv (σ 324 (p1 + 1)), iv (σ 324 (p1 + 2))]) (ci := 12) (tag := 0) (N := 0) (cw_X12_367 rfl) (show decode cX12_isPlayed 63 = .ok (.invokevirtual 367, 3) by decide +kernel) rfl (Nat.le_of_ble_eq_true rfl) (by decide) okl_321 rfl rfl (Nat.le_refl _) h (fun r2 σ2 h => ?_)
    have hr2 := h.1
    have h := h.2
    refine j_if_lt (tgt := 73) hr2 (show decode cX12_isPlayed 66 = .ok (.ifCond .lt 7, 3) by decide +kernel) (by decide) (fun c => ?_) (fun c => ?_)
    · have h := h.1 c
      refine j_iconst (show decode cX12_isPlayed 73 = .ok (.iconst 0, 1) by decide +kernel) ?_
      exact j_ret (rokZ (show decode cX12_isPlayed 74 = .ok (.ireturn, 1) by decide +kernel) rfl (Or.inl rfl)) ⟨rfl, rfl, h⟩
    · have h := h.2 c
      refine j_iconst (show decode cX12_isPlayed 69 = .ok (.iconst 1, 1) by decide +kernel) ?_
      refine j_goto (tgt := 74) (show decode cX12_isPlayed 70 = .ok (.goto 4, 3) by decide +kernel) (by decide) ?_
      exact j_ret (rokZ (show decode cX12_isPlayed 74 = .ok (.ireturn, 1) by decide +kernel) rfl (Or.inr rfl)) ⟨rfl, rfl, h⟩
  · refine j_tableIn (tgt := 75) hr0 (show decode cX12_isPlayed 24 = .ok (.tableswitch 83 2 6 #[36, 51, 57, 71, 77], 36) by decide +kernel) (by omega) (by omega) (by rw [c]; rfl) (by decide) ?_
    have h := h.2.2.1 c
    refine s_aload_n (i := 0) rfl (show decode cX12_isPlayed 75 = .ok (.aload_n 0, 1) by decide +kernel) ?_
    refine j_iload_n (i := 2) rfl (show decode cX12_isPlayed 76 = .ok (.iload_n 2, 1) by decide +kernel) ?_
    refine j_ctV (m' := mX12_pour) (As := [iv (σ 324 (p1 + 1))]) (ci := 12) (tag := 0) (N := 0) (cw_X12_370 rfl) (show decode cX12_isPlayed 77 = .ok (.invokevirtual 370, 3) by decide +kernel) rfl (Nat.le_of_ble_eq_true rfl) (by decide) okl_321 rfl rfl (Nat.le_refl _) h (fun r4 σ4 h => ?_)
    have hz4 := h.1
    have h := h.2
    exact j_ret (rokZ (show decode cX12_isPlayed 80 = .ok (.ireturn, 1) by decide +kernel) rfl hz4) ⟨rfl, rfl, h⟩
  · refine j_tableIn (tgt := 81) hr0 (show decode cX12_isPlayed 24 = .ok (.tableswitch 83 2 6 #[36, 51, 57, 71, 77], 36) by decide +kernel) (by omega) (by omega) (by rw [c]; rfl) (by decide) ?_
    have h := h.2.2.2.1 c
    refine s_aload_n (i := 0) rfl (show decode cX12_isPlayed 81 = .ok (.aload_n 0, 1) by decide +kernel) ?_
    refine j_iload_n (i := 2) rfl (show decode cX12_isPlayed 82 = .ok (.iload_n 2, 1) by decide +kernel) ?_
    refine j_ctV (m' := mX12_bake) (As := [iv (σ 324 (p1 + 1))]) (ci := 12) (tag := 0) (N := 0) (cw_X12_373 rfl) (show decode cX12_isPlayed 83 = .ok (.invokevirtual 373, 3) by decide +kernel) rfl (Nat.le_of_ble_eq_true rfl) (by decide) okl_321 rfl rfl (Nat.le_refl _) h (fun r6 σ6 h => ?_)
    have hr6 := h.1
    have h := h.2
    refine j_if_lt (tgt := 93) hr6 (show decode cX12_isPlayed 86 = .ok (.ifCond .lt 7, 3) by decide +kernel) (by decide) (fun c => ?_) (fun c => ?_)
    · have h := h.1 c
      refine j_iconst (show decode cX12_isPlayed 93 = .ok (.iconst 0, 1) by decide +kernel) ?_
      exact j_ret (rokZ (show decode cX12_isPlayed 94 = .ok (.ireturn, 1) by decide +kernel) rfl (Or.inl rfl)) ⟨rfl, rfl, h⟩
    · have h := h.2 c
      refine j_iconst (show decode cX12_isPlayed 89 = .ok (.iconst 1, 1) by decide +kernel) ?_
      refine j_goto (tgt := 94) (show decode cX12_isPlayed 90 = .ok (.goto 4, 3) by decide +kernel) (by decide) ?_
      exact j_ret (rokZ (show decode cX12_isPlayed 94 = .ok (.ireturn, 1) by decide +kernel) rfl (Or.inr rfl)) ⟨rfl, rfl, h⟩
  · refine j_tableIn (tgt := 95) hr0 (show decode cX12_isPlayed 24 = .ok (.tableswitch 83 2 6 #[36, 51, 57, 71, 77], 36) by decide +kernel) (by omega) (by omega) (by rw [c]; rfl) (by decide) ?_
    have h := h.2.2.2.2.1 c
    refine s_aload_n (i := 0) rfl (show decode cX12_isPlayed 95 = .ok (.aload_n 0, 1) by decide +kernel) ?_
    refine j_iload_n (i := 2) rfl (show decode cX12_isPlayed 96 = .ok (.iload_n 2, 1) by decide +kernel) ?_
    refine j_ctV (m' := mX12_arePassed) (As := [iv (σ 324 (p1 + 1))]) (ci := 12) (tag := 0) (N := 0) (cw_X12_355 rfl) (show decode cX12_isPlayed 97 = .ok (.invokevirtual 355, 3) by decide +kernel) rfl (Nat.le_of_ble_eq_true rfl) (by decide) okl_321 rfl rfl (Nat.le_refl _) h (fun r8 σ8 h => ?_)
    have hz8 := h.1
    have h := h.2
    exact j_ret (rokZ (show decode cX12_isPlayed 100 = .ok (.ireturn, 1) by decide +kernel) rfl hz8) ⟨rfl, rfl, h⟩
  · refine j_tableIn (tgt := 101) hr0 (show decode cX12_isPlayed 24 = .ok (.tableswitch 83 2 6 #[36, 51, 57, 71, 77], 36) by decide +kernel) (by omega) (by omega) (by rw [c]; rfl) (by decide) ?_
    have h := h.2.2.2.2.2 c
    refine s_aload_n (i := 0) rfl (show decode cX12_isPlayed 101 = .ok (.aload_n 0, 1) by decide +kernel) ?_
    refine j_iload_n (i := 2) rfl (show decode cX12_isPlayed 102 = .ok (.iload_n 2, 1) by decide +kernel) ?_
    refine j_ctV (m' := mX12_isMade) (As := [iv (σ 324 (p1 + 1))]) (ci := 12) (tag := 0) (N := 0) (cw_X12_376 rfl) (show decode cX12_isPlayed 103 = .ok (.invokevirtual 376, 3) by decide +kernel) rfl (Nat.le_of_ble_eq_true rfl) (by decide) okl_321 rfl rfl (Nat.le_refl _) h (fun r10 σ10 h => ?_)
    have hz10 := h.1
    have h := h.2
    exact j_ret (rokZ (show decode cX12_isPlayed 106 = .ok (.ireturn, 1) by decide +kernel) rfl hz10) ⟨rfl, rfl, h⟩
theorem c_X12_isPlayed {d : Nat} {t : Int} {Q : Int → jM → Prop} {σ : jM} {p1 : Int} (h : ((0 : Int) ≤ (p1 + 1) ∧ (p1 + 1) < 2724) ∧ (((0 : Int) ≤ (p1 + 2) ∧ (p1 + 2) < 2724) ∧ (((0 : Int) ≤ p1 ∧ p1 < 2724) ∧ ((inR (σ 324 p1)) ∧ (((σ 324 p1) < 2 ∨ 6 < (σ 324 p1) → (Q 1 σ)) ∧ ((σ 324 p1) = 2 → (Ct mX12_join d 0 t [rv 321, iv (σ 324 (p1 + 1)), iv (σ 324 (p1 + 2))] σ (fun r2 σ2 => ((inR r2) ∧ ((r2 < 0 → (Q 0 σ2)) ∧ (0 ≤ r2 → (Q 1 σ2))))))) ∧ ((σ 324 p1) = 3 → (Ct mX12_pour d 0 t [rv 321, iv (σ 324 (p1 + 1))] σ (fun r4 σ4 => ((r4 = 0 ∨ r4 = 1) ∧ (Q r4 σ4))))) ∧ ((σ 324 p1) = 4 → (Ct mX12_bake d 0 t [rv 321, iv (σ 324 (p1 + 1))] σ (fun r6 σ6 => ((inR r6) ∧ ((r6 < 0 → (Q 0 σ6)) ∧ (0 ≤ r6 → (Q 1 σ6))))))) ∧ ((σ 324 p1) = 5 → (Ct mX12_arePassed d 0 t [rv 321, iv (σ 324 (p1 + 1))] σ (fun r8 σ8 => ((r8 = 0 ∨ r8 = 1) ∧ (Q r8 σ8))))) ∧ ((σ 324 p1) = 6 → (Ct mX12_isMade d 0 t [rv 321, iv (σ 324 (p1 + 1))] σ (fun r10 σ10 => ((r10 = 0 ∨ r10 = 1) ∧ (Q r10 σ10)))))))))) : Ct mX12_isPlayed (d + 1) 0 t [rv 321, iv p1] σ Q := Ct_of (by decide +kernel) (Nat.le_of_ble_eq_true rfl) (b_X12_isPlayed_0 h)
set_option maxRecDepth 4000 in
theorem b_X12_played_21 {d : Nat} {t : Int} {Q : Int → jM → Prop} {σ : jM} {p1 v2 : Int} (h : ((0 : Int) ≤ (681 * p1) ∧ (681 * p1) < 2724) ∧ ((inR v2) ∧ ((inR (σ 324 (681 * p1))) ∧ (((σ 324 (681 * p1)) ≤ v2 → (Q (-1) σ)) ∧ (v2 < (σ 324 (681 * p1)) → (Ct mX12_isPlayed d 0 t [rv 321, iv (((681 * p1) + 1) + (3 * v2))] σ (fun r3 σ3 => ((inR r3) ∧ ((¬ r3 = 0 → (Jt mX12_played (d + 1) 0 t Q 21 [rv 321, iv p1, iv (v2 + 1)] [] σ3)) ∧ (r3 = 0 → (Q v2 σ3))))))))))) : Jt mX12_played (d + 1) 0 t Q 21 [rv 321, iv p1, iv v2] [] σ := by
  refine j_iload_n (i := 2) rfl (show decode cX12_played 21 = .ok (.iload_n 2, 1) by decide +kernel) ?_
  refine s_aload_n (i := 0) rfl (show decode cX12_played 22 = .ok (.aload_n 0, 1) by decide +kernel) ?_
  refine gf_X12_16 (x := 324) rfl (show decode cX12_played 23 = .ok (.getfield 16, 3) by decide +kernel) okl_321 rfl ?_
  refine j_sipush (n := 681) (by decide +kernel) (show decode cX12_played 26 = .ok (.sipush 681, 3) by decide +kernel) ?_
  refine j_iload_n (i := 1) rfl (show decode cX12_played 29 = .ok (.iload_n 1, 1) by decide +kernel) ?_
  refine j_imul (show decode cX12_played 30 = .ok (.imul, 1) by decide +kernel) ?_
  refine s_iald (show decode cX12_played 31 = .ok (.iaload, 1) by decide +kernel) okl_324 h.1 ?_
  have h := h.2
  have hr0 := h.1
  have h := h.2
  have hr1 := h.1
  have h := h.2
  refine j_icmp_ge (tgt := 61) hr0 hr1 (show decode cX12_played 32 = .ok (.if_icmp .ge 29, 3) by decide +kernel) (by decide) (fun c => ?_) (fun c => ?_)
  · have h := h.1 c
    refine j_iconst (show decode cX12_played 61 = .ok (.iconst (-1), 1) by decide +kernel) ?_
    exact j_ret (rokI (show decode cX12_played 62 = .ok (.ireturn, 1) by decide +kernel) rfl) ⟨rfl, rfl, h⟩
  · have h := h.2 c
    refine s_aload_n (i := 0) rfl (show decode cX12_played 35 = .ok (.aload_n 0, 1) by decide +kernel) ?_
    refine j_sipush (n := 681) (by decide +kernel) (show decode cX12_played 36 = .ok (.sipush 681, 3) by decide +kernel) ?_
    refine j_iload_n (i := 1) rfl (show decode cX12_played 39 = .ok (.iload_n 1, 1) by decide +kernel) ?_
    refine j_imul (show decode cX12_played 40 = .ok (.imul, 1) by decide +kernel) ?_
    refine j_iconst (show decode cX12_played 41 = .ok (.iconst 1, 1) by decide +kernel) ?_
    refine j_iadd (show decode cX12_played 42 = .ok (.iadd, 1) by decide +kernel) ?_
    refine j_iconst (show decode cX12_played 43 = .ok (.iconst 3, 1) by decide +kernel) ?_
    refine j_iload_n (i := 2) rfl (show decode cX12_played 44 = .ok (.iload_n 2, 1) by decide +kernel) ?_
    refine j_imul (show decode cX12_played 45 = .ok (.imul, 1) by decide +kernel) ?_
    refine j_iadd (show decode cX12_played 46 = .ok (.iadd, 1) by decide +kernel) ?_
    refine j_ctV (m' := mX12_isPlayed) (As := [iv (((681 * p1) + 1) + (3 * v2))]) (ci := 12) (tag := 0) (N := 0) (cw_X12_379 rfl) (show decode cX12_played 47 = .ok (.invokevirtual 379, 3) by decide +kernel) rfl (Nat.le_of_ble_eq_true rfl) (by decide) okl_321 rfl rfl (Nat.le_refl _) h (fun r3 σ3 h => ?_)
    have hr3 := h.1
    have h := h.2
    refine j_if_ne (tgt := 55) hr3 (show decode cX12_played 50 = .ok (.ifCond .ne 5, 3) by decide +kernel) (by decide) (fun c => ?_) (fun c => ?_)
    · have h := h.1 c
      refine s_iinc (i := 2) rfl (L' := [rv 321, iv p1, iv (v2 + 1)]) rfl (show decode cX12_played 55 = .ok (.iinc 2 1, 3) by decide +kernel) ?_
      refine j_goto (tgt := 21) (show decode cX12_played 58 = .ok (.goto (-37), 3) by decide +kernel) (by decide) ?_
      exact h
    · have h := h.2 c
      refine j_iload_n (i := 2) rfl (show decode cX12_played 53 = .ok (.iload_n 2, 1) by decide +kernel) ?_
      exact j_ret (rokI (show decode cX12_played 54 = .ok (.ireturn, 1) by decide +kernel) rfl) ⟨rfl, rfl, h⟩
set_option maxRecDepth 4000 in
theorem b_X12_played_0 {d : Nat} {t : Int} {Q : Int → jM → Prop} {σ : jM} {p1 : Int} (h : ((0 : Int) ≤ 0 ∧ (0 : Int) < 2208) ∧ (Ct mX12_isIn d 0 t [iv p1, iv 0, iv ((σ 322 0) - 1)] σ (fun r1 σ1 => ((inR r1) ∧ ((¬ r1 = 0 → (Jt mX12_played (d + 1) 0 t Q 21 [rv 321, iv p1, iv 0] [] σ1)) ∧ (r1 = 0 → (Q (-2) σ1))))))) : Jt mX12_played (d + 1) 0 t Q 0 [rv 321, iv p1, uv] [] σ := by
  refine j_iload_n (i := 1) rfl (show decode cX12_played 0 = .ok (.iload_n 1, 1) by decide +kernel) ?_
  refine j_iconst (show decode cX12_played 1 = .ok (.iconst 0, 1) by decide +kernel) ?_
  refine s_aload_n (i := 0) rfl (show decode cX12_played 2 = .ok (.aload_n 0, 1) by decide +kernel) ?_
  refine gf_X12_7 (x := 322) rfl (show decode cX12_played 3 = .ok (.getfield 7, 3) by decide +kernel) okl_321 rfl ?_
  refine j_iconst (show decode cX12_played 6 = .ok (.iconst 0, 1) by decide +kernel) ?_
  refine s_iald (show decode cX12_played 7 = .ok (.iaload, 1) by decide +kernel) okl_322 h.1 ?_
  have h := h.2
  refine j_iconst (show decode cX12_played 8 = .ok (.iconst 1, 1) by decide +kernel) ?_
  refine j_isub (show decode cX12_played 9 = .ok (.isub, 1) by decide +kernel) ?_
  refine j_ctS (m' := mX12_isIn) (As := [iv p1, iv 0, iv ((σ 322 0) - 1)]) (tag := 0) (cw_X12_85 rfl) (show decode cX12_played 10 = .ok (.invokestatic 85, 3) by decide +kernel) rfl (Nat.le_of_ble_eq_true rfl) (by decide) (Nat.le_refl _) h (fun r1 σ1 h => ?_)
  have hr1 := h.1
  have h := h.2
  refine j_if_ne (tgt := 19) hr1 (show decode cX12_played 13 = .ok (.ifCond .ne 6, 3) by decide +kernel) (by decide) (fun c => ?_) (fun c => ?_)
  · have h := h.1 c
    refine j_iconst (show decode cX12_played 19 = .ok (.iconst 0, 1) by decide +kernel) ?_
    refine s_ist_n (i := 2) (L' := [rv 321, iv p1, iv 0]) rfl (by decide) (show decode cX12_played 20 = .ok (.istore_n 2, 1) by decide +kernel) ?_
    exact h
  · have h := h.2 c
    refine j_bipush (n := -2) (by decide +kernel) (show decode cX12_played 16 = .ok (.bipush (-2), 2) by decide +kernel) ?_
    exact j_ret (rokI (show decode cX12_played 18 = .ok (.ireturn, 1) by decide +kernel) rfl) ⟨rfl, rfl, h⟩
theorem c_X12_played {d : Nat} {t : Int} {Q : Int → jM → Prop} {σ : jM} {p1 : Int} (h : ((0 : Int) ≤ 0 ∧ (0 : Int) < 2208) ∧ (Ct mX12_isIn d 0 t [iv p1, iv 0, iv ((σ 322 0) - 1)] σ (fun r1 σ1 => ((inR r1) ∧ ((¬ r1 = 0 → (Jt mX12_played (d + 1) 0 t Q 21 [rv 321, iv p1, iv 0] [] σ1)) ∧ (r1 = 0 → (Q (-2) σ1))))))) : Ct mX12_played (d + 1) 0 t [rv 321, iv p1] σ Q := Ct_of (by decide +kernel) (Nat.le_of_ble_eq_true rfl) (b_X12_played_0 h)
set_option maxRecDepth 4000 in
theorem b_X12_happens_0 {d : Nat} {t : Int} {Q : Int → jM → Prop} {σ : jM} {p1 : Int} (h : (inR p1) ∧ ((inR (Int.tdiv p1 6)) ∧ ((inR p1) ∧ ((inR (Int.tmod p1 6)) ∧ (((Int.tmod p1 6) < 0 ∨ 3 < (Int.tmod p1 6) → (((0 : Int) ≤ 6 ∧ (6 : Int) < 2208) ∧ ((inR (σ 322 6)) ∧ ((9999 ≤ (σ 322 6) → (Q 0 σ)) ∧ ((σ 322 6) < 9999 → (Ct mX12_pass d 9 t [rv 321] σ (fun r6 σ6 => (Q 0 σ6)))))))) ∧ ((Int.tmod p1 6) = 0 → ((inR p1) ∧ (Ct mX12_canJoin d 0 t [rv 321, iv (Int.tmod (Int.tdiv p1 6) 8), iv (Int.tmod p1 8)] σ (fun r8 σ8 => ((inR r8) ∧ ((r8 = 0 → (Q 0 σ8)) ∧ (¬ r8 = 0 → ((inR p1) ∧ (Ct mX12_joinNow d 0 t [rv 321, iv (Int.tmod (Int.tdiv p1 6) 8), iv (Int.tmod p1 8)] σ8 (fun r11 σ11 => (Q 0 σ11))))))))))) ∧ ((Int.tmod p1 6) = 1 → ((inR p1) ∧ (Ct mX12_canJoin d 0 t [rv 321, iv (Int.tmod (Int.tdiv p1 6) 8), iv (Int.tmod p1 8)] σ (fun r13 σ13 => ((inR r13) ∧ ((r13 = 0 → (Q 0 σ13)) ∧ (¬ r13 = 0 → ((inR p1) ∧ (Ct mX12_joinNow d 0 t [rv 321, iv (Int.tmod (Int.tdiv p1 6) 8), iv (Int.tmod p1 8)] σ13 (fun r16 σ16 => (Q 0 σ16))))))))))) ∧ ((Int.tmod p1 6) = 2 → ((inR p1) ∧ ((inR (Int.tmod p1 4)) ∧ ((¬ (Int.tmod p1 4) = 0 → (Q 0 σ)) ∧ ((Int.tmod p1 4) = 0 → (Ct mX12_isFull d 0 t [rv 321, iv (Int.tmod (Int.tdiv p1 6) 8)] σ (fun r19 σ19 => ((inR r19) ∧ ((r19 = 0 → (Q 0 σ19)) ∧ (¬ r19 = 0 → (Ct mX12_emptyNow d 9 t [rv 321, iv (Int.tmod (Int.tdiv p1 6) 8), iv 1] σ19 (fun r21 σ21 => (Q 0 σ21))))))))))))) ∧ ((Int.tmod p1 6) = 3 → ((inR p1) ∧ ((inR (Int.tmod p1 4)) ∧ ((¬ (Int.tmod p1 4) = 1 → (Q 0 σ)) ∧ ((Int.tmod p1 4) = 1 → (Ct mX12_isFull d 0 t [rv 321, iv (Int.tmod (Int.tdiv p1 6) 8)] σ (fun r24 σ24 => ((inR r24) ∧ ((r24 = 0 → (Q 0 σ24)) ∧ (¬ r24 = 0 → (Ct mX12_bakeNow d 0 t [rv 321, iv (Int.tmod (Int.tdiv p1 6) 8)] σ24 (fun r26 σ26 => (Q 0 σ26)))))))))))))))))) : Jt mX12_happens (d + 1) 9 t Q 0 [rv 321, iv p1, uv] [] σ := by
  refine j_iload_n (i := 1) rfl (show decode cX12_happens 0 = .ok (.iload_n 1, 1) by decide +kernel) ?_
  refine j_bipush (n := 6) (by decide +kernel) (show decode cX12_happens 1 = .ok (.bipush 6, 2) by decide +kernel) ?_
  have hr0 := h.1
  have h := h.2
  refine j_idiv hr0 (inl (by decide)) (by decide) (show decode cX12_happens 3 = .ok (.idiv, 1) by decide +kernel) ?_
  refine j_bipush (n := 8) (by decide +kernel) (show decode cX12_happens 4 = .ok (.bipush 8, 2) by decide +kernel) ?_
  have hr1 := h.1
  have h := h.2
  refine j_irem hr1 (inl (by decide)) (by decide) (show decode cX12_happens 6 = .ok (.irem, 1) by decide +kernel) ?_
  refine s_ist_n (i := 2) (L' := [rv 321, iv p1, iv (Int.tmod (Int.tdiv p1 6) 8)]) rfl (by decide) (show decode cX12_happens 7 = .ok (.istore_n 2, 1) by decide +kernel) ?_
  refine j_iload_n (i := 1) rfl (show decode cX12_happens 8 = .ok (.iload_n 1, 1) by decide +kernel) ?_
  refine j_bipush (n := 6) (by decide +kernel) (show decode cX12_happens 9 = .ok (.bipush 6, 2) by decide +kernel) ?_
  have hr2 := h.1
  have h := h.2
  refine j_irem hr2 (inl (by decide)) (by decide) (show decode cX12_happens 11 = .ok (.irem, 1) by decide +kernel) ?_
  have hr3 := h.1
  have h := h.2
  rcases (show ((Int.tmod p1 6) < 0 ∨ 3 < (Int.tmod p1 6)) ∨ (Int.tmod p1 6) = 0 ∨ (Int.tmod p1 6) = 1 ∨ (Int.tmod p1 6) = 2 ∨ (Int.tmod p1 6) = 3 by omega) with c | c | c | c | c
  · refine j_tableOut (tgt := 116) hr3 (show decode cX12_happens 12 = .ok (.tableswitch 104 0 3 #[32, 32, 57, 80], 32) by decide +kernel) c (by decide) ?_
    have h := h.1 c
    refine s_aload_n (i := 0) rfl (show decode cX12_happens 116 = .ok (.aload_n 0, 1) by decide +kernel) ?_
    refine gf_X12_7 (x := 322) rfl (show decode cX12_happens 117 = .ok (.getfield 7, 3) by decide +kernel) okl_321 rfl ?_
    refine j_bipush (n := 6) (by decide +kernel) (show decode cX12_happens 120 = .ok (.bipush 6, 2) by decide +kernel) ?_
    refine s_iald (show decode cX12_happens 122 = .ok (.iaload, 1) by decide +kernel) okl_322 h.1 ?_
    have h := h.2
    refine j_sipush (n := 9999) (by decide +kernel) (show decode cX12_happens 123 = .ok (.sipush 9999, 3) by decide +kernel) ?_
    have hr4 := h.1
    have h := h.2
    refine j_icmp_ge (tgt := 133) hr4 (inl (by decide)) (show decode cX12_happens 126 = .ok (.if_icmp .ge 7, 3) by decide +kernel) (by decide) (fun c => ?_) (fun c => ?_)
    · have h := h.1 c
      exact j_ret (rokV (show decode cX12_happens 133 = .ok (.return_, 1) by decide +kernel) rfl) ⟨rfl, rfl, h⟩
    · have h := h.2 c
      refine s_aload_n (i := 0) rfl (show decode cX12_happens 129 = .ok (.aload_n 0, 1) by decide +kernel) ?_
      refine j_ctVv (m' := mX12_pass) (As := []) (ci := 12) (N := 0) (cw_X12_352 rfl) (show decode cX12_happens 130 = .ok (.invokevirtual 352, 3) by decide +kernel) rfl (Nat.le_of_ble_eq_true rfl) okl_321 rfl rfl (Nat.le_refl _) h (fun r6 σ6 h => ?_)
      exact j_ret (rokV (show decode cX12_happens 133 = .ok (.return_, 1) by decide +kernel) rfl) ⟨rfl, rfl, h⟩
  · refine j_tableIn (tgt := 44) hr3 (show decode cX12_happens 12 = .ok (.tableswitch 104 0 3 #[32, 32, 57, 80], 32) by decide +kernel) (by omega) (by omega) (by rw [c]; rfl) (by decide) ?_
    have h := h.2.1 c
    refine s_aload_n (i := 0) rfl (show decode cX12_happens 44 = .ok (.aload_n 0, 1) by decide +kernel) ?_
    refine j_iload_n (i := 2) rfl (show decode cX12_happens 45 = .ok (.iload_n 2, 1) by decide +kernel) ?_
    refine j_iload_n (i := 1) rfl (show decode cX12_happens 46 = .ok (.iload_n 1, 1) by decide +kernel) ?_
    refine j_bipush (n := 8) (by decide +kernel) (show decode cX12_happens 47 = .ok (.bipush 8, 2) by decide +kernel) ?_
    have hr6 := h.1
    have h := h.2
    refine j_irem hr6 (inl (by decide)) (by decide) (show decode cX12_happens 49 = .ok (.irem, 1) by decide +kernel) ?_
    refine j_ctV (m' := mX12_canJoin) (As := [iv (Int.tmod (Int.tdiv p1 6) 8), iv (Int.tmod p1 8)]) (ci := 12) (tag := 0) (N := 0) (cw_X12_340 rfl) (show decode cX12_happens 50 = .ok (.invokevirtual 340, 3) by decide +kernel) rfl (Nat.le_of_ble_eq_true rfl) (by decide) okl_321 rfl rfl (Nat.le_refl _) h (fun r8 σ8 h => ?_)
    have hr8 := h.1
    have h := h.2
    refine j_if_eq (tgt := 133) hr8 (show decode cX12_happens 53 = .ok (.ifCond .eq 80, 3) by decide +kernel) (by decide) (fun c => ?_) (fun c => ?_)
    · have h := h.1 c
      exact j_ret (rokV (show decode cX12_happens 133 = .ok (.return_, 1) by decide +kernel) rfl) ⟨rfl, rfl, h⟩
    · have h := h.2 c
      refine s_aload_n (i := 0) rfl (show decode cX12_happens 56 = .ok (.aload_n 0, 1) by decide +kernel) ?_
      refine j_iload_n (i := 2) rfl (show decode cX12_happens 57 = .ok (.iload_n 2, 1) by decide +kernel) ?_
      refine j_iload_n (i := 1) rfl (show decode cX12_happens 58 = .ok (.iload_n 1, 1) by decide +kernel) ?_
      refine j_bipush (n := 8) (by decide +kernel) (show decode cX12_happens 59 = .ok (.bipush 8, 2) by decide +kernel) ?_
      have hr9 := h.1
      have h := h.2
      refine j_irem hr9 (inl (by decide)) (by decide) (show decode cX12_happens 61 = .ok (.irem, 1) by decide +kernel) ?_
      refine j_ctV (m' := mX12_joinNow) (As := [iv (Int.tmod (Int.tdiv p1 6) 8), iv (Int.tmod p1 8)]) (ci := 12) (tag := 0) (N := 0) (cw_X12_346 rfl) (show decode cX12_happens 62 = .ok (.invokevirtual 346, 3) by decide +kernel) rfl (Nat.le_of_ble_eq_true rfl) (by decide) okl_321 rfl rfl (Nat.le_refl _) h (fun r11 σ11 h => ?_)
      refine j_pop (show (0 : Nat) ≠ 1 by decide) (show decode cX12_happens 65 = .ok (.pop, 1) by decide +kernel) ?_
      refine j_goto (tgt := 133) (show decode cX12_happens 66 = .ok (.goto 67, 3) by decide +kernel) (by decide) ?_
      exact j_ret (rokV (show decode cX12_happens 133 = .ok (.return_, 1) by decide +kernel) rfl) ⟨rfl, rfl, h⟩
  · refine j_tableIn (tgt := 44) hr3 (show decode cX12_happens 12 = .ok (.tableswitch 104 0 3 #[32, 32, 57, 80], 32) by decide +kernel) (by omega) (by omega) (by rw [c]; rfl) (by decide) ?_
    have h := h.2.2.1 c
    refine s_aload_n (i := 0) rfl (show decode cX12_happens 44 = .ok (.aload_n 0, 1) by decide +kernel) ?_
    refine j_iload_n (i := 2) rfl (show decode cX12_happens 45 = .ok (.iload_n 2, 1) by decide +kernel) ?_
    refine j_iload_n (i := 1) rfl (show decode cX12_happens 46 = .ok (.iload_n 1, 1) by decide +kernel) ?_
    refine j_bipush (n := 8) (by decide +kernel) (show decode cX12_happens 47 = .ok (.bipush 8, 2) by decide +kernel) ?_
    have hr11 := h.1
    have h := h.2
    refine j_irem hr11 (inl (by decide)) (by decide) (show decode cX12_happens 49 = .ok (.irem, 1) by decide +kernel) ?_
    refine j_ctV (m' := mX12_canJoin) (As := [iv (Int.tmod (Int.tdiv p1 6) 8), iv (Int.tmod p1 8)]) (ci := 12) (tag := 0) (N := 0) (cw_X12_340 rfl) (show decode cX12_happens 50 = .ok (.invokevirtual 340, 3) by decide +kernel) rfl (Nat.le_of_ble_eq_true rfl) (by decide) okl_321 rfl rfl (Nat.le_refl _) h (fun r13 σ13 h => ?_)
    have hr13 := h.1
    have h := h.2
    refine j_if_eq (tgt := 133) hr13 (show decode cX12_happens 53 = .ok (.ifCond .eq 80, 3) by decide +kernel) (by decide) (fun c => ?_) (fun c => ?_)
    · have h := h.1 c
      exact j_ret (rokV (show decode cX12_happens 133 = .ok (.return_, 1) by decide +kernel) rfl) ⟨rfl, rfl, h⟩
    · have h := h.2 c
      refine s_aload_n (i := 0) rfl (show decode cX12_happens 56 = .ok (.aload_n 0, 1) by decide +kernel) ?_
      refine j_iload_n (i := 2) rfl (show decode cX12_happens 57 = .ok (.iload_n 2, 1) by decide +kernel) ?_
      refine j_iload_n (i := 1) rfl (show decode cX12_happens 58 = .ok (.iload_n 1, 1) by decide +kernel) ?_
      refine j_bipush (n := 8) (by decide +kernel) (show decode cX12_happens 59 = .ok (.bipush 8, 2) by decide +kernel) ?_
      have hr14 := h.1
      have h := h.2
      refine j_irem hr14 (inl (by decide)) (by decide) (show decode cX12_happens 61 = .ok (.irem, 1) by decide +kernel) ?_
      refine j_ctV (m' := mX12_joinNow) (As := [iv (Int.tmod (Int.tdiv p1 6) 8), iv (Int.tmod p1 8)]) (ci := 12) (tag := 0) (N := 0) (cw_X12_346 rfl) (show decode cX12_happens 62 = .ok (.invokevirtual 346, 3) by decide +kernel) rfl (Nat.le_of_ble_eq_true rfl) (by decide) okl_321 rfl rfl (Nat.le_refl _) h (fun r16 σ16 h => ?_)
      refine j_pop (show (0 : Nat) ≠ 1 by decide) (show decode cX12_happens 65 = .ok (.pop, 1) by decide +kernel) ?_
      refine j_goto (tgt := 133) (show decode cX12_happens 66 = .ok (.goto 67, 3) by decide +kernel) (by decide) ?_
      exact j_ret (rokV (show decode cX12_happens 133 = .ok (.return_, 1) by decide +kernel) rfl) ⟨rfl, rfl, h⟩
  · refine j_tableIn (tgt := 69) hr3 (show decode cX12_happens 12 = .ok (.tableswitch 104 0 3 #[32, 32, 57, 80], 32) by decide +kernel) (by omega) (by omega) (by rw [c]; rfl) (by decide) ?_
    have h := h.2.2.2.1 c
    refine j_iload_n (i := 1) rfl (show decode cX12_happens 69 = .ok (.iload_n 1, 1) by decide +kernel) ?_
    refine j_iconst (show decode cX12_happens 70 = .ok (.iconst 4, 1) by decide +kernel) ?_
    have hr16 := h.1
    have h := h.2
    refine j_irem hr16 (inl (by decide)) (by decide) (show decode cX12_happens 71 = .ok (.irem, 1) by decide +kernel) ?_
    have hr17 := h.1
    have h := h.2
    refine j_if_ne (tgt := 133) hr17 (show decode cX12_happens 72 = .ok (.ifCond .ne 61, 3) by decide +kernel) (by decide) (fun c => ?_) (fun c => ?_)
    · have h := h.1 c
      exact j_ret (rokV (show decode cX12_happens 133 = .ok (.return_, 1) by decide +kernel) rfl) ⟨rfl, rfl, h⟩
    · have h := h.2 c
      refine s_aload_n (i := 0) rfl (show decode cX12_happens 75 = .ok (.aload_n 0, 1) by decide +kernel) ?_
      refine j_iload_n (i := 2) rfl (show decode cX12_happens 76 = .ok (.iload_n 2, 1) by decide +kernel) ?_
      refine j_ctV (m' := mX12_isFull) (As := [iv (Int.tmod (Int.tdiv p1 6) 8)]) (ci := 12) (tag := 0) (N := 0) (cw_X12_93 rfl) (show decode cX12_happens 77 = .ok (.invokevirtual 93, 3) by decide +kernel) rfl (Nat.le_of_ble_eq_true rfl) (by decide) okl_321 rfl rfl (Nat.le_refl _) h (fun r19 σ19 h => ?_)
      have hr19 := h.1
      have h := h.2
      refine j_if_eq (tgt := 133) hr19 (show decode cX12_happens 80 = .ok (.ifCond .eq 53, 3) by decide +kernel) (by decide) (fun c => ?_) (fun c => ?_)
      · have h := h.1 c
        exact j_ret (rokV (show decode cX12_happens 133 = .ok (.return_, 1) by decide +kernel) rfl) ⟨rfl, rfl, h⟩
      · have h := h.2 c
        refine s_aload_n (i := 0) rfl (show decode cX12_happens 83 = .ok (.aload_n 0, 1) by decide +kernel) ?_
        refine j_iload_n (i := 2) rfl (show decode cX12_happens 84 = .ok (.iload_n 2, 1) by decide +kernel) ?_
        refine j_iconst (show decode cX12_happens 85 = .ok (.iconst 1, 1) by decide +kernel) ?_
        refine j_ctVv (m' := mX12_emptyNow) (As := [iv (Int.tmod (Int.tdiv p1 6) 8), iv 1]) (ci := 12) (N := 0) (cw_X12_328 rfl) (show decode cX12_happens 86 = .ok (.invokevirtual 328, 3) by decide +kernel) rfl (Nat.le_of_ble_eq_true rfl) okl_321 rfl rfl (Nat.le_refl _) h (fun r21 σ21 h => ?_)
        refine j_goto (tgt := 133) (show decode cX12_happens 89 = .ok (.goto 44, 3) by decide +kernel) (by decide) ?_
        exact j_ret (rokV (show decode cX12_happens 133 = .ok (.return_, 1) by decide +kernel) rfl) ⟨rfl, rfl, h⟩
  · refine j_tableIn (tgt := 92) hr3 (show decode cX12_happens 12 = .ok (.tableswitch 104 0 3 #[32, 32, 57, 80], 32) by decide +kernel) (by omega) (by omega) (by rw [c]; rfl) (by decide) ?_
    have h := h.2.2.2.2 c
    refine j_iload_n (i := 1) rfl (show decode cX12_happens 92 = .ok (.iload_n 1, 1) by decide +kernel) ?_
    refine j_iconst (show decode cX12_happens 93 = .ok (.iconst 4, 1) by decide +kernel) ?_
    have hr21 := h.1
    have h := h.2
    refine j_irem hr21 (inl (by decide)) (by decide) (show decode cX12_happens 94 = .ok (.irem, 1) by decide +kernel) ?_
    refine j_iconst (show decode cX12_happens 95 = .ok (.iconst 1, 1) by decide +kernel) ?_
    have hr22 := h.1
    have h := h.2
    refine j_icmp_ne (tgt := 133) hr22 (inl (by decide)) (show decode cX12_happens 96 = .ok (.if_icmp .ne 37, 3) by decide +kernel) (by decide) (fun c => ?_) (fun c => ?_)
    · have h := h.1 c
      exact j_ret (rokV (show decode cX12_happens 133 = .ok (.return_, 1) by decide +kernel) rfl) ⟨rfl, rfl, h⟩
    · have h := h.2 c
      refine s_aload_n (i := 0) rfl (show decode cX12_happens 99 = .ok (.aload_n 0, 1) by decide +kernel) ?_
      refine j_iload_n (i := 2) rfl (show decode cX12_happens 100 = .ok (.iload_n 2, 1) by decide +kernel) ?_
      refine j_ctV (m' := mX12_isFull) (As := [iv (Int.tmod (Int.tdiv p1 6) 8)]) (ci := 12) (tag := 0) (N := 0) (cw_X12_93 rfl) (show decode cX12_happens 101 = .ok (.invokevirtual 93, 3) by decide +kernel) rfl (Nat.le_of_ble_eq_true rfl) (by decide) okl_321 rfl rfl (Nat.le_refl _) h (fun r24 σ24 h => ?_)
      have hr24 := h.1
      have h := h.2
      refine j_if_eq (tgt := 133) hr24 (show decode cX12_happens 104 = .ok (.ifCond .eq 29, 3) by decide +kernel) (by decide) (fun c => ?_) (fun c => ?_)
      · have h := h.1 c
        exact j_ret (rokV (show decode cX12_happens 133 = .ok (.return_, 1) by decide +kernel) rfl) ⟨rfl, rfl, h⟩
      · have h := h.2 c
        refine s_aload_n (i := 0) rfl (show decode cX12_happens 107 = .ok (.aload_n 0, 1) by decide +kernel) ?_
        refine j_iload_n (i := 2) rfl (show decode cX12_happens 108 = .ok (.iload_n 2, 1) by decide +kernel) ?_
        refine j_ctV (m' := mX12_bakeNow) (As := [iv (Int.tmod (Int.tdiv p1 6) 8)]) (ci := 12) (tag := 0) (N := 0) (cw_X12_349 rfl) (show decode cX12_happens 109 = .ok (.invokevirtual 349, 3) by decide +kernel) rfl (Nat.le_of_ble_eq_true rfl) (by decide) okl_321 rfl rfl (Nat.le_refl _) h (fun r26 σ26 h => ?_)
        refine j_pop (show (0 : Nat) ≠ 1 by decide) (show decode cX12_happens 112 = .ok (.pop, 1) by decide +kernel) ?_
        refine j_goto (tgt := 133) (show decode cX12_happens 113 = .ok (.goto 20, 3) by decide +kernel) (by decide) ?_
        exact j_ret (rokV (show decode cX12_happens 133 = .ok (.return_, 1) by decide +kernel) rfl) ⟨rfl, rfl, h⟩
theorem c_X12_happens {d : Nat} {t : Int} {Q : Int → jM → Prop} {σ : jM} {p1 : Int} (h : (inR p1) ∧ ((inR (Int.tdiv p1 6)) ∧ ((inR p1) ∧ ((inR (Int.tmod p1 6)) ∧ (((Int.tmod p1 6) < 0 ∨ 3 < (Int.tmod p1 6) → (((0 : Int) ≤ 6 ∧ (6 : Int) < 2208) ∧ ((inR (σ 322 6)) ∧ ((9999 ≤ (σ 322 6) → (Q 0 σ)) ∧ ((σ 322 6) < 9999 → (Ct mX12_pass d 9 t [rv 321] σ (fun r6 σ6 => (Q 0 σ6)))))))) ∧ ((Int.tmod p1 6) = 0 → ((inR p1) ∧ (Ct mX12_canJoin d 0 t [rv 321, iv (Int.tmod (Int.tdiv p1 6) 8), iv (Int.tmod p1 8)] σ (fun r8 σ8 => ((inR r8) ∧ ((r8 = 0 → (Q 0 σ8)) ∧ (¬ r8 = 0 → ((inR p1) ∧ (Ct mX12_joinNow d 0 t [rv 321, iv (Int.tmod (Int.tdiv p1 6) 8), iv (Int.tmod p1 8)] σ8 (fun r11 σ11 => (Q 0 σ11))))))))))) ∧ ((Int.tmod p1 6) = 1 → ((inR p1) ∧ (Ct mX12_canJoin d 0 t [rv 321, iv (Int.tmod (Int.tdiv p1 6) 8), iv (Int.tmod p1 8)] σ (fun r13 σ13 => ((inR r13) ∧ ((r13 = 0 → (Q 0 σ13)) ∧ (¬ r13 = 0 → ((inR p1) ∧ (Ct mX12_joinNow d 0 t [rv 321, iv (Int.tmod (Int.tdiv p1 6) 8), iv (Int.tmod p1 8)] σ13 (fun r16 σ16 => (Q 0 σ16))))))))))) ∧ ((Int.tmod p1 6) = 2 → ((inR p1) ∧ ((inR (Int.tmod p1 4)) ∧ ((¬ (Int.tmod p1 4) = 0 → (Q 0 σ)) ∧ ((Int.tmod p1 4) = 0 → (Ct mX12_isFull d 0 t [rv 321, iv (Int.tmod (Int.tdiv p1 6) 8)] σ (fun r19 σ19 => ((inR r19) ∧ ((r19 = 0 → (Q 0 σ19)) ∧ (¬ r19 = 0 → (Ct mX12_emptyNow d 9 t [rv 321, iv (Int.tmod (Int.tdiv p1 6) 8), iv 1] σ19 (fun r21 σ21 => (Q 0 σ21))))))))))))) ∧ ((Int.tmod p1 6) = 3 → ((inR p1) ∧ ((inR (Int.tmod p1 4)) ∧ ((¬ (Int.tmod p1 4) = 1 → (Q 0 σ)) ∧ ((Int.tmod p1 4) = 1 → (Ct mX12_isFull d 0 t [rv 321, iv (Int.tmod (Int.tdiv p1 6) 8)] σ (fun r24 σ24 => ((inR r24) ∧ ((r24 = 0 → (Q 0 σ24)) ∧ (¬ r24 = 0 → (Ct mX12_bakeNow d 0 t [rv 321, iv (Int.tmod (Int.tdiv p1 6) 8)] σ24 (fun r26 σ26 => (Q 0 σ26)))))))))))))))))) : Ct mX12_happens (d + 1) 9 t [rv 321, iv p1] σ Q := Ct_of (by decide +kernel) (Nat.le_of_ble_eq_true rfl) (b_X12_happens_0 h)
set_option maxRecDepth 4000 in
theorem b_X12_years_43 {d : Nat} {t : Int} {Q : Int → jM → Prop} {σ : jM} {p1 p2 v3 : Int} (h : (inR v3) ∧ ((inR p2) ∧ ((p2 ≤ v3 → (((0 : Int) ≤ 6 ∧ (6 : Int) < 2208) ∧ (Q (σ 322 6) σ))) ∧ (v3 < p2 → (((0 : Int) ≤ 7 ∧ (7 : Int) < 2208) ∧ (Ct mX12_anew d 9 t [rv 321] σ (fun r3 σ3 => (Ct mX12_happens d 9 t [rv 321, iv (σ 322 7)] σ3 (fun r4 σ4 => (Jt mX12_years (d + 1) 0 t Q 43 [rv 321, iv p1, iv p2, iv (v3 + 1), uv] [] σ4)))))))))) : Jt mX12_years (d + 1) 0 t Q 43 [rv 321, iv p1, iv p2, iv v3, uv] [] σ := by
  refine j_iload_n (i := 3) rfl (show decode cX12_years 43 = .ok (.iload_n 3, 1) by decide +kernel) ?_
  refine j_iload_n (i := 2) rfl (show decode cX12_years 44 = .ok (.iload_n 2, 1) by decide +kernel) ?_
  have hr0 := h.1
  have h := h.2
  have hr1 := h.1
  have h := h.2
  refine j_icmp_ge (tgt := 73) hr0 hr1 (show decode cX12_years 45 = .ok (.if_icmp .ge 28, 3) by decide +kernel) (by decide) (fun c => ?_) (fun c => ?_)
  · have h := h.1 c
    refine s_aload_n (i := 0) rfl (show decode cX12_years 73 = .ok (.aload_n 0, 1) by decide +kernel) ?_
    refine gf_X12_7 (x := 322) rfl (show decode cX12_years 74 = .ok (.getfield 7, 3) by decide +kernel) okl_321 rfl ?_
    refine j_bipush (n := 6) (by decide +kernel) (show decode cX12_years 77 = .ok (.bipush 6, 2) by decide +kernel) ?_
    refine s_iald (show decode cX12_years 79 = .ok (.iaload, 1) by decide +kernel) okl_322 h.1 ?_
    have h := h.2
    exact j_ret (rokI (show decode cX12_years 80 = .ok (.ireturn, 1) by decide +kernel) rfl) ⟨rfl, rfl, h⟩
  · have h := h.2 c
    refine s_aload_n (i := 0) rfl (show decode cX12_years 48 = .ok (.aload_n 0, 1) by decide +kernel) ?_
    refine gf_X12_7 (x := 322) rfl (show decode cX12_years 49 = .ok (.getfield 7, 3) by decide +kernel) okl_321 rfl ?_
    refine j_bipush (n := 7) (by decide +kernel) (show decode cX12_years 52 = .ok (.bipush 7, 2) by decide +kernel) ?_
    refine s_iald (show decode cX12_years 54 = .ok (.iaload, 1) by decide +kernel) okl_322 h.1 ?_
    have h := h.2
    refine s_ist (i := 4) (L' := [rv 321, iv p1, iv p2, iv v3, iv (σ 322 7)]) rfl (by decide) (show decode cX12_years 55 = .ok (.istore 4, 2) by decide +kernel) ?_
    refine s_aload_n (i := 0) rfl (show decode cX12_years 57 = .ok (.aload_n 0, 1) by decide +kernel) ?_
    refine j_ctVv (m' := mX12_anew) (As := []) (ci := 12) (N := 0) (cw_X12_308 rfl) (show decode cX12_years 58 = .ok (.invokevirtual 308, 3) by decide +kernel) rfl (Nat.le_of_ble_eq_true rfl) okl_321 rfl rfl (Nat.le_refl _) h (fun r3 σ3 h => ?_)
    refine s_aload_n (i := 0) rfl (show decode cX12_years 61 = .ok (.aload_n 0, 1) by decide +kernel) ?_
    refine j_iload (i := 4) rfl (show decode cX12_years 62 = .ok (.iload 4, 2) by decide +kernel) ?_
    refine j_ctVv (m' := mX12_happens) (As := [iv (σ 322 7)]) (ci := 12) (N := 0) (cw_X12_382 rfl) (show decode cX12_years 64 = .ok (.invokevirtual 382, 3) by decide +kernel) rfl (Nat.le_of_ble_eq_true rfl) okl_321 rfl rfl (Nat.le_refl _) h (fun r4 σ4 h => ?_)
    refine s_iinc (i := 3) rfl (L' := [rv 321, iv p1, iv p2, iv (v3 + 1), iv (σ 322 7)]) rfl (show decode cX12_years 67 = .ok (.iinc 3 1, 3) by decide +kernel) ?_
    refine j_goto (tgt := 43) (show decode cX12_years 70 = .ok (.goto (-27), 3) by decide +kernel) (by decide) ?_
    refine j_drop 4 ?_
    exact h
set_option maxRecDepth 4000 in
theorem b_X12_years_0 {d : Nat} {t : Int} {Q : Int → jM → Prop} {σ : jM} {p1 p2 : Int} (h : Ct mX12_isIn d 0 t [iv p1, iv 0, iv 9999] σ (fun r1 σ1 => ((inR r1) ∧ ((r1 = 0 → (Q (-1) σ1)) ∧ (¬ r1 = 0 → (Ct mX12_isIn d 0 t [iv p2, iv 1, iv 40] σ1 (fun r3 σ3 => ((inR r3) ∧ ((¬ r3 = 0 → (Ct mX12_keep d 9 t [rv 321] σ3 (fun r5 σ5 => (((0 : Int) ≤ 7 ∧ (7 : Int) < 2208) ∧ (∀ σ7 : jM, σ7 = up σ5 322 7 ((p1 * 2) + 433) → (Jt mX12_years (d + 1) 0 t Q 43 [rv 321, iv p1, iv p2, iv 0, uv] [] σ7)))))) ∧ (r3 = 0 → (Q (-1) σ3))))))))))) : Jt mX12_years (d + 1) 0 t Q 0 [rv 321, iv p1, iv p2, uv, uv] [] σ := by
  refine j_iload_n (i := 1) rfl (show decode cX12_years 0 = .ok (.iload_n 1, 1) by decide +kernel) ?_
  refine j_iconst (show decode cX12_years 1 = .ok (.iconst 0, 1) by decide +kernel) ?_
  refine j_sipush (n := 9999) (by decide +kernel) (show decode cX12_years 2 = .ok (.sipush 9999, 3) by decide +kernel) ?_
  refine j_ctS (m' := mX12_isIn) (As := [iv p1, iv 0, iv 9999]) (tag := 0) (cw_X12_85 rfl) (show decode cX12_years 5 = .ok (.invokestatic 85, 3) by decide +kernel) rfl (Nat.le_of_ble_eq_true rfl) (by decide) (Nat.le_refl _) h (fun r1 σ1 h => ?_)
  have hr1 := h.1
  have h := h.2
  refine j_if_eq (tgt := 21) hr1 (show decode cX12_years 8 = .ok (.ifCond .eq 13, 3) by decide +kernel) (by decide) (fun c => ?_) (fun c => ?_)
  · have h := h.1 c
    refine j_iconst (show decode cX12_years 21 = .ok (.iconst (-1), 1) by decide +kernel) ?_
    exact j_ret (rokI (show decode cX12_years 22 = .ok (.ireturn, 1) by decide +kernel) rfl) ⟨rfl, rfl, h⟩
  · have h := h.2 c
    refine j_iload_n (i := 2) rfl (show decode cX12_years 11 = .ok (.iload_n 2, 1) by decide +kernel) ?_
    refine j_iconst (show decode cX12_years 12 = .ok (.iconst 1, 1) by decide +kernel) ?_
    refine j_bipush (n := 40) (by decide +kernel) (show decode cX12_years 13 = .ok (.bipush 40, 2) by decide +kernel) ?_
    refine j_ctS (m' := mX12_isIn) (As := [iv p2, iv 1, iv 40]) (tag := 0) (cw_X12_85 rfl) (show decode cX12_years 15 = .ok (.invokestatic 85, 3) by decide +kernel) rfl (Nat.le_of_ble_eq_true rfl) (by decide) (Nat.le_refl _) h (fun r3 σ3 h => ?_)
    have hr3 := h.1
    have h := h.2
    refine j_if_ne (tgt := 23) hr3 (show decode cX12_years 18 = .ok (.ifCond .ne 5, 3) by decide +kernel) (by decide) (fun c => ?_) (fun c => ?_)
    · have h := h.1 c
      refine s_aload_n (i := 0) rfl (show decode cX12_years 23 = .ok (.aload_n 0, 1) by decide +kernel) ?_
      refine j_ctVv (m' := mX12_keep) (As := []) (ci := 12) (N := 0) (cw_X12_343 rfl) (show decode cX12_years 24 = .ok (.invokevirtual 343, 3) by decide +kernel) rfl (Nat.le_of_ble_eq_true rfl) okl_321 rfl rfl (Nat.le_refl _) h (fun r5 σ5 h => ?_)
      refine s_aload_n (i := 0) rfl (show decode cX12_years 27 = .ok (.aload_n 0, 1) by decide +kernel) ?_
      refine gf_X12_7 (x := 322) rfl (show decode cX12_years 28 = .ok (.getfield 7, 3) by decide +kernel) okl_321 rfl ?_
      refine j_bipush (n := 7) (by decide +kernel) (show decode cX12_years 31 = .ok (.bipush 7, 2) by decide +kernel) ?_
      refine j_iload_n (i := 1) rfl (show decode cX12_years 33 = .ok (.iload_n 1, 1) by decide +kernel) ?_
      refine j_iconst (show decode cX12_years 34 = .ok (.iconst 2, 1) by decide +kernel) ?_
      refine j_imul (show decode cX12_years 35 = .ok (.imul, 1) by decide +kernel) ?_
      refine j_sipush (n := 433) (by decide +kernel) (show decode cX12_years 36 = .ok (.sipush 433, 3) by decide +kernel) ?_
      refine j_iadd (show decode cX12_years 39 = .ok (.iadd, 1) by decide +kernel) ?_
      have hb5 := h.1
      have h := h.2
      refine s_iast (show decode cX12_years 40 = .ok (.iastore, 1) by decide +kernel) okl_322 hb5 ?_
      obtain ⟨σ7, eσ7⟩ : ∃ z : jM, z = up σ5 322 7 ((p1 * 2) + 433) := ⟨_, rfl⟩
      refine j_sig eσ7 ?_
      have h := h σ7 eσ7
      refine j_iconst (show decode cX12_years 41 = .ok (.iconst 0, 1) by decide +kernel) ?_
      refine s_ist_n (i := 3) (L' := [rv 321, iv p1, iv p2, iv 0, uv]) rfl (by decide) (show decode cX12_years 42 = .ok (.istore_n 3, 1) by decide +kernel) ?_
      exact h
    · have h := h.2 c
      refine j_iconst (show decode cX12_years 21 = .ok (.iconst (-1), 1) by decide +kernel) ?_
      exact j_ret (rokI (show decode cX12_years 22 = .ok (.ireturn, 1) by decide +kernel) rfl) ⟨rfl, rfl, h⟩
theorem c_X12_years {d : Nat} {t : Int} {Q : Int → jM → Prop} {σ : jM} {p1 p2 : Int} (h : Ct mX12_isIn d 0 t [iv p1, iv 0, iv 9999] σ (fun r1 σ1 => ((inR r1) ∧ ((r1 = 0 → (Q (-1) σ1)) ∧ (¬ r1 = 0 → (Ct mX12_isIn d 0 t [iv p2, iv 1, iv 40] σ1 (fun r3 σ3 => ((inR r3) ∧ ((¬ r3 = 0 → (Ct mX12_keep d 9 t [rv 321] σ3 (fun r5 σ5 => (((0 : Int) ≤ 7 ∧ (7 : Int) < 2208) ∧ (∀ σ7 : jM, σ7 = up σ5 322 7 ((p1 * 2) + 433) → (Jt mX12_years (d + 1) 0 t Q 43 [rv 321, iv p1, iv p2, iv 0, uv] [] σ7)))))) ∧ (r3 = 0 → (Q (-1) σ3))))))))))) : Ct mX12_years (d + 1) 0 t [rv 321, iv p1, iv p2] σ Q := Ct_of (by decide +kernel) (Nat.le_of_ble_eq_true rfl) (b_X12_years_0 h)
set_option maxRecDepth 4000 in
theorem b_X12_of_0 {d : Nat} {t : Int} {Q : Int → jM → Prop} {σ : jM} {p1 p2 : Int} (h : Ct mX12_isCrock d 0 t [iv p1] σ (fun r1 σ1 => ((inR r1) ∧ ((¬ r1 = 0 → ((inR p2) ∧ ((¬ p2 = 0 → ((inR p2) ∧ ((¬ p2 = 1 → ((inR p2) ∧ ((¬ p2 = 2 → ((inR p2) ∧ ((¬ p2 = 3 → (Q (-1) σ1)) ∧ (p2 = 3 → (Ct mX12_priceOf d 0 t [rv 321, iv p1] σ1 (fun r7 σ7 => (Q r7 σ7))))))) ∧ (p2 = 2 → (((0 : Int) ≤ 1 ∧ (1 : Int) < 2208) ∧ (Ct mX12_tiresOf d 0 t [rv 321, iv (σ1 322 1), iv p1] σ1 (fun r8 σ8 => (Q r8 σ8)))))))) ∧ (p2 = 1 → (((0 : Int) ≤ (18 + p1) ∧ (18 + p1) < 2208) ∧ (Q (σ1 322 (18 + p1)) σ1)))))) ∧ (p2 = 0 → (((0 : Int) ≤ (10 + p1) ∧ (10 + p1) < 2208) ∧ (Q (σ1 322 (10 + p1)) σ1)))))) ∧ (r1 = 0 → (Q (-1) σ1)))))) : Jt mX12_of (d + 1) 0 t Q 0 [rv 321, iv p1, iv p2] [] σ := by
  refine j_iload_n (i := 1) rfl (show decode cX12_of 0 = .ok (.iload_n 1, 1) by decide +kernel) ?_
  refine j_ctS (m' := mX12_isCrock) (As := [iv p1]) (tag := 0) (cw_X12_89 rfl) (show decode cX12_of 1 = .ok (.invokestatic 89, 3) by decide +kernel) rfl (Nat.le_of_ble_eq_true rfl) (by decide) (Nat.le_refl _) h (fun r1 σ1 h => ?_)
  have hr1 := h.1
  have h := h.2
  refine j_if_ne (tgt := 9) hr1 (show decode cX12_of 4 = .ok (.ifCond .ne 5, 3) by decide +kernel) (by decide) (fun c => ?_) (fun c => ?_)
  · have h := h.1 c
    refine j_iload_n (i := 2) rfl (show decode cX12_of 9 = .ok (.iload_n 2, 1) by decide +kernel) ?_
    have hr2 := h.1
    have h := h.2
    refine j_if_ne (tgt := 25) hr2 (show decode cX12_of 10 = .ok (.ifCond .ne 15, 3) by decide +kernel) (by decide) (fun c => ?_) (fun c => ?_)
    · have h := h.1 c
      refine j_iload_n (i := 2) rfl (show decode cX12_of 25 = .ok (.iload_n 2, 1) by decide +kernel) ?_
      refine j_iconst (show decode cX12_of 26 = .ok (.iconst 1, 1) by decide +kernel) ?_
      have hr3 := h.1
      have h := h.2
      refine j_icmp_ne (tgt := 42) hr3 (inl (by decide)) (show decode cX12_of 27 = .ok (.if_icmp .ne 15, 3) by decide +kernel) (by decide) (fun c => ?_) (fun c => ?_)
      · have h := h.1 c
        refine j_iload_n (i := 2) rfl (show decode cX12_of 42 = .ok (.iload_n 2, 1) by decide +kernel) ?_
        refine j_iconst (show decode cX12_of 43 = .ok (.iconst 2, 1) by decide +kernel) ?_
        have hr4 := h.1
        have h := h.2
        refine j_icmp_ne (tgt := 61) hr4 (inl (by decide)) (show decode cX12_of 44 = .ok (.if_icmp .ne 17, 3) by decide +kernel) (by decide) (fun c => ?_) (fun c => ?_)
        · have h := h.1 c
          refine j_iload_n (i := 2) rfl (show decode cX12_of 61 = .ok (.iload_n 2, 1) by decide +kernel) ?_
          refine j_iconst (show decode cX12_of 62 = .ok (.iconst 3, 1) by decide +kernel) ?_
          have hr5 := h.1
          have h := h.2
          refine j_icmp_ne (tgt := 74) hr5 (inl (by decide)) (show decode cX12_of 63 = .ok (.if_icmp .ne 11, 3) by decide +kernel) (by decide) (fun c => ?_) (fun c => ?_)
          · have h := h.1 c
            refine j_iconst (show decode cX12_of 74 = .ok (.iconst (-1), 1) by decide +kernel) ?_
            exact j_ret (rokI (show decode cX12_of 75 = .ok (.ireturn, 1) by decide +kernel) rfl) ⟨rfl, rfl, h⟩
          · have h := h.2 c
            refine s_aload_n (i := 0) rfl (show decode cX12_of 66 = .ok (.aload_n 0, 1) by decide +kernel) ?_
            refine j_iload_n (i := 1) rfl (show decode cX12_of 67 = .ok (.iload_n 1, 1) by decide +kernel) ?_
            refine j_ctV (m' := mX12_priceOf) (As := [iv p1]) (ci := 12) (tag := 0) (N := 0) (cw_X12_324 rfl) (show decode cX12_of 68 = .ok (.invokevirtual 324, 3) by decide +kernel) rfl (Nat.le_of_ble_eq_true rfl) (by decide) okl_321 rfl rfl (Nat.le_refl _) h (fun r7 σ7 h => ?_)
            refine j_goto (tgt := 75) (show decode cX12_of 71 = .ok (.goto 4, 3) by decide +kernel) (by decide) ?_
            exact j_ret (rokI (show decode cX12_of 75 = .ok (.ireturn, 1) by decide +kernel) rfl) ⟨rfl, rfl, h⟩
        · have h := h.2 c
          refine s_aload_n (i := 0) rfl (show decode cX12_of 47 = .ok (.aload_n 0, 1) by decide +kernel) ?_
          refine s_aload_n (i := 0) rfl (show decode cX12_of 48 = .ok (.aload_n 0, 1) by decide +kernel) ?_
          refine gf_X12_7 (x := 322) rfl (show decode cX12_of 49 = .ok (.getfield 7, 3) by decide +kernel) okl_321 rfl ?_
          refine j_iconst (show decode cX12_of 52 = .ok (.iconst 1, 1) by decide +kernel) ?_
          refine s_iald (show decode cX12_of 53 = .ok (.iaload, 1) by decide +kernel) okl_322 h.1 ?_
          have h := h.2
          refine j_iload_n (i := 1) rfl (show decode cX12_of 54 = .ok (.iload_n 1, 1) by decide +kernel) ?_
          refine j_ctV (m' := mX12_tiresOf) (As := [iv (σ1 322 1), iv p1]) (ci := 12) (tag := 0) (N := 0) (cw_X12_334 rfl) (show decode cX12_of 55 = .ok (.invokevirtual 334, 3) by decide +kernel) rfl (Nat.le_of_ble_eq_true rfl) (by decide) okl_321 rfl rfl (Nat.le_refl _) h (fun r8 σ8 h => ?_)
          refine j_goto (tgt := 75) (show decode cX12_of 58 = .ok (.goto 17, 3) by decide +kernel) (by decide) ?_
          exact j_ret (rokI (show decode cX12_of 75 = .ok (.ireturn, 1) by decide +kernel) rfl) ⟨rfl, rfl, h⟩
      · have h := h.2 c
        refine s_aload_n (i := 0) rfl (show decode cX12_of 30 = .ok (.aload_n 0, 1) by decide +kernel) ?_
        refine gf_X12_7 (x := 322) rfl (show decode cX12_of 31 = .ok (.getfield 7, 3) by decide +kernel) okl_321 rfl ?_
        refine j_bipush (n := 18) (by decide +kernel) (show decode cX12_of 34 = .ok (.bipush 18, 2) by decide +kernel) ?_
        refine j_iload_n (i := 1) rfl (show decode cX12_of 36 = .ok (.iload_n 1, 1) by decide +kernel) ?_
        refine j_iadd (show decode cX12_of 37 = .ok (.iadd, 1) by decide +kernel) ?_
        refine s_iald (show decode cX12_of 38 = .ok (.iaload, 1) by decide +kernel) okl_322 h.1 ?_
        have h := h.2
        refine j_goto (tgt := 75) (show decode cX12_of 39 = .ok (.goto 36, 3) by decide +kernel) (by decide) ?_
        exact j_ret (rokI (show decode cX12_of 75 = .ok (.ireturn, 1) by decide +kernel) rfl) ⟨rfl, rfl, h⟩
    · have h := h.2 c
      refine s_aload_n (i := 0) rfl (show decode cX12_of 13 = .ok (.aload_n 0, 1) by decide +kernel) ?_
      refine gf_X12_7 (x := 322) rfl (show decode cX12_of 14 = .ok (.getfield 7, 3) by decide +kernel) okl_321 rfl ?_
      refine j_bipush (n := 10) (by decide +kernel) (show decode cX12_of 17 = .ok (.bipush 10, 2) by decide +kernel) ?_
      refine j_iload_n (i := 1) rfl (show decode cX12_of 19 = .ok (.iload_n 1, 1) by decide +kernel) ?_
      refine j_iadd (show decode cX12_of 20 = .ok (.iadd, 1) by decide +kernel) ?_
      refine s_iald (show decode cX12_of 21 = .ok (.iaload, 1) by decide +kernel) okl_322 h.1 ?_
      have h := h.2
      refine j_goto (tgt := 75) (show decode cX12_of 22 = .ok (.goto 53, 3) by decide +kernel) (by decide) ?_
      exact j_ret (rokI (show decode cX12_of 75 = .ok (.ireturn, 1) by decide +kernel) rfl) ⟨rfl, rfl, h⟩
  · have h := h.2 c
    refine j_iconst (show decode cX12_of 7 = .ok (.iconst (-1), 1) by decide +kernel) ?_
    exact j_ret (rokI (show decode cX12_of 8 = .ok (.ireturn, 1) by decide +kernel) rfl) ⟨rfl, rfl, h⟩
theorem c_X12_of {d : Nat} {t : Int} {Q : Int → jM → Prop} {σ : jM} {p1 p2 : Int} (h : Ct mX12_isCrock d 0 t [iv p1] σ (fun r1 σ1 => ((inR r1) ∧ ((¬ r1 = 0 → ((inR p2) ∧ ((¬ p2 = 0 → ((inR p2) ∧ ((¬ p2 = 1 → ((inR p2) ∧ ((¬ p2 = 2 → ((inR p2) ∧ ((¬ p2 = 3 → (Q (-1) σ1)) ∧ (p2 = 3 → (Ct mX12_priceOf d 0 t [rv 321, iv p1] σ1 (fun r7 σ7 => (Q r7 σ7))))))) ∧ (p2 = 2 → (((0 : Int) ≤ 1 ∧ (1 : Int) < 2208) ∧ (Ct mX12_tiresOf d 0 t [rv 321, iv (σ1 322 1), iv p1] σ1 (fun r8 σ8 => (Q r8 σ8)))))))) ∧ (p2 = 1 → (((0 : Int) ≤ (18 + p1) ∧ (18 + p1) < 2208) ∧ (Q (σ1 322 (18 + p1)) σ1)))))) ∧ (p2 = 0 → (((0 : Int) ≤ (10 + p1) ∧ (10 + p1) < 2208) ∧ (Q (σ1 322 (10 + p1)) σ1)))))) ∧ (r1 = 0 → (Q (-1) σ1)))))) : Ct mX12_of (d + 1) 0 t [rv 321, iv p1, iv p2] σ Q := Ct_of (by decide +kernel) (Nat.le_of_ble_eq_true rfl) (b_X12_of_0 h)
set_option maxRecDepth 4000 in
theorem b_X12_is_26 {d : Nat} {t : Int} {Q : Int → jM → Prop} {σ : jM} {p1 v2 v3 v4 : Int} (h : (inR v4) ∧ ((8 ≤ v4 → ((inR p1) ∧ ((¬ p1 = 3 → ((inR p1) ∧ ((¬ p1 = 4 → (Q (-2) σ)) ∧ (p1 = 4 → (Q v3 σ))))) ∧ (p1 = 3 → (Q v2 σ))))) ∧ (v4 < 8 → (Ct mX12_isFull d 0 t [rv 321, iv v4] σ (fun r4 σ4 => ((inR r4) ∧ ((r4 = 0 → (((0 : Int) ≤ (10 + v4) ∧ (10 + v4) < 2208) ∧ (Jt mX12_is (d + 1) 0 t Q 26 [rv 321, iv p1, iv (i_or v2 0), iv (v3 + (σ4 322 (10 + v4))), iv (v4 + 1)] [] σ4))) ∧ (¬ r4 = 0 → (((0 : Int) ≤ (10 + v4) ∧ (10 + v4) < 2208) ∧ (Jt mX12_is (d + 1) 0 t Q 26 [rv 321, iv p1, iv (i_or v2 (i_shl 1 v4)), iv (v3 + (σ4 322 (10 + v4))), iv (v4 + 1)] [] σ4)))))))))) : Jt mX12_is (d + 1) 0 t Q 26 [rv 321, iv p1, iv v2, iv v3, iv v4] [] σ := by
  refine j_iload (i := 4) rfl (show decode cX12_is 26 = .ok (.iload 4, 2) by decide +kernel) ?_
  refine j_bipush (n := 8) (by decide +kernel) (show decode cX12_is 28 = .ok (.bipush 8, 2) by decide +kernel) ?_
  have hr0 := h.1
  have h := h.2
  refine j_icmp_ge (tgt := 72) hr0 (inl (by decide)) (show decode cX12_is 30 = .ok (.if_icmp .ge 42, 3) by decide +kernel) (by decide) (fun c => ?_) (fun c => ?_)
  · have h := h.1 c
    refine j_iload_n (i := 1) rfl (show decode cX12_is 72 = .ok (.iload_n 1, 1) by decide +kernel) ?_
    refine j_iconst (show decode cX12_is 73 = .ok (.iconst 3, 1) by decide +kernel) ?_
    have hr1 := h.1
    have h := h.2
    refine j_icmp_ne (tgt := 81) hr1 (inl (by decide)) (show decode cX12_is 74 = .ok (.if_icmp .ne 7, 3) by decide +kernel) (by decide) (fun c => ?_) (fun c => ?_)
    · have h := h.1 c
      refine j_iload_n (i := 1) rfl (show decode cX12_is 81 = .ok (.iload_n 1, 1) by decide +kernel) ?_
      refine j_iconst (show decode cX12_is 82 = .ok (.iconst 4, 1) by decide +kernel) ?_
      have hr2 := h.1
      have h := h.2
      refine j_icmp_ne (tgt := 90) hr2 (inl (by decide)) (show decode cX12_is 83 = .ok (.if_icmp .ne 7, 3) by decide +kernel) (by decide) (fun c => ?_) (fun c => ?_)
      · have h := h.1 c
        refine j_bipush (n := -2) (by decide +kernel) (show decode cX12_is 90 = .ok (.bipush (-2), 2) by decide +kernel) ?_
        exact j_ret (rokI (show decode cX12_is 92 = .ok (.ireturn, 1) by decide +kernel) rfl) ⟨rfl, rfl, h⟩
      · have h := h.2 c
        refine j_iload_n (i := 3) rfl (show decode cX12_is 86 = .ok (.iload_n 3, 1) by decide +kernel) ?_
        refine j_goto (tgt := 92) (show decode cX12_is 87 = .ok (.goto 5, 3) by decide +kernel) (by decide) ?_
        exact j_ret (rokI (show decode cX12_is 92 = .ok (.ireturn, 1) by decide +kernel) rfl) ⟨rfl, rfl, h⟩
    · have h := h.2 c
      refine j_iload_n (i := 2) rfl (show decode cX12_is 77 = .ok (.iload_n 2, 1) by decide +kernel) ?_
      refine j_goto (tgt := 92) (show decode cX12_is 78 = .ok (.goto 14, 3) by decide +kernel) (by decide) ?_
      exact j_ret (rokI (show decode cX12_is 92 = .ok (.ireturn, 1) by decide +kernel) rfl) ⟨rfl, rfl, h⟩
  · have h := h.2 c
    refine j_iload_n (i := 2) rfl (show decode cX12_is 33 = .ok (.iload_n 2, 1) by decide +kernel) ?_
    refine s_aload_n (i := 0) rfl (show decode cX12_is 34 = .ok (.aload_n 0, 1) by decide +kernel) ?_
    refine j_iload (i := 4) rfl (show decode cX12_is 35 = .ok (.iload 4, 2) by decide +kernel) ?_
    refine j_ctV (m' := mX12_isFull) (As := [iv v4]) (ci := 12) (tag := 0) (N := 0) (cw_X12_93 rfl) (show decode cX12_is 37 = .ok (.invokevirtual 93, 3) by decide +kernel) rfl (Nat.le_of_ble_eq_true rfl) (by decide) okl_321 rfl rfl (Nat.le_refl _) h (fun r4 σ4 h => ?_)
    have hr4 := h.1
    have h := h.2
    refine j_if_eq (tgt := 50) hr4 (show decode cX12_is 40 = .ok (.ifCond .eq 10, 3) by decide +kernel) (by decide) (fun c => ?_) (fun c => ?_)
    · have h := h.1 c
      refine j_iconst (show decode cX12_is 50 = .ok (.iconst 0, 1) by decide +kernel) ?_
      refine j_ior (show decode cX12_is 51 = .ok (.ior, 1) by decide +kernel) ?_
      refine s_ist_n (i := 2) (L' := [rv 321, iv p1, iv (i_or v2 0), iv v3, iv v4]) rfl (by decide) (show decode cX12_is 52 = .ok (.istore_n 2, 1) by decide +kernel) ?_
      refine j_iload_n (i := 3) rfl (show decode cX12_is 53 = .ok (.iload_n 3, 1) by decide +kernel) ?_
      refine s_aload_n (i := 0) rfl (show decode cX12_is 54 = .ok (.aload_n 0, 1) by decide +kernel) ?_
      refine gf_X12_7 (x := 322) rfl (show decode cX12_is 55 = .ok (.getfield 7, 3) by decide +kernel) okl_321 rfl ?_
      refine j_bipush (n := 10) (by decide +kernel) (show decode cX12_is 58 = .ok (.bipush 10, 2) by decide +kernel) ?_
      refine j_iload (i := 4) rfl (show decode cX12_is 60 = .ok (.iload 4, 2) by decide +kernel) ?_
      refine j_iadd (show decode cX12_is 62 = .ok (.iadd, 1) by decide +kernel) ?_
      refine s_iald (show decode cX12_is 63 = .ok (.iaload, 1) by decide +kernel) okl_322 h.1 ?_
      have h := h.2
      refine j_iadd (show decode cX12_is 64 = .ok (.iadd, 1) by decide +kernel) ?_
      refine s_ist_n (i := 3) (L' := [rv 321, iv p1, iv (i_or v2 0), iv (v3 + (σ4 322 (10 + v4))), iv v4]) rfl (by decide) (show decode cX12_is 65 = .ok (.istore_n 3, 1) by decide +kernel) ?_
      refine s_iinc (i := 4) rfl (L' := [rv 321, iv p1, iv (i_or v2 0), iv (v3 + (σ4 322 (10 + v4))), iv (v4 + 1)]) rfl (show decode cX12_is 66 = .ok (.iinc 4 1, 3) by decide +kernel) ?_
      refine j_goto (tgt := 26) (show decode cX12_is 69 = .ok (.goto (-43), 3) by decide +kernel) (by decide) ?_
      exact h
    · have h := h.2 c
      refine j_iconst (show decode cX12_is 43 = .ok (.iconst 1, 1) by decide +kernel) ?_
      refine j_iload (i := 4) rfl (show decode cX12_is 44 = .ok (.iload 4, 2) by decide +kernel) ?_
      refine j_ishl (show decode cX12_is 46 = .ok (.ishl, 1) by decide +kernel) ?_
      refine j_goto (tgt := 51) (show decode cX12_is 47 = .ok (.goto 4, 3) by decide +kernel) (by decide) ?_
      refine j_ior (show decode cX12_is 51 = .ok (.ior, 1) by decide +kernel) ?_
      refine s_ist_n (i := 2) (L' := [rv 321, iv p1, iv (i_or v2 (i_shl 1 v4)), iv v3, iv v4]) rfl (by decide) (show decode cX12_is 52 = .ok (.istore_n 2, 1) by decide +kernel) ?_
      refine j_iload_n (i := 3) rfl (show decode cX12_is 53 = .ok (.iload_n 3, 1) by decide +kernel) ?_
      refine s_aload_n (i := 0) rfl (show decode cX12_is 54 = .ok (.aload_n 0, 1) by decide +kernel) ?_
      refine gf_X12_7 (x := 322) rfl (show decode cX12_is 55 = .ok (.getfield 7, 3) by decide +kernel) okl_321 rfl ?_
      refine j_bipush (n := 10) (by decide +kernel) (show decode cX12_is 58 = .ok (.bipush 10, 2) by decide +kernel) ?_
      refine j_iload (i := 4) rfl (show decode cX12_is 60 = .ok (.iload 4, 2) by decide +kernel) ?_
      refine j_iadd (show decode cX12_is 62 = .ok (.iadd, 1) by decide +kernel) ?_
      refine s_iald (show decode cX12_is 63 = .ok (.iaload, 1) by decide +kernel) okl_322 h.1 ?_
      have h := h.2
      refine j_iadd (show decode cX12_is 64 = .ok (.iadd, 1) by decide +kernel) ?_
      refine s_ist_n (i := 3) (L' := [rv 321, iv p1, iv (i_or v2 (i_shl 1 v4)), iv (v3 + (σ4 322 (10 + v4))), iv v4]) rfl (by decide) (show decode cX12_is 65 = .ok (.istore_n 3, 1) by decide +kernel) ?_
      refine s_iinc (i := 4) rfl (L' := [rv 321, iv p1, iv (i_or v2 (i_shl 1 v4)), iv (v3 + (σ4 322 (10 + v4))), iv (v4 + 1)]) rfl (show decode cX12_is 66 = .ok (.iinc 4 1, 3) by decide +kernel) ?_
      refine j_goto (tgt := 26) (show decode cX12_is 69 = .ok (.goto (-43), 3) by decide +kernel) (by decide) ?_
      exact h
set_option maxRecDepth 4000 in
theorem b_X12_is_0 {d : Nat} {t : Int} {Q : Int → jM → Prop} {σ : jM} {p1 : Int} (h : Ct mX12_isIn d 0 t [iv p1, iv 0, iv 2] σ (fun r1 σ1 => ((inR r1) ∧ ((r1 = 0 → (Jt mX12_is (d + 1) 0 t Q 26 [rv 321, iv p1, iv 0, iv 0, iv 0] [] σ1)) ∧ (¬ r1 = 0 → (((0 : Int) ≤ (6 + p1) ∧ (6 + p1) < 2208) ∧ (Q (σ1 322 (6 + p1)) σ1))))))) : Jt mX12_is (d + 1) 0 t Q 0 [rv 321, iv p1, uv, uv, uv] [] σ := by
  refine j_iload_n (i := 1) rfl (show decode cX12_is 0 = .ok (.iload_n 1, 1) by decide +kernel) ?_
  refine j_iconst (show decode cX12_is 1 = .ok (.iconst 0, 1) by decide +kernel) ?_
  refine j_iconst (show decode cX12_is 2 = .ok (.iconst 2, 1) by decide +kernel) ?_
  refine j_ctS (m' := mX12_isIn) (As := [iv p1, iv 0, iv 2]) (tag := 0) (cw_X12_85 rfl) (show decode cX12_is 3 = .ok (.invokestatic 85, 3) by decide +kernel) rfl (Nat.le_of_ble_eq_true rfl) (by decide) (Nat.le_refl _) h (fun r1 σ1 h => ?_)
  have hr1 := h.1
  have h := h.2
  refine j_if_eq (tgt := 19) hr1 (show decode cX12_is 6 = .ok (.ifCond .eq 13, 3) by decide +kernel) (by decide) (fun c => ?_) (fun c => ?_)
  · have h := h.1 c
    refine j_iconst (show decode cX12_is 19 = .ok (.iconst 0, 1) by decide +kernel) ?_
    refine s_ist_n (i := 2) (L' := [rv 321, iv p1, iv 0, uv, uv]) rfl (by decide) (show decode cX12_is 20 = .ok (.istore_n 2, 1) by decide +kernel) ?_
    refine j_iconst (show decode cX12_is 21 = .ok (.iconst 0, 1) by decide +kernel) ?_
    refine s_ist_n (i := 3) (L' := [rv 321, iv p1, iv 0, iv 0, uv]) rfl (by decide) (show decode cX12_is 22 = .ok (.istore_n 3, 1) by decide +kernel) ?_
    refine j_iconst (show decode cX12_is 23 = .ok (.iconst 0, 1) by decide +kernel) ?_
    refine s_ist (i := 4) (L' := [rv 321, iv p1, iv 0, iv 0, iv 0]) rfl (by decide) (show decode cX12_is 24 = .ok (.istore 4, 2) by decide +kernel) ?_
    exact h
  · have h := h.2 c
    refine s_aload_n (i := 0) rfl (show decode cX12_is 9 = .ok (.aload_n 0, 1) by decide +kernel) ?_
    refine gf_X12_7 (x := 322) rfl (show decode cX12_is 10 = .ok (.getfield 7, 3) by decide +kernel) okl_321 rfl ?_
    refine j_bipush (n := 6) (by decide +kernel) (show decode cX12_is 13 = .ok (.bipush 6, 2) by decide +kernel) ?_
    refine j_iload_n (i := 1) rfl (show decode cX12_is 15 = .ok (.iload_n 1, 1) by decide +kernel) ?_
    refine j_iadd (show decode cX12_is 16 = .ok (.iadd, 1) by decide +kernel) ?_
    refine s_iald (show decode cX12_is 17 = .ok (.iaload, 1) by decide +kernel) okl_322 h.1 ?_
    have h := h.2
    exact j_ret (rokI (show decode cX12_is 18 = .ok (.ireturn, 1) by decide +kernel) rfl) ⟨rfl, rfl, h⟩
theorem c_X12_is {d : Nat} {t : Int} {Q : Int → jM → Prop} {σ : jM} {p1 : Int} (h : Ct mX12_isIn d 0 t [iv p1, iv 0, iv 2] σ (fun r1 σ1 => ((inR r1) ∧ ((r1 = 0 → (Jt mX12_is (d + 1) 0 t Q 26 [rv 321, iv p1, iv 0, iv 0, iv 0] [] σ1)) ∧ (¬ r1 = 0 → (((0 : Int) ≤ (6 + p1) ∧ (6 + p1) < 2208) ∧ (Q (σ1 322 (6 + p1)) σ1))))))) : Ct mX12_is (d + 1) 0 t [rv 321, iv p1] σ Q := Ct_of (by decide +kernel) (Nat.le_of_ble_eq_true rfl) (b_X12_is_0 h)
set_option maxRecDepth 4000 in
theorem b_X12_lineOf_0 {d : Nat} {t : Int} {Q : Int → jM → Prop} {σ : jM} {p1 p2 : Int} (h : ((0 : Int) ≤ (2158 + (2 * p1)) ∧ (2158 + (2 * p1)) < 2208) ∧ ((inR p2) ∧ ((¬ p2 = 0 → ((inR p2) ∧ ((¬ p2 = 1 → ((inR p2) ∧ ((¬ p2 = 2 → (((0 : Int) ≤ ((2158 + (2 * p1)) + 1) ∧ ((2158 + (2 * p1)) + 1) < 2208) ∧ (Q (σ 322 ((2158 + (2 * p1)) + 1)) σ))) ∧ (p2 = 2 → ((inR (σ 322 (2158 + (2 * p1)))) ∧ (Q (Int.tmod (σ 322 (2158 + (2 * p1))) 8) σ)))))) ∧ (p2 = 1 → ((inR (σ 322 (2158 + (2 * p1)))) ∧ ((inR (Int.tdiv (σ 322 (2158 + (2 * p1))) 8)) ∧ (Q (Int.tmod (Int.tdiv (σ 322 (2158 + (2 * p1))) 8) 4) σ))))))) ∧ (p2 = 0 → ((inR (σ 322 (2158 + (2 * p1)))) ∧ (Q (Int.tdiv (σ 322 (2158 + (2 * p1))) 32) σ)))))) : Jt mX12_lineOf (d) 0 t Q 0 [rv 321, iv p1, iv p2, uv] [] σ := by
  refine s_aload_n (i := 0) rfl (show decode cX12_lineOf 0 = .ok (.aload_n 0, 1) by decide +kernel) ?_
  refine gf_X12_7 (x := 322) rfl (show decode cX12_lineOf 1 = .ok (.getfield 7, 3) by decide +kernel) okl_321 rfl ?_
  refine j_sipush (n := 2158) (by decide +kernel) (show decode cX12_lineOf 4 = .ok (.sipush 2158, 3) by decide +kernel) ?_
  refine j_iconst (show decode cX12_lineOf 7 = .ok (.iconst 2, 1) by decide +kernel) ?_
  refine j_iload_n (i := 1) rfl (show decode cX12_lineOf 8 = .ok (.iload_n 1, 1) by decide +kernel) ?_
  refine j_imul (show decode cX12_lineOf 9 = .ok (.imul, 1) by decide +kernel) ?_
  refine j_iadd (show decode cX12_lineOf 10 = .ok (.iadd, 1) by decide +kernel) ?_
  refine s_iald (show decode cX12_lineOf 11 = .ok (.iaload, 1) by decide +kernel) okl_322 h.1 ?_
  have h := h.2
  refine s_ist_n (i := 3) (L' := [rv 321, iv p1, iv p2, iv (σ 322 (2158 + (2 * p1)))]) rfl (by decide) (show decode cX12_lineOf 12 = .ok (.istore_n 3, 1) by decide +kernel) ?_
  refine j_iload_n (i := 2) rfl (show decode cX12_lineOf 13 = .ok (.iload_n 2, 1) by decide +kernel) ?_
  have hr0 := h.1
  have h := h.2
  refine j_if_ne (tgt := 24) hr0 (show decode cX12_lineOf 14 = .ok (.ifCond .ne 10, 3) by decide +kernel) (by decide) (fun c => ?_) (fun c => ?_)
  · have h := h.1 c
    refine j_iload_n (i := 2) rfl (show decode cX12_lineOf 24 = .ok (.iload_n 2, 1) by decide +kernel) ?_
    refine j_iconst (show decode cX12_lineOf 25 = .ok (.iconst 1, 1) by decide +kernel) ?_
    have hr1 := h.1
    have h := h.2
    refine j_icmp_ne (tgt := 38) hr1 (inl (by decide)) (show decode cX12_lineOf 26 = .ok (.if_icmp .ne 12, 3) by decide +kernel) (by decide) (fun c => ?_) (fun c => ?_)
    · have h := h.1 c
      refine j_iload_n (i := 2) rfl (show decode cX12_lineOf 38 = .ok (.iload_n 2, 1) by decide +kernel) ?_
      refine j_iconst (show decode cX12_lineOf 39 = .ok (.iconst 2, 1) by decide +kernel) ?_
      have hr2 := h.1
      have h := h.2
      refine j_icmp_ne (tgt := 50) hr2 (inl (by decide)) (show decode cX12_lineOf 40 = .ok (.if_icmp .ne 10, 3) by decide +kernel) (by decide) (fun c => ?_) (fun c => ?_)
      · have h := h.1 c
        refine s_aload_n (i := 0) rfl (show decode cX12_lineOf 50 = .ok (.aload_n 0, 1) by decide +kernel) ?_
        refine gf_X12_7 (x := 322) rfl (show decode cX12_lineOf 51 = .ok (.getfield 7, 3) by decide +kernel) okl_321 rfl ?_
        refine j_sipush (n := 2158) (by decide +kernel) (show decode cX12_lineOf 54 = .ok (.sipush 2158, 3) by decide +kernel) ?_
        refine j_iconst (show decode cX12_lineOf 57 = .ok (.iconst 2, 1) by decide +kernel) ?_
        refine j_iload_n (i := 1) rfl (show decode cX12_lineOf 58 = .ok (.iload_n 1, 1) by decide +kernel) ?_
        refine j_imul (show decode cX12_lineOf 59 = .ok (.imul, 1) by decide +kernel) ?_
        refine j_iadd (show decode cX12_lineOf 60 = .ok (.iadd, 1) by decide +kernel) ?_
        refine j_iconst (show decode cX12_lineOf 61 = .ok (.iconst 1, 1) by decide +kernel) ?_
        refine j_iadd (show decode cX12_lineOf 62 = .ok (.iadd, 1) by decide +kernel) ?_
        refine s_iald (show decode cX12_lineOf 63 = .ok (.iaload, 1) by decide +kernel) okl_322 h.1 ?_
        have h := h.2
        exact j_ret (rokI (show decode cX12_lineOf 64 = .ok (.ireturn, 1) by decide +kernel) rfl) ⟨rfl, rfl, h⟩
      · have h := h.2 c
        refine j_iload_n (i := 3) rfl (show decode cX12_lineOf 43 = .ok (.iload_n 3, 1) by decide +kernel) ?_
        refine j_bipush (n := 8) (by decide +kernel) (show decode cX12_lineOf 44 = .ok (.bipush 8, 2) by decide +kernel) ?_
        have hr3 := h.1
        have h := h.2
        refine j_irem hr3 (inl (by decide)) (by decide) (show decode cX12_lineOf 46 = .ok (.irem, 1) by decide +kernel) ?_
        refine j_goto (tgt := 64) (show decode cX12_lineOf 47 = .ok (.goto 17, 3) by decide +kernel) (by decide) ?_
        exact j_ret (rokI (show decode cX12_lineOf 64 = .ok (.ireturn, 1) by decide +kernel) rfl) ⟨rfl, rfl, h⟩
    · have h := h.2 c
      refine j_iload_n (i := 3) rfl (show decode cX12_lineOf 29 = .ok (.iload_n 3, 1) by decide +kernel) ?_
      refine j_bipush (n := 8) (by decide +kernel) (show decode cX12_lineOf 30 = .ok (.bipush 8, 2) by decide +kernel) ?_
      have hr4 := h.1
      have h := h.2
      refine j_idiv hr4 (inl (by decide)) (by decide) (show decode cX12_lineOf 32 = .ok (.idiv, 1) by decide +kernel) ?_
      refine j_iconst (show decode cX12_lineOf 33 = .ok (.iconst 4, 1) by decide +kernel) ?_
      have hr5 := h.1
      have h := h.2
      refine j_irem hr5 (inl (by decide)) (by decide) (show decode cX12_lineOf 34 = .ok (.irem, 1) by decide +kernel) ?_
      refine j_goto (tgt := 64) (show decode cX12_lineOf 35 = .ok (.goto 29, 3) by decide +kernel) (by decide) ?_
      exact j_ret (rokI (show decode cX12_lineOf 64 = .ok (.ireturn, 1) by decide +kernel) rfl) ⟨rfl, rfl, h⟩
  · have h := h.2 c
    refine j_iload_n (i := 3) rfl (show decode cX12_lineOf 17 = .ok (.iload_n 3, 1) by decide +kernel) ?_
    refine j_bipush (n := 32) (by decide +kernel) (show decode cX12_lineOf 18 = .ok (.bipush 32, 2) by decide +kernel) ?_
    have hr6 := h.1
    have h := h.2
    refine j_idiv hr6 (inl (by decide)) (by decide) (show decode cX12_lineOf 20 = .ok (.idiv, 1) by decide +kernel) ?_
    refine j_goto (tgt := 64) (show decode cX12_lineOf 21 = .ok (.goto 43, 3) by decide +kernel) (by decide) ?_
    exact j_ret (rokI (show decode cX12_lineOf 64 = .ok (.ireturn, 1) by decide +kernel) rfl) ⟨rfl, rfl, h⟩
theorem c_X12_lineOf {d : Nat} {t : Int} {Q : Int → jM → Prop} {σ : jM} {p1 p2 : Int} (h : ((0 : Int) ≤ (2158 + (2 * p1)) ∧ (2158 + (2 * p1)) < 2208) ∧ ((inR p2) ∧ ((¬ p2 = 0 → ((inR p2) ∧ ((¬ p2 = 1 → ((inR p2) ∧ ((¬ p2 = 2 → (((0 : Int) ≤ ((2158 + (2 * p1)) + 1) ∧ ((2158 + (2 * p1)) + 1) < 2208) ∧ (Q (σ 322 ((2158 + (2 * p1)) + 1)) σ))) ∧ (p2 = 2 → ((inR (σ 322 (2158 + (2 * p1)))) ∧ (Q (Int.tmod (σ 322 (2158 + (2 * p1))) 8) σ)))))) ∧ (p2 = 1 → ((inR (σ 322 (2158 + (2 * p1)))) ∧ ((inR (Int.tdiv (σ 322 (2158 + (2 * p1))) 8)) ∧ (Q (Int.tmod (Int.tdiv (σ 322 (2158 + (2 * p1))) 8) 4) σ))))))) ∧ (p2 = 0 → ((inR (σ 322 (2158 + (2 * p1)))) ∧ (Q (Int.tdiv (σ 322 (2158 + (2 * p1))) 32) σ)))))) : Ct mX12_lineOf (d) 0 t [rv 321, iv p1, iv p2] σ Q := Ct_of (by decide +kernel) (Nat.le_of_ble_eq_true rfl) (b_X12_lineOf_0 h)
set_option maxRecDepth 4000 in
theorem b_X12_book_0 {d : Nat} {t : Int} {Q : Int → jM → Prop} {σ : jM} {p1 p2 : Int} (h : (inR p1) ∧ ((¬ p1 = (-1) → (((0 : Int) ≤ 9 ∧ (9 : Int) < 2208) ∧ (Ct mX12_isIn d 0 t [iv p1, iv 0, iv ((σ 322 9) - 1)] σ (fun r2 σ2 => ((inR r2) ∧ ((r2 = 0 → (Q (-2) σ2)) ∧ (¬ r2 = 0 → (Ct mX12_isIn d 0 t [iv p2, iv 0, iv 3] σ2 (fun r4 σ4 => ((inR r4) ∧ ((r4 = 0 → (Q (-2) σ4)) ∧ (¬ r4 = 0 → (Ct mX12_lineOf d 0 t [rv 321, iv p1, iv p2] σ4 (fun r6 σ6 => (Q r6 σ6))))))))))))))) ∧ (p1 = (-1) → (((0 : Int) ≤ 9 ∧ (9 : Int) < 2208) ∧ (Q (σ 322 9) σ))))) : Jt mX12_book (d + 1) 0 t Q 0 [rv 321, iv p1, iv p2] [] σ := by
  refine j_iload_n (i := 1) rfl (show decode cX12_book 0 = .ok (.iload_n 1, 1) by decide +kernel) ?_
  refine j_iconst (show decode cX12_book 1 = .ok (.iconst (-1), 1) by decide +kernel) ?_
  have hr0 := h.1
  have h := h.2
  refine j_icmp_ne (tgt := 13) hr0 (inl (by decide)) (show decode cX12_book 2 = .ok (.if_icmp .ne 11, 3) by decide +kernel) (by decide) (fun c => ?_) (fun c => ?_)
  · have h := h.1 c
    refine j_iload_n (i := 1) rfl (show decode cX12_book 13 = .ok (.iload_n 1, 1) by decide +kernel) ?_
    refine j_iconst (show decode cX12_book 14 = .ok (.iconst 0, 1) by decide +kernel) ?_
    refine s_aload_n (i := 0) rfl (show decode cX12_book 15 = .ok (.aload_n 0, 1) by decide +kernel) ?_
    refine gf_X12_7 (x := 322) rfl (show decode cX12_book 16 = .ok (.getfield 7, 3) by decide +kernel) okl_321 rfl ?_
    refine j_bipush (n := 9) (by decide +kernel) (show decode cX12_book 19 = .ok (.bipush 9, 2) by decide +kernel) ?_
    refine s_iald (show decode cX12_book 21 = .ok (.iaload, 1) by decide +kernel) okl_322 h.1 ?_
    have h := h.2
    refine j_iconst (show decode cX12_book 22 = .ok (.iconst 1, 1) by decide +kernel) ?_
    refine j_isub (show decode cX12_book 23 = .ok (.isub, 1) by decide +kernel) ?_
    refine j_ctS (m' := mX12_isIn) (As := [iv p1, iv 0, iv ((σ 322 9) - 1)]) (tag := 0) (cw_X12_85 rfl) (show decode cX12_book 24 = .ok (.invokestatic 85, 3) by decide +kernel) rfl (Nat.le_of_ble_eq_true rfl) (by decide) (Nat.le_refl _) h (fun r2 σ2 h => ?_)
    have hr2 := h.1
    have h := h.2
    refine j_if_eq (tgt := 48) hr2 (show decode cX12_book 27 = .ok (.ifCond .eq 21, 3) by decide +kernel) (by decide) (fun c => ?_) (fun c => ?_)
    · have h := h.1 c
      refine j_bipush (n := -2) (by decide +kernel) (show decode cX12_book 48 = .ok (.bipush (-2), 2) by decide +kernel) ?_
      exact j_ret (rokI (show decode cX12_book 50 = .ok (.ireturn, 1) by decide +kernel) rfl) ⟨rfl, rfl, h⟩
    · have h := h.2 c
      refine j_iload_n (i := 2) rfl (show decode cX12_book 30 = .ok (.iload_n 2, 1) by decide +kernel) ?_
      refine j_iconst (show decode cX12_book 31 = .ok (.iconst 0, 1) by decide +kernel) ?_
      refine j_iconst (show decode cX12_book 32 = .ok (.iconst 3, 1) by decide +kernel) ?_
      refine j_ctS (m' := mX12_isIn) (As := [iv p2, iv 0, iv 3]) (tag := 0) (cw_X12_85 rfl) (show decode cX12_book 33 = .ok (.invokestatic 85, 3) by decide +kernel) rfl (Nat.le_of_ble_eq_true rfl) (by decide) (Nat.le_refl _) h (fun r4 σ4 h => ?_)
      have hr4 := h.1
      have h := h.2
      refine j_if_eq (tgt := 48) hr4 (show decode cX12_book 36 = .ok (.ifCond .eq 12, 3) by decide +kernel) (by decide) (fun c => ?_) (fun c => ?_)
      · have h := h.1 c
        refine j_bipush (n := -2) (by decide +kernel) (show decode cX12_book 48 = .ok (.bipush (-2), 2) by decide +kernel) ?_
        exact j_ret (rokI (show decode cX12_book 50 = .ok (.ireturn, 1) by decide +kernel) rfl) ⟨rfl, rfl, h⟩
      · have h := h.2 c
        refine s_aload_n (i := 0) rfl (show decode cX12_book 39 = .ok (.aload_n 0, 1) by decide +kernel) ?_
        refine j_iload_n (i := 1) rfl (show decode cX12_book 40 = .ok (.iload_n 1, 1) by decide +kernel) ?_
        refine j_iload_n (i := 2) rfl (show decode cX12_book 41 = .ok (.iload_n 2, 1) by decide +kernel) ?_
        refine j_ctV (m' := mX12_lineOf) (As := [iv p1, iv p2]) (ci := 12) (tag := 0) (N := 0) (cw_X12_385 rfl) (show decode cX12_book 42 = .ok (.invokevirtual 385, 3) by decide +kernel) rfl (Nat.le_of_ble_eq_true rfl) (by decide) okl_321 rfl rfl (Nat.le_refl _) h (fun r6 σ6 h => ?_)
        refine j_goto (tgt := 50) (show decode cX12_book 45 = .ok (.goto 5, 3) by decide +kernel) (by decide) ?_
        exact j_ret (rokI (show decode cX12_book 50 = .ok (.ireturn, 1) by decide +kernel) rfl) ⟨rfl, rfl, h⟩
  · have h := h.2 c
    refine s_aload_n (i := 0) rfl (show decode cX12_book 5 = .ok (.aload_n 0, 1) by decide +kernel) ?_
    refine gf_X12_7 (x := 322) rfl (show decode cX12_book 6 = .ok (.getfield 7, 3) by decide +kernel) okl_321 rfl ?_
    refine j_bipush (n := 9) (by decide +kernel) (show decode cX12_book 9 = .ok (.bipush 9, 2) by decide +kernel) ?_
    refine s_iald (show decode cX12_book 11 = .ok (.iaload, 1) by decide +kernel) okl_322 h.1 ?_
    have h := h.2
    exact j_ret (rokI (show decode cX12_book 12 = .ok (.ireturn, 1) by decide +kernel) rfl) ⟨rfl, rfl, h⟩
theorem c_X12_book {d : Nat} {t : Int} {Q : Int → jM → Prop} {σ : jM} {p1 p2 : Int} (h : (inR p1) ∧ ((¬ p1 = (-1) → (((0 : Int) ≤ 9 ∧ (9 : Int) < 2208) ∧ (Ct mX12_isIn d 0 t [iv p1, iv 0, iv ((σ 322 9) - 1)] σ (fun r2 σ2 => ((inR r2) ∧ ((r2 = 0 → (Q (-2) σ2)) ∧ (¬ r2 = 0 → (Ct mX12_isIn d 0 t [iv p2, iv 0, iv 3] σ2 (fun r4 σ4 => ((inR r4) ∧ ((r4 = 0 → (Q (-2) σ4)) ∧ (¬ r4 = 0 → (Ct mX12_lineOf d 0 t [rv 321, iv p1, iv p2] σ4 (fun r6 σ6 => (Q r6 σ6))))))))))))))) ∧ (p1 = (-1) → (((0 : Int) ≤ 9 ∧ (9 : Int) < 2208) ∧ (Q (σ 322 9) σ))))) : Ct mX12_book (d + 1) 0 t [rv 321, iv p1, iv p2] σ Q := Ct_of (by decide +kernel) (Nat.le_of_ble_eq_true rfl) (b_X12_book_0 h)
set_option maxRecDepth 4000 in
theorem b_X12_ledger_16 {d : Nat} {t : Int} {Q : Int → jM → Prop} {σ : jM} {p1 v2 v3 : Int} (h : ((0 : Int) ≤ 9 ∧ (9 : Int) < 2208) ∧ ((inR v3) ∧ ((inR (σ 322 9)) ∧ (((σ 322 9) ≤ v3 → (Q v2 σ)) ∧ (v3 < (σ 322 9) → (Ct mX12_lineOf d 0 t [rv 321, iv v3, iv 1] σ (fun r3 σ3 => ((inR r3) ∧ ((inR p1) ∧ ((¬ r3 = p1 → (Jt mX12_ledger (d + 1) 0 t Q 16 [rv 321, iv p1, iv (v2 + 0), iv (v3 + 1)] [] σ3)) ∧ (r3 = p1 → (Jt mX12_ledger (d + 1) 0 t Q 16 [rv 321, iv p1, iv (v2 + 1), iv (v3 + 1)] [] σ3)))))))))))) : Jt mX12_ledger (d + 1) 0 t Q 16 [rv 321, iv p1, iv v2, iv v3] [] σ := by
  refine j_iload_n (i := 3) rfl (show decode cX12_ledger 16 = .ok (.iload_n 3, 1) by decide +kernel) ?_
  refine s_aload_n (i := 0) rfl (show decode cX12_ledger 17 = .ok (.aload_n 0, 1) by decide +kernel) ?_
  refine gf_X12_7 (x := 322) rfl (show decode cX12_ledger 18 = .ok (.getfield 7, 3) by decide +kernel) okl_321 rfl ?_
  refine j_bipush (n := 9) (by decide +kernel) (show decode cX12_ledger 21 = .ok (.bipush 9, 2) by decide +kernel) ?_
  refine s_iald (show decode cX12_ledger 23 = .ok (.iaload, 1) by decide +kernel) okl_322 h.1 ?_
  have h := h.2
  have hr0 := h.1
  have h := h.2
  have hr1 := h.1
  have h := h.2
  refine j_icmp_ge (tgt := 51) hr0 hr1 (show decode cX12_ledger 24 = .ok (.if_icmp .ge 27, 3) by decide +kernel) (by decide) (fun c => ?_) (fun c => ?_)
  · have h := h.1 c
    refine j_iload_n (i := 2) rfl (show decode cX12_ledger 51 = .ok (.iload_n 2, 1) by decide +kernel) ?_
    exact j_ret (rokI (show decode cX12_ledger 52 = .ok (.ireturn, 1) by decide +kernel) rfl) ⟨rfl, rfl, h⟩
  · have h := h.2 c
    refine j_iload_n (i := 2) rfl (show decode cX12_ledger 27 = .ok (.iload_n 2, 1) by decide +kernel) ?_
    refine s_aload_n (i := 0) rfl (show decode cX12_ledger 28 = .ok (.aload_n 0, 1) by decide +kernel) ?_
    refine j_iload_n (i := 3) rfl (show decode cX12_ledger 29 = .ok (.iload_n 3, 1) by decide +kernel) ?_
    refine j_iconst (show decode cX12_ledger 30 = .ok (.iconst 1, 1) by decide +kernel) ?_
    refine j_ctV (m' := mX12_lineOf) (As := [iv v3, iv 1]) (ci := 12) (tag := 0) (N := 0) (cw_X12_385 rfl) (show decode cX12_ledger 31 = .ok (.invokevirtual 385, 3) by decide +kernel) rfl (Nat.le_of_ble_eq_true rfl) (by decide) okl_321 rfl rfl (Nat.le_refl _) h (fun r3 σ3 h => ?_)
    refine j_iload_n (i := 1) rfl (show decode cX12_ledger 34 = .ok (.iload_n 1, 1) by decide +kernel) ?_
    have hr3 := h.1
    have h := h.2
    have hr4 := h.1
    have h := h.2
    refine j_icmp_ne (tgt := 42) hr3 hr4 (show decode cX12_ledger 35 = .ok (.if_icmp .ne 7, 3) by decide +kernel) (by decide) (fun c => ?_) (fun c => ?_)
    · have h := h.1 c
      refine j_iconst (show decode cX12_ledger 42 = .ok (.iconst 0, 1) by decide +kernel) ?_
      refine j_iadd (show decode cX12_ledger 43 = .ok (.iadd, 1) by decide +kernel) ?_
      refine s_ist_n (i := 2) (L' := [rv 321, iv p1, iv (v2 + 0), iv v3]) rfl (by decide) (show decode cX12_ledger 44 = .ok (.istore_n 2, 1) by decide +kernel) ?_
      refine s_iinc (i := 3) rfl (L' := [rv 321, iv p1, iv (v2 + 0), iv (v3 + 1)]) rfl (show decode cX12_ledger 45 = .ok (.iinc 3 1, 3) by decide +kernel) ?_
      refine j_goto (tgt := 16) (show decode cX12_ledger 48 = .ok (.goto (-32), 3) by decide +kernel) (by decide) ?_
      exact h
    · have h := h.2 c
      refine j_iconst (show decode cX12_ledger 38 = .ok (.iconst 1, 1) by decide +kernel) ?_
      refine j_goto (tgt := 43) (show decode cX12_ledger 39 = .ok (.goto 4, 3) by decide +kernel) (by decide) ?_
      refine j_iadd (show decode cX12_ledger 43 = .ok (.iadd, 1) by decide +kernel) ?_
      refine s_ist_n (i := 2) (L' := [rv 321, iv p1, iv (v2 + 1), iv v3]) rfl (by decide) (show decode cX12_ledger 44 = .ok (.istore_n 2, 1) by decide +kernel) ?_
      refine s_iinc (i := 3) rfl (L' := [rv 321, iv p1, iv (v2 + 1), iv (v3 + 1)]) rfl (show decode cX12_ledger 45 = .ok (.iinc 3 1, 3) by decide +kernel) ?_
      refine j_goto (tgt := 16) (show decode cX12_ledger 48 = .ok (.goto (-32), 3) by decide +kernel) (by decide) ?_
      exact h
set_option maxRecDepth 4000 in
theorem b_X12_ledger_0 {d : Nat} {t : Int} {Q : Int → jM → Prop} {σ : jM} {p1 : Int} (h : Ct mX12_isIn d 0 t [iv p1, iv 0, iv 3] σ (fun r1 σ1 => ((inR r1) ∧ ((¬ r1 = 0 → (Jt mX12_ledger (d + 1) 0 t Q 16 [rv 321, iv p1, iv 0, iv 0] [] σ1)) ∧ (r1 = 0 → (Q (-2) σ1)))))) : Jt mX12_ledger (d + 1) 0 t Q 0 [rv 321, iv p1, uv, uv] [] σ := by
  refine j_iload_n (i := 1) rfl (show decode cX12_ledger 0 = .ok (.iload_n 1, 1) by decide +kernel) ?_
  refine j_iconst (show decode cX12_ledger 1 = .ok (.iconst 0, 1) by decide +kernel) ?_
  refine j_iconst (show decode cX12_ledger 2 = .ok (.iconst 3, 1) by decide +kernel) ?_
  refine j_ctS (m' := mX12_isIn) (As := [iv p1, iv 0, iv 3]) (tag := 0) (cw_X12_85 rfl) (show decode cX12_ledger 3 = .ok (.invokestatic 85, 3) by decide +kernel) rfl (Nat.le_of_ble_eq_true rfl) (by decide) (Nat.le_refl _) h (fun r1 σ1 h => ?_)
  have hr1 := h.1
  have h := h.2
  refine j_if_ne (tgt := 12) hr1 (show decode cX12_ledger 6 = .ok (.ifCond .ne 6, 3) by decide +kernel) (by decide) (fun c => ?_) (fun c => ?_)
  · have h := h.1 c
    refine j_iconst (show decode cX12_ledger 12 = .ok (.iconst 0, 1) by decide +kernel) ?_
    refine s_ist_n (i := 2) (L' := [rv 321, iv p1, iv 0, uv]) rfl (by decide) (show decode cX12_ledger 13 = .ok (.istore_n 2, 1) by decide +kernel) ?_
    refine j_iconst (show decode cX12_ledger 14 = .ok (.iconst 0, 1) by decide +kernel) ?_
    refine s_ist_n (i := 3) (L' := [rv 321, iv p1, iv 0, iv 0]) rfl (by decide) (show decode cX12_ledger 15 = .ok (.istore_n 3, 1) by decide +kernel) ?_
    exact h
  · have h := h.2 c
    refine j_bipush (n := -2) (by decide +kernel) (show decode cX12_ledger 9 = .ok (.bipush (-2), 2) by decide +kernel) ?_
    exact j_ret (rokI (show decode cX12_ledger 11 = .ok (.ireturn, 1) by decide +kernel) rfl) ⟨rfl, rfl, h⟩
theorem c_X12_ledger {d : Nat} {t : Int} {Q : Int → jM → Prop} {σ : jM} {p1 : Int} (h : Ct mX12_isIn d 0 t [iv p1, iv 0, iv 3] σ (fun r1 σ1 => ((inR r1) ∧ ((¬ r1 = 0 → (Jt mX12_ledger (d + 1) 0 t Q 16 [rv 321, iv p1, iv 0, iv 0] [] σ1)) ∧ (r1 = 0 → (Q (-2) σ1)))))) : Ct mX12_ledger (d + 1) 0 t [rv 321, iv p1] σ Q := Ct_of (by decide +kernel) (Nat.le_of_ble_eq_true rfl) (b_X12_ledger_0 h)
set_option maxRecDepth 4000 in
theorem b_X12_oldest_4 {d : Nat} {t : Int} {Q : Int → jM → Prop} {σ : jM} {v1 v2 : Int} (h : (inR v2) ∧ ((8 ≤ v2 → (Q v1 σ)) ∧ (v2 < 8 → (Ct mX12_isFull d 0 t [rv 321, iv v2] σ (fun r2 σ2 => ((inR r2) ∧ ((r2 = 0 → (Jt mX12_oldest (d + 1) 0 t Q 4 [rv 321, iv v1, iv (v2 + 1)] [] σ2)) ∧ (¬ r2 = 0 → ((inR v1) ∧ ((v1 = (-1) → (Jt mX12_oldest (d + 1) 0 t Q 4 [rv 321, iv v2, iv (v2 + 1)] [] σ2)) ∧ (¬ v1 = (-1) → (((0 : Int) ≤ (18 + v2) ∧ (18 + v2) < 2208) ∧ (((0 : Int) ≤ (18 + v1) ∧ (18 + v1) < 2208) ∧ ((inR (σ2 322 (18 + v2))) ∧ ((inR (σ2 322 (18 + v1))) ∧ (((σ2 322 (18 + v2)) ≤ (σ2 322 (18 + v1)) → (Jt mX12_oldest (d + 1) 0 t Q 4 [rv 321, iv v1, iv (v2 + 1)] [] σ2)) ∧ ((σ2 322 (18 + v1)) < (σ2 322 (18 + v2)) → (Jt mX12_oldest (d + 1) 0 t Q 4 [rv 321, iv v2, iv (v2 + 1)] [] σ2)))))))))))))))))) : Jt mX12_oldest (d + 1) 0 t Q 4 [rv 321, iv v1, iv v2] [] σ := by
  refine j_iload_n (i := 2) rfl (show decode cX12_oldest 4 = .ok (.iload_n 2, 1) by decide +kernel) ?_
  refine j_bipush (n := 8) (by decide +kernel) (show decode cX12_oldest 5 = .ok (.bipush 8, 2) by decide +kernel) ?_
  have hr0 := h.1
  have h := h.2
  refine j_icmp_ge (tgt := 52) hr0 (inl (by decide)) (show decode cX12_oldest 7 = .ok (.if_icmp .ge 45, 3) by decide +kernel) (by decide) (fun c => ?_) (fun c => ?_)
  · have h := h.1 c
    refine j_iload_n (i := 1) rfl (show decode cX12_oldest 52 = .ok (.iload_n 1, 1) by decide +kernel) ?_
    exact j_ret (rokI (show decode cX12_oldest 53 = .ok (.ireturn, 1) by decide +kernel) rfl) ⟨rfl, rfl, h⟩
  · have h := h.2 c
    refine s_aload_n (i := 0) rfl (show decode cX12_oldest 10 = .ok (.aload_n 0, 1) by decide +kernel) ?_
    refine j_iload_n (i := 2) rfl (show decode cX12_oldest 11 = .ok (.iload_n 2, 1) by decide +kernel) ?_
    refine j_ctV (m' := mX12_isFull) (As := [iv v2]) (ci := 12) (tag := 0) (N := 0) (cw_X12_93 rfl) (show decode cX12_oldest 12 = .ok (.invokevirtual 93, 3) by decide +kernel) rfl (Nat.le_of_ble_eq_true rfl) (by decide) okl_321 rfl rfl (Nat.le_refl _) h (fun r2 σ2 h => ?_)
    have hr2 := h.1
    have h := h.2
    refine j_if_eq (tgt := 46) hr2 (show decode cX12_oldest 15 = .ok (.ifCond .eq 31, 3) by decide +kernel) (by decide) (fun c => ?_) (fun c => ?_)
    · have h := h.1 c
      refine s_iinc (i := 2) rfl (L' := [rv 321, iv v1, iv (v2 + 1)]) rfl (show decode cX12_oldest 46 = .ok (.iinc 2 1, 3) by decide +kernel) ?_
      refine j_goto (tgt := 4) (show decode cX12_oldest 49 = .ok (.goto (-45), 3) by decide +kernel) (by decide) ?_
      exact h
    · have h := h.2 c
      refine j_iload_n (i := 1) rfl (show decode cX12_oldest 18 = .ok (.iload_n 1, 1) by decide +kernel) ?_
      refine j_iconst (show decode cX12_oldest 19 = .ok (.iconst (-1), 1) by decide +kernel) ?_
      have hr3 := h.1
      have h := h.2
      refine j_icmp_eq (tgt := 44) hr3 (inl (by decide)) (show decode cX12_oldest 20 = .ok (.if_icmp .eq 24, 3) by decide +kernel) (by decide) (fun c => ?_) (fun c => ?_)
      · have h := h.1 c
        refine j_iload_n (i := 2) rfl (show decode cX12_oldest 44 = .ok (.iload_n 2, 1) by decide +kernel) ?_
        refine s_ist_n (i := 1) (L' := [rv 321, iv v2, iv v2]) rfl (by decide) (show decode cX12_oldest 45 = .ok (.istore_n 1, 1) by decide +kernel) ?_
        refine s_iinc (i := 2) rfl (L' := [rv 321, iv v2, iv (v2 + 1)]) rfl (show decode cX12_oldest 46 = .ok (.iinc 2 1, 3) by decide +kernel) ?_
        refine j_goto (tgt := 4) (show decode cX12_oldest 49 = .ok (.goto (-45), 3) by decide +kernel) (by decide) ?_
        exact h
      · have h := h.2 c
        refine s_aload_n (i := 0) rfl (show decode cX12_oldest 23 = .ok (.aload_n 0, 1) by decide +kernel) ?_
        refine gf_X12_7 (x := 322) rfl (show decode cX12_oldest 24 = .ok (.getfield 7, 3) by decide +kernel) okl_321 rfl ?_
        refine j_bipush (n := 18) (by decide +kernel) (show decode cX12_oldest 27 = .ok (.bipush 18, 2) by decide +kernel) ?_
        refine j_iload_n (i := 2) rfl (show decode cX12_oldest 29 = .ok (.iload_n 2, 1) by decide +kernel) ?_
        refine j_iadd (show decode cX12_oldest 30 = .ok (.iadd, 1) by decide +kernel) ?_
        refine s_iald (show decode cX12_oldest 31 = .ok (.iaload, 1) by decide +kernel) okl_322 h.1 ?_
        have h := h.2
        refine s_aload_n (i := 0) rfl (show decode cX12_oldest 32 = .ok (.aload_n 0, 1) by decide +kernel) ?_
        refine gf_X12_7 (x := 322) rfl (show decode cX12_oldest 33 = .ok (.getfield 7, 3) by decide +kernel) okl_321 rfl ?_
        refine j_bipush (n := 18) (by decide +kernel) (show decode cX12_oldest 36 = .ok (.bipush 18, 2) by decide +kernel) ?_
        refine j_iload_n (i := 1) rfl (show decode cX12_oldest 38 = .ok (.iload_n 1, 1) by decide +kernel) ?_
        refine j_iadd (show decode cX12_oldest 39 = .ok (.iadd, 1) by decide +kernel) ?_
        refine s_iald (show decode cX12_oldest 40 = .ok (.iaload, 1) by decide +kernel) okl_322 h.1 ?_
        have h := h.2
        have hr4 := h.1
        have h := h.2
        have hr5 := h.1
        have h := h.2
        refine j_icmp_le (tgt := 46) hr4 hr5 (show decode cX12_oldest 41 = .ok (.if_icmp .le 5, 3) by decide +kernel) (by decide) (fun c => ?_) (fun c => ?_)
        · have h := h.1 c
          refine s_iinc (i := 2) rfl (L' := [rv 321, iv v1, iv (v2 + 1)]) rfl (show decode cX12_oldest 46 = .ok (.iinc 2 1, 3) by decide +kernel) ?_
          refine j_goto (tgt := 4) (show decode cX12_oldest 49 = .ok (.goto (-45), 3) by decide +kernel) (by decide) ?_
          exact h
        · have h := h.2 c
          refine j_iload_n (i := 2) rfl (show decode cX12_oldest 44 = .ok (.iload_n 2, 1) by decide +kernel) ?_
          refine s_ist_n (i := 1) (L' := [rv 321, iv v2, iv v2]) rfl (by decide) (show decode cX12_oldest 45 = .ok (.istore_n 1, 1) by decide +kernel) ?_
          refine s_iinc (i := 2) rfl (L' := [rv 321, iv v2, iv (v2 + 1)]) rfl (show decode cX12_oldest 46 = .ok (.iinc 2 1, 3) by decide +kernel) ?_
          refine j_goto (tgt := 4) (show decode cX12_oldest 49 = .ok (.goto (-45), 3) by decide +kernel) (by decide) ?_
          exact h
set_option maxRecDepth 4000 in
theorem b_X12_oldest_0 {d : Nat} {t : Int} {Q : Int → jM → Prop} {σ : jM} (h : Jt mX12_oldest (d + 1) 0 t Q 4 [rv 321, iv (-1), iv 0] [] σ) : Jt mX12_oldest (d + 1) 0 t Q 0 [rv 321, uv, uv] [] σ := by
  refine j_iconst (show decode cX12_oldest 0 = .ok (.iconst (-1), 1) by decide +kernel) ?_
  refine s_ist_n (i := 1) (L' := [rv 321, iv (-1), uv]) rfl (by decide) (show decode cX12_oldest 1 = .ok (.istore_n 1, 1) by decide +kernel) ?_
  refine j_iconst (show decode cX12_oldest 2 = .ok (.iconst 0, 1) by decide +kernel) ?_
  refine s_ist_n (i := 2) (L' := [rv 321, iv (-1), iv 0]) rfl (by decide) (show decode cX12_oldest 3 = .ok (.istore_n 2, 1) by decide +kernel) ?_
  exact h
theorem c_X12_oldest {d : Nat} {t : Int} {Q : Int → jM → Prop} {σ : jM} (h : Jt mX12_oldest (d + 1) 0 t Q 4 [rv 321, iv (-1), iv 0] [] σ) : Ct mX12_oldest (d + 1) 0 t [rv 321] σ Q := Ct_of (by decide +kernel) (Nat.le_of_ble_eq_true rfl) (b_X12_oldest_0 h)
set_option maxRecDepth 4000 in
theorem b_X12_fullest_4 {d : Nat} {t : Int} {Q : Int → jM → Prop} {σ : jM} {v1 v2 : Int} (h : (inR v2) ∧ ((8 ≤ v2 → (Q v1 σ)) ∧ (v2 < 8 → (((0 : Int) ≤ (10 + v2) ∧ (10 + v2) < 2208) ∧ ((inR v1) ∧ ((¬ v1 = (-1) → (((0 : Int) ≤ (10 + v1) ∧ (10 + v1) < 2208) ∧ ((inR (σ 322 (10 + v2))) ∧ ((inR (σ 322 (10 + v1))) ∧ (((σ 322 (10 + v2)) ≤ (σ 322 (10 + v1)) → (Jt mX12_fullest (d) 0 t Q 4 [rv 321, iv v1, iv (v2 + 1)] [] σ)) ∧ ((σ 322 (10 + v1)) < (σ 322 (10 + v2)) → (Jt mX12_fullest (d) 0 t Q 4 [rv 321, iv v2, iv (v2 + 1)] [] σ))))))) ∧ (v1 = (-1) → ((inR (σ 322 (10 + v2))) ∧ (((σ 322 (10 + v2)) ≤ 0 → (Jt mX12_fullest (d) 0 t Q 4 [rv 321, iv v1, iv (v2 + 1)] [] σ)) ∧ (0 < (σ 322 (10 + v2)) → (Jt mX12_fullest (d) 0 t Q 4 [rv 321, iv v2, iv (v2 + 1)] [] σ))))))))))) : Jt mX12_fullest (d) 0 t Q 4 [rv 321, iv v1, iv v2] [] σ := by
  refine j_iload_n (i := 2) rfl (show decode cX12_fullest 4 = .ok (.iload_n 2, 1) by decide +kernel) ?_
  refine j_bipush (n := 8) (by decide +kernel) (show decode cX12_fullest 5 = .ok (.bipush 8, 2) by decide +kernel) ?_
  have hr0 := h.1
  have h := h.2
  refine j_icmp_ge (tgt := 48) hr0 (inl (by decide)) (show decode cX12_fullest 7 = .ok (.if_icmp .ge 41, 3) by decide +kernel) (by decide) (fun c => ?_) (fun c => ?_)
  · have h := h.1 c
    refine j_iload_n (i := 1) rfl (show decode cX12_fullest 48 = .ok (.iload_n 1, 1) by decide +kernel) ?_
    exact j_ret (rokI (show decode cX12_fullest 49 = .ok (.ireturn, 1) by decide +kernel) rfl) ⟨rfl, rfl, h⟩
  · have h := h.2 c
    refine s_aload_n (i := 0) rfl (show decode cX12_fullest 10 = .ok (.aload_n 0, 1) by decide +kernel) ?_
    refine gf_X12_7 (x := 322) rfl (show decode cX12_fullest 11 = .ok (.getfield 7, 3) by decide +kernel) okl_321 rfl ?_
    refine j_bipush (n := 10) (by decide +kernel) (show decode cX12_fullest 14 = .ok (.bipush 10, 2) by decide +kernel) ?_
    refine j_iload_n (i := 2) rfl (show decode cX12_fullest 16 = .ok (.iload_n 2, 1) by decide +kernel) ?_
    refine j_iadd (show decode cX12_fullest 17 = .ok (.iadd, 1) by decide +kernel) ?_
    refine s_iald (show decode cX12_fullest 18 = .ok (.iaload, 1) by decide +kernel) okl_322 h.1 ?_
    have h := h.2
    refine j_iload_n (i := 1) rfl (show decode cX12_fullest 19 = .ok (.iload_n 1, 1) by decide +kernel) ?_
    refine j_iconst (show decode cX12_fullest 20 = .ok (.iconst (-1), 1) by decide +kernel) ?_
    have hr1 := h.1
    have h := h.2
    refine j_icmp_ne (tgt := 28) hr1 (inl (by decide)) (show decode cX12_fullest 21 = .ok (.if_icmp .ne 7, 3) by decide +kernel) (by decide) (fun c => ?_) (fun c => ?_)
    · have h := h.1 c
      refine s_aload_n (i := 0) rfl (show decode cX12_fullest 28 = .ok (.aload_n 0, 1) by decide +kernel) ?_
      refine gf_X12_7 (x := 322) rfl (show decode cX12_fullest 29 = .ok (.getfield 7, 3) by decide +kernel) okl_321 rfl ?_
      refine j_bipush (n := 10) (by decide +kernel) (show decode cX12_fullest 32 = .ok (.bipush 10, 2) by decide +kernel) ?_
      refine j_iload_n (i := 1) rfl (show decode cX12_fullest 34 = .ok (.iload_n 1, 1) by decide +kernel) ?_
      refine j_iadd (show decode cX12_fullest 35 = .ok (.iadd, 1) by decide +kernel) ?_
      refine s_iald (show decode cX12_fullest 36 = .ok (.iaload, 1) by decide +kernel) okl_322 h.1 ?_
      have h := h.2
      have hr2 := h.1
      have h := h.2
      have hr3 := h.1
      have h := h.2
      refine j_icmp_le (tgt := 42) hr2 hr3 (show decode cX12_fullest 37 = .ok (.if_icmp .le 5, 3) by decide +kernel) (by decide) (fun c => ?_) (fun c => ?_)
      · have h := h.1 c
        refine s_iinc (i := 2) rfl (L' := [rv 321, iv v1, iv (v2 + 1)]) rfl (show decode cX12_fullest 42 = .ok (.iinc 2 1, 3) by decide +kernel) ?_
        refine j_goto (tgt := 4) (show decode cX12_fullest 45 = .ok (.goto (-41), 3) by decide +kernel) (by decide) ?_
        exact h
      · have h := h.2 c
        refine j_iload_n (i := 2) rfl (show decode cX12_fullest 40 = .ok (.iload_n 2, 1) by decide +kernel) ?_
        refine s_ist_n (i := 1) (L' := [rv 321, iv v2, iv v2]) rfl (by decide) (show decode cX12_fullest 41 = .ok (.istore_n 1, 1) by decide +kernel) ?_
        refine s_iinc (i := 2) rfl (L' := [rv 321, iv v2, iv (v2 + 1)]) rfl (show decode cX12_fullest 42 = .ok (.iinc 2 1, 3) by decide +kernel) ?_
        refine j_goto (tgt := 4) (show decode cX12_fullest 45 = .ok (.goto (-41), 3) by decide +kernel) (by decide) ?_
        exact h
    · have h := h.2 c
      refine j_iconst (show decode cX12_fullest 24 = .ok (.iconst 0, 1) by decide +kernel) ?_
      refine j_goto (tgt := 37) (show decode cX12_fullest 25 = .ok (.goto 12, 3) by decide +kernel) (by decide) ?_
      have hr4 := h.1
      have h := h.2
      refine j_icmp_le (tgt := 42) hr4 (inl (by decide)) (show decode cX12_fullest 37 = .ok (.if_icmp .le 5, 3) by decide +kernel) (by decide) (fun c => ?_) (fun c => ?_)
      · have h := h.1 c
        refine s_iinc (i := 2) rfl (L' := [rv 321, iv v1, iv (v2 + 1)]) rfl (show decode cX12_fullest 42 = .ok (.iinc 2 1, 3) by decide +kernel) ?_
        refine j_goto (tgt := 4) (show decode cX12_fullest 45 = .ok (.goto (-41), 3) by decide +kernel) (by decide) ?_
        exact h
      · have h := h.2 c
        refine j_iload_n (i := 2) rfl (show decode cX12_fullest 40 = .ok (.iload_n 2, 1) by decide +kernel) ?_
        refine s_ist_n (i := 1) (L' := [rv 321, iv v2, iv v2]) rfl (by decide) (show decode cX12_fullest 41 = .ok (.istore_n 1, 1) by decide +kernel) ?_
        refine s_iinc (i := 2) rfl (L' := [rv 321, iv v2, iv (v2 + 1)]) rfl (show decode cX12_fullest 42 = .ok (.iinc 2 1, 3) by decide +kernel) ?_
        refine j_goto (tgt := 4) (show decode cX12_fullest 45 = .ok (.goto (-41), 3) by decide +kernel) (by decide) ?_
        exact h
set_option maxRecDepth 4000 in
theorem b_X12_fullest_0 {d : Nat} {t : Int} {Q : Int → jM → Prop} {σ : jM} (h : Jt mX12_fullest (d) 0 t Q 4 [rv 321, iv (-1), iv 0] [] σ) : Jt mX12_fullest (d) 0 t Q 0 [rv 321, uv, uv] [] σ := by
  refine j_iconst (show decode cX12_fullest 0 = .ok (.iconst (-1), 1) by decide +kernel) ?_
  refine s_ist_n (i := 1) (L' := [rv 321, iv (-1), uv]) rfl (by decide) (show decode cX12_fullest 1 = .ok (.istore_n 1, 1) by decide +kernel) ?_
  refine j_iconst (show decode cX12_fullest 2 = .ok (.iconst 0, 1) by decide +kernel) ?_
  refine s_ist_n (i := 2) (L' := [rv 321, iv (-1), iv 0]) rfl (by decide) (show decode cX12_fullest 3 = .ok (.istore_n 2, 1) by decide +kernel) ?_
  exact h
theorem c_X12_fullest {d : Nat} {t : Int} {Q : Int → jM → Prop} {σ : jM} (h : Jt mX12_fullest (d) 0 t Q 4 [rv 321, iv (-1), iv 0] [] σ) : Ct mX12_fullest (d) 0 t [rv 321] σ Q := Ct_of (by decide +kernel) (Nat.le_of_ble_eq_true rfl) (b_X12_fullest_0 h)
set_option maxRecDepth 4000 in
theorem b_X12_can_0 {d : Nat} {t : Int} {Q : Int → jM → Prop} {σ : jM} {p1 : Int} (h : Ct mX12_isIn d 0 t [iv p1, iv 1, iv 19998] σ (fun r1 σ1 => ((inR r1) ∧ ((r1 = 0 → ((¬ (-1 : Int) = (-1) → (Q (i_or (i_shl 1 (Int.tdiv (-1) 8)) (i_shl 1 (Int.tmod (-1) 8))) σ1)) ∧ ((-1 : Int) = (-1) → (Q (-1) σ1)))) ∧ (¬ r1 = 0 → (Ct mX12_twoFor d 0 t [rv 321, iv p1] σ1 (fun r3 σ3 => ((inR r3) ∧ ((¬ r3 = (-1) → ((inR r3) ∧ ((inR r3) ∧ (Q (i_or (i_shl 1 (Int.tdiv r3 8)) (i_shl 1 (Int.tmod r3 8))) σ3)))) ∧ (r3 = (-1) → (Q (-1) σ3))))))))))) : Jt mX12_can (d + 1) 0 t Q 0 [rv 321, iv p1, uv] [] σ := by
  refine j_iload_n (i := 1) rfl (show decode cX12_can 0 = .ok (.iload_n 1, 1) by decide +kernel) ?_
  refine j_iconst (show decode cX12_can 1 = .ok (.iconst 1, 1) by decide +kernel) ?_
  refine j_sipush (n := 19998) (by decide +kernel) (show decode cX12_can 2 = .ok (.sipush 19998, 3) by decide +kernel) ?_
  refine j_ctS (m' := mX12_isIn) (As := [iv p1, iv 1, iv 19998]) (tag := 0) (cw_X12_85 rfl) (show decode cX12_can 5 = .ok (.invokestatic 85, 3) by decide +kernel) rfl (Nat.le_of_ble_eq_true rfl) (by decide) (Nat.le_refl _) h (fun r1 σ1 h => ?_)
  have hr1 := h.1
  have h := h.2
  refine j_if_eq (tgt := 19) hr1 (show decode cX12_can 8 = .ok (.ifCond .eq 11, 3) by decide +kernel) (by decide) (fun c => ?_) (fun c => ?_)
  · have h := h.1 c
    refine j_iconst (show decode cX12_can 19 = .ok (.iconst (-1), 1) by decide +kernel) ?_
    refine s_ist_n (i := 2) (L' := [rv 321, iv p1, iv (-1)]) rfl (by decide) (show decode cX12_can 20 = .ok (.istore_n 2, 1) by decide +kernel) ?_
    refine j_iload_n (i := 2) rfl (show decode cX12_can 21 = .ok (.iload_n 2, 1) by decide +kernel) ?_
    refine j_iconst (show decode cX12_can 22 = .ok (.iconst (-1), 1) by decide +kernel) ?_
    refine j_icmp_ne (tgt := 30) (inl (by decide)) (inl (by decide)) (show decode cX12_can 23 = .ok (.if_icmp .ne 7, 3) by decide +kernel) (by decide) (fun c => ?_) (fun c => ?_)
    · have h := h.1 c
      refine j_iconst (show decode cX12_can 30 = .ok (.iconst 1, 1) by decide +kernel) ?_
      refine j_iload_n (i := 2) rfl (show decode cX12_can 31 = .ok (.iload_n 2, 1) by decide +kernel) ?_
      refine j_bipush (n := 8) (by decide +kernel) (show decode cX12_can 32 = .ok (.bipush 8, 2) by decide +kernel) ?_
      refine j_idiv (inl (by decide)) (inl (by decide)) (by decide) (show decode cX12_can 34 = .ok (.idiv, 1) by decide +kernel) ?_
      refine j_ishl (show decode cX12_can 35 = .ok (.ishl, 1) by decide +kernel) ?_
      refine j_iconst (show decode cX12_can 36 = .ok (.iconst 1, 1) by decide +kernel) ?_
      refine j_iload_n (i := 2) rfl (show decode cX12_can 37 = .ok (.iload_n 2, 1) by decide +kernel) ?_
      refine j_bipush (n := 8) (by decide +kernel) (show decode cX12_can 38 = .ok (.bipush 8, 2) by decide +kernel) ?_
      refine j_irem (inl (by decide)) (inl (by decide)) (by decide) (show decode cX12_can 40 = .ok (.irem, 1) by decide +kernel) ?_
      refine j_ishl (show decode cX12_can 41 = .ok (.ishl, 1) by decide +kernel) ?_
      refine j_ior (show decode cX12_can 42 = .ok (.ior, 1) by decide +kernel) ?_
      exact j_ret (rokI (show decode cX12_can 43 = .ok (.ireturn, 1) by decide +kernel) rfl) ⟨rfl, rfl, h⟩
    · have h := h.2 c
      refine j_iconst (show decode cX12_can 26 = .ok (.iconst (-1), 1) by decide +kernel) ?_
      refine j_goto (tgt := 43) (show decode cX12_can 27 = .ok (.goto 16, 3) by decide +kernel) (by decide) ?_
      exact j_ret (rokI (show decode cX12_can 43 = .ok (.ireturn, 1) by decide +kernel) rfl) ⟨rfl, rfl, h⟩
  · have h := h.2 c
    refine s_aload_n (i := 0) rfl (show decode cX12_can 11 = .ok (.aload_n 0, 1) by decide +kernel) ?_
    refine j_iload_n (i := 1) rfl (show decode cX12_can 12 = .ok (.iload_n 1, 1) by decide +kernel) ?_
    refine j_ctV (m' := mX12_twoFor) (As := [iv p1]) (ci := 12) (tag := 0) (N := 0) (cw_X12_364 rfl) (show decode cX12_can 13 = .ok (.invokevirtual 364, 3) by decide +kernel) rfl (Nat.le_of_ble_eq_true rfl) (by decide) okl_321 rfl rfl (Nat.le_refl _) h (fun r3 σ3 h => ?_)
    refine j_goto (tgt := 20) (show decode cX12_can 16 = .ok (.goto 4, 3) by decide +kernel) (by decide) ?_
    refine s_ist_n (i := 2) (L' := [rv 321, iv p1, iv r3]) rfl (by decide) (show decode cX12_can 20 = .ok (.istore_n 2, 1) by decide +kernel) ?_
    refine j_iload_n (i := 2) rfl (show decode cX12_can 21 = .ok (.iload_n 2, 1) by decide +kernel) ?_
    refine j_iconst (show decode cX12_can 22 = .ok (.iconst (-1), 1) by decide +kernel) ?_
    have hr3 := h.1
    have h := h.2
    refine j_icmp_ne (tgt := 30) hr3 (inl (by decide)) (show decode cX12_can 23 = .ok (.if_icmp .ne 7, 3) by decide +kernel) (by decide) (fun c => ?_) (fun c => ?_)
    · have h := h.1 c
      refine j_iconst (show decode cX12_can 30 = .ok (.iconst 1, 1) by decide +kernel) ?_
      refine j_iload_n (i := 2) rfl (show decode cX12_can 31 = .ok (.iload_n 2, 1) by decide +kernel) ?_
      refine j_bipush (n := 8) (by decide +kernel) (show decode cX12_can 32 = .ok (.bipush 8, 2) by decide +kernel) ?_
      have hr4 := h.1
      have h := h.2
      refine j_idiv hr4 (inl (by decide)) (by decide) (show decode cX12_can 34 = .ok (.idiv, 1) by decide +kernel) ?_
      refine j_ishl (show decode cX12_can 35 = .ok (.ishl, 1) by decide +kernel) ?_
      refine j_iconst (show decode cX12_can 36 = .ok (.iconst 1, 1) by decide +kernel) ?_
      refine j_iload_n (i := 2) rfl (show decode cX12_can 37 = .ok (.iload_n 2, 1) by decide +kernel) ?_
      refine j_bipush (n := 8) (by decide +kernel) (show decode cX12_can 38 = .ok (.bipush 8, 2) by decide +kernel) ?_
      have hr5 := h.1
      have h := h.2
      refine j_irem hr5 (inl (by decide)) (by decide) (show decode cX12_can 40 = .ok (.irem, 1) by decide +kernel) ?_
      refine j_ishl (show decode cX12_can 41 = .ok (.ishl, 1) by decide +kernel) ?_
      refine j_ior (show decode cX12_can 42 = .ok (.ior, 1) by decide +kernel) ?_
      exact j_ret (rokI (show decode cX12_can 43 = .ok (.ireturn, 1) by decide +kernel) rfl) ⟨rfl, rfl, h⟩
    · have h := h.2 c
      refine j_iconst (show decode cX12_can 26 = .ok (.iconst (-1), 1) by decide +kernel) ?_
      refine j_goto (tgt := 43) (show decode cX12_can 27 = .ok (.goto 16, 3) by decide +kernel) (by decide) ?_
      exact j_ret (rokI (show decode cX12_can 43 = .ok (.ireturn, 1) by decide +kernel) rfl) ⟨rfl, rfl, h⟩
theorem c_X12_can {d : Nat} {t : Int} {Q : Int → jM → Prop} {σ : jM} {p1 : Int} (h : Ct mX12_isIn d 0 t [iv p1, iv 1, iv 19998] σ (fun r1 σ1 => ((inR r1) ∧ ((r1 = 0 → ((¬ (-1 : Int) = (-1) → (Q (i_or (i_shl 1 (Int.tdiv (-1) 8)) (i_shl 1 (Int.tmod (-1) 8))) σ1)) ∧ ((-1 : Int) = (-1) → (Q (-1) σ1)))) ∧ (¬ r1 = 0 → (Ct mX12_twoFor d 0 t [rv 321, iv p1] σ1 (fun r3 σ3 => ((inR r3) ∧ ((¬ r3 = (-1) → ((inR r3) ∧ ((inR r3) ∧ (Q (i_or (i_shl 1 (Int.tdiv r3 8)) (i_shl 1 (Int.tmod r3 8))) σ3)))) ∧ (r3 = (-1) → (Q (-1) σ3))))))))))) : Ct mX12_can (d + 1) 0 t [rv 321, iv p1] σ Q := Ct_of (by decide +kernel) (Nat.le_of_ble_eq_true rfl) (b_X12_can_0 h)
set_option maxRecDepth 4000 in
theorem b_X12_foretold_95 {d : Nat} {t : Int} {Q : Int → jM → Prop} {σ : jM} {p1 p2 v3 v4 : Int} (h : (inR v4) ∧ ((26 ≤ v4 → (∀ σ2 : jM, σ2 = up σ 321 23 1 → (Q v3 σ2))) ∧ (v4 < 26 → (((0 : Int) ≤ v4 ∧ v4 < 26) ∧ (((0 : Int) ≤ v4 ∧ v4 < 2208) ∧ (∀ σ4 : jM, σ4 = up σ 322 v4 (σ 330 v4) → (Jt mX12_foretold (d + 1) 0 t Q 95 [rv 321, iv p1, iv p2, iv v3, iv (v4 + 1)] [] σ4))))))) : Jt mX12_foretold (d + 1) 0 t Q 95 [rv 321, iv p1, iv p2, iv v3, iv v4] [] σ := by
  refine j_iload (i := 4) rfl (show decode cX12_foretold 95 = .ok (.iload 4, 2) by decide +kernel) ?_
  refine j_bipush (n := 26) (by decide +kernel) (show decode cX12_foretold 97 = .ok (.bipush 26, 2) by decide +kernel) ?_
  have hr0 := h.1
  have h := h.2
  refine j_icmp_ge (tgt := 122) hr0 (inl (by decide)) (show decode cX12_foretold 99 = .ok (.if_icmp .ge 23, 3) by decide +kernel) (by decide) (fun c => ?_) (fun c => ?_)
  · have h := h.1 c
    refine s_aload_n (i := 0) rfl (show decode cX12_foretold 122 = .ok (.aload_n 0, 1) by decide +kernel) ?_
    refine j_iconst (show decode cX12_foretold 123 = .ok (.iconst 1, 1) by decide +kernel) ?_
    refine pf_X12_43 rfl (by decide) (show decode cX12_foretold 124 = .ok (.putfield 43, 3) by decide +kernel) okl_321 ?_
    obtain ⟨σ2, eσ2⟩ : ∃ z : jM, z = up σ 321 23 1 := ⟨_, rfl⟩
    refine j_sig eσ2 ?_
    have h := h σ2 eσ2
    refine j_iload_n (i := 3) rfl (show decode cX12_foretold 127 = .ok (.iload_n 3, 1) by decide +kernel) ?_
    exact j_ret (rokI (show decode cX12_foretold 128 = .ok (.ireturn, 1) by decide +kernel) rfl) ⟨rfl, rfl, h⟩
  · have h := h.2 c
    refine s_aload_n (i := 0) rfl (show decode cX12_foretold 102 = .ok (.aload_n 0, 1) by decide +kernel) ?_
    refine gf_X12_7 (x := 322) rfl (show decode cX12_foretold 103 = .ok (.getfield 7, 3) by decide +kernel) okl_321 rfl ?_
    refine j_iload (i := 4) rfl (show decode cX12_foretold 106 = .ok (.iload 4, 2) by decide +kernel) ?_
    refine s_aload_n (i := 0) rfl (show decode cX12_foretold 108 = .ok (.aload_n 0, 1) by decide +kernel) ?_
    refine gf_X12_47 (x := 330) rfl (show decode cX12_foretold 109 = .ok (.getfield 47, 3) by decide +kernel) okl_321 rfl ?_
    refine j_iload (i := 4) rfl (show decode cX12_foretold 112 = .ok (.iload 4, 2) by decide +kernel) ?_
    refine s_iald (show decode cX12_foretold 114 = .ok (.iaload, 1) by decide +kernel) okl_330 h.1 ?_
    have h := h.2
    have hb2 := h.1
    have h := h.2
    refine s_iast (show decode cX12_foretold 115 = .ok (.iastore, 1) by decide +kernel) okl_322 hb2 ?_
    obtain ⟨σ4, eσ4⟩ : ∃ z : jM, z = up σ 322 v4 (σ 330 v4) := ⟨_, rfl⟩
    refine j_sig eσ4 ?_
    have h := h σ4 eσ4
    refine s_iinc (i := 4) rfl (L' := [rv 321, iv p1, iv p2, iv v3, iv (v4 + 1)]) rfl (show decode cX12_foretold 116 = .ok (.iinc 4 1, 3) by decide +kernel) ?_
    refine j_goto (tgt := 95) (show decode cX12_foretold 119 = .ok (.goto (-24), 3) by decide +kernel) (by decide) ?_
    exact h
set_option maxRecDepth 4000 in
theorem b_X12_foretold_53 {d : Nat} {t : Int} {Q : Int → jM → Prop} {σ : jM} {p1 p2 v3 : Int} (h : (inR v3) ∧ ((inR p1) ∧ ((p1 ≤ v3 → (((0 : Int) ≤ (10 + p2) ∧ (10 + p2) < 2208) ∧ (Jt mX12_foretold (d + 1) 0 t Q 95 [rv 321, iv p1, iv p2, iv (σ 322 (10 + p2)), iv 6] [] σ))) ∧ (v3 < p1 → (((0 : Int) ≤ 6 ∧ (6 : Int) < 2208) ∧ ((inR (σ 322 6)) ∧ ((9999 ≤ (σ 322 6) → (Jt mX12_foretold (d + 1) 0 t Q 53 [rv 321, iv p1, iv p2, iv (v3 + 1), uv] [] σ)) ∧ ((σ 322 6) < 9999 → (Ct mX12_pass d 9 t [rv 321] σ (fun r4 σ4 => (Jt mX12_foretold (d + 1) 0 t Q 53 [rv 321, iv p1, iv p2, iv (v3 + 1), uv] [] σ4))))))))))) : Jt mX12_foretold (d + 1) 0 t Q 53 [rv 321, iv p1, iv p2, iv v3, uv] [] σ := by
  refine j_iload_n (i := 3) rfl (show decode cX12_foretold 53 = .ok (.iload_n 3, 1) by decide +kernel) ?_
  refine j_iload_n (i := 1) rfl (show decode cX12_foretold 54 = .ok (.iload_n 1, 1) by decide +kernel) ?_
  have hr0 := h.1
  have h := h.2
  have hr1 := h.1
  have h := h.2
  refine j_icmp_ge (tgt := 81) hr0 hr1 (show decode cX12_foretold 55 = .ok (.if_icmp .ge 26, 3) by decide +kernel) (by decide) (fun c => ?_) (fun c => ?_)
  · have h := h.1 c
    refine s_aload_n (i := 0) rfl (show decode cX12_foretold 81 = .ok (.aload_n 0, 1) by decide +kernel) ?_
    refine gf_X12_7 (x := 322) rfl (show decode cX12_foretold 82 = .ok (.getfield 7, 3) by decide +kernel) okl_321 rfl ?_
    refine j_bipush (n := 10) (by decide +kernel) (show decode cX12_foretold 85 = .ok (.bipush 10, 2) by decide +kernel) ?_
    refine j_iload_n (i := 2) rfl (show decode cX12_foretold 87 = .ok (.iload_n 2, 1) by decide +kernel) ?_
    refine j_iadd (show decode cX12_foretold 88 = .ok (.iadd, 1) by decide +kernel) ?_
    refine s_iald (show decode cX12_foretold 89 = .ok (.iaload, 1) by decide +kernel) okl_322 h.1 ?_
    have h := h.2
    refine s_ist_n (i := 3) (L' := [rv 321, iv p1, iv p2, iv (σ 322 (10 + p2)), uv]) rfl (by decide) (show decode cX12_foretold 90 = .ok (.istore_n 3, 1) by decide +kernel) ?_
    refine j_bipush (n := 6) (by decide +kernel) (show decode cX12_foretold 91 = .ok (.bipush 6, 2) by decide +kernel) ?_
    refine s_ist (i := 4) (L' := [rv 321, iv p1, iv p2, iv (σ 322 (10 + p2)), iv 6]) rfl (by decide) (show decode cX12_foretold 93 = .ok (.istore 4, 2) by decide +kernel) ?_
    exact h
  · have h := h.2 c
    refine s_aload_n (i := 0) rfl (show decode cX12_foretold 58 = .ok (.aload_n 0, 1) by decide +kernel) ?_
    refine gf_X12_7 (x := 322) rfl (show decode cX12_foretold 59 = .ok (.getfield 7, 3) by decide +kernel) okl_321 rfl ?_
    refine j_bipush (n := 6) (by decide +kernel) (show decode cX12_foretold 62 = .ok (.bipush 6, 2) by decide +kernel) ?_
    refine s_iald (show decode cX12_foretold 64 = .ok (.iaload, 1) by decide +kernel) okl_322 h.1 ?_
    have h := h.2
    refine j_sipush (n := 9999) (by decide +kernel) (show decode cX12_foretold 65 = .ok (.sipush 9999, 3) by decide +kernel) ?_
    have hr2 := h.1
    have h := h.2
    refine j_icmp_ge (tgt := 75) hr2 (inl (by decide)) (show decode cX12_foretold 68 = .ok (.if_icmp .ge 7, 3) by decide +kernel) (by decide) (fun c => ?_) (fun c => ?_)
    · have h := h.1 c
      refine s_iinc (i := 3) rfl (L' := [rv 321, iv p1, iv p2, iv (v3 + 1), uv]) rfl (show decode cX12_foretold 75 = .ok (.iinc 3 1, 3) by decide +kernel) ?_
      refine j_goto (tgt := 53) (show decode cX12_foretold 78 = .ok (.goto (-25), 3) by decide +kernel) (by decide) ?_
      exact h
    · have h := h.2 c
      refine s_aload_n (i := 0) rfl (show decode cX12_foretold 71 = .ok (.aload_n 0, 1) by decide +kernel) ?_
      refine j_ctVv (m' := mX12_pass) (As := []) (ci := 12) (N := 0) (cw_X12_352 rfl) (show decode cX12_foretold 72 = .ok (.invokevirtual 352, 3) by decide +kernel) rfl (Nat.le_of_ble_eq_true rfl) okl_321 rfl rfl (Nat.le_refl _) h (fun r4 σ4 h => ?_)
      refine s_iinc (i := 3) rfl (L' := [rv 321, iv p1, iv p2, iv (v3 + 1), uv]) rfl (show decode cX12_foretold 75 = .ok (.iinc 3 1, 3) by decide +kernel) ?_
      refine j_goto (tgt := 53) (show decode cX12_foretold 78 = .ok (.goto (-25), 3) by decide +kernel) (by decide) ?_
      exact h
set_option maxRecDepth 4000 in
theorem b_X12_foretold_22 {d : Nat} {t : Int} {Q : Int → jM → Prop} {σ : jM} {p1 p2 v3 : Int} (h : (inR v3) ∧ ((26 ≤ v3 → (∀ σ2 : jM, σ2 = up σ 321 23 0 → (Jt mX12_foretold (d + 1) 0 t Q 53 [rv 321, iv p1, iv p2, iv 0, uv] [] σ2))) ∧ (v3 < 26 → (((0 : Int) ≤ v3 ∧ v3 < 2208) ∧ (((0 : Int) ≤ v3 ∧ v3 < 26) ∧ (∀ σ4 : jM, σ4 = up σ 330 v3 (σ 322 v3) → (Jt mX12_foretold (d + 1) 0 t Q 22 [rv 321, iv p1, iv p2, iv (v3 + 1), uv] [] σ4))))))) : Jt mX12_foretold (d + 1) 0 t Q 22 [rv 321, iv p1, iv p2, iv v3, uv] [] σ := by
  refine j_iload_n (i := 3) rfl (show decode cX12_foretold 22 = .ok (.iload_n 3, 1) by decide +kernel) ?_
  refine j_bipush (n := 26) (by decide +kernel) (show decode cX12_foretold 23 = .ok (.bipush 26, 2) by decide +kernel) ?_
  have hr0 := h.1
  have h := h.2
  refine j_icmp_ge (tgt := 46) hr0 (inl (by decide)) (show decode cX12_foretold 25 = .ok (.if_icmp .ge 21, 3) by decide +kernel) (by decide) (fun c => ?_) (fun c => ?_)
  · have h := h.1 c
    refine s_aload_n (i := 0) rfl (show decode cX12_foretold 46 = .ok (.aload_n 0, 1) by decide +kernel) ?_
    refine j_iconst (show decode cX12_foretold 47 = .ok (.iconst 0, 1) by decide +kernel) ?_
    refine pf_X12_43 rfl (by decide) (show decode cX12_foretold 48 = .ok (.putfield 43, 3) by decide +kernel) okl_321 ?_
    obtain ⟨σ2, eσ2⟩ : ∃ z : jM, z = up σ 321 23 0 := ⟨_, rfl⟩
    refine j_sig eσ2 ?_
    have h := h σ2 eσ2
    refine j_iconst (show decode cX12_foretold 51 = .ok (.iconst 0, 1) by decide +kernel) ?_
    refine s_ist_n (i := 3) (L' := [rv 321, iv p1, iv p2, iv 0, uv]) rfl (by decide) (show decode cX12_foretold 52 = .ok (.istore_n 3, 1) by decide +kernel) ?_
    exact h
  · have h := h.2 c
    refine s_aload_n (i := 0) rfl (show decode cX12_foretold 28 = .ok (.aload_n 0, 1) by decide +kernel) ?_
    refine gf_X12_47 (x := 330) rfl (show decode cX12_foretold 29 = .ok (.getfield 47, 3) by decide +kernel) okl_321 rfl ?_
    refine j_iload_n (i := 3) rfl (show decode cX12_foretold 32 = .ok (.iload_n 3, 1) by decide +kernel) ?_
    refine s_aload_n (i := 0) rfl (show decode cX12_foretold 33 = .ok (.aload_n 0, 1) by decide +kernel) ?_
    refine gf_X12_7 (x := 322) rfl (show decode cX12_foretold 34 = .ok (.getfield 7, 3) by decide +kernel) okl_321 rfl ?_
    refine j_iload_n (i := 3) rfl (show decode cX12_foretold 37 = .ok (.iload_n 3, 1) by decide +kernel) ?_
    refine s_iald (show decode cX12_foretold 38 = .ok (.iaload, 1) by decide +kernel) okl_322 h.1 ?_
    have h := h.2
    have hb2 := h.1
    have h := h.2
    refine s_iast (show decode cX12_foretold 39 = .ok (.iastore, 1) by decide +kernel) okl_330 hb2 ?_
    obtain ⟨σ4, eσ4⟩ : ∃ z : jM, z = up σ 330 v3 (σ 322 v3) := ⟨_, rfl⟩
    refine j_sig eσ4 ?_
    have h := h σ4 eσ4
    refine s_iinc (i := 3) rfl (L' := [rv 321, iv p1, iv p2, iv (v3 + 1), uv]) rfl (show decode cX12_foretold 40 = .ok (.iinc 3 1, 3) by decide +kernel) ?_
    refine j_goto (tgt := 22) (show decode cX12_foretold 43 = .ok (.goto (-21), 3) by decide +kernel) (by decide) ?_
    exact h
set_option maxRecDepth 4000 in
theorem b_X12_foretold_0 {d : Nat} {t : Int} {Q : Int → jM → Prop} {σ : jM} {p1 p2 : Int} (h : Ct mX12_isIn d 0 t [iv p1, iv 1, iv 60] σ (fun r1 σ1 => ((inR r1) ∧ ((r1 = 0 → (Q (-1) σ1)) ∧ (¬ r1 = 0 → (Ct mX12_isCrock d 0 t [iv p2] σ1 (fun r3 σ3 => ((inR r3) ∧ ((¬ r3 = 0 → (Jt mX12_foretold (d + 1) 0 t Q 22 [rv 321, iv p1, iv p2, iv 6, uv] [] σ3)) ∧ (r3 = 0 → (Q (-1) σ3))))))))))) : Jt mX12_foretold (d + 1) 0 t Q 0 [rv 321, iv p1, iv p2, uv, uv] [] σ := by
  refine j_iload_n (i := 1) rfl (show decode cX12_foretold 0 = .ok (.iload_n 1, 1) by decide +kernel) ?_
  refine j_iconst (show decode cX12_foretold 1 = .ok (.iconst 1, 1) by decide +kernel) ?_
  refine j_bipush (n := 60) (by decide +kernel) (show decode cX12_foretold 2 = .ok (.bipush 60, 2) by decide +kernel) ?_
  refine j_ctS (m' := mX12_isIn) (As := [iv p1, iv 1, iv 60]) (tag := 0) (cw_X12_85 rfl) (show decode cX12_foretold 4 = .ok (.invokestatic 85, 3) by decide +kernel) rfl (Nat.le_of_ble_eq_true rfl) (by decide) (Nat.le_refl _) h (fun r1 σ1 h => ?_)
  have hr1 := h.1
  have h := h.2
  refine j_if_eq (tgt := 17) hr1 (show decode cX12_foretold 7 = .ok (.ifCond .eq 10, 3) by decide +kernel) (by decide) (fun c => ?_) (fun c => ?_)
  · have h := h.1 c
    refine j_iconst (show decode cX12_foretold 17 = .ok (.iconst (-1), 1) by decide +kernel) ?_
    exact j_ret (rokI (show decode cX12_foretold 18 = .ok (.ireturn, 1) by decide +kernel) rfl) ⟨rfl, rfl, h⟩
  · have h := h.2 c
    refine j_iload_n (i := 2) rfl (show decode cX12_foretold 10 = .ok (.iload_n 2, 1) by decide +kernel) ?_
    refine j_ctS (m' := mX12_isCrock) (As := [iv p2]) (tag := 0) (cw_X12_89 rfl) (show decode cX12_foretold 11 = .ok (.invokestatic 89, 3) by decide +kernel) rfl (Nat.le_of_ble_eq_true rfl) (by decide) (Nat.le_refl _) h (fun r3 σ3 h => ?_)
    have hr3 := h.1
    have h := h.2
    refine j_if_ne (tgt := 19) hr3 (show decode cX12_foretold 14 = .ok (.ifCond .ne 5, 3) by decide +kernel) (by decide) (fun c => ?_) (fun c => ?_)
    · have h := h.1 c
      refine j_bipush (n := 6) (by decide +kernel) (show decode cX12_foretold 19 = .ok (.bipush 6, 2) by decide +kernel) ?_
      refine s_ist_n (i := 3) (L' := [rv 321, iv p1, iv p2, iv 6, uv]) rfl (by decide) (show decode cX12_foretold 21 = .ok (.istore_n 3, 1) by decide +kernel) ?_
      exact h
    · have h := h.2 c
      refine j_iconst (show decode cX12_foretold 17 = .ok (.iconst (-1), 1) by decide +kernel) ?_
      exact j_ret (rokI (show decode cX12_foretold 18 = .ok (.ireturn, 1) by decide +kernel) rfl) ⟨rfl, rfl, h⟩
theorem c_X12_foretold {d : Nat} {t : Int} {Q : Int → jM → Prop} {σ : jM} {p1 p2 : Int} (h : Ct mX12_isIn d 0 t [iv p1, iv 1, iv 60] σ (fun r1 σ1 => ((inR r1) ∧ ((r1 = 0 → (Q (-1) σ1)) ∧ (¬ r1 = 0 → (Ct mX12_isCrock d 0 t [iv p2] σ1 (fun r3 σ3 => ((inR r3) ∧ ((¬ r3 = 0 → (Jt mX12_foretold (d + 1) 0 t Q 22 [rv 321, iv p1, iv p2, iv 6, uv] [] σ3)) ∧ (r3 = 0 → (Q (-1) σ3))))))))))) : Ct mX12_foretold (d + 1) 0 t [rv 321, iv p1, iv p2] σ Q := Ct_of (by decide +kernel) (Nat.le_of_ble_eq_true rfl) (b_X12_foretold_0 h)
set_option maxRecDepth 4000 in
theorem b_X12_isSum_10 {d : Nat} {t : Int} {Q : Int → jM → Prop} {σ : jM} {p1 p2 v3 v4 : Int} (h : (inR v4) ∧ ((inR v3) ∧ ((v3 < v4 → (Jt mX12_isSum (d) 0 t Q 2 [rv 321, iv p1, iv p2, iv (v3 + 1), uv] [] σ)) ∧ (v4 ≤ v3 → (((0 : Int) ≤ v3 ∧ v3 < 44) ∧ (((0 : Int) ≤ v4 ∧ v4 < 44) ∧ ((inR ((σ 331 v3) + (σ 331 v4))) ∧ ((inR p1) ∧ ((¬ ((σ 331 v3) + (σ 331 v4)) = p1 → (Jt mX12_isSum (d) 0 t Q 10 [rv 321, iv p1, iv p2, iv v3, iv (v4 + 1)] [] σ)) ∧ (((σ 331 v3) + (σ 331 v4)) = p1 → (Q 1 σ))))))))))) : Jt mX12_isSum (d) 0 t Q 10 [rv 321, iv p1, iv p2, iv v3, iv v4] [] σ := by
  refine j_iload (i := 4) rfl (show decode cX12_isSum 10 = .ok (.iload 4, 2) by decide +kernel) ?_
  refine j_iload_n (i := 3) rfl (show decode cX12_isSum 12 = .ok (.iload_n 3, 1) by decide +kernel) ?_
  have hr0 := h.1
  have h := h.2
  have hr1 := h.1
  have h := h.2
  refine j_icmp_gt (tgt := 42) hr0 hr1 (show decode cX12_isSum 13 = .ok (.if_icmp .gt 29, 3) by decide +kernel) (by decide) (fun c => ?_) (fun c => ?_)
  · have h := h.1 c
    refine s_iinc (i := 3) rfl (L' := [rv 321, iv p1, iv p2, iv (v3 + 1), iv v4]) rfl (show decode cX12_isSum 42 = .ok (.iinc 3 1, 3) by decide +kernel) ?_
    refine j_goto (tgt := 2) (show decode cX12_isSum 45 = .ok (.goto (-43), 3) by decide +kernel) (by decide) ?_
    refine j_drop 4 ?_
    exact h
  · have h := h.2 c
    refine s_aload_n (i := 0) rfl (show decode cX12_isSum 16 = .ok (.aload_n 0, 1) by decide +kernel) ?_
    refine gf_X12_50 (x := 331) rfl (show decode cX12_isSum 17 = .ok (.getfield 50, 3) by decide +kernel) okl_321 rfl ?_
    refine j_iload_n (i := 3) rfl (show decode cX12_isSum 20 = .ok (.iload_n 3, 1) by decide +kernel) ?_
    refine s_iald (show decode cX12_isSum 21 = .ok (.iaload, 1) by decide +kernel) okl_331 h.1 ?_
    have h := h.2
    refine s_aload_n (i := 0) rfl (show decode cX12_isSum 22 = .ok (.aload_n 0, 1) by decide +kernel) ?_
    refine gf_X12_50 (x := 331) rfl (show decode cX12_isSum 23 = .ok (.getfield 50, 3) by decide +kernel) okl_321 rfl ?_
    refine j_iload (i := 4) rfl (show decode cX12_isSum 26 = .ok (.iload 4, 2) by decide +kernel) ?_
    refine s_iald (show decode cX12_isSum 28 = .ok (.iaload, 1) by decide +kernel) okl_331 h.1 ?_
    have h := h.2
    refine j_iadd (show decode cX12_isSum 29 = .ok (.iadd, 1) by decide +kernel) ?_
    refine j_iload_n (i := 1) rfl (show decode cX12_isSum 30 = .ok (.iload_n 1, 1) by decide +kernel) ?_
    have hr2 := h.1
    have h := h.2
    have hr3 := h.1
    have h := h.2
    refine j_icmp_ne (tgt := 36) hr2 hr3 (show decode cX12_isSum 31 = .ok (.if_icmp .ne 5, 3) by decide +kernel) (by decide) (fun c => ?_) (fun c => ?_)
    · have h := h.1 c
      refine s_iinc (i := 4) rfl (L' := [rv 321, iv p1, iv p2, iv v3, iv (v4 + 1)]) rfl (show decode cX12_isSum 36 = .ok (.iinc 4 1, 3) by decide +kernel) ?_
      refine j_goto (tgt := 10) (show decode cX12_isSum 39 = .ok (.goto (-29), 3) by decide +kernel) (by decide) ?_
      exact h
    · have h := h.2 c
      refine j_iconst (show decode cX12_isSum 34 = .ok (.iconst 1, 1) by decide +kernel) ?_
      exact j_ret (rokZ (show decode cX12_isSum 35 = .ok (.ireturn, 1) by decide +kernel) rfl (Or.inr rfl)) ⟨rfl, rfl, h⟩
set_option maxRecDepth 4000 in
theorem b_X12_isSum_2 {d : Nat} {t : Int} {Q : Int → jM → Prop} {σ : jM} {p1 p2 v3 : Int} (h : (inR v3) ∧ ((inR p2) ∧ ((p2 ≤ v3 → (Q 0 σ)) ∧ (v3 < p2 → (Jt mX12_isSum (d) 0 t Q 10 [rv 321, iv p1, iv p2, iv v3, iv 0] [] σ))))) : Jt mX12_isSum (d) 0 t Q 2 [rv 321, iv p1, iv p2, iv v3, uv] [] σ := by
  refine j_iload_n (i := 3) rfl (show decode cX12_isSum 2 = .ok (.iload_n 3, 1) by decide +kernel) ?_
  refine j_iload_n (i := 2) rfl (show decode cX12_isSum 3 = .ok (.iload_n 2, 1) by decide +kernel) ?_
  have hr0 := h.1
  have h := h.2
  have hr1 := h.1
  have h := h.2
  refine j_icmp_ge (tgt := 48) hr0 hr1 (show decode cX12_isSum 4 = .ok (.if_icmp .ge 44, 3) by decide +kernel) (by decide) (fun c => ?_) (fun c => ?_)
  · have h := h.1 c
    refine j_iconst (show decode cX12_isSum 48 = .ok (.iconst 0, 1) by decide +kernel) ?_
    exact j_ret (rokZ (show decode cX12_isSum 49 = .ok (.ireturn, 1) by decide +kernel) rfl (Or.inl rfl)) ⟨rfl, rfl, h⟩
  · have h := h.2 c
    refine j_iconst (show decode cX12_isSum 7 = .ok (.iconst 0, 1) by decide +kernel) ?_
    refine s_ist (i := 4) (L' := [rv 321, iv p1, iv p2, iv v3, iv 0]) rfl (by decide) (show decode cX12_isSum 8 = .ok (.istore 4, 2) by decide +kernel) ?_
    exact h
set_option maxRecDepth 4000 in
theorem b_X12_isSum_0 {d : Nat} {t : Int} {Q : Int → jM → Prop} {σ : jM} {p1 p2 : Int} (h : Jt mX12_isSum (d) 0 t Q 2 [rv 321, iv p1, iv p2, iv 0, uv] [] σ) : Jt mX12_isSum (d) 0 t Q 0 [rv 321, iv p1, iv p2, uv, uv] [] σ := by
  refine j_iconst (show decode cX12_isSum 0 = .ok (.iconst 0, 1) by decide +kernel) ?_
  refine s_ist_n (i := 3) (L' := [rv 321, iv p1, iv p2, iv 0, uv]) rfl (by decide) (show decode cX12_isSum 1 = .ok (.istore_n 3, 1) by decide +kernel) ?_
  exact h
theorem c_X12_isSum {d : Nat} {t : Int} {Q : Int → jM → Prop} {σ : jM} {p1 p2 : Int} (h : Jt mX12_isSum (d) 0 t Q 2 [rv 321, iv p1, iv p2, iv 0, uv] [] σ) : Ct mX12_isSum (d) 0 t [rv 321, iv p1, iv p2] σ Q := Ct_of (by decide +kernel) (Nat.le_of_ble_eq_true rfl) (b_X12_isSum_0 h)
set_option maxRecDepth 4000 in
theorem b_X12_isShort_45 {d : Nat} {t : Int} {Q : Int → jM → Prop} {σ : jM} {p1 p2 p3 v4 v5 : Int} (h : (inR v5) ∧ ((inR p2) ∧ ((p2 ≤ v5 → ((inR v4) ∧ ((inR p3) ∧ ((v4 ≤ p3 → (Q 0 σ)) ∧ (p3 < v4 → (Q 1 σ)))))) ∧ (v5 < p2 → (Ct mX12_isOrder d 0 t [rv 321, iv v5] σ (fun r5 σ5 => ((inR r5) ∧ ((r5 = 0 → (Jt mX12_isShort (d + 1) 0 t Q 45 [rv 321, iv p1, iv p2, iv p3, iv v4, iv (v5 + 1)] [] σ5)) ∧ (¬ r5 = 0 → (Q 1 σ5)))))))))) : Jt mX12_isShort (d + 1) 0 t Q 45 [rv 321, iv p1, iv p2, iv p3, iv v4, iv v5] [] σ := by
  refine j_iload (i := 5) rfl (show decode cX12_isShort 45 = .ok (.iload 5, 2) by decide +kernel) ?_
  refine j_iload_n (i := 2) rfl (show decode cX12_isShort 47 = .ok (.iload_n 2, 1) by decide +kernel) ?_
  have hr0 := h.1
  have h := h.2
  have hr1 := h.1
  have h := h.2
  refine j_icmp_ge (tgt := 68) hr0 hr1 (show decode cX12_isShort 48 = .ok (.if_icmp .ge 20, 3) by decide +kernel) (by decide) (fun c => ?_) (fun c => ?_)
  · have h := h.1 c
    refine j_iload (i := 4) rfl (show decode cX12_isShort 68 = .ok (.iload 4, 2) by decide +kernel) ?_
    refine j_iload_n (i := 3) rfl (show decode cX12_isShort 70 = .ok (.iload_n 3, 1) by decide +kernel) ?_
    have hr2 := h.1
    have h := h.2
    have hr3 := h.1
    have h := h.2
    refine j_icmp_le (tgt := 78) hr2 hr3 (show decode cX12_isShort 71 = .ok (.if_icmp .le 7, 3) by decide +kernel) (by decide) (fun c => ?_) (fun c => ?_)
    · have h := h.1 c
      refine j_iconst (show decode cX12_isShort 78 = .ok (.iconst 0, 1) by decide +kernel) ?_
      exact j_ret (rokZ (show decode cX12_isShort 79 = .ok (.ireturn, 1) by decide +kernel) rfl (Or.inl rfl)) ⟨rfl, rfl, h⟩
    · have h := h.2 c
      refine j_iconst (show decode cX12_isShort 74 = .ok (.iconst 1, 1) by decide +kernel) ?_
      refine j_goto (tgt := 79) (show decode cX12_isShort 75 = .ok (.goto 4, 3) by decide +kernel) (by decide) ?_
      exact j_ret (rokZ (show decode cX12_isShort 79 = .ok (.ireturn, 1) by decide +kernel) rfl (Or.inr rfl)) ⟨rfl, rfl, h⟩
  · have h := h.2 c
    refine s_aload_n (i := 0) rfl (show decode cX12_isShort 51 = .ok (.aload_n 0, 1) by decide +kernel) ?_
    refine j_iload (i := 5) rfl (show decode cX12_isShort 52 = .ok (.iload 5, 2) by decide +kernel) ?_
    refine j_ctV (m' := mX12_isOrder) (As := [iv v5]) (ci := 12) (tag := 0) (N := 0) (cw_X12_388 rfl) (show decode cX12_isShort 54 = .ok (.invokevirtual 388, 3) by decide +kernel) rfl (Nat.le_of_ble_eq_true rfl) (by decide) okl_321 rfl rfl (Nat.le_refl _) h (fun r5 σ5 h => ?_)
    have hr5 := h.1
    have h := h.2
    refine j_if_eq (tgt := 62) hr5 (show decode cX12_isShort 57 = .ok (.ifCond .eq 5, 3) by decide +kernel) (by decide) (fun c => ?_) (fun c => ?_)
    · have h := h.1 c
      refine s_iinc (i := 5) rfl (L' := [rv 321, iv p1, iv p2, iv p3, iv v4, iv (v5 + 1)]) rfl (show decode cX12_isShort 62 = .ok (.iinc 5 1, 3) by decide +kernel) ?_
      refine j_goto (tgt := 45) (show decode cX12_isShort 65 = .ok (.goto (-20), 3) by decide +kernel) (by decide) ?_
      exact h
    · have h := h.2 c
      refine j_iconst (show decode cX12_isShort 60 = .ok (.iconst 1, 1) by decide +kernel) ?_
      exact j_ret (rokZ (show decode cX12_isShort 61 = .ok (.ireturn, 1) by decide +kernel) rfl (Or.inr rfl)) ⟨rfl, rfl, h⟩
set_option maxRecDepth 4000 in
theorem b_X12_isShort_8 {d : Nat} {t : Int} {Q : Int → jM → Prop} {σ : jM} {p1 p2 p3 v4 v5 : Int} (h : (inR v5) ∧ ((40 < v5 → (Jt mX12_isShort (d + 1) 0 t Q 45 [rv 321, iv p1, iv p2, iv p3, iv v4, iv (p1 + 1)] [] σ)) ∧ (v5 ≤ 40 → (Ct mX12_isOrder d 0 t [rv 321, iv v5] σ (fun r2 σ2 => ((inR r2) ∧ ((r2 = 0 → (Jt mX12_isShort (d + 1) 0 t Q 8 [rv 321, iv p1, iv p2, iv p3, iv (v4 + 0), iv (v5 + 1)] [] σ2)) ∧ (¬ r2 = 0 → (Jt mX12_isShort (d + 1) 0 t Q 8 [rv 321, iv p1, iv p2, iv p3, iv (v4 + 1), iv (v5 + 1)] [] σ2))))))))) : Jt mX12_isShort (d + 1) 0 t Q 8 [rv 321, iv p1, iv p2, iv p3, iv v4, iv v5] [] σ := by
  refine j_iload (i := 5) rfl (show decode cX12_isShort 8 = .ok (.iload 5, 2) by decide +kernel) ?_
  refine j_bipush (n := 40) (by decide +kernel) (show decode cX12_isShort 10 = .ok (.bipush 40, 2) by decide +kernel) ?_
  have hr0 := h.1
  have h := h.2
  refine j_icmp_gt (tgt := 40) hr0 (inl (by decide)) (show decode cX12_isShort 12 = .ok (.if_icmp .gt 28, 3) by decide +kernel) (by decide) (fun c => ?_) (fun c => ?_)
  · have h := h.1 c
    refine j_iload_n (i := 1) rfl (show decode cX12_isShort 40 = .ok (.iload_n 1, 1) by decide +kernel) ?_
    refine j_iconst (show decode cX12_isShort 41 = .ok (.iconst 1, 1) by decide +kernel) ?_
    refine j_iadd (show decode cX12_isShort 42 = .ok (.iadd, 1) by decide +kernel) ?_
    refine s_ist (i := 5) (L' := [rv 321, iv p1, iv p2, iv p3, iv v4, iv (p1 + 1)]) rfl (by decide) (show decode cX12_isShort 43 = .ok (.istore 5, 2) by decide +kernel) ?_
    exact h
  · have h := h.2 c
    refine j_iload (i := 4) rfl (show decode cX12_isShort 15 = .ok (.iload 4, 2) by decide +kernel) ?_
    refine s_aload_n (i := 0) rfl (show decode cX12_isShort 17 = .ok (.aload_n 0, 1) by decide +kernel) ?_
    refine j_iload (i := 5) rfl (show decode cX12_isShort 18 = .ok (.iload 5, 2) by decide +kernel) ?_
    refine j_ctV (m' := mX12_isOrder) (As := [iv v5]) (ci := 12) (tag := 0) (N := 0) (cw_X12_388 rfl) (show decode cX12_isShort 20 = .ok (.invokevirtual 388, 3) by decide +kernel) rfl (Nat.le_of_ble_eq_true rfl) (by decide) okl_321 rfl rfl (Nat.le_refl _) h (fun r2 σ2 h => ?_)
    have hr2 := h.1
    have h := h.2
    refine j_if_eq (tgt := 30) hr2 (show decode cX12_isShort 23 = .ok (.ifCond .eq 7, 3) by decide +kernel) (by decide) (fun c => ?_) (fun c => ?_)
    · have h := h.1 c
      refine j_iconst (show decode cX12_isShort 30 = .ok (.iconst 0, 1) by decide +kernel) ?_
      refine j_iadd (show decode cX12_isShort 31 = .ok (.iadd, 1) by decide +kernel) ?_
      refine s_ist (i := 4) (L' := [rv 321, iv p1, iv p2, iv p3, iv (v4 + 0), iv v5]) rfl (by decide) (show decode cX12_isShort 32 = .ok (.istore 4, 2) by decide +kernel) ?_
      refine s_iinc (i := 5) rfl (L' := [rv 321, iv p1, iv p2, iv p3, iv (v4 + 0), iv (v5 + 1)]) rfl (show decode cX12_isShort 34 = .ok (.iinc 5 1, 3) by decide +kernel) ?_
      refine j_goto (tgt := 8) (show decode cX12_isShort 37 = .ok (.goto (-29), 3) by decide +kernel) (by decide) ?_
      exact h
    · have h := h.2 c
      refine j_iconst (show decode cX12_isShort 26 = .ok (.iconst 1, 1) by decide +kernel) ?_
      refine j_goto (tgt := 31) (show decode cX12_isShort 27 = .ok (.goto 4, 3) by decide +kernel) (by decide) ?_
      refine j_iadd (show decode cX12_isShort 31 = .ok (.iadd, 1) by decide +kernel) ?_
      refine s_ist (i := 4) (L' := [rv 321, iv p1, iv p2, iv p3, iv (v4 + 1), iv v5]) rfl (by decide) (show decode cX12_isShort 32 = .ok (.istore 4, 2) by decide +kernel) ?_
      refine s_iinc (i := 5) rfl (L' := [rv 321, iv p1, iv p2, iv p3, iv (v4 + 1), iv (v5 + 1)]) rfl (show decode cX12_isShort 34 = .ok (.iinc 5 1, 3) by decide +kernel) ?_
      refine j_goto (tgt := 8) (show decode cX12_isShort 37 = .ok (.goto (-29), 3) by decide +kernel) (by decide) ?_
      exact h
set_option maxRecDepth 4000 in
theorem b_X12_isShort_0 {d : Nat} {t : Int} {Q : Int → jM → Prop} {σ : jM} {p1 p2 p3 : Int} (h : Jt mX12_isShort (d + 1) 0 t Q 8 [rv 321, iv p1, iv p2, iv p3, iv 0, iv (p2 + 1)] [] σ) : Jt mX12_isShort (d + 1) 0 t Q 0 [rv 321, iv p1, iv p2, iv p3, uv, uv] [] σ := by
  refine j_iconst (show decode cX12_isShort 0 = .ok (.iconst 0, 1) by decide +kernel) ?_
  refine s_ist (i := 4) (L' := [rv 321, iv p1, iv p2, iv p3, iv 0, uv]) rfl (by decide) (show decode cX12_isShort 1 = .ok (.istore 4, 2) by decide +kernel) ?_
  refine j_iload_n (i := 2) rfl (show decode cX12_isShort 3 = .ok (.iload_n 2, 1) by decide +kernel) ?_
  refine j_iconst (show decode cX12_isShort 4 = .ok (.iconst 1, 1) by decide +kernel) ?_
  refine j_iadd (show decode cX12_isShort 5 = .ok (.iadd, 1) by decide +kernel) ?_
  refine s_ist (i := 5) (L' := [rv 321, iv p1, iv p2, iv p3, iv 0, iv (p2 + 1)]) rfl (by decide) (show decode cX12_isShort 6 = .ok (.istore 5, 2) by decide +kernel) ?_
  exact h
theorem c_X12_isShort {d : Nat} {t : Int} {Q : Int → jM → Prop} {σ : jM} {p1 p2 p3 : Int} (h : Jt mX12_isShort (d + 1) 0 t Q 8 [rv 321, iv p1, iv p2, iv p3, iv 0, iv (p2 + 1)] [] σ) : Ct mX12_isShort (d + 1) 0 t [rv 321, iv p1, iv p2, iv p3] σ Q := Ct_of (by decide +kernel) (Nat.le_of_ble_eq_true rfl) (b_X12_isShort_0 h)
set_option maxRecDepth 4000 in
theorem b_X12_isOrder_2 {d : Nat} {t : Int} {Q : Int → jM → Prop} {σ : jM} {p1 v2 : Int} (h : ((0 : Int) ≤ 3 ∧ (3 : Int) < 2208) ∧ ((inR v2) ∧ ((inR (σ 322 3)) ∧ (((σ 322 3) ≤ v2 → (Q 0 σ)) ∧ (v2 < (σ 322 3) → (((0 : Int) ≤ (26 + v2) ∧ (26 + v2) < 2208) ∧ ((inR (σ 322 (26 + v2))) ∧ ((inR p1) ∧ ((¬ (σ 322 (26 + v2)) = p1 → (Jt mX12_isOrder (d) 0 t Q 2 [rv 321, iv p1, iv (v2 + 1)] [] σ)) ∧ ((σ 322 (26 + v2)) = p1 → (Q 1 σ))))))))))) : Jt mX12_isOrder (d) 0 t Q 2 [rv 321, iv p1, iv v2] [] σ := by
  refine j_iload_n (i := 2) rfl (show decode cX12_isOrder 2 = .ok (.iload_n 2, 1) by decide +kernel) ?_
  refine s_aload_n (i := 0) rfl (show decode cX12_isOrder 3 = .ok (.aload_n 0, 1) by decide +kernel) ?_
  refine gf_X12_7 (x := 322) rfl (show decode cX12_isOrder 4 = .ok (.getfield 7, 3) by decide +kernel) okl_321 rfl ?_
  refine j_iconst (show decode cX12_isOrder 7 = .ok (.iconst 3, 1) by decide +kernel) ?_
  refine s_iald (show decode cX12_isOrder 8 = .ok (.iaload, 1) by decide +kernel) okl_322 h.1 ?_
  have h := h.2
  have hr0 := h.1
  have h := h.2
  have hr1 := h.1
  have h := h.2
  refine j_icmp_ge (tgt := 33) hr0 hr1 (show decode cX12_isOrder 9 = .ok (.if_icmp .ge 24, 3) by decide +kernel) (by decide) (fun c => ?_) (fun c => ?_)
  · have h := h.1 c
    refine j_iconst (show decode cX12_isOrder 33 = .ok (.iconst 0, 1) by decide +kernel) ?_
    exact j_ret (rokZ (show decode cX12_isOrder 34 = .ok (.ireturn, 1) by decide +kernel) rfl (Or.inl rfl)) ⟨rfl, rfl, h⟩
  · have h := h.2 c
    refine s_aload_n (i := 0) rfl (show decode cX12_isOrder 12 = .ok (.aload_n 0, 1) by decide +kernel) ?_
    refine gf_X12_7 (x := 322) rfl (show decode cX12_isOrder 13 = .ok (.getfield 7, 3) by decide +kernel) okl_321 rfl ?_
    refine j_bipush (n := 26) (by decide +kernel) (show decode cX12_isOrder 16 = .ok (.bipush 26, 2) by decide +kernel) ?_
    refine j_iload_n (i := 2) rfl (show decode cX12_isOrder 18 = .ok (.iload_n 2, 1) by decide +kernel) ?_
    refine j_iadd (show decode cX12_isOrder 19 = .ok (.iadd, 1) by decide +kernel) ?_
    refine s_iald (show decode cX12_isOrder 20 = .ok (.iaload, 1) by decide +kernel) okl_322 h.1 ?_
    have h := h.2
    refine j_iload_n (i := 1) rfl (show decode cX12_isOrder 21 = .ok (.iload_n 1, 1) by decide +kernel) ?_
    have hr2 := h.1
    have h := h.2
    have hr3 := h.1
    have h := h.2
    refine j_icmp_ne (tgt := 27) hr2 hr3 (show decode cX12_isOrder 22 = .ok (.if_icmp .ne 5, 3) by decide +kernel) (by decide) (fun c => ?_) (fun c => ?_)
    · have h := h.1 c
      refine s_iinc (i := 2) rfl (L' := [rv 321, iv p1, iv (v2 + 1)]) rfl (show decode cX12_isOrder 27 = .ok (.iinc 2 1, 3) by decide +kernel) ?_
      refine j_goto (tgt := 2) (show decode cX12_isOrder 30 = .ok (.goto (-28), 3) by decide +kernel) (by decide) ?_
      exact h
    · have h := h.2 c
      refine j_iconst (show decode cX12_isOrder 25 = .ok (.iconst 1, 1) by decide +kernel) ?_
      exact j_ret (rokZ (show decode cX12_isOrder 26 = .ok (.ireturn, 1) by decide +kernel) rfl (Or.inr rfl)) ⟨rfl, rfl, h⟩
set_option maxRecDepth 4000 in
theorem b_X12_isOrder_0 {d : Nat} {t : Int} {Q : Int → jM → Prop} {σ : jM} {p1 : Int} (h : Jt mX12_isOrder (d) 0 t Q 2 [rv 321, iv p1, iv 0] [] σ) : Jt mX12_isOrder (d) 0 t Q 0 [rv 321, iv p1, uv] [] σ := by
  refine j_iconst (show decode cX12_isOrder 0 = .ok (.iconst 0, 1) by decide +kernel) ?_
  refine s_ist_n (i := 2) (L' := [rv 321, iv p1, iv 0]) rfl (by decide) (show decode cX12_isOrder 1 = .ok (.istore_n 2, 1) by decide +kernel) ?_
  exact h
theorem c_X12_isOrder {d : Nat} {t : Int} {Q : Int → jM → Prop} {σ : jM} {p1 : Int} (h : Jt mX12_isOrder (d) 0 t Q 2 [rv 321, iv p1, iv 0] [] σ) : Ct mX12_isOrder (d) 0 t [rv 321, iv p1] σ Q := Ct_of (by decide +kernel) (Nat.le_of_ble_eq_true rfl) (b_X12_isOrder_0 h)
set_option maxRecDepth 4000 in
theorem b_X12_nextNumber_106 {d : Nat} {t : Int} {Q : Int → jM → Prop} {σ : jM} {p1 p2 p3 p4 v5 : Int} (h : Jt mX12_nextNumber (d + 1) 0 t Q 10 [rv 321, iv p1, iv p2, iv p3, iv p4, iv (v5 + 1)] [] σ) : Jt mX12_nextNumber (d + 1) 0 t Q 106 [rv 321, iv p1, iv p2, iv p3, iv p4, iv v5] [] σ := by
  refine s_iinc (i := 5) rfl (L' := [rv 321, iv p1, iv p2, iv p3, iv p4, iv (v5 + 1)]) rfl (show decode cX12_nextNumber 106 = .ok (.iinc 5 1, 3) by decide +kernel) ?_
  refine j_goto (tgt := 10) (show decode cX12_nextNumber 109 = .ok (.goto (-99), 3) by decide +kernel) (by decide) ?_
  exact h
set_option maxRecDepth 4000 in
theorem b_X12_nextNumber_103 {d : Nat} {t : Int} {Q : Int → jM → Prop} {σ : jM} {p1 p2 p3 p4 v5 : Int} (h : Q v5 σ) : Jt mX12_nextNumber (d + 1) 0 t Q 103 [rv 321, iv p1, iv p2, iv p3, iv p4, iv v5] [] σ := by
  refine j_iload (i := 5) rfl (show decode cX12_nextNumber 103 = .ok (.iload 5, 2) by decide +kernel) ?_
  exact j_ret (rokI (show decode cX12_nextNumber 105 = .ok (.ireturn, 1) by decide +kernel) rfl) ⟨rfl, rfl, h⟩
set_option maxRecDepth 4000 in
theorem b_X12_nextNumber_52 {d : Nat} {t : Int} {Q : Int → jM → Prop} {σ : jM} {p1 p2 p3 p4 v5 u0 u1 : Int} (h : (inR u1) ∧ ((inR u0) ∧ ((¬ u1 = u0 → (Jt mX12_nextNumber (d + 1) 0 t Q 106 [rv 321, iv p1, iv p2, iv p3, iv p4, iv v5] [] σ)) ∧ (u1 = u0 → ((inR (i_shl v5 (p2 - p3))) ∧ ((inR p1) ∧ (((i_shl v5 (p2 - p3)) < p1 → (Jt mX12_nextNumber (d + 1) 0 t Q 106 [rv 321, iv p1, iv p2, iv p3, iv p4, iv v5] [] σ)) ∧ (p1 ≤ (i_shl v5 (p2 - p3)) → (Ct mX12_isSum d 0 t [rv 321, iv v5, iv p3] σ (fun r5 σ5 => ((inR r5) ∧ ((¬ r5 = 0 → ((inR p4) ∧ ((p4 = 0 → (Jt mX12_nextNumber (d + 1) 0 t Q 103 [rv 321, iv p1, iv p2, iv p3, iv p4, iv v5] [] σ5)) ∧ (¬ p4 = 0 → (((0 : Int) ≤ (p3 - 1) ∧ (p3 - 1) < 44) ∧ (Ct mX12_isShort d 0 t [rv 321, iv (σ5 331 (p3 - 1)), iv v5, iv (p2 - p3)] σ5 (fun r8 σ8 => ((inR r8) ∧ ((¬ r8 = 0 → (Jt mX12_nextNumber (d + 1) 0 t Q 106 [rv 321, iv p1, iv p2, iv p3, iv p4, iv v5] [] σ8)) ∧ (r8 = 0 → (Jt mX12_nextNumber (d + 1) 0 t Q 103 [rv 321, iv p1, iv p2, iv p3, iv p4, iv v5] [] σ8))))))))))) ∧ (r5 = 0 → (Jt mX12_nextNumber (d + 1) 0 t Q 106 [rv 321, iv p1, iv p2, iv p3, iv p4, iv v5] [] σ5)))))))))))))) : Jt mX12_nextNumber (d + 1) 0 t Q 52 [rv 321, iv p1, iv p2, iv p3, iv p4, iv v5] [iv u0, iv u1] σ := by
  have hr0 := h.1
  have h := h.2
  have hr1 := h.1
  have h := h.2
  refine j_icmp_ne (tgt := 106) hr0 hr1 (show decode cX12_nextNumber 52 = .ok (.if_icmp .ne 54, 3) by decide +kernel) (by decide) (fun c => ?_) (fun c => ?_)
  · have h := h.1 c
    exact h
  · have h := h.2 c
    refine j_iload (i := 5) rfl (show decode cX12_nextNumber 55 = .ok (.iload 5, 2) by decide +kernel) ?_
    refine j_iload_n (i := 2) rfl (show decode cX12_nextNumber 57 = .ok (.iload_n 2, 1) by decide +kernel) ?_
    refine j_iload_n (i := 3) rfl (show decode cX12_nextNumber 58 = .ok (.iload_n 3, 1) by decide +kernel) ?_
    refine j_isub (show decode cX12_nextNumber 59 = .ok (.isub, 1) by decide +kernel) ?_
    refine j_ishl (show decode cX12_nextNumber 60 = .ok (.ishl, 1) by decide +kernel) ?_
    refine j_iload_n (i := 1) rfl (show decode cX12_nextNumber 61 = .ok (.iload_n 1, 1) by decide +kernel) ?_
    have hr2 := h.1
    have h := h.2
    have hr3 := h.1
    have h := h.2
    refine j_icmp_lt (tgt := 106) hr2 hr3 (show decode cX12_nextNumber 62 = .ok (.if_icmp .lt 44, 3) by decide +kernel) (by decide) (fun c => ?_) (fun c => ?_)
    · have h := h.1 c
      exact h
    · have h := h.2 c
      refine s_aload_n (i := 0) rfl (show decode cX12_nextNumber 65 = .ok (.aload_n 0, 1) by decide +kernel) ?_
      refine j_iload (i := 5) rfl (show decode cX12_nextNumber 66 = .ok (.iload 5, 2) by decide +kernel) ?_
      refine j_iload_n (i := 3) rfl (show decode cX12_nextNumber 68 = .ok (.iload_n 3, 1) by decide +kernel) ?_
      refine j_ctV (m' := mX12_isSum) (As := [iv v5, iv p3]) (ci := 12) (tag := 0) (N := 0) (cw_X12_391 rfl) (show decode cX12_nextNumber 69 = .ok (.invokevirtual 391, 3) by decide +kernel) rfl (Nat.le_of_ble_eq_true rfl) (by decide) okl_321 rfl rfl (Nat.le_refl _) h (fun r5 σ5 h => ?_)
      have hr5 := h.1
      have h := h.2
      refine j_if_ne (tgt := 78) hr5 (show decode cX12_nextNumber 72 = .ok (.ifCond .ne 6, 3) by decide +kernel) (by decide) (fun c => ?_) (fun c => ?_)
      · have h := h.1 c
        refine j_iload (i := 4) rfl (show decode cX12_nextNumber 78 = .ok (.iload 4, 2) by decide +kernel) ?_
        have hr6 := h.1
        have h := h.2
        refine j_if_eq (tgt := 103) hr6 (show decode cX12_nextNumber 80 = .ok (.ifCond .eq 23, 3) by decide +kernel) (by decide) (fun c => ?_) (fun c => ?_)
        · have h := h.1 c
          exact h
        · have h := h.2 c
          refine s_aload_n (i := 0) rfl (show decode cX12_nextNumber 83 = .ok (.aload_n 0, 1) by decide +kernel) ?_
          refine s_aload_n (i := 0) rfl (show decode cX12_nextNumber 84 = .ok (.aload_n 0, 1) by decide +kernel) ?_
          refine gf_X12_50 (x := 331) rfl (show decode cX12_nextNumber 85 = .ok (.getfield 50, 3) by decide +kernel) okl_321 rfl ?_
          refine j_iload_n (i := 3) rfl (show decode cX12_nextNumber 88 = .ok (.iload_n 3, 1) by decide +kernel) ?_
          refine j_iconst (show decode cX12_nextNumber 89 = .ok (.iconst 1, 1) by decide +kernel) ?_
          refine j_isub (show decode cX12_nextNumber 90 = .ok (.isub, 1) by decide +kernel) ?_
          refine s_iald (show decode cX12_nextNumber 91 = .ok (.iaload, 1) by decide +kernel) okl_331 h.1 ?_
          have h := h.2
          refine j_iload (i := 5) rfl (show decode cX12_nextNumber 92 = .ok (.iload 5, 2) by decide +kernel) ?_
          refine j_iload_n (i := 2) rfl (show decode cX12_nextNumber 94 = .ok (.iload_n 2, 1) by decide +kernel) ?_
          refine j_iload_n (i := 3) rfl (show decode cX12_nextNumber 95 = .ok (.iload_n 3, 1) by decide +kernel) ?_
          refine j_isub (show decode cX12_nextNumber 96 = .ok (.isub, 1) by decide +kernel) ?_
          refine j_ctV (m' := mX12_isShort) (As := [iv (σ5 331 (p3 - 1)), iv v5, iv (p2 - p3)]) (ci := 12) (tag := 0) (N := 0) (cw_X12_394 rfl) (show decode cX12_nextNumber 97 = .ok (.invokevirtual 394, 3) by decide +kernel) rfl (Nat.le_of_ble_eq_true rfl) (by decide) okl_321 rfl rfl (Nat.le_refl _) h (fun r8 σ8 h => ?_)
          have hr8 := h.1
          have h := h.2
          refine j_if_ne (tgt := 106) hr8 (show decode cX12_nextNumber 100 = .ok (.ifCond .ne 6, 3) by decide +kernel) (by decide) (fun c => ?_) (fun c => ?_)
          · have h := h.1 c
            exact h
          · have h := h.2 c
            exact h
      · have h := h.2 c
        refine j_goto (tgt := 106) (show decode cX12_nextNumber 75 = .ok (.goto 31, 3) by decide +kernel) (by decide) ?_
        exact h
set_option maxRecDepth 4000 in
theorem b_X12_nextNumber_10 {d : Nat} {t : Int} {Q : Int → jM → Prop} {σ : jM} {p1 p2 p3 p4 v5 : Int} (h : (inR v5) ∧ ((inR p1) ∧ ((p1 < v5 → (Q (p1 + 1) σ)) ∧ (v5 ≤ p1 → (((0 : Int) ≤ (p3 - 1) ∧ (p3 - 1) < 44) ∧ ((inR v5) ∧ ((inR (2 * (σ 331 (p3 - 1)))) ∧ (((2 * (σ 331 (p3 - 1))) < v5 → (Q (p1 + 1) σ)) ∧ (v5 ≤ (2 * (σ 331 (p3 - 1))) → ((inR v5) ∧ ((inR p1) ∧ ((¬ v5 = p1 → ((inR p3) ∧ ((inR p2) ∧ ((¬ p3 = p2 → (Jt mX12_nextNumber (d + 1) 0 t Q 52 [rv 321, iv p1, iv p2, iv p3, iv p4, iv v5] [iv 0, iv 0] σ)) ∧ (p3 = p2 → (Jt mX12_nextNumber (d + 1) 0 t Q 52 [rv 321, iv p1, iv p2, iv p3, iv p4, iv v5] [iv 1, iv 0] σ)))))) ∧ (v5 = p1 → ((inR p3) ∧ ((inR p2) ∧ ((¬ p3 = p2 → (Jt mX12_nextNumber (d + 1) 0 t Q 52 [rv 321, iv p1, iv p2, iv p3, iv p4, iv v5] [iv 0, iv 1] σ)) ∧ (p3 = p2 → (Jt mX12_nextNumber (d + 1) 0 t Q 52 [rv 321, iv p1, iv p2, iv p3, iv p4, iv v5] [iv 1, iv 1] σ)))))))))))))))))) : Jt mX12_nextNumber (d + 1) 0 t Q 10 [rv 321, iv p1, iv p2, iv p3, iv p4, iv v5] [] σ := by
  refine j_iload (i := 5) rfl (show decode cX12_nextNumber 10 = .ok (.iload 5, 2) by decide +kernel) ?_
  refine j_iload_n (i := 1) rfl (show decode cX12_nextNumber 12 = .ok (.iload_n 1, 1) by decide +kernel) ?_
  have hr0 := h.1
  have h := h.2
  have hr1 := h.1
  have h := h.2
  refine j_icmp_gt (tgt := 112) hr0 hr1 (show decode cX12_nextNumber 13 = .ok (.if_icmp .gt 99, 3) by decide +kernel) (by decide) (fun c => ?_) (fun c => ?_)
  · have h := h.1 c
    refine j_iload_n (i := 1) rfl (show decode cX12_nextNumber 112 = .ok (.iload_n 1, 1) by decide +kernel) ?_
    refine j_iconst (show decode cX12_nextNumber 113 = .ok (.iconst 1, 1) by decide +kernel) ?_
    refine j_iadd (show decode cX12_nextNumber 114 = .ok (.iadd, 1) by decide +kernel) ?_
    exact j_ret (rokI (show decode cX12_nextNumber 115 = .ok (.ireturn, 1) by decide +kernel) rfl) ⟨rfl, rfl, h⟩
  · have h := h.2 c
    refine j_iload (i := 5) rfl (show decode cX12_nextNumber 16 = .ok (.iload 5, 2) by decide +kernel) ?_
    refine j_iconst (show decode cX12_nextNumber 18 = .ok (.iconst 2, 1) by decide +kernel) ?_
    refine s_aload_n (i := 0) rfl (show decode cX12_nextNumber 19 = .ok (.aload_n 0, 1) by decide +kernel) ?_
    refine gf_X12_50 (x := 331) rfl (show decode cX12_nextNumber 20 = .ok (.getfield 50, 3) by decide +kernel) okl_321 rfl ?_
    refine j_iload_n (i := 3) rfl (show decode cX12_nextNumber 23 = .ok (.iload_n 3, 1) by decide +kernel) ?_
    refine j_iconst (show decode cX12_nextNumber 24 = .ok (.iconst 1, 1) by decide +kernel) ?_
    refine j_isub (show decode cX12_nextNumber 25 = .ok (.isub, 1) by decide +kernel) ?_
    refine s_iald (show decode cX12_nextNumber 26 = .ok (.iaload, 1) by decide +kernel) okl_331 h.1 ?_
    have h := h.2
    refine j_imul (show decode cX12_nextNumber 27 = .ok (.imul, 1) by decide +kernel) ?_
    have hr2 := h.1
    have h := h.2
    have hr3 := h.1
    have h := h.2
    refine j_icmp_gt (tgt := 112) hr2 hr3 (show decode cX12_nextNumber 28 = .ok (.if_icmp .gt 84, 3) by decide +kernel) (by decide) (fun c => ?_) (fun c => ?_)
    · have h := h.1 c
      refine j_iload_n (i := 1) rfl (show decode cX12_nextNumber 112 = .ok (.iload_n 1, 1) by decide +kernel) ?_
      refine j_iconst (show decode cX12_nextNumber 113 = .ok (.iconst 1, 1) by decide +kernel) ?_
      refine j_iadd (show decode cX12_nextNumber 114 = .ok (.iadd, 1) by decide +kernel) ?_
      exact j_ret (rokI (show decode cX12_nextNumber 115 = .ok (.ireturn, 1) by decide +kernel) rfl) ⟨rfl, rfl, h⟩
    · have h := h.2 c
      refine j_iload (i := 5) rfl (show decode cX12_nextNumber 31 = .ok (.iload 5, 2) by decide +kernel) ?_
      refine j_iload_n (i := 1) rfl (show decode cX12_nextNumber 33 = .ok (.iload_n 1, 1) by decide +kernel) ?_
      have hr4 := h.1
      have h := h.2
      have hr5 := h.1
      have h := h.2
      refine j_icmp_ne (tgt := 41) hr4 hr5 (show decode cX12_nextNumber 34 = .ok (.if_icmp .ne 7, 3) by decide +kernel) (by decide) (fun c => ?_) (fun c => ?_)
      · have h := h.1 c
        refine j_iconst (show decode cX12_nextNumber 41 = .ok (.iconst 0, 1) by decide +kernel) ?_
        refine j_iload_n (i := 3) rfl (show decode cX12_nextNumber 42 = .ok (.iload_n 3, 1) by decide +kernel) ?_
        refine j_iload_n (i := 2) rfl (show decode cX12_nextNumber 43 = .ok (.iload_n 2, 1) by decide +kernel) ?_
        have hr6 := h.1
        have h := h.2
        have hr7 := h.1
        have h := h.2
        refine j_icmp_ne (tgt := 51) hr6 hr7 (show decode cX12_nextNumber 44 = .ok (.if_icmp .ne 7, 3) by decide +kernel) (by decide) (fun c => ?_) (fun c => ?_)
        · have h := h.1 c
          refine j_iconst (show decode cX12_nextNumber 51 = .ok (.iconst 0, 1) by decide +kernel) ?_
          exact h
        · have h := h.2 c
          refine j_iconst (show decode cX12_nextNumber 47 = .ok (.iconst 1, 1) by decide +kernel) ?_
          refine j_goto (tgt := 52) (show decode cX12_nextNumber 48 = .ok (.goto 4, 3) by decide +kernel) (by decide) ?_
          exact h
      · have h := h.2 c
        refine j_iconst (show decode cX12_nextNumber 37 = .ok (.iconst 1, 1) by decide +kernel) ?_
        refine j_goto (tgt := 42) (show decode cX12_nextNumber 38 = .ok (.goto 4, 3) by decide +kernel) (by decide) ?_
        refine j_iload_n (i := 3) rfl (show decode cX12_nextNumber 42 = .ok (.iload_n 3, 1) by decide +kernel) ?_
        refine j_iload_n (i := 2) rfl (show decode cX12_nextNumber 43 = .ok (.iload_n 2, 1) by decide +kernel) ?_
        have hr8 := h.1
        have h := h.2
        have hr9 := h.1
        have h := h.2
        refine j_icmp_ne (tgt := 51) hr8 hr9 (show decode cX12_nextNumber 44 = .ok (.if_icmp .ne 7, 3) by decide +kernel) (by decide) (fun c => ?_) (fun c => ?_)
        · have h := h.1 c
          refine j_iconst (show decode cX12_nextNumber 51 = .ok (.iconst 0, 1) by decide +kernel) ?_
          exact h
        · have h := h.2 c
          refine j_iconst (show decode cX12_nextNumber 47 = .ok (.iconst 1, 1) by decide +kernel) ?_
          refine j_goto (tgt := 52) (show decode cX12_nextNumber 48 = .ok (.goto 4, 3) by decide +kernel) (by decide) ?_
          exact h
set_option maxRecDepth 4000 in
theorem b_X12_nextNumber_0 {d : Nat} {t : Int} {Q : Int → jM → Prop} {σ : jM} {p1 p2 p3 p4 : Int} (h : ((0 : Int) ≤ p3 ∧ p3 < 44) ∧ (Jt mX12_nextNumber (d + 1) 0 t Q 10 [rv 321, iv p1, iv p2, iv p3, iv p4, iv ((σ 331 p3) + 1)] [] σ)) : Jt mX12_nextNumber (d + 1) 0 t Q 0 [rv 321, iv p1, iv p2, iv p3, iv p4, uv] [] σ := by
  refine s_aload_n (i := 0) rfl (show decode cX12_nextNumber 0 = .ok (.aload_n 0, 1) by decide +kernel) ?_
  refine gf_X12_50 (x := 331) rfl (show decode cX12_nextNumber 1 = .ok (.getfield 50, 3) by decide +kernel) okl_321 rfl ?_
  refine j_iload_n (i := 3) rfl (show decode cX12_nextNumber 4 = .ok (.iload_n 3, 1) by decide +kernel) ?_
  refine s_iald (show decode cX12_nextNumber 5 = .ok (.iaload, 1) by decide +kernel) okl_331 h.1 ?_
  have h := h.2
  refine j_iconst (show decode cX12_nextNumber 6 = .ok (.iconst 1, 1) by decide +kernel) ?_
  refine j_iadd (show decode cX12_nextNumber 7 = .ok (.iadd, 1) by decide +kernel) ?_
  refine s_ist (i := 5) (L' := [rv 321, iv p1, iv p2, iv p3, iv p4, iv ((σ 331 p3) + 1)]) rfl (by decide) (show decode cX12_nextNumber 8 = .ok (.istore 5, 2) by decide +kernel) ?_
  exact h
theorem c_X12_nextNumber {d : Nat} {t : Int} {Q : Int → jM → Prop} {σ : jM} {p1 p2 p3 p4 : Int} (h : ((0 : Int) ≤ p3 ∧ p3 < 44) ∧ (Jt mX12_nextNumber (d + 1) 0 t Q 10 [rv 321, iv p1, iv p2, iv p3, iv p4, iv ((σ 331 p3) + 1)] [] σ)) : Ct mX12_nextNumber (d + 1) 0 t [rv 321, iv p1, iv p2, iv p3, iv p4] σ Q := Ct_of (by decide +kernel) (Nat.le_of_ble_eq_true rfl) (b_X12_nextNumber_0 h)
set_option maxRecDepth 4000 in
theorem b_X12_searched_35 {d : Nat} {t : Int} {Q : Int → jM → Prop} {σ : jM} {p1 p2 p3 p4 v5 v7 : Int} (h : (inR v7) ∧ ((v7 ≤ 0 → (Q v5 σ)) ∧ (0 < v7 → (Ct mX12_nextNumber d 0 t [rv 321, iv p1, iv p2, iv v7, iv p4] σ (fun r2 σ2 => (((0 : Int) ≤ v7 ∧ v7 < 44) ∧ (∀ σ4 : jM, σ4 = up σ2 331 v7 r2 → ((inR r2) ∧ ((inR p1) ∧ ((r2 ≤ p1 → ((inR v7) ∧ ((inR p2) ∧ ((p2 ≤ v7 → ((inR p3) ∧ ((¬ p3 = 0 → (Jt mX12_searched (d + 1) 1 t Q 35 [rv 321, iv p1, iv p2, iv p3, iv p4, jv (v5 + 1), uv, iv v7, uv] [] σ4)) ∧ (p3 = 0 → (Q (v5 + 1) σ4))))) ∧ (v7 < p2 → (((0 : Int) ≤ ((v7 + 1) - 1) ∧ ((v7 + 1) - 1) < 44) ∧ (((0 : Int) ≤ (v7 + 1) ∧ (v7 + 1) < 44) ∧ (∀ σ11 : jM, σ11 = up σ4 331 (v7 + 1) (σ4 331 ((v7 + 1) - 1)) → (Jt mX12_searched (d + 1) 1 t Q 35 [rv 321, iv p1, iv p2, iv p3, iv p4, jv v5, uv, iv (v7 + 1), uv] [] σ11))))))))) ∧ (p1 < r2 → (Jt mX12_searched (d + 1) 1 t Q 35 [rv 321, iv p1, iv p2, iv p3, iv p4, jv v5, uv, iv (v7 + (-1)), uv] [] σ4)))))))))))) : Jt mX12_searched (d + 1) 1 t Q 35 [rv 321, iv p1, iv p2, iv p3, iv p4, jv v5, uv, iv v7, uv] [] σ := by
  refine j_iload (i := 7) rfl (show decode cX12_searched 35 = .ok (.iload 7, 2) by decide +kernel) ?_
  have hr0 := h.1
  have h := h.2
  refine j_if_le (tgt := 117) hr0 (show decode cX12_searched 37 = .ok (.ifCond .le 80, 3) by decide +kernel) (by decide) (fun c => ?_) (fun c => ?_)
  · have h := h.1 c
    refine j_lload (i := 5) rfl (show decode cX12_searched 117 = .ok (.lload 5, 2) by decide +kernel) ?_
    exact j_ret (rokL (show decode cX12_searched 119 = .ok (.lreturn, 1) by decide +kernel) rfl) ⟨rfl, rfl, h⟩
  · have h := h.2 c
    refine s_aload_n (i := 0) rfl (show decode cX12_searched 40 = .ok (.aload_n 0, 1) by decide +kernel) ?_
    refine j_iload_n (i := 1) rfl (show decode cX12_searched 41 = .ok (.iload_n 1, 1) by decide +kernel) ?_
    refine j_iload_n (i := 2) rfl (show decode cX12_searched 42 = .ok (.iload_n 2, 1) by decide +kernel) ?_
    refine j_iload (i := 7) rfl (show decode cX12_searched 43 = .ok (.iload 7, 2) by decide +kernel) ?_
    refine j_iload (i := 4) rfl (show decode cX12_searched 45 = .ok (.iload 4, 2) by decide +kernel) ?_
    refine j_ctV (m' := mX12_nextNumber) (As := [iv p1, iv p2, iv v7, iv p4]) (ci := 12) (tag := 0) (N := 0) (cw_X12_397 rfl) (show decode cX12_searched 47 = .ok (.invokevirtual 397, 3) by decide +kernel) rfl (Nat.le_of_ble_eq_true rfl) (by decide) okl_321 rfl rfl (Nat.le_refl _) h (fun r2 σ2 h => ?_)
    refine s_ist (i := 8) (L' := [rv 321, iv p1, iv p2, iv p3, iv p4, jv v5, uv, iv v7, iv r2]) rfl (by decide) (show decode cX12_searched 50 = .ok (.istore 8, 2) by decide +kernel) ?_
    refine s_aload_n (i := 0) rfl (show decode cX12_searched 52 = .ok (.aload_n 0, 1) by decide +kernel) ?_
    refine gf_X12_50 (x := 331) rfl (show decode cX12_searched 53 = .ok (.getfield 50, 3) by decide +kernel) okl_321 rfl ?_
    refine j_iload (i := 7) rfl (show decode cX12_searched 56 = .ok (.iload 7, 2) by decide +kernel) ?_
    refine j_iload (i := 8) rfl (show decode cX12_searched 58 = .ok (.iload 8, 2) by decide +kernel) ?_
    have hb2 := h.1
    have h := h.2
    refine s_iast (show decode cX12_searched 60 = .ok (.iastore, 1) by decide +kernel) okl_331 hb2 ?_
    obtain ⟨σ4, eσ4⟩ : ∃ z : jM, z = up σ2 331 v7 r2 := ⟨_, rfl⟩
    refine j_sig eσ4 ?_
    have h := h σ4 eσ4
    refine j_iload (i := 8) rfl (show decode cX12_searched 61 = .ok (.iload 8, 2) by decide +kernel) ?_
    refine j_iload_n (i := 1) rfl (show decode cX12_searched 63 = .ok (.iload_n 1, 1) by decide +kernel) ?_
    have hr4 := h.1
    have h := h.2
    have hr5 := h.1
    have h := h.2
    refine j_icmp_le (tgt := 73) hr4 hr5 (show decode cX12_searched 64 = .ok (.if_icmp .le 9, 3) by decide +kernel) (by decide) (fun c => ?_) (fun c => ?_)
    · have h := h.1 c
      refine j_iload (i := 7) rfl (show decode cX12_searched 73 = .ok (.iload 7, 2) by decide +kernel) ?_
      refine j_iload_n (i := 2) rfl (show decode cX12_searched 75 = .ok (.iload_n 2, 1) by decide +kernel) ?_
      have hr6 := h.1
      have h := h.2
      have hr7 := h.1
      have h := h.2
      refine j_icmp_ge (tgt := 101) hr6 hr7 (show decode cX12_searched 76 = .ok (.if_icmp .ge 25, 3) by decide +kernel) (by decide) (fun c => ?_) (fun c => ?_)
      · have h := h.1 c
        refine j_lload (i := 5) rfl (show decode cX12_searched 101 = .ok (.lload 5, 2) by decide +kernel) ?_
        refine j_lconst (x := 1) (by decide +kernel) (show decode cX12_searched 103 = .ok (.lconst 1, 1) by decide +kernel) ?_
        refine j_ladd (show decode cX12_searched 104 = .ok (.ladd, 1) by decide +kernel) ?_
        refine s_lst (i := 5) (L' := [rv 321, iv p1, iv p2, iv p3, iv p4, jv (v5 + 1), uv, iv v7, iv r2]) rfl (by decide) (show decode cX12_searched 105 = .ok (.lstore 5, 2) by decide +kernel) ?_
        refine j_iload_n (i := 3) rfl (show decode cX12_searched 107 = .ok (.iload_n 3, 1) by decide +kernel) ?_
        have hr8 := h.1
        have h := h.2
        refine j_if_ne (tgt := 114) hr8 (show decode cX12_searched 108 = .ok (.ifCond .ne 6, 3) by decide +kernel) (by decide) (fun c => ?_) (fun c => ?_)
        · have h := h.1 c
          refine j_goto (tgt := 35) (show decode cX12_searched 114 = .ok (.goto (-79), 3) by decide +kernel) (by decide) ?_
          refine j_drop 8 ?_
          exact h
        · have h := h.2 c
          refine j_lload (i := 5) rfl (show decode cX12_searched 111 = .ok (.lload 5, 2) by decide +kernel) ?_
          exact j_ret (rokL (show decode cX12_searched 113 = .ok (.lreturn, 1) by decide +kernel) rfl) ⟨rfl, rfl, h⟩
      · have h := h.2 c
        refine s_iinc (i := 7) rfl (L' := [rv 321, iv p1, iv p2, iv p3, iv p4, jv v5, uv, iv (v7 + 1), iv r2]) rfl (show decode cX12_searched 79 = .ok (.iinc 7 1, 3) by decide +kernel) ?_
        refine s_aload_n (i := 0) rfl (show decode cX12_searched 82 = .ok (.aload_n 0, 1) by decide +kernel) ?_
        refine gf_X12_50 (x := 331) rfl (show decode cX12_searched 83 = .ok (.getfield 50, 3) by decide +kernel) okl_321 rfl ?_
        refine j_iload (i := 7) rfl (show decode cX12_searched 86 = .ok (.iload 7, 2) by decide +kernel) ?_
        refine s_aload_n (i := 0) rfl (show decode cX12_searched 88 = .ok (.aload_n 0, 1) by decide +kernel) ?_
        refine gf_X12_50 (x := 331) rfl (show decode cX12_searched 89 = .ok (.getfield 50, 3) by decide +kernel) okl_321 rfl ?_
        refine j_iload (i := 7) rfl (show decode cX12_searched 92 = .ok (.iload 7, 2) by decide +kernel) ?_
        refine j_iconst (show decode cX12_searched 94 = .ok (.iconst 1, 1) by decide +kernel) ?_
        refine j_isub (show decode cX12_searched 95 = .ok (.isub, 1) by decide +kernel) ?_
        refine s_iald (show decode cX12_searched 96 = .ok (.iaload, 1) by decide +kernel) okl_331 h.1 ?_
        have h := h.2
        have hb9 := h.1
        have h := h.2
        refine s_iast (show decode cX12_searched 97 = .ok (.iastore, 1) by decide +kernel) okl_331 hb9 ?_
        obtain ⟨σ11, eσ11⟩ : ∃ z : jM, z = up σ4 331 (v7 + 1) (σ4 331 ((v7 + 1) - 1)) := ⟨_, rfl⟩
        refine j_sig eσ11 ?_
        have h := h σ11 eσ11
        refine j_goto (tgt := 114) (show decode cX12_searched 98 = .ok (.goto 16, 3) by decide +kernel) (by decide) ?_
        refine j_goto (tgt := 35) (show decode cX12_searched 114 = .ok (.goto (-79), 3) by decide +kernel) (by decide) ?_
        refine j_drop 8 ?_
        exact h
    · have h := h.2 c
      refine s_iinc (i := 7) rfl (L' := [rv 321, iv p1, iv p2, iv p3, iv p4, jv v5, uv, iv (v7 + (-1)), iv r2]) rfl (show decode cX12_searched 67 = .ok (.iinc 7 (-1), 3) by decide +kernel) ?_
      refine j_goto (tgt := 114) (show decode cX12_searched 70 = .ok (.goto 44, 3) by decide +kernel) (by decide) ?_
      refine j_goto (tgt := 35) (show decode cX12_searched 114 = .ok (.goto (-79), 3) by decide +kernel) (by decide) ?_
      refine j_drop 8 ?_
      exact h
set_option maxRecDepth 4000 in
theorem b_X12_searched_0 {d : Nat} {t : Int} {Q : Int → jM → Prop} {σ : jM} {p1 p2 p3 p4 : Int} (h : ((0 : Int) ≤ 0 ∧ (0 : Int) < 44) ∧ (∀ σ2 : jM, σ2 = up σ 331 0 1 → ((inR p2) ∧ ((¬ p2 = 0 → (((0 : Int) ≤ 1 ∧ (1 : Int) < 44) ∧ (∀ σ5 : jM, σ5 = up σ2 331 1 1 → (Jt mX12_searched (d + 1) 1 t Q 35 [rv 321, iv p1, iv p2, iv p3, iv p4, jv 0, uv, iv 1, uv] [] σ5)))) ∧ (p2 = 0 → ((inR p1) ∧ ((¬ p1 = 1 → (Q 0 σ2)) ∧ (p1 = 1 → (Q 1 σ2))))))))) : Jt mX12_searched (d + 1) 1 t Q 0 [rv 321, iv p1, iv p2, iv p3, iv p4, uv, uv, uv, uv] [] σ := by
  refine s_aload_n (i := 0) rfl (show decode cX12_searched 0 = .ok (.aload_n 0, 1) by decide +kernel) ?_
  refine gf_X12_50 (x := 331) rfl (show decode cX12_searched 1 = .ok (.getfield 50, 3) by decide +kernel) okl_321 rfl ?_
  refine j_iconst (show decode cX12_searched 4 = .ok (.iconst 0, 1) by decide +kernel) ?_
  refine j_iconst (show decode cX12_searched 5 = .ok (.iconst 1, 1) by decide +kernel) ?_
  have hb0 := h.1
  have h := h.2
  refine s_iast (show decode cX12_searched 6 = .ok (.iastore, 1) by decide +kernel) okl_331 hb0 ?_
  obtain ⟨σ2, eσ2⟩ : ∃ z : jM, z = up σ 331 0 1 := ⟨_, rfl⟩
  refine j_sig eσ2 ?_
  have h := h σ2 eσ2
  refine j_iload_n (i := 2) rfl (show decode cX12_searched 7 = .ok (.iload_n 2, 1) by decide +kernel) ?_
  have hr2 := h.1
  have h := h.2
  refine j_if_ne (tgt := 22) hr2 (show decode cX12_searched 8 = .ok (.ifCond .ne 14, 3) by decide +kernel) (by decide) (fun c => ?_) (fun c => ?_)
  · have h := h.1 c
    refine j_lconst (x := 0) (by decide +kernel) (show decode cX12_searched 22 = .ok (.lconst 0, 1) by decide +kernel) ?_
    refine s_lst (i := 5) (L' := [rv 321, iv p1, iv p2, iv p3, iv p4, jv 0, uv, uv, uv]) rfl (by decide) (show decode cX12_searched 23 = .ok (.lstore 5, 2) by decide +kernel) ?_
    refine j_iconst (show decode cX12_searched 25 = .ok (.iconst 1, 1) by decide +kernel) ?_
    refine s_ist (i := 7) (L' := [rv 321, iv p1, iv p2, iv p3, iv p4, jv 0, uv, iv 1, uv]) rfl (by decide) (show decode cX12_searched 26 = .ok (.istore 7, 2) by decide +kernel) ?_
    refine s_aload_n (i := 0) rfl (show decode cX12_searched 28 = .ok (.aload_n 0, 1) by decide +kernel) ?_
    refine gf_X12_50 (x := 331) rfl (show decode cX12_searched 29 = .ok (.getfield 50, 3) by decide +kernel) okl_321 rfl ?_
    refine j_iconst (show decode cX12_searched 32 = .ok (.iconst 1, 1) by decide +kernel) ?_
    refine j_iconst (show decode cX12_searched 33 = .ok (.iconst 1, 1) by decide +kernel) ?_
    have hb3 := h.1
    have h := h.2
    refine s_iast (show decode cX12_searched 34 = .ok (.iastore, 1) by decide +kernel) okl_331 hb3 ?_
    obtain ⟨σ5, eσ5⟩ : ∃ z : jM, z = up σ2 331 1 1 := ⟨_, rfl⟩
    refine j_sig eσ5 ?_
    have h := h σ5 eσ5
    exact h
  · have h := h.2 c
    refine j_iload_n (i := 1) rfl (show decode cX12_searched 11 = .ok (.iload_n 1, 1) by decide +kernel) ?_
    refine j_iconst (show decode cX12_searched 12 = .ok (.iconst 1, 1) by decide +kernel) ?_
    have hr5 := h.1
    have h := h.2
    refine j_icmp_ne (tgt := 20) hr5 (inl (by decide)) (show decode cX12_searched 13 = .ok (.if_icmp .ne 7, 3) by decide +kernel) (by decide) (fun c => ?_) (fun c => ?_)
    · have h := h.1 c
      refine j_lconst (x := 0) (by decide +kernel) (show decode cX12_searched 20 = .ok (.lconst 0, 1) by decide +kernel) ?_
      exact j_ret (rokL (show decode cX12_searched 21 = .ok (.lreturn, 1) by decide +kernel) rfl) ⟨rfl, rfl, h⟩
    · have h := h.2 c
      refine j_lconst (x := 1) (by decide +kernel) (show decode cX12_searched 16 = .ok (.lconst 1, 1) by decide +kernel) ?_
      refine j_goto (tgt := 21) (show decode cX12_searched 17 = .ok (.goto 4, 3) by decide +kernel) (by decide) ?_
      exact j_ret (rokL (show decode cX12_searched 21 = .ok (.lreturn, 1) by decide +kernel) rfl) ⟨rfl, rfl, h⟩
theorem c_X12_searched {d : Nat} {t : Int} {Q : Int → jM → Prop} {σ : jM} {p1 p2 p3 p4 : Int} (h : ((0 : Int) ≤ 0 ∧ (0 : Int) < 44) ∧ (∀ σ2 : jM, σ2 = up σ 331 0 1 → ((inR p2) ∧ ((¬ p2 = 0 → (((0 : Int) ≤ 1 ∧ (1 : Int) < 44) ∧ (∀ σ5 : jM, σ5 = up σ2 331 1 1 → (Jt mX12_searched (d + 1) 1 t Q 35 [rv 321, iv p1, iv p2, iv p3, iv p4, jv 0, uv, iv 1, uv] [] σ5)))) ∧ (p2 = 0 → ((inR p1) ∧ ((¬ p1 = 1 → (Q 0 σ2)) ∧ (p1 = 1 → (Q 1 σ2))))))))) : Ct mX12_searched (d + 1) 1 t [rv 321, iv p1, iv p2, iv p3, iv p4] σ Q := Ct_of (by decide +kernel) (Nat.le_of_ble_eq_true rfl) (b_X12_searched_0 h)
set_option maxRecDepth 4000 in
theorem b_X12_layChain_7 {d : Nat} {t : Int} {Q : Int → jM → Prop} {σ : jM} {p1 v2 : Int} (h : Ct mX12_searched d 1 t [rv 321, iv p1, iv v2, iv 0, iv 0] σ (fun r1 σ1 => ((inL r1) ∧ ((¬ r1 = 0 → (((0 : Int) ≤ p1 ∧ p1 < 121) ∧ (∀ σ4 : jM, σ4 = up σ1 332 p1 v2 → (Q v2 σ4)))) ∧ (r1 = 0 → (Jt mX12_layChain (d + 1) 0 t Q 7 [rv 321, iv p1, iv (v2 + 1)] [] σ1)))))) : Jt mX12_layChain (d + 1) 0 t Q 7 [rv 321, iv p1, iv v2] [] σ := by
  refine s_aload_n (i := 0) rfl (show decode cX12_layChain 7 = .ok (.aload_n 0, 1) by decide +kernel) ?_
  refine j_iload_n (i := 1) rfl (show decode cX12_layChain 8 = .ok (.iload_n 1, 1) by decide +kernel) ?_
  refine j_iload_n (i := 2) rfl (show decode cX12_layChain 9 = .ok (.iload_n 2, 1) by decide +kernel) ?_
  refine j_iconst (show decode cX12_layChain 10 = .ok (.iconst 0, 1) by decide +kernel) ?_
  refine j_iconst (show decode cX12_layChain 11 = .ok (.iconst 0, 1) by decide +kernel) ?_
  refine j_ctV (m' := mX12_searched) (As := [iv p1, iv v2, iv 0, iv 0]) (ci := 12) (tag := 1) (N := 0) (cw_X12_401 rfl) (show decode cX12_layChain 12 = .ok (.invokevirtual 401, 3) by decide +kernel) rfl (Nat.le_of_ble_eq_true rfl) (by decide) okl_321 rfl rfl (Nat.le_refl _) h (fun r1 σ1 h => ?_)
  refine j_lconst (x := 0) (by decide +kernel) (show decode cX12_layChain 15 = .ok (.lconst 0, 1) by decide +kernel) ?_
  have hr1 := h.1
  have h := h.2
  refine s_lif_ne (tgt := 26) hr1 (inll (by decide)) (show decode cX12_layChain 16 = .ok (.lcmp, 1) by decide +kernel) (show decode cX12_layChain 17 = .ok (.ifCond .ne 9, 3) by decide +kernel) (by decide) (fun c => ?_) (fun c => ?_)
  · have h := h.1 c
    refine s_aload_n (i := 0) rfl (show decode cX12_layChain 26 = .ok (.aload_n 0, 1) by decide +kernel) ?_
    refine gf_X12_53 (x := 332) rfl (show decode cX12_layChain 27 = .ok (.getfield 53, 3) by decide +kernel) okl_321 rfl ?_
    refine j_iload_n (i := 1) rfl (show decode cX12_layChain 30 = .ok (.iload_n 1, 1) by decide +kernel) ?_
    refine j_iload_n (i := 2) rfl (show decode cX12_layChain 31 = .ok (.iload_n 2, 1) by decide +kernel) ?_
    have hb2 := h.1
    have h := h.2
    refine s_iast (show decode cX12_layChain 32 = .ok (.iastore, 1) by decide +kernel) okl_332 hb2 ?_
    obtain ⟨σ4, eσ4⟩ : ∃ z : jM, z = up σ1 332 p1 v2 := ⟨_, rfl⟩
    refine j_sig eσ4 ?_
    have h := h σ4 eσ4
    refine j_iload_n (i := 2) rfl (show decode cX12_layChain 33 = .ok (.iload_n 2, 1) by decide +kernel) ?_
    exact j_ret (rokI (show decode cX12_layChain 34 = .ok (.ireturn, 1) by decide +kernel) rfl) ⟨rfl, rfl, h⟩
  · have h := h.2 c
    refine s_iinc (i := 2) rfl (L' := [rv 321, iv p1, iv (v2 + 1)]) rfl (show decode cX12_layChain 20 = .ok (.iinc 2 1, 3) by decide +kernel) ?_
    refine j_goto (tgt := 7) (show decode cX12_layChain 23 = .ok (.goto (-16), 3) by decide +kernel) (by decide) ?_
    exact h
set_option maxRecDepth 4000 in
theorem b_X12_layChain_0 {d : Nat} {t : Int} {Q : Int → jM → Prop} {σ : jM} {p1 : Int} (h : ((0 : Int) ≤ p1 ∧ p1 < 121) ∧ (Jt mX12_layChain (d + 1) 0 t Q 7 [rv 321, iv p1, iv (σ 332 p1)] [] σ)) : Jt mX12_layChain (d + 1) 0 t Q 0 [rv 321, iv p1, uv] [] σ := by
  refine s_aload_n (i := 0) rfl (show decode cX12_layChain 0 = .ok (.aload_n 0, 1) by decide +kernel) ?_
  refine gf_X12_53 (x := 332) rfl (show decode cX12_layChain 1 = .ok (.getfield 53, 3) by decide +kernel) okl_321 rfl ?_
  refine j_iload_n (i := 1) rfl (show decode cX12_layChain 4 = .ok (.iload_n 1, 1) by decide +kernel) ?_
  refine s_iald (show decode cX12_layChain 5 = .ok (.iaload, 1) by decide +kernel) okl_332 h.1 ?_
  have h := h.2
  refine s_ist_n (i := 2) (L' := [rv 321, iv p1, iv (σ 332 p1)]) rfl (by decide) (show decode cX12_layChain 6 = .ok (.istore_n 2, 1) by decide +kernel) ?_
  exact h
theorem c_X12_layChain {d : Nat} {t : Int} {Q : Int → jM → Prop} {σ : jM} {p1 : Int} (h : ((0 : Int) ≤ p1 ∧ p1 < 121) ∧ (Jt mX12_layChain (d + 1) 0 t Q 7 [rv 321, iv p1, iv (σ 332 p1)] [] σ)) : Ct mX12_layChain (d + 1) 0 t [rv 321, iv p1] σ Q := Ct_of (by decide +kernel) (Nat.le_of_ble_eq_true rfl) (b_X12_layChain_0 h)
set_option maxRecDepth 4000 in
theorem b_X12_isNumber_0 {d : Nat} {t : Int} {Q : Int → jM → Prop} {σ : jM} {p0 : Int} (h : Ct mX12_isIn d 0 t [iv p0, iv 1, iv 120] σ (fun r1 σ1 => ((r1 = 0 ∨ r1 = 1) ∧ (Q r1 σ1)))) : Jt mX12_isNumber (d + 1) 0 t Q 0 [iv p0] [] σ := by
  refine j_iload_n (i := 0) rfl (show decode cX12_isNumber 0 = .ok (.iload_n 0, 1) by decide +kernel) ?_
  refine j_iconst (show decode cX12_isNumber 1 = .ok (.iconst 1, 1) by decide +kernel) ?_
  refine j_bipush (n := 120) (by decide +kernel) (show decode cX12_isNumber 2 = .ok (.bipush 120, 2) by decide +kernel) ?_
  refine j_ctS (m' := mX12_isIn) (As := [iv p0, iv 1, iv 120]) (tag := 0) (cw_X12_85 rfl) (show decode cX12_isNumber 4 = .ok (.invokestatic 85, 3) by decide +kernel) rfl (Nat.le_of_ble_eq_true rfl) (by decide) (Nat.le_refl _) h (fun r1 σ1 h => ?_)
  have hz1 := h.1
  have h := h.2
  exact j_ret (rokZ (show decode cX12_isNumber 7 = .ok (.ireturn, 1) by decide +kernel) rfl hz1) ⟨rfl, rfl, h⟩
theorem c_X12_isNumber {d : Nat} {t : Int} {Q : Int → jM → Prop} {σ : jM} {p0 : Int} (h : Ct mX12_isIn d 0 t [iv p0, iv 1, iv 120] σ (fun r1 σ1 => ((r1 = 0 ∨ r1 = 1) ∧ (Q r1 σ1)))) : Ct mX12_isNumber (d + 1) 0 t [iv p0] σ Q := Ct_of (by decide +kernel) (Nat.le_of_ble_eq_true rfl) (b_X12_isNumber_0 h)
set_option maxRecDepth 4000 in
theorem b_X12_fewest_0 {d : Nat} {t : Int} {Q : Int → jM → Prop} {σ : jM} {p1 : Int} (h : Ct mX12_isNumber d 0 t [iv p1] σ (fun r1 σ1 => ((inR r1) ∧ ((r1 = 0 → (Q (-1) σ1)) ∧ (¬ r1 = 0 → (Ct mX12_layChain d 0 t [rv 321, iv p1] σ1 (fun r3 σ3 => (Q r3 σ3)))))))) : Jt mX12_fewest (d + 1) 0 t Q 0 [rv 321, iv p1] [] σ := by
  refine j_iload_n (i := 1) rfl (show decode cX12_fewest 0 = .ok (.iload_n 1, 1) by decide +kernel) ?_
  refine j_ctS (m' := mX12_isNumber) (As := [iv p1]) (tag := 0) (cw_X12_405 rfl) (show decode cX12_fewest 1 = .ok (.invokestatic 405, 3) by decide +kernel) rfl (Nat.le_of_ble_eq_true rfl) (by decide) (Nat.le_refl _) h (fun r1 σ1 h => ?_)
  have hr1 := h.1
  have h := h.2
  refine j_if_eq (tgt := 15) hr1 (show decode cX12_fewest 4 = .ok (.ifCond .eq 11, 3) by decide +kernel) (by decide) (fun c => ?_) (fun c => ?_)
  · have h := h.1 c
    refine j_iconst (show decode cX12_fewest 15 = .ok (.iconst (-1), 1) by decide +kernel) ?_
    exact j_ret (rokI (show decode cX12_fewest 16 = .ok (.ireturn, 1) by decide +kernel) rfl) ⟨rfl, rfl, h⟩
  · have h := h.2 c
    refine s_aload_n (i := 0) rfl (show decode cX12_fewest 7 = .ok (.aload_n 0, 1) by decide +kernel) ?_
    refine j_iload_n (i := 1) rfl (show decode cX12_fewest 8 = .ok (.iload_n 1, 1) by decide +kernel) ?_
    refine j_ctV (m' := mX12_layChain) (As := [iv p1]) (ci := 12) (tag := 0) (N := 0) (cw_X12_358 rfl) (show decode cX12_fewest 9 = .ok (.invokevirtual 358, 3) by decide +kernel) rfl (Nat.le_of_ble_eq_true rfl) (by decide) okl_321 rfl rfl (Nat.le_refl _) h (fun r3 σ3 h => ?_)
    refine j_goto (tgt := 16) (show decode cX12_fewest 12 = .ok (.goto 4, 3) by decide +kernel) (by decide) ?_
    exact j_ret (rokI (show decode cX12_fewest 16 = .ok (.ireturn, 1) by decide +kernel) rfl) ⟨rfl, rfl, h⟩
theorem c_X12_fewest {d : Nat} {t : Int} {Q : Int → jM → Prop} {σ : jM} {p1 : Int} (h : Ct mX12_isNumber d 0 t [iv p1] σ (fun r1 σ1 => ((inR r1) ∧ ((r1 = 0 → (Q (-1) σ1)) ∧ (¬ r1 = 0 → (Ct mX12_layChain d 0 t [rv 321, iv p1] σ1 (fun r3 σ3 => (Q r3 σ3)))))))) : Ct mX12_fewest (d + 1) 0 t [rv 321, iv p1] σ Q := Ct_of (by decide +kernel) (Nat.le_of_ble_eq_true rfl) (b_X12_fewest_0 h)
set_option maxRecDepth 4000 in
theorem b_X12_chain_0 {d : Nat} {t : Int} {Q : Int → jM → Prop} {σ : jM} {p1 p2 : Int} (h : Ct mX12_isNumber d 0 t [iv p1] σ (fun r1 σ1 => ((inR r1) ∧ ((r1 = 0 → (Q (-1) σ1)) ∧ (¬ r1 = 0 → (Ct mX12_layChain d 0 t [rv 321, iv p1] σ1 (fun r3 σ3 => (Ct mX12_isIn d 0 t [iv p2, iv 0, iv r3] σ3 (fun r4 σ4 => ((inR r4) ∧ ((r4 = 0 → (Q (-1) σ4)) ∧ (¬ r4 = 0 → (((0 : Int) ≤ p2 ∧ p2 < 44) ∧ (Q (σ4 331 p2) σ4)))))))))))))) : Jt mX12_chain (d + 1) 0 t Q 0 [rv 321, iv p1, iv p2] [] σ := by
  refine j_iload_n (i := 1) rfl (show decode cX12_chain 0 = .ok (.iload_n 1, 1) by decide +kernel) ?_
  refine j_ctS (m' := mX12_isNumber) (As := [iv p1]) (tag := 0) (cw_X12_405 rfl) (show decode cX12_chain 1 = .ok (.invokestatic 405, 3) by decide +kernel) rfl (Nat.le_of_ble_eq_true rfl) (by decide) (Nat.le_refl _) h (fun r1 σ1 h => ?_)
  have hr1 := h.1
  have h := h.2
  refine j_if_eq (tgt := 29) hr1 (show decode cX12_chain 4 = .ok (.ifCond .eq 25, 3) by decide +kernel) (by decide) (fun c => ?_) (fun c => ?_)
  · have h := h.1 c
    refine j_iconst (show decode cX12_chain 29 = .ok (.iconst (-1), 1) by decide +kernel) ?_
    exact j_ret (rokI (show decode cX12_chain 30 = .ok (.ireturn, 1) by decide +kernel) rfl) ⟨rfl, rfl, h⟩
  · have h := h.2 c
    refine j_iload_n (i := 2) rfl (show decode cX12_chain 7 = .ok (.iload_n 2, 1) by decide +kernel) ?_
    refine j_iconst (show decode cX12_chain 8 = .ok (.iconst 0, 1) by decide +kernel) ?_
    refine s_aload_n (i := 0) rfl (show decode cX12_chain 9 = .ok (.aload_n 0, 1) by decide +kernel) ?_
    refine j_iload_n (i := 1) rfl (show decode cX12_chain 10 = .ok (.iload_n 1, 1) by decide +kernel) ?_
    refine j_ctV (m' := mX12_layChain) (As := [iv p1]) (ci := 12) (tag := 0) (N := 0) (cw_X12_358 rfl) (show decode cX12_chain 11 = .ok (.invokevirtual 358, 3) by decide +kernel) rfl (Nat.le_of_ble_eq_true rfl) (by decide) okl_321 rfl rfl (Nat.le_refl _) h (fun r3 σ3 h => ?_)
    refine j_ctS (m' := mX12_isIn) (As := [iv p2, iv 0, iv r3]) (tag := 0) (cw_X12_85 rfl) (show decode cX12_chain 14 = .ok (.invokestatic 85, 3) by decide +kernel) rfl (Nat.le_of_ble_eq_true rfl) (by decide) (Nat.le_refl _) h (fun r4 σ4 h => ?_)
    have hr4 := h.1
    have h := h.2
    refine j_if_eq (tgt := 29) hr4 (show decode cX12_chain 17 = .ok (.ifCond .eq 12, 3) by decide +kernel) (by decide) (fun c => ?_) (fun c => ?_)
    · have h := h.1 c
      refine j_iconst (show decode cX12_chain 29 = .ok (.iconst (-1), 1) by decide +kernel) ?_
      exact j_ret (rokI (show decode cX12_chain 30 = .ok (.ireturn, 1) by decide +kernel) rfl) ⟨rfl, rfl, h⟩
    · have h := h.2 c
      refine s_aload_n (i := 0) rfl (show decode cX12_chain 20 = .ok (.aload_n 0, 1) by decide +kernel) ?_
      refine gf_X12_50 (x := 331) rfl (show decode cX12_chain 21 = .ok (.getfield 50, 3) by decide +kernel) okl_321 rfl ?_
      refine j_iload_n (i := 2) rfl (show decode cX12_chain 24 = .ok (.iload_n 2, 1) by decide +kernel) ?_
      refine s_iald (show decode cX12_chain 25 = .ok (.iaload, 1) by decide +kernel) okl_331 h.1 ?_
      have h := h.2
      refine j_goto (tgt := 30) (show decode cX12_chain 26 = .ok (.goto 4, 3) by decide +kernel) (by decide) ?_
      exact j_ret (rokI (show decode cX12_chain 30 = .ok (.ireturn, 1) by decide +kernel) rfl) ⟨rfl, rfl, h⟩
theorem c_X12_chain {d : Nat} {t : Int} {Q : Int → jM → Prop} {σ : jM} {p1 p2 : Int} (h : Ct mX12_isNumber d 0 t [iv p1] σ (fun r1 σ1 => ((inR r1) ∧ ((r1 = 0 → (Q (-1) σ1)) ∧ (¬ r1 = 0 → (Ct mX12_layChain d 0 t [rv 321, iv p1] σ1 (fun r3 σ3 => (Ct mX12_isIn d 0 t [iv p2, iv 0, iv r3] σ3 (fun r4 σ4 => ((inR r4) ∧ ((r4 = 0 → (Q (-1) σ4)) ∧ (¬ r4 = 0 → (((0 : Int) ≤ p2 ∧ p2 < 44) ∧ (Q (σ4 331 p2) σ4)))))))))))))) : Ct mX12_chain (d + 1) 0 t [rv 321, iv p1, iv p2] σ Q := Ct_of (by decide +kernel) (Nat.le_of_ble_eq_true rfl) (b_X12_chain_0 h)
set_option maxRecDepth 4000 in
theorem b_X12_chains_0 {d : Nat} {t : Int} {Q : Int → jM → Prop} {σ : jM} {p1 : Int} (h : Ct mX12_isNumber d 0 t [iv p1] σ (fun r1 σ1 => ((inR r1) ∧ ((r1 = 0 → (Q (-1) σ1)) ∧ (¬ r1 = 0 → (Ct mX12_layChain d 0 t [rv 321, iv p1] σ1 (fun r3 σ3 => (Ct mX12_searched d 1 t [rv 321, iv p1, iv r3, iv 1, iv 0] σ3 (fun r4 σ4 => (Q r4 σ4)))))))))) : Jt mX12_chains (d + 1) 1 t Q 0 [rv 321, iv p1] [] σ := by
  refine j_iload_n (i := 1) rfl (show decode cX12_chains 0 = .ok (.iload_n 1, 1) by decide +kernel) ?_
  refine j_ctS (m' := mX12_isNumber) (As := [iv p1]) (tag := 0) (cw_X12_405 rfl) (show decode cX12_chains 1 = .ok (.invokestatic 405, 3) by decide +kernel) rfl (Nat.le_of_ble_eq_true rfl) (by decide) (Nat.le_refl _) h (fun r1 σ1 h => ?_)
  have hr1 := h.1
  have h := h.2
  refine j_if_eq (tgt := 22) hr1 (show decode cX12_chains 4 = .ok (.ifCond .eq 18, 3) by decide +kernel) (by decide) (fun c => ?_) (fun c => ?_)
  · have h := h.1 c
    refine j_ldc2 (x := -1) (tt_in 1739 (by decide +kernel) rfl) (show decode cX12_chains 22 = .ok (.ldc2_w 408, 3) by decide +kernel) ?_
    exact j_ret (rokL (show decode cX12_chains 25 = .ok (.lreturn, 1) by decide +kernel) rfl) ⟨rfl, rfl, h⟩
  · have h := h.2 c
    refine s_aload_n (i := 0) rfl (show decode cX12_chains 7 = .ok (.aload_n 0, 1) by decide +kernel) ?_
    refine j_iload_n (i := 1) rfl (show decode cX12_chains 8 = .ok (.iload_n 1, 1) by decide +kernel) ?_
    refine s_aload_n (i := 0) rfl (show decode cX12_chains 9 = .ok (.aload_n 0, 1) by decide +kernel) ?_
    refine j_iload_n (i := 1) rfl (show decode cX12_chains 10 = .ok (.iload_n 1, 1) by decide +kernel) ?_
    refine j_ctV (m' := mX12_layChain) (As := [iv p1]) (ci := 12) (tag := 0) (N := 0) (cw_X12_358 rfl) (show decode cX12_chains 11 = .ok (.invokevirtual 358, 3) by decide +kernel) rfl (Nat.le_of_ble_eq_true rfl) (by decide) okl_321 rfl rfl (Nat.le_refl _) h (fun r3 σ3 h => ?_)
    refine j_iconst (show decode cX12_chains 14 = .ok (.iconst 1, 1) by decide +kernel) ?_
    refine j_iconst (show decode cX12_chains 15 = .ok (.iconst 0, 1) by decide +kernel) ?_
    refine j_ctV (m' := mX12_searched) (As := [iv p1, iv r3, iv 1, iv 0]) (ci := 12) (tag := 1) (N := 0) (cw_X12_401 rfl) (show decode cX12_chains 16 = .ok (.invokevirtual 401, 3) by decide +kernel) rfl (Nat.le_of_ble_eq_true rfl) (by decide) okl_321 rfl rfl (Nat.le_refl _) h (fun r4 σ4 h => ?_)
    refine j_goto (tgt := 25) (show decode cX12_chains 19 = .ok (.goto 6, 3) by decide +kernel) (by decide) ?_
    exact j_ret (rokL (show decode cX12_chains 25 = .ok (.lreturn, 1) by decide +kernel) rfl) ⟨rfl, rfl, h⟩
theorem c_X12_chains {d : Nat} {t : Int} {Q : Int → jM → Prop} {σ : jM} {p1 : Int} (h : Ct mX12_isNumber d 0 t [iv p1] σ (fun r1 σ1 => ((inR r1) ∧ ((r1 = 0 → (Q (-1) σ1)) ∧ (¬ r1 = 0 → (Ct mX12_layChain d 0 t [rv 321, iv p1] σ1 (fun r3 σ3 => (Ct mX12_searched d 1 t [rv 321, iv p1, iv r3, iv 1, iv 0] σ3 (fun r4 σ4 => (Q r4 σ4)))))))))) : Ct mX12_chains (d + 1) 1 t [rv 321, iv p1] σ Q := Ct_of (by decide +kernel) (Nat.le_of_ble_eq_true rfl) (b_X12_chains_0 h)
set_option maxRecDepth 4000 in
theorem b_X12_halves_17 {d : Nat} {t : Int} {Q : Int → jM → Prop} {σ : jM} {p1 v2 v3 : Int} (h : (inR v3) ∧ ((v3 ≤ 1 → (Q v2 σ)) ∧ (1 < v3 → ((inR v3) ∧ ((inR (Int.tmod v3 2)) ∧ ((¬ (Int.tmod v3 2) = 0 → (Jt mX12_halves (d + 1) 0 t Q 17 [rv 321, iv p1, iv (v2 + 1), iv (v3 - 1)] [] σ)) ∧ ((Int.tmod v3 2) = 0 → ((inR v3) ∧ (Jt mX12_halves (d + 1) 0 t Q 17 [rv 321, iv p1, iv (v2 + 1), iv (Int.tdiv v3 2)] [] σ))))))))) : Jt mX12_halves (d + 1) 0 t Q 17 [rv 321, iv p1, iv v2, iv v3] [] σ := by
  refine j_iload_n (i := 3) rfl (show decode cX12_halves 17 = .ok (.iload_n 3, 1) by decide +kernel) ?_
  refine j_iconst (show decode cX12_halves 18 = .ok (.iconst 1, 1) by decide +kernel) ?_
  have hr0 := h.1
  have h := h.2
  refine j_icmp_le (tgt := 44) hr0 (inl (by decide)) (show decode cX12_halves 19 = .ok (.if_icmp .le 25, 3) by decide +kernel) (by decide) (fun c => ?_) (fun c => ?_)
  · have h := h.1 c
    refine j_iload_n (i := 2) rfl (show decode cX12_halves 44 = .ok (.iload_n 2, 1) by decide +kernel) ?_
    exact j_ret (rokI (show decode cX12_halves 45 = .ok (.ireturn, 1) by decide +kernel) rfl) ⟨rfl, rfl, h⟩
  · have h := h.2 c
    refine s_iinc (i := 2) rfl (L' := [rv 321, iv p1, iv (v2 + 1), iv v3]) rfl (show decode cX12_halves 22 = .ok (.iinc 2 1, 3) by decide +kernel) ?_
    refine j_iload_n (i := 3) rfl (show decode cX12_halves 25 = .ok (.iload_n 3, 1) by decide +kernel) ?_
    refine j_iconst (show decode cX12_halves 26 = .ok (.iconst 2, 1) by decide +kernel) ?_
    have hr1 := h.1
    have h := h.2
    refine j_irem hr1 (inl (by decide)) (by decide) (show decode cX12_halves 27 = .ok (.irem, 1) by decide +kernel) ?_
    have hr2 := h.1
    have h := h.2
    refine j_if_ne (tgt := 37) hr2 (show decode cX12_halves 28 = .ok (.ifCond .ne 9, 3) by decide +kernel) (by decide) (fun c => ?_) (fun c => ?_)
    · have h := h.1 c
      refine j_iload_n (i := 3) rfl (show decode cX12_halves 37 = .ok (.iload_n 3, 1) by decide +kernel) ?_
      refine j_iconst (show decode cX12_halves 38 = .ok (.iconst 1, 1) by decide +kernel) ?_
      refine j_isub (show decode cX12_halves 39 = .ok (.isub, 1) by decide +kernel) ?_
      refine s_ist_n (i := 3) (L' := [rv 321, iv p1, iv (v2 + 1), iv (v3 - 1)]) rfl (by decide) (show decode cX12_halves 40 = .ok (.istore_n 3, 1) by decide +kernel) ?_
      refine j_goto (tgt := 17) (show decode cX12_halves 41 = .ok (.goto (-24), 3) by decide +kernel) (by decide) ?_
      exact h
    · have h := h.2 c
      refine j_iload_n (i := 3) rfl (show decode cX12_halves 31 = .ok (.iload_n 3, 1) by decide +kernel) ?_
      refine j_iconst (show decode cX12_halves 32 = .ok (.iconst 2, 1) by decide +kernel) ?_
      have hr3 := h.1
      have h := h.2
      refine j_idiv hr3 (inl (by decide)) (by decide) (show decode cX12_halves 33 = .ok (.idiv, 1) by decide +kernel) ?_
      refine j_goto (tgt := 40) (show decode cX12_halves 34 = .ok (.goto 6, 3) by decide +kernel) (by decide) ?_
      refine s_ist_n (i := 3) (L' := [rv 321, iv p1, iv (v2 + 1), iv (Int.tdiv v3 2)]) rfl (by decide) (show decode cX12_halves 40 = .ok (.istore_n 3, 1) by decide +kernel) ?_
      refine j_goto (tgt := 17) (show decode cX12_halves 41 = .ok (.goto (-24), 3) by decide +kernel) (by decide) ?_
      exact h
set_option maxRecDepth 4000 in
theorem b_X12_halves_0 {d : Nat} {t : Int} {Q : Int → jM → Prop} {σ : jM} {p1 : Int} (h : Ct mX12_isIn d 0 t [iv p1, iv 1, iv 1000000] σ (fun r1 σ1 => ((inR r1) ∧ ((¬ r1 = 0 → (Jt mX12_halves (d + 1) 0 t Q 17 [rv 321, iv p1, iv 0, iv p1] [] σ1)) ∧ (r1 = 0 → (Q (-1) σ1)))))) : Jt mX12_halves (d + 1) 0 t Q 0 [rv 321, iv p1, uv, uv] [] σ := by
  refine j_iload_n (i := 1) rfl (show decode cX12_halves 0 = .ok (.iload_n 1, 1) by decide +kernel) ?_
  refine j_iconst (show decode cX12_halves 1 = .ok (.iconst 1, 1) by decide +kernel) ?_
  refine j_ldcw (x := 1000000) (tt_in 1587 (by decide +kernel) rfl) (show decode cX12_halves 2 = .ok (.ldc_w 274, 3) by decide +kernel) ?_
  refine j_ctS (m' := mX12_isIn) (As := [iv p1, iv 1, iv 1000000]) (tag := 0) (cw_X12_85 rfl) (show decode cX12_halves 5 = .ok (.invokestatic 85, 3) by decide +kernel) rfl (Nat.le_of_ble_eq_true rfl) (by decide) (Nat.le_refl _) h (fun r1 σ1 h => ?_)
  have hr1 := h.1
  have h := h.2
  refine j_if_ne (tgt := 13) hr1 (show decode cX12_halves 8 = .ok (.ifCond .ne 5, 3) by decide +kernel) (by decide) (fun c => ?_) (fun c => ?_)
  · have h := h.1 c
    refine j_iconst (show decode cX12_halves 13 = .ok (.iconst 0, 1) by decide +kernel) ?_
    refine s_ist_n (i := 2) (L' := [rv 321, iv p1, iv 0, uv]) rfl (by decide) (show decode cX12_halves 14 = .ok (.istore_n 2, 1) by decide +kernel) ?_
    refine j_iload_n (i := 1) rfl (show decode cX12_halves 15 = .ok (.iload_n 1, 1) by decide +kernel) ?_
    refine s_ist_n (i := 3) (L' := [rv 321, iv p1, iv 0, iv p1]) rfl (by decide) (show decode cX12_halves 16 = .ok (.istore_n 3, 1) by decide +kernel) ?_
    exact h
  · have h := h.2 c
    refine j_iconst (show decode cX12_halves 11 = .ok (.iconst (-1), 1) by decide +kernel) ?_
    exact j_ret (rokI (show decode cX12_halves 12 = .ok (.ireturn, 1) by decide +kernel) rfl) ⟨rfl, rfl, h⟩
theorem c_X12_halves {d : Nat} {t : Int} {Q : Int → jM → Prop} {σ : jM} {p1 : Int} (h : Ct mX12_isIn d 0 t [iv p1, iv 1, iv 1000000] σ (fun r1 σ1 => ((inR r1) ∧ ((¬ r1 = 0 → (Jt mX12_halves (d + 1) 0 t Q 17 [rv 321, iv p1, iv 0, iv p1] [] σ1)) ∧ (r1 = 0 → (Q (-1) σ1)))))) : Ct mX12_halves (d + 1) 0 t [rv 321, iv p1] σ Q := Ct_of (by decide +kernel) (Nat.le_of_ble_eq_true rfl) (b_X12_halves_0 h)
