/-! ===== the walk of readWord (printed by wip/whole/gen_blocks.py) ===== -/
set_option maxRecDepth 4000 in
theorem b_X3_readWord_51 {d : Nat} {t : Int} {Q : Int → jM → Prop} {σ : jM} {v1 v2 v3 : Int} (h : Ct mJ0_length_8abf5 d 0 t [(4, 0)] σ (fun r1 σ1 => ((inR v3) ∧ ((inR r1) ∧ ((r1 ≤ v3 → (Q 0 σ1)) ∧ (v3 < r1 → ((inR (σ1 271 6)) ∧ ((¬ (σ1 271 6) = 2 → (Q 0 σ1)) ∧ ((σ1 271 6) = 2 → (Ct mJ0_charAt_5068e d 0 t [(4, 0), iv v3] σ1 (fun r5 σ5 => ((inR r5) ∧ ((r5 = 32 → ((inR v2) ∧ ((inR ((σ5 271 8) - (σ5 271 7))) ∧ ((¬ v2 = ((σ5 271 8) - (σ5 271 7)) → (Jt mX3_readWord (d + 1) 9 t Q 51 [rv 271, iv (v1 + 1), iv 0, iv (v3 + 1), uv, uv] [] σ5)) ∧ (v2 = ((σ5 271 8) - (σ5 271 7)) → (∀ σ9 : jM, σ9 = up σ5 271 6 v1 → (Jt mX3_readWord (d + 1) 9 t Q 51 [rv 271, iv v1, iv v2, iv (v3 + 1), uv, uv] [] σ9))))))) ∧ (¬ r5 = 32 → ((inR v2) ∧ ((v2 < 0 → (((0 : Int) = 0 → (Jt mX3_readWord (d + 1) 9 t Q 51 [rv 271, iv v1, iv (-1), iv (v3 + 1), uv, uv] [] σ5)) ∧ (¬ (0 : Int) = 0 → (Jt mX3_readWord (d + 1) 9 t Q 51 [rv 271, iv v1, iv (v2 + 1), iv (v3 + 1), uv, uv] [] σ5)))) ∧ (0 ≤ v2 → ((inR ((σ5 271 7) + v2)) ∧ ((inR (σ5 271 8)) ∧ (((σ5 271 8) ≤ ((σ5 271 7) + v2) → (((0 : Int) = 0 → (Jt mX3_readWord (d + 1) 9 t Q 51 [rv 271, iv v1, iv (-1), iv (v3 + 1), uv, uv] [] σ5)) ∧ (¬ (0 : Int) = 0 → (Jt mX3_readWord (d + 1) 9 t Q 51 [rv 271, iv v1, iv (v2 + 1), iv (v3 + 1), uv, uv] [] σ5)))) ∧ (((σ5 271 7) + v2) < (σ5 271 8) → (((0 : Int) ≤ ((σ5 271 7) + v2) ∧ ((σ5 271 7) + v2) < 300) ∧ ((inR (σ5 272 ((σ5 271 7) + v2))) ∧ ((inR r5) ∧ ((¬ (σ5 272 ((σ5 271 7) + v2)) = r5 → (((0 : Int) = 0 → (Jt mX3_readWord (d + 1) 9 t Q 51 [rv 271, iv v1, iv (-1), iv (v3 + 1), uv, uv] [] σ5)) ∧ (¬ (0 : Int) = 0 → (Jt mX3_readWord (d + 1) 9 t Q 51 [rv 271, iv v1, iv (v2 + 1), iv (v3 + 1), uv, uv] [] σ5)))) ∧ ((σ5 272 ((σ5 271 7) + v2)) = r5 → (((1 : Int) = 0 → (Jt mX3_readWord (d + 1) 9 t Q 51 [rv 271, iv v1, iv (-1), iv (v3 + 1), uv, uv] [] σ5)) ∧ (¬ (1 : Int) = 0 → (Jt mX3_readWord (d + 1) 9 t Q 51 [rv 271, iv v1, iv (v2 + 1), iv (v3 + 1), uv, uv] [] σ5))))))))))))))))))))))))))))) : Jt mX3_readWord (d + 1) 9 t Q 51 [rv 271, iv v1, iv v2, iv v3, uv, uv] [] σ := by
  refine j_iload_n (i := 3) rfl (show decode cX3_readWord 51 = .ok (.iload_n 3, 1) by decide +kernel) ?_
  refine j_ldcW rfl (show decode cX3_readWord 52 = .ok (.ldc 152, 2) by decide +kernel) ?_
  refine j_ctT (m' := mJ0_length_8abf5) (As := []) (tag := 0) (cw_X3_154 rfl) (show decode cX3_readWord 54 = .ok (.invokevirtual 154, 3) by decide +kernel) rfl (Nat.le_of_ble_eq_true rfl) (by decide) rfl (Nat.le_refl _) h (fun r1 σ1 h => ?_)
  have hr1 := h.1
  have h := h.2
  have hr2 := h.1
  have h := h.2
  refine j_icmp_ge (tgt := 171) hr1 hr2 (show decode cX3_readWord 57 = .ok (.if_icmp .ge 114, 3) by decide +kernel) (by decide) (fun c => ?_) (fun c => ?_)
  · have h := h.1 c
    exact j_ret (rokV (show decode cX3_readWord 171 = .ok (.return_, 1) by decide +kernel) rfl) ⟨rfl, rfl, h⟩
  · have h := h.2 c
    refine s_aload_n (i := 0) rfl (show decode cX3_readWord 60 = .ok (.aload_n 0, 1) by decide +kernel) ?_
    refine gf_X3_40 rfl (show decode cX3_readWord 61 = .ok (.getfield 40, 3) by decide +kernel) okl_271 ?_
    refine j_iconst (show decode cX3_readWord 64 = .ok (.iconst 2, 1) by decide +kernel) ?_
    have hr3 := h.1
    have h := h.2
    refine j_icmp_ne (tgt := 171) hr3 (inl (by decide)) (show decode cX3_readWord 65 = .ok (.if_icmp .ne 106, 3) by decide +kernel) (by decide) (fun c => ?_) (fun c => ?_)
    · have h := h.1 c
      exact j_ret (rokV (show decode cX3_readWord 171 = .ok (.return_, 1) by decide +kernel) rfl) ⟨rfl, rfl, h⟩
    · have h := h.2 c
      refine j_ldcW rfl (show decode cX3_readWord 68 = .ok (.ldc 152, 2) by decide +kernel) ?_
      refine j_iload_n (i := 3) rfl (show decode cX3_readWord 70 = .ok (.iload_n 3, 1) by decide +kernel) ?_
      refine j_ctT (m' := mJ0_charAt_5068e) (As := [iv v3]) (tag := 0) (cw_X3_158 rfl) (show decode cX3_readWord 71 = .ok (.invokevirtual 158, 3) by decide +kernel) rfl (Nat.le_of_ble_eq_true rfl) (by decide) rfl (Nat.le_refl _) h (fun r5 σ5 h => ?_)
      refine s_ist (i := 4) (L' := [rv 271, iv v1, iv v2, iv v3, iv r5, uv]) rfl (by decide) (show decode cX3_readWord 74 = .ok (.istore 4, 2) by decide +kernel) ?_
      refine j_iload (i := 4) rfl (show decode cX3_readWord 76 = .ok (.iload 4, 2) by decide +kernel) ?_
      refine j_bipush (n := 32) (by decide +kernel) (show decode cX3_readWord 78 = .ok (.bipush 32, 2) by decide +kernel) ?_
      have hr5 := h.1
      have h := h.2
      refine j_icmp_eq (tgt := 139) hr5 (inl (by decide)) (show decode cX3_readWord 80 = .ok (.if_icmp .eq 59, 3) by decide +kernel) (by decide) (fun c => ?_) (fun c => ?_)
      · have h := h.1 c
        refine j_iload_n (i := 2) rfl (show decode cX3_readWord 139 = .ok (.iload_n 2, 1) by decide +kernel) ?_
        refine s_aload_n (i := 0) rfl (show decode cX3_readWord 140 = .ok (.aload_n 0, 1) by decide +kernel) ?_
        refine gf_X3_34 rfl (show decode cX3_readWord 141 = .ok (.getfield 34, 3) by decide +kernel) okl_271 ?_
        refine s_aload_n (i := 0) rfl (show decode cX3_readWord 144 = .ok (.aload_n 0, 1) by decide +kernel) ?_
        refine gf_X3_47 rfl (show decode cX3_readWord 145 = .ok (.getfield 47, 3) by decide +kernel) okl_271 ?_
        refine j_isub (show decode cX3_readWord 148 = .ok (.isub, 1) by decide +kernel) ?_
        have hr6 := h.1
        have h := h.2
        have hr7 := h.1
        have h := h.2
        refine j_icmp_ne (tgt := 160) hr6 hr7 (show decode cX3_readWord 149 = .ok (.if_icmp .ne 11, 3) by decide +kernel) (by decide) (fun c => ?_) (fun c => ?_)
        · have h := h.1 c
          refine s_iinc (i := 1) rfl (L' := [rv 271, iv (v1 + 1), iv v2, iv v3, iv r5, uv]) rfl (show decode cX3_readWord 160 = .ok (.iinc 1 1, 3) by decide +kernel) ?_
          refine j_iconst (show decode cX3_readWord 163 = .ok (.iconst 0, 1) by decide +kernel) ?_
          refine s_ist_n (i := 2) (L' := [rv 271, iv (v1 + 1), iv 0, iv v3, iv r5, uv]) rfl (by decide) (show decode cX3_readWord 164 = .ok (.istore_n 2, 1) by decide +kernel) ?_
          refine s_iinc (i := 3) rfl (L' := [rv 271, iv (v1 + 1), iv 0, iv (v3 + 1), iv r5, uv]) rfl (show decode cX3_readWord 165 = .ok (.iinc 3 1, 3) by decide +kernel) ?_
          refine j_goto (tgt := 51) (show decode cX3_readWord 168 = .ok (.goto (-117), 3) by decide +kernel) (by decide) ?_
          refine j_drop 4 ?_
          exact h
        · have h := h.2 c
          refine s_aload_n (i := 0) rfl (show decode cX3_readWord 152 = .ok (.aload_n 0, 1) by decide +kernel) ?_
          refine j_iload_n (i := 1) rfl (show decode cX3_readWord 153 = .ok (.iload_n 1, 1) by decide +kernel) ?_
          refine pf_X3_40 rfl (show decode cX3_readWord 154 = .ok (.putfield 40, 3) by decide +kernel) okl_271 ?_
          obtain ⟨σ9, eσ9⟩ : ∃ z : jM, z = up σ5 271 6 v1 := ⟨_, rfl⟩
          refine j_sig eσ9 ?_
          have h := h σ9 eσ9
          refine j_goto (tgt := 165) (show decode cX3_readWord 157 = .ok (.goto 8, 3) by decide +kernel) (by decide) ?_
          refine s_iinc (i := 3) rfl (L' := [rv 271, iv v1, iv v2, iv (v3 + 1), iv r5, uv]) rfl (show decode cX3_readWord 165 = .ok (.iinc 3 1, 3) by decide +kernel) ?_
          refine j_goto (tgt := 51) (show decode cX3_readWord 168 = .ok (.goto (-117), 3) by decide +kernel) (by decide) ?_
          refine j_drop 4 ?_
          exact h
      · have h := h.2 c
        refine j_iload_n (i := 2) rfl (show decode cX3_readWord 83 = .ok (.iload_n 2, 1) by decide +kernel) ?_
        have hr9 := h.1
        have h := h.2
        refine j_if_lt (tgt := 120) hr9 (show decode cX3_readWord 84 = .ok (.ifCond .lt 36, 3) by decide +kernel) (by decide) (fun c => ?_) (fun c => ?_)
        · have h := h.1 c
          refine j_iconst (show decode cX3_readWord 120 = .ok (.iconst 0, 1) by decide +kernel) ?_
          refine s_ist (i := 5) (L' := [rv 271, iv v1, iv v2, iv v3, iv r5, iv 0]) rfl (by decide) (show decode cX3_readWord 121 = .ok (.istore 5, 2) by decide +kernel) ?_
          refine j_iload (i := 5) rfl (show decode cX3_readWord 123 = .ok (.iload 5, 2) by decide +kernel) ?_
          refine j_if_eq (tgt := 134) (inl (by decide)) (show decode cX3_readWord 125 = .ok (.ifCond .eq 9, 3) by decide +kernel) (by decide) (fun c => ?_) (fun c => ?_)
          · have h := h.1 c
            refine j_iconst (show decode cX3_readWord 134 = .ok (.iconst (-1), 1) by decide +kernel) ?_
            refine s_ist_n (i := 2) (L' := [rv 271, iv v1, iv (-1), iv v3, iv r5, iv 0]) rfl (by decide) (show decode cX3_readWord 135 = .ok (.istore_n 2, 1) by decide +kernel) ?_
            refine j_goto (tgt := 165) (show decode cX3_readWord 136 = .ok (.goto 29, 3) by decide +kernel) (by decide) ?_
            refine s_iinc (i := 3) rfl (L' := [rv 271, iv v1, iv (-1), iv (v3 + 1), iv r5, iv 0]) rfl (show decode cX3_readWord 165 = .ok (.iinc 3 1, 3) by decide +kernel) ?_
            refine j_goto (tgt := 51) (show decode cX3_readWord 168 = .ok (.goto (-117), 3) by decide +kernel) (by decide) ?_
            refine j_drop 4 ?_
            refine j_drop 5 ?_
            exact h
          · have h := h.2 c
            refine j_iload_n (i := 2) rfl (show decode cX3_readWord 128 = .ok (.iload_n 2, 1) by decide +kernel) ?_
            refine j_iconst (show decode cX3_readWord 129 = .ok (.iconst 1, 1) by decide +kernel) ?_
            refine j_iadd (show decode cX3_readWord 130 = .ok (.iadd, 1) by decide +kernel) ?_
            refine j_goto (tgt := 135) (show decode cX3_readWord 131 = .ok (.goto 4, 3) by decide +kernel) (by decide) ?_
            refine s_ist_n (i := 2) (L' := [rv 271, iv v1, iv (v2 + 1), iv v3, iv r5, iv 0]) rfl (by decide) (show decode cX3_readWord 135 = .ok (.istore_n 2, 1) by decide +kernel) ?_
            refine j_goto (tgt := 165) (show decode cX3_readWord 136 = .ok (.goto 29, 3) by decide +kernel) (by decide) ?_
            refine s_iinc (i := 3) rfl (L' := [rv 271, iv v1, iv (v2 + 1), iv (v3 + 1), iv r5, iv 0]) rfl (show decode cX3_readWord 165 = .ok (.iinc 3 1, 3) by decide +kernel) ?_
            refine j_goto (tgt := 51) (show decode cX3_readWord 168 = .ok (.goto (-117), 3) by decide +kernel) (by decide) ?_
            refine j_drop 4 ?_
            refine j_drop 5 ?_
            exact h
        · have h := h.2 c
          refine s_aload_n (i := 0) rfl (show decode cX3_readWord 87 = .ok (.aload_n 0, 1) by decide +kernel) ?_
          refine gf_X3_47 rfl (show decode cX3_readWord 88 = .ok (.getfield 47, 3) by decide +kernel) okl_271 ?_
          refine j_iload_n (i := 2) rfl (show decode cX3_readWord 91 = .ok (.iload_n 2, 1) by decide +kernel) ?_
          refine j_iadd (show decode cX3_readWord 92 = .ok (.iadd, 1) by decide +kernel) ?_
          refine s_aload_n (i := 0) rfl (show decode cX3_readWord 93 = .ok (.aload_n 0, 1) by decide +kernel) ?_
          refine gf_X3_34 rfl (show decode cX3_readWord 94 = .ok (.getfield 34, 3) by decide +kernel) okl_271 ?_
          have hr10 := h.1
          have h := h.2
          have hr11 := h.1
          have h := h.2
          refine j_icmp_ge (tgt := 120) hr10 hr11 (show decode cX3_readWord 97 = .ok (.if_icmp .ge 23, 3) by decide +kernel) (by decide) (fun c => ?_) (fun c => ?_)
          · have h := h.1 c
            refine j_iconst (show decode cX3_readWord 120 = .ok (.iconst 0, 1) by decide +kernel) ?_
            refine s_ist (i := 5) (L' := [rv 271, iv v1, iv v2, iv v3, iv r5, iv 0]) rfl (by decide) (show decode cX3_readWord 121 = .ok (.istore 5, 2) by decide +kernel) ?_
            refine j_iload (i := 5) rfl (show decode cX3_readWord 123 = .ok (.iload 5, 2) by decide +kernel) ?_
            refine j_if_eq (tgt := 134) (inl (by decide)) (show decode cX3_readWord 125 = .ok (.ifCond .eq 9, 3) by decide +kernel) (by decide) (fun c => ?_) (fun c => ?_)
            · have h := h.1 c
              refine j_iconst (show decode cX3_readWord 134 = .ok (.iconst (-1), 1) by decide +kernel) ?_
              refine s_ist_n (i := 2) (L' := [rv 271, iv v1, iv (-1), iv v3, iv r5, iv 0]) rfl (by decide) (show decode cX3_readWord 135 = .ok (.istore_n 2, 1) by decide +kernel) ?_
              refine j_goto (tgt := 165) (show decode cX3_readWord 136 = .ok (.goto 29, 3) by decide +kernel) (by decide) ?_
              refine s_iinc (i := 3) rfl (L' := [rv 271, iv v1, iv (-1), iv (v3 + 1), iv r5, iv 0]) rfl (show decode cX3_readWord 165 = .ok (.iinc 3 1, 3) by decide +kernel) ?_
              refine j_goto (tgt := 51) (show decode cX3_readWord 168 = .ok (.goto (-117), 3) by decide +kernel) (by decide) ?_
              refine j_drop 4 ?_
              refine j_drop 5 ?_
              exact h
            · have h := h.2 c
              refine j_iload_n (i := 2) rfl (show decode cX3_readWord 128 = .ok (.iload_n 2, 1) by decide +kernel) ?_
              refine j_iconst (show decode cX3_readWord 129 = .ok (.iconst 1, 1) by decide +kernel) ?_
              refine j_iadd (show decode cX3_readWord 130 = .ok (.iadd, 1) by decide +kernel) ?_
              refine j_goto (tgt := 135) (show decode cX3_readWord 131 = .ok (.goto 4, 3) by decide +kernel) (by decide) ?_
              refine s_ist_n (i := 2) (L' := [rv 271, iv v1, iv (v2 + 1), iv v3, iv r5, iv 0]) rfl (by decide) (show decode cX3_readWord 135 = .ok (.istore_n 2, 1) by decide +kernel) ?_
              refine j_goto (tgt := 165) (show decode cX3_readWord 136 = .ok (.goto 29, 3) by decide +kernel) (by decide) ?_
              refine s_iinc (i := 3) rfl (L' := [rv 271, iv v1, iv (v2 + 1), iv (v3 + 1), iv r5, iv 0]) rfl (show decode cX3_readWord 165 = .ok (.iinc 3 1, 3) by decide +kernel) ?_
              refine j_goto (tgt := 51) (show decode cX3_readWord 168 = .ok (.goto (-117), 3) by decide +kernel) (by decide) ?_
              refine j_drop 4 ?_
              refine j_drop 5 ?_
              exact h
          · have h := h.2 c
            refine s_aload_n (i := 0) rfl (show decode cX3_readWord 100 = .ok (.aload_n 0, 1) by decide +kernel) ?_
            refine gf_X3_11 (x := 272) rfl (show decode cX3_readWord 101 = .ok (.getfield 11, 3) by decide +kernel) okl_271 rfl ?_
            refine s_aload_n (i := 0) rfl (show decode cX3_readWord 104 = .ok (.aload_n 0, 1) by decide +kernel) ?_
            refine gf_X3_47 rfl (show decode cX3_readWord 105 = .ok (.getfield 47, 3) by decide +kernel) okl_271 ?_
            refine j_iload_n (i := 2) rfl (show decode cX3_readWord 108 = .ok (.iload_n 2, 1) by decide +kernel) ?_
            refine j_iadd (show decode cX3_readWord 109 = .ok (.iadd, 1) by decide +kernel) ?_
            refine s_iald (show decode cX3_readWord 110 = .ok (.iaload, 1) by decide +kernel) okl_272 h.1 ?_
            have h := h.2
            refine j_iload (i := 4) rfl (show decode cX3_readWord 111 = .ok (.iload 4, 2) by decide +kernel) ?_
            have hr12 := h.1
            have h := h.2
            have hr13 := h.1
            have h := h.2
            refine j_icmp_ne (tgt := 120) hr12 hr13 (show decode cX3_readWord 113 = .ok (.if_icmp .ne 7, 3) by decide +kernel) (by decide) (fun c => ?_) (fun c => ?_)
            · have h := h.1 c
              refine j_iconst (show decode cX3_readWord 120 = .ok (.iconst 0, 1) by decide +kernel) ?_
              refine s_ist (i := 5) (L' := [rv 271, iv v1, iv v2, iv v3, iv r5, iv 0]) rfl (by decide) (show decode cX3_readWord 121 = .ok (.istore 5, 2) by decide +kernel) ?_
              refine j_iload (i := 5) rfl (show decode cX3_readWord 123 = .ok (.iload 5, 2) by decide +kernel) ?_
              refine j_if_eq (tgt := 134) (inl (by decide)) (show decode cX3_readWord 125 = .ok (.ifCond .eq 9, 3) by decide +kernel) (by decide) (fun c => ?_) (fun c => ?_)
              · have h := h.1 c
                refine j_iconst (show decode cX3_readWord 134 = .ok (.iconst (-1), 1) by decide +kernel) ?_
                refine s_ist_n (i := 2) (L' := [rv 271, iv v1, iv (-1), iv v3, iv r5, iv 0]) rfl (by decide) (show decode cX3_readWord 135 = .ok (.istore_n 2, 1) by decide +kernel) ?_
                refine j_goto (tgt := 165) (show decode cX3_readWord 136 = .ok (.goto 29, 3) by decide +kernel) (by decide) ?_
                refine s_iinc (i := 3) rfl (L' := [rv 271, iv v1, iv (-1), iv (v3 + 1), iv r5, iv 0]) rfl (show decode cX3_readWord 165 = .ok (.iinc 3 1, 3) by decide +kernel) ?_
                refine j_goto (tgt := 51) (show decode cX3_readWord 168 = .ok (.goto (-117), 3) by decide +kernel) (by decide) ?_
                refine j_drop 4 ?_
                refine j_drop 5 ?_
                exact h
              · have h := h.2 c
                refine j_iload_n (i := 2) rfl (show decode cX3_readWord 128 = .ok (.iload_n 2, 1) by decide +kernel) ?_
                refine j_iconst (show decode cX3_readWord 129 = .ok (.iconst 1, 1) by decide +kernel) ?_
                refine j_iadd (show decode cX3_readWord 130 = .ok (.iadd, 1) by decide +kernel) ?_
                refine j_goto (tgt := 135) (show decode cX3_readWord 131 = .ok (.goto 4, 3) by decide +kernel) (by decide) ?_
                refine s_ist_n (i := 2) (L' := [rv 271, iv v1, iv (v2 + 1), iv v3, iv r5, iv 0]) rfl (by decide) (show decode cX3_readWord 135 = .ok (.istore_n 2, 1) by decide +kernel) ?_
                refine j_goto (tgt := 165) (show decode cX3_readWord 136 = .ok (.goto 29, 3) by decide +kernel) (by decide) ?_
                refine s_iinc (i := 3) rfl (L' := [rv 271, iv v1, iv (v2 + 1), iv (v3 + 1), iv r5, iv 0]) rfl (show decode cX3_readWord 165 = .ok (.iinc 3 1, 3) by decide +kernel) ?_
                refine j_goto (tgt := 51) (show decode cX3_readWord 168 = .ok (.goto (-117), 3) by decide +kernel) (by decide) ?_
                refine j_drop 4 ?_
                refine j_drop 5 ?_
                exact h
            · have h := h.2 c
              refine j_iconst (show decode cX3_readWord 116 = .ok (.iconst 1, 1) by decide +kernel) ?_
              refine j_goto (tgt := 121) (show decode cX3_readWord 117 = .ok (.goto 4, 3) by decide +kernel) (by decide) ?_
              refine s_ist (i := 5) (L' := [rv 271, iv v1, iv v2, iv v3, iv r5, iv 1]) rfl (by decide) (show decode cX3_readWord 121 = .ok (.istore 5, 2) by decide +kernel) ?_
              refine j_iload (i := 5) rfl (show decode cX3_readWord 123 = .ok (.iload 5, 2) by decide +kernel) ?_
              refine j_if_eq (tgt := 134) (inl (by decide)) (show decode cX3_readWord 125 = .ok (.ifCond .eq 9, 3) by decide +kernel) (by decide) (fun c => ?_) (fun c => ?_)
              · have h := h.1 c
                refine j_iconst (show decode cX3_readWord 134 = .ok (.iconst (-1), 1) by decide +kernel) ?_
                refine s_ist_n (i := 2) (L' := [rv 271, iv v1, iv (-1), iv v3, iv r5, iv 1]) rfl (by decide) (show decode cX3_readWord 135 = .ok (.istore_n 2, 1) by decide +kernel) ?_
                refine j_goto (tgt := 165) (show decode cX3_readWord 136 = .ok (.goto 29, 3) by decide +kernel) (by decide) ?_
                refine s_iinc (i := 3) rfl (L' := [rv 271, iv v1, iv (-1), iv (v3 + 1), iv r5, iv 1]) rfl (show decode cX3_readWord 165 = .ok (.iinc 3 1, 3) by decide +kernel) ?_
                refine j_goto (tgt := 51) (show decode cX3_readWord 168 = .ok (.goto (-117), 3) by decide +kernel) (by decide) ?_
                refine j_drop 4 ?_
                refine j_drop 5 ?_
                exact h
              · have h := h.2 c
                refine j_iload_n (i := 2) rfl (show decode cX3_readWord 128 = .ok (.iload_n 2, 1) by decide +kernel) ?_
                refine j_iconst (show decode cX3_readWord 129 = .ok (.iconst 1, 1) by decide +kernel) ?_
                refine j_iadd (show decode cX3_readWord 130 = .ok (.iadd, 1) by decide +kernel) ?_
                refine j_goto (tgt := 135) (show decode cX3_readWord 131 = .ok (.goto 4, 3) by decide +kernel) (by decide) ?_
                refine s_ist_n (i := 2) (L' := [rv 271, iv v1, iv (v2 + 1), iv v3, iv r5, iv 1]) rfl (by decide) (show decode cX3_readWord 135 = .ok (.istore_n 2, 1) by decide +kernel) ?_
                refine j_goto (tgt := 165) (show decode cX3_readWord 136 = .ok (.goto 29, 3) by decide +kernel) (by decide) ?_
                refine s_iinc (i := 3) rfl (L' := [rv 271, iv v1, iv (v2 + 1), iv (v3 + 1), iv r5, iv 1]) rfl (show decode cX3_readWord 165 = .ok (.iinc 3 1, 3) by decide +kernel) ?_
                refine j_goto (tgt := 51) (show decode cX3_readWord 168 = .ok (.goto (-117), 3) by decide +kernel) (by decide) ?_
                refine j_drop 4 ?_
                refine j_drop 5 ?_
                exact h
set_option maxRecDepth 4000 in
theorem b_X3_readWord_0 {d : Nat} {t : Int} {Q : Int → jM → Prop} {σ : jM} (h : (inR (σ 271 8)) ∧ ((inR (σ 271 1)) ∧ (((σ 271 1) ≤ (σ 271 8) → (∀ σ3 : jM, σ3 = up σ 271 6 2 → (Jt mX3_readWord (d + 1) 9 t Q 51 [rv 271, iv 100, iv 0, iv 0, uv, uv] [] σ3))) ∧ ((σ 271 8) < (σ 271 1) → (((0 : Int) ≤ (σ 271 8) ∧ (σ 271 8) < 300) ∧ (Ct mX3_isLetter d 0 t [iv (σ 272 (σ 271 8))] σ (fun r4 σ4 => ((inR r4) ∧ ((r4 = 0 → (∀ σ6 : jM, σ6 = up σ4 271 6 2 → (Jt mX3_readWord (d + 1) 9 t Q 51 [rv 271, iv 100, iv 0, iv 0, uv, uv] [] σ6))) ∧ (¬ r4 = 0 → (∀ σ7 : jM, σ7 = up σ4 271 8 ((σ4 271 8) + 1) → (Jt mX3_readWord (d + 1) 9 t Q 0 [rv 271, uv, uv, uv, uv, uv] [] σ7)))))))))))) : Jt mX3_readWord (d + 1) 9 t Q 0 [rv 271, uv, uv, uv, uv, uv] [] σ := by
  refine s_aload_n (i := 0) rfl (show decode cX3_readWord 0 = .ok (.aload_n 0, 1) by decide +kernel) ?_
  refine gf_X3_34 rfl (show decode cX3_readWord 1 = .ok (.getfield 34, 3) by decide +kernel) okl_271 ?_
  refine s_aload_n (i := 0) rfl (show decode cX3_readWord 4 = .ok (.aload_n 0, 1) by decide +kernel) ?_
  refine gf_X3_22 rfl (show decode cX3_readWord 5 = .ok (.getfield 22, 3) by decide +kernel) okl_271 ?_
  have hr0 := h.1
  have h := h.2
  have hr1 := h.1
  have h := h.2
  refine j_icmp_ge (tgt := 39) hr0 hr1 (show decode cX3_readWord 8 = .ok (.if_icmp .ge 31, 3) by decide +kernel) (by decide) (fun c => ?_) (fun c => ?_)
  · have h := h.1 c
    refine s_aload_n (i := 0) rfl (show decode cX3_readWord 39 = .ok (.aload_n 0, 1) by decide +kernel) ?_
    refine j_iconst (show decode cX3_readWord 40 = .ok (.iconst 2, 1) by decide +kernel) ?_
    refine pf_X3_40 rfl (show decode cX3_readWord 41 = .ok (.putfield 40, 3) by decide +kernel) okl_271 ?_
    obtain ⟨σ3, eσ3⟩ : ∃ z : jM, z = up σ 271 6 2 := ⟨_, rfl⟩
    refine j_sig eσ3 ?_
    have h := h σ3 eσ3
    refine j_bipush (n := 100) (by decide +kernel) (show decode cX3_readWord 44 = .ok (.bipush 100, 2) by decide +kernel) ?_
    refine s_ist_n (i := 1) (L' := [rv 271, iv 100, uv, uv, uv, uv]) rfl (by decide) (show decode cX3_readWord 46 = .ok (.istore_n 1, 1) by decide +kernel) ?_
    refine j_iconst (show decode cX3_readWord 47 = .ok (.iconst 0, 1) by decide +kernel) ?_
    refine s_ist_n (i := 2) (L' := [rv 271, iv 100, iv 0, uv, uv, uv]) rfl (by decide) (show decode cX3_readWord 48 = .ok (.istore_n 2, 1) by decide +kernel) ?_
    refine j_iconst (show decode cX3_readWord 49 = .ok (.iconst 0, 1) by decide +kernel) ?_
    refine s_ist_n (i := 3) (L' := [rv 271, iv 100, iv 0, iv 0, uv, uv]) rfl (by decide) (show decode cX3_readWord 50 = .ok (.istore_n 3, 1) by decide +kernel) ?_
    exact h
  · have h := h.2 c
    refine s_aload_n (i := 0) rfl (show decode cX3_readWord 11 = .ok (.aload_n 0, 1) by decide +kernel) ?_
    refine gf_X3_11 (x := 272) rfl (show decode cX3_readWord 12 = .ok (.getfield 11, 3) by decide +kernel) okl_271 rfl ?_
    refine s_aload_n (i := 0) rfl (show decode cX3_readWord 15 = .ok (.aload_n 0, 1) by decide +kernel) ?_
    refine gf_X3_34 rfl (show decode cX3_readWord 16 = .ok (.getfield 34, 3) by decide +kernel) okl_271 ?_
    refine s_iald (show decode cX3_readWord 19 = .ok (.iaload, 1) by decide +kernel) okl_272 h.1 ?_
    have h := h.2
    refine j_ctS (m' := mX3_isLetter) (As := [iv (σ 272 (σ 271 8))]) (tag := 0) (cw_X3_136 rfl) (show decode cX3_readWord 20 = .ok (.invokestatic 136, 3) by decide +kernel) rfl (Nat.le_of_ble_eq_true rfl) (by decide) (Nat.le_refl _) h (fun r4 σ4 h => ?_)
    have hr4 := h.1
    have h := h.2
    refine j_if_eq (tgt := 39) hr4 (show decode cX3_readWord 23 = .ok (.ifCond .eq 16, 3) by decide +kernel) (by decide) (fun c => ?_) (fun c => ?_)
    · have h := h.1 c
      refine s_aload_n (i := 0) rfl (show decode cX3_readWord 39 = .ok (.aload_n 0, 1) by decide +kernel) ?_
      refine j_iconst (show decode cX3_readWord 40 = .ok (.iconst 2, 1) by decide +kernel) ?_
      refine pf_X3_40 rfl (show decode cX3_readWord 41 = .ok (.putfield 40, 3) by decide +kernel) okl_271 ?_
      obtain ⟨σ6, eσ6⟩ : ∃ z : jM, z = up σ4 271 6 2 := ⟨_, rfl⟩
      refine j_sig eσ6 ?_
      have h := h σ6 eσ6
      refine j_bipush (n := 100) (by decide +kernel) (show decode cX3_readWord 44 = .ok (.bipush 100, 2) by decide +kernel) ?_
      refine s_ist_n (i := 1) (L' := [rv 271, iv 100, uv, uv, uv, uv]) rfl (by decide) (show decode cX3_readWord 46 = .ok (.istore_n 1, 1) by decide +kernel) ?_
      refine j_iconst (show decode cX3_readWord 47 = .ok (.iconst 0, 1) by decide +kernel) ?_
      refine s_ist_n (i := 2) (L' := [rv 271, iv 100, iv 0, uv, uv, uv]) rfl (by decide) (show decode cX3_readWord 48 = .ok (.istore_n 2, 1) by decide +kernel) ?_
      refine j_iconst (show decode cX3_readWord 49 = .ok (.iconst 0, 1) by decide +kernel) ?_
      refine s_ist_n (i := 3) (L' := [rv 271, iv 100, iv 0, iv 0, uv, uv]) rfl (by decide) (show decode cX3_readWord 50 = .ok (.istore_n 3, 1) by decide +kernel) ?_
      exact h
    · have h := h.2 c
      refine s_aload_n (i := 0) rfl (show decode cX3_readWord 26 = .ok (.aload_n 0, 1) by decide +kernel) ?_
      refine j_dup (show (2 : Nat) ≠ 1 by decide) (show decode cX3_readWord 27 = .ok (.dup, 1) by decide +kernel) ?_
      refine gf_X3_34 rfl (show decode cX3_readWord 28 = .ok (.getfield 34, 3) by decide +kernel) okl_271 ?_
      refine j_iconst (show decode cX3_readWord 31 = .ok (.iconst 1, 1) by decide +kernel) ?_
      refine j_iadd (show decode cX3_readWord 32 = .ok (.iadd, 1) by decide +kernel) ?_
      refine pf_X3_34 rfl (show decode cX3_readWord 33 = .ok (.putfield 34, 3) by decide +kernel) okl_271 ?_
      obtain ⟨σ7, eσ7⟩ : ∃ z : jM, z = up σ4 271 8 ((σ4 271 8) + 1) := ⟨_, rfl⟩
      refine j_sig eσ7 ?_
      have h := h σ7 eσ7
      refine j_goto (tgt := 0) (show decode cX3_readWord 36 = .ok (.goto (-36), 3) by decide +kernel) (by decide) ?_
      exact h
theorem c_X3_readWord {d : Nat} {t : Int} {Q : Int → jM → Prop} {σ : jM} (h : (inR (σ 271 8)) ∧ ((inR (σ 271 1)) ∧ (((σ 271 1) ≤ (σ 271 8) → (∀ σ3 : jM, σ3 = up σ 271 6 2 → (Jt mX3_readWord (d + 1) 9 t Q 51 [rv 271, iv 100, iv 0, iv 0, uv, uv] [] σ3))) ∧ ((σ 271 8) < (σ 271 1) → (((0 : Int) ≤ (σ 271 8) ∧ (σ 271 8) < 300) ∧ (Ct mX3_isLetter d 0 t [iv (σ 272 (σ 271 8))] σ (fun r4 σ4 => ((inR r4) ∧ ((r4 = 0 → (∀ σ6 : jM, σ6 = up σ4 271 6 2 → (Jt mX3_readWord (d + 1) 9 t Q 51 [rv 271, iv 100, iv 0, iv 0, uv, uv] [] σ6))) ∧ (¬ r4 = 0 → (∀ σ7 : jM, σ7 = up σ4 271 8 ((σ4 271 8) + 1) → (Jt mX3_readWord (d + 1) 9 t Q 0 [rv 271, uv, uv, uv, uv, uv] [] σ7)))))))))))) : Ct mX3_readWord (d + 1) 9 t [rv 271] σ Q := Ct_of (by decide +kernel) (Nat.le_of_ble_eq_true rfl) (b_X3_readWord_0 h)
