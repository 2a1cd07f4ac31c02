/-! ===== walks (printed by wip/whole/gen_blocks.py) ===== -/
set_option maxRecDepth 4000 in
theorem b_X12_leastPrime_2 {d : Nat} {t : Int} {Q : Int → jM → Prop} {σ : jM} {p0 v1 : Int} (h : (inR (v1 * v1)) ∧ ((inR p0) ∧ ((p0 < (v1 * v1) → (Q p0 σ)) ∧ ((v1 * v1) ≤ p0 → ((inR p0) ∧ ((inR v1) ∧ ((v1 ≠ 0) ∧ ((inR (Int.tmod p0 v1)) ∧ ((¬ (Int.tmod p0 v1) = 0 → (Jt mX12_leastPrime (d) 0 t Q 2 [iv p0, iv (v1 + 1)] [] σ)) ∧ ((Int.tmod p0 v1) = 0 → (Q v1 σ))))))))))) : Jt mX12_leastPrime (d) 0 t Q 2 [iv p0, iv v1] [] σ := by
  refine j_iload_n (i := 1) rfl (show decode cX12_leastPrime 2 = .ok (.iload_n 1, 1) by decide +kernel) ?_
  refine j_iload_n (i := 1) rfl (show decode cX12_leastPrime 3 = .ok (.iload_n 1, 1) by decide +kernel) ?_
  refine j_imul (show decode cX12_leastPrime 4 = .ok (.imul, 1) by decide +kernel) ?_
  refine j_iload_n (i := 0) rfl (show decode cX12_leastPrime 5 = .ok (.iload_n 0, 1) by decide +kernel) ?_
  have hr0 := h.1
  have h := h.2
  have hr1 := h.1
  have h := h.2
  refine j_icmp_gt (tgt := 23) hr0 hr1 (show decode cX12_leastPrime 6 = .ok (.if_icmp .gt 17, 3) by decide +kernel) (by decide) (fun c => ?_) (fun c => ?_)
  · have h := h.1 c
    refine j_iload_n (i := 0) rfl (show decode cX12_leastPrime 23 = .ok (.iload_n 0, 1) by decide +kernel) ?_
    exact j_ret (rokI (show decode cX12_leastPrime 24 = .ok (.ireturn, 1) by decide +kernel) rfl) ⟨rfl, rfl, h⟩
  · have h := h.2 c
    refine j_iload_n (i := 0) rfl (show decode cX12_leastPrime 9 = .ok (.iload_n 0, 1) by decide +kernel) ?_
    refine j_iload_n (i := 1) rfl (show decode cX12_leastPrime 10 = .ok (.iload_n 1, 1) by decide +kernel) ?_
    have hr2 := h.1
    have h := h.2
    have hr3 := h.1
    have h := h.2
    have hz4 := h.1
    have h := h.2
    refine j_irem hr2 hr3 hz4 (show decode cX12_leastPrime 11 = .ok (.irem, 1) by decide +kernel) ?_
    have hr5 := h.1
    have h := h.2
    refine j_if_ne (tgt := 17) hr5 (show decode cX12_leastPrime 12 = .ok (.ifCond .ne 5, 3) by decide +kernel) (by decide) (fun c => ?_) (fun c => ?_)
    · have h := h.1 c
      refine s_iinc (i := 1) rfl (L' := [iv p0, iv (v1 + 1)]) rfl (show decode cX12_leastPrime 17 = .ok (.iinc 1 1, 3) by decide +kernel) ?_
      refine j_goto (tgt := 2) (show decode cX12_leastPrime 20 = .ok (.goto (-18), 3) by decide +kernel) (by decide) ?_
      exact h
    · have h := h.2 c
      refine j_iload_n (i := 1) rfl (show decode cX12_leastPrime 15 = .ok (.iload_n 1, 1) by decide +kernel) ?_
      exact j_ret (rokI (show decode cX12_leastPrime 16 = .ok (.ireturn, 1) by decide +kernel) rfl) ⟨rfl, rfl, h⟩
set_option maxRecDepth 4000 in
theorem b_X12_leastPrime_0 {d : Nat} {t : Int} {Q : Int → jM → Prop} {σ : jM} {p0 : Int} (h : Jt mX12_leastPrime (d) 0 t Q 2 [iv p0, iv 2] [] σ) : Jt mX12_leastPrime (d) 0 t Q 0 [iv p0, uv] [] σ := by
  refine j_iconst (show decode cX12_leastPrime 0 = .ok (.iconst 2, 1) by decide +kernel) ?_
  refine s_ist_n (i := 1) (L' := [iv p0, iv 2]) rfl (by decide) (show decode cX12_leastPrime 1 = .ok (.istore_n 1, 1) by decide +kernel) ?_
  exact h
theorem c_X12_leastPrime {d : Nat} {t : Int} {Q : Int → jM → Prop} {σ : jM} {p0 : Int} (h : Jt mX12_leastPrime (d) 0 t Q 2 [iv p0, iv 2] [] σ) : Ct mX12_leastPrime (d) 0 t [iv p0] σ Q := Ct_of (by decide +kernel) (Nat.le_of_ble_eq_true rfl) (b_X12_leastPrime_0 h)
set_option maxRecDepth 4000 in
theorem b_X12_parts_24 {d : Nat} {t : Int} {Q : Int → jM → Prop} {σ : jM} {p1 v2 v3 : Int} (h : (inR v3) ∧ ((v3 ≤ 0 → (Q v2 σ)) ∧ (0 < v3 → (((0 : Int) ≤ (v3 + (-1)) ∧ (v3 + (-1)) < 64) ∧ ((inR (σ 333 (v3 + (-1)))) ∧ ((¬ (σ 333 (v3 + (-1))) = 1 → (Ct mX12_leastPrime d 0 t [iv (σ 333 (v3 + (-1)))] σ (fun r3 σ3 => ((inR r3) ∧ ((inR (σ 333 (v3 + (-1)))) ∧ ((¬ r3 = (σ 333 (v3 + (-1))) → (((0 : Int) ≤ (v3 + (-1)) ∧ (v3 + (-1)) < 64) ∧ (∀ σ7 : jM, σ7 = up σ3 333 (v3 + (-1)) r3 → ((inR r3) ∧ ((inR (σ 333 (v3 + (-1)))) ∧ ((¬ r3 = (σ 333 (v3 + (-1))) → ((inR (σ 333 (v3 + (-1)))) ∧ ((inR r3) ∧ ((r3 ≠ 0) ∧ (((0 : Int) ≤ ((v3 + (-1)) + 1) ∧ ((v3 + (-1)) + 1) < 64) ∧ (∀ σ14 : jM, σ14 = up σ7 333 ((v3 + (-1)) + 1) (Int.tdiv (σ 333 (v3 + (-1))) r3) → (Jt mX12_parts (d + 1) 0 t Q 24 [rv 321, iv p1, iv v2, iv (((v3 + (-1)) + 1) + 1), uv, uv] [] σ14))))))) ∧ (r3 = (σ 333 (v3 + (-1))) → (Jt mX12_parts (d + 1) 0 t Q 24 [rv 321, iv p1, iv (v2 + 1), iv ((v3 + (-1)) + 1), uv, uv] [] σ7)))))))) ∧ (r3 = (σ 333 (v3 + (-1))) → (((0 : Int) ≤ (v3 + (-1)) ∧ (v3 + (-1)) < 64) ∧ (∀ σ16 : jM, σ16 = up σ3 333 (v3 + (-1)) ((σ 333 (v3 + (-1))) - 1) → ((inR r3) ∧ ((inR (σ 333 (v3 + (-1)))) ∧ ((¬ r3 = (σ 333 (v3 + (-1))) → ((inR (σ 333 (v3 + (-1)))) ∧ ((inR r3) ∧ ((r3 ≠ 0) ∧ (((0 : Int) ≤ ((v3 + (-1)) + 1) ∧ ((v3 + (-1)) + 1) < 64) ∧ (∀ σ23 : jM, σ23 = up σ16 333 ((v3 + (-1)) + 1) (Int.tdiv (σ 333 (v3 + (-1))) r3) → (Jt mX12_parts (d + 1) 0 t Q 24 [rv 321, iv p1, iv v2, iv (((v3 + (-1)) + 1) + 1), uv, uv] [] σ23))))))) ∧ (r3 = (σ 333 (v3 + (-1))) → (Jt mX12_parts (d + 1) 0 t Q 24 [rv 321, iv p1, iv (v2 + 1), iv ((v3 + (-1)) + 1), uv, uv] [] σ16)))))))))))))) ∧ ((σ 333 (v3 + (-1))) = 1 → (Jt mX12_parts (d + 1) 0 t Q 24 [rv 321, iv p1, iv v2, iv (v3 + (-1)), uv, uv] [] σ)))))))) : Jt mX12_parts (d + 1) 0 t Q 24 [rv 321, iv p1, iv v2, iv v3, uv, uv] [] σ := by
  refine j_iload_n (i := 3) rfl (show decode cX12_parts 24 = .ok (.iload_n 3, 1) by decide +kernel) ?_
  have hr0 := h.1
  have h := h.2
  refine j_if_le (tgt := 110) hr0 (show decode cX12_parts 25 = .ok (.ifCond .le 85, 3) by decide +kernel) (by decide) (fun c => ?_) (fun c => ?_)
  · have h := h.1 c
    refine j_iload_n (i := 2) rfl (show decode cX12_parts 110 = .ok (.iload_n 2, 1) by decide +kernel) ?_
    exact j_ret (rokI (show decode cX12_parts 111 = .ok (.ireturn, 1) by decide +kernel) rfl) ⟨rfl, rfl, h⟩
  · have h := h.2 c
    refine s_iinc (i := 3) rfl (L' := [rv 321, iv p1, iv v2, iv (v3 + (-1)), uv, uv]) rfl (show decode cX12_parts 28 = .ok (.iinc 3 (-1), 3) by decide +kernel) ?_
    refine s_aload_n (i := 0) rfl (show decode cX12_parts 31 = .ok (.aload_n 0, 1) by decide +kernel) ?_
    refine gf_X12_56 (x := 333) rfl (show decode cX12_parts 32 = .ok (.getfield 56, 3) by decide +kernel) okl_321 rfl ?_
    refine j_iload_n (i := 3) rfl (show decode cX12_parts 35 = .ok (.iload_n 3, 1) by decide +kernel) ?_
    refine s_iald (show decode cX12_parts 36 = .ok (.iaload, 1) by decide +kernel) okl_333 h.1 ?_
    have h := h.2
    refine s_ist (i := 4) (L' := [rv 321, iv p1, iv v2, iv (v3 + (-1)), iv (σ 333 (v3 + (-1))), uv]) rfl (by decide) (show decode cX12_parts 37 = .ok (.istore 4, 2) by decide +kernel) ?_
    refine j_iload (i := 4) rfl (show decode cX12_parts 39 = .ok (.iload 4, 2) by decide +kernel) ?_
    refine j_iconst (show decode cX12_parts 41 = .ok (.iconst 1, 1) by decide +kernel) ?_
    have hr1 := h.1
    have h := h.2
    refine j_icmp_ne (tgt := 48) hr1 (inl (by decide)) (show decode cX12_parts 42 = .ok (.if_icmp .ne 6, 3) by decide +kernel) (by decide) (fun c => ?_) (fun c => ?_)
    · have h := h.1 c
      refine j_iload (i := 4) rfl (show decode cX12_parts 48 = .ok (.iload 4, 2) by decide +kernel) ?_
      refine j_ctS (m' := mX12_leastPrime) (As := [iv (σ 333 (v3 + (-1)))]) (tag := 0) (cw_X12_410 rfl) (show decode cX12_parts 50 = .ok (.invokestatic 410, 3) by decide +kernel) rfl (Nat.le_of_ble_eq_true rfl) (by decide) (Nat.le_refl _) h (fun r3 σ3 h => ?_)
      refine s_ist (i := 5) (L' := [rv 321, iv p1, iv v2, iv (v3 + (-1)), iv (σ 333 (v3 + (-1))), iv r3]) rfl (by decide) (show decode cX12_parts 53 = .ok (.istore 5, 2) by decide +kernel) ?_
      refine s_aload_n (i := 0) rfl (show decode cX12_parts 55 = .ok (.aload_n 0, 1) by decide +kernel) ?_
      refine gf_X12_56 (x := 333) rfl (show decode cX12_parts 56 = .ok (.getfield 56, 3) by decide +kernel) okl_321 rfl ?_
      refine j_iload_n (i := 3) rfl (show decode cX12_parts 59 = .ok (.iload_n 3, 1) by decide +kernel) ?_
      refine j_iload (i := 5) rfl (show decode cX12_parts 60 = .ok (.iload 5, 2) by decide +kernel) ?_
      refine j_iload (i := 4) rfl (show decode cX12_parts 62 = .ok (.iload 4, 2) by decide +kernel) ?_
      have hr3 := h.1
      have h := h.2
      have hr4 := h.1
      have h := h.2
      refine j_icmp_ne (tgt := 74) hr3 hr4 (show decode cX12_parts 64 = .ok (.if_icmp .ne 10, 3) by decide +kernel) (by decide) (fun c => ?_) (fun c => ?_)
      · have h := h.1 c
        refine j_iload (i := 5) rfl (show decode cX12_parts 74 = .ok (.iload 5, 2) by decide +kernel) ?_
        have hb5 := h.1
        have h := h.2
        refine s_iast (show decode cX12_parts 76 = .ok (.iastore, 1) by decide +kernel) okl_333 hb5 ?_
        obtain ⟨σ7, eσ7⟩ : ∃ z : jM, z = up σ3 333 (v3 + (-1)) r3 := ⟨_, rfl⟩
        refine j_sig eσ7 ?_
        have h := h σ7 eσ7
        refine s_iinc (i := 3) rfl (L' := [rv 321, iv p1, iv v2, iv ((v3 + (-1)) + 1), iv (σ 333 (v3 + (-1))), iv r3]) rfl (show decode cX12_parts 77 = .ok (.iinc 3 1, 3) by decide +kernel) ?_
        refine j_iload (i := 5) rfl (show decode cX12_parts 80 = .ok (.iload 5, 2) by decide +kernel) ?_
        refine j_iload (i := 4) rfl (show decode cX12_parts 82 = .ok (.iload 4, 2) by decide +kernel) ?_
        have hr7 := h.1
        have h := h.2
        have hr8 := h.1
        have h := h.2
        refine j_icmp_ne (tgt := 93) hr7 hr8 (show decode cX12_parts 84 = .ok (.if_icmp .ne 9, 3) by decide +kernel) (by decide) (fun c => ?_) (fun c => ?_)
        · have h := h.1 c
          refine s_aload_n (i := 0) rfl (show decode cX12_parts 93 = .ok (.aload_n 0, 1) by decide +kernel) ?_
          refine gf_X12_56 (x := 333) rfl (show decode cX12_parts 94 = .ok (.getfield 56, 3) by decide +kernel) okl_321 rfl ?_
          refine j_iload_n (i := 3) rfl (show decode cX12_parts 97 = .ok (.iload_n 3, 1) by decide +kernel) ?_
          refine j_iload (i := 4) rfl (show decode cX12_parts 98 = .ok (.iload 4, 2) by decide +kernel) ?_
          refine j_iload (i := 5) rfl (show decode cX12_parts 100 = .ok (.iload 5, 2) by decide +kernel) ?_
          have hr9 := h.1
          have h := h.2
          have hr10 := h.1
          have h := h.2
          have hz11 := h.1
          have h := h.2
          refine j_idiv hr9 hr10 hz11 (show decode cX12_parts 102 = .ok (.idiv, 1) by decide +kernel) ?_
          have hb12 := h.1
          have h := h.2
          refine s_iast (show decode cX12_parts 103 = .ok (.iastore, 1) by decide +kernel) okl_333 hb12 ?_
          obtain ⟨σ14, eσ14⟩ : ∃ z : jM, z = up σ7 333 ((v3 + (-1)) + 1) (Int.tdiv (σ 333 (v3 + (-1))) r3) := ⟨_, rfl⟩
          refine j_sig eσ14 ?_
          have h := h σ14 eσ14
          refine s_iinc (i := 3) rfl (L' := [rv 321, iv p1, iv v2, iv (((v3 + (-1)) + 1) + 1), iv (σ 333 (v3 + (-1))), iv r3]) rfl (show decode cX12_parts 104 = .ok (.iinc 3 1, 3) by decide +kernel) ?_
          refine j_goto (tgt := 24) (show decode cX12_parts 107 = .ok (.goto (-83), 3) by decide +kernel) (by decide) ?_
          refine j_drop 4 ?_
          refine j_drop 5 ?_
          exact h
        · have h := h.2 c
          refine s_iinc (i := 2) rfl (L' := [rv 321, iv p1, iv (v2 + 1), iv ((v3 + (-1)) + 1), iv (σ 333 (v3 + (-1))), iv r3]) rfl (show decode cX12_parts 87 = .ok (.iinc 2 1, 3) by decide +kernel) ?_
          refine j_goto (tgt := 107) (show decode cX12_parts 90 = .ok (.goto 17, 3) by decide +kernel) (by decide) ?_
          refine j_goto (tgt := 24) (show decode cX12_parts 107 = .ok (.goto (-83), 3) by decide +kernel) (by decide) ?_
          refine j_drop 4 ?_
          refine j_drop 5 ?_
          exact h
      · have h := h.2 c
        refine j_iload (i := 4) rfl (show decode cX12_parts 67 = .ok (.iload 4, 2) by decide +kernel) ?_
        refine j_iconst (show decode cX12_parts 69 = .ok (.iconst 1, 1) by decide +kernel) ?_
        refine j_isub (show decode cX12_parts 70 = .ok (.isub, 1) by decide +kernel) ?_
        refine j_goto (tgt := 76) (show decode cX12_parts 71 = .ok (.goto 5, 3) by decide +kernel) (by decide) ?_
        have hb14 := h.1
        have h := h.2
        refine s_iast (show decode cX12_parts 76 = .ok (.iastore, 1) by decide +kernel) okl_333 hb14 ?_
        obtain ⟨σ16, eσ16⟩ : ∃ z : jM, z = up σ3 333 (v3 + (-1)) ((σ 333 (v3 + (-1))) - 1) := ⟨_, rfl⟩
        refine j_sig eσ16 ?_
        have h := h σ16 eσ16
        refine s_iinc (i := 3) rfl (L' := [rv 321, iv p1, iv v2, iv ((v3 + (-1)) + 1), iv (σ 333 (v3 + (-1))), iv r3]) rfl (show decode cX12_parts 77 = .ok (.iinc 3 1, 3) by decide +kernel) ?_
        refine j_iload (i := 5) rfl (show decode cX12_parts 80 = .ok (.iload 5, 2) by decide +kernel) ?_
        refine j_iload (i := 4) rfl (show decode cX12_parts 82 = .ok (.iload 4, 2) by decide +kernel) ?_
        have hr16 := h.1
        have h := h.2
        have hr17 := h.1
        have h := h.2
        refine j_icmp_ne (tgt := 93) hr16 hr17 (show decode cX12_parts 84 = .ok (.if_icmp .ne 9, 3) by decide +kernel) (by decide) (fun c => ?_) (fun c => ?_)
        · have h := h.1 c
          refine s_aload_n (i := 0) rfl (show decode cX12_parts 93 = .ok (.aload_n 0, 1) by decide +kernel) ?_
          refine gf_X12_56 (x := 333) rfl (show decode cX12_parts 94 = .ok (.getfield 56, 3) by decide +kernel) okl_321 rfl ?_
          refine j_iload_n (i := 3) rfl (show decode cX12_parts 97 = .ok (.iload_n 3, 1) by decide +kernel) ?_
          refine j_iload (i := 4) rfl (show decode cX12_parts 98 = .ok (.iload 4, 2) by decide +kernel) ?_
          refine j_iload (i := 5) rfl (show decode cX12_parts 100 = .ok (.iload 5, 2) by decide +kernel) ?_
          have hr18 := h.1
          have h := h.2
          have hr19 := h.1
          have h := h.2
          have hz20 := h.1
          have h := h.2
          refine j_idiv hr18 hr19 hz20 (show decode cX12_parts 102 = .ok (.idiv, 1) by decide +kernel) ?_
          have hb21 := h.1
          have h := h.2
          refine s_iast (show decode cX12_parts 103 = .ok (.iastore, 1) by decide +kernel) okl_333 hb21 ?_
          obtain ⟨σ23, eσ23⟩ : ∃ z : jM, z = up σ16 333 ((v3 + (-1)) + 1) (Int.tdiv (σ 333 (v3 + (-1))) r3) := ⟨_, rfl⟩
          refine j_sig eσ23 ?_
          have h := h σ23 eσ23
          refine s_iinc (i := 3) rfl (L' := [rv 321, iv p1, iv v2, iv (((v3 + (-1)) + 1) + 1), iv (σ 333 (v3 + (-1))), iv r3]) rfl (show decode cX12_parts 104 = .ok (.iinc 3 1, 3) by decide +kernel) ?_
          refine j_goto (tgt := 24) (show decode cX12_parts 107 = .ok (.goto (-83), 3) by decide +kernel) (by decide) ?_
          refine j_drop 4 ?_
          refine j_drop 5 ?_
          exact h
        · have h := h.2 c
          refine s_iinc (i := 2) rfl (L' := [rv 321, iv p1, iv (v2 + 1), iv ((v3 + (-1)) + 1), iv (σ 333 (v3 + (-1))), iv r3]) rfl (show decode cX12_parts 87 = .ok (.iinc 2 1, 3) by decide +kernel) ?_
          refine j_goto (tgt := 107) (show decode cX12_parts 90 = .ok (.goto 17, 3) by decide +kernel) (by decide) ?_
          refine j_goto (tgt := 24) (show decode cX12_parts 107 = .ok (.goto (-83), 3) by decide +kernel) (by decide) ?_
          refine j_drop 4 ?_
          refine j_drop 5 ?_
          exact h
    · have h := h.2 c
      refine j_goto (tgt := 24) (show decode cX12_parts 45 = .ok (.goto (-21), 3) by decide +kernel) (by decide) ?_
      refine j_drop 4 ?_
      exact h
set_option maxRecDepth 4000 in
theorem b_X12_parts_0 {d : Nat} {t : Int} {Q : Int → jM → Prop} {σ : jM} {p1 : Int} (h : Ct mX12_isIn d 0 t [iv p1, iv 1, iv 1000000] σ (fun r1 σ1 => ((inR r1) ∧ ((¬ r1 = 0 → (((0 : Int) ≤ 0 ∧ (0 : Int) < 64) ∧ (∀ σ4 : jM, σ4 = up σ1 333 0 p1 → (Jt mX12_parts (d + 1) 0 t Q 24 [rv 321, iv p1, iv 0, iv 1, uv, uv] [] σ4)))) ∧ (r1 = 0 → (Q (-1) σ1)))))) : Jt mX12_parts (d + 1) 0 t Q 0 [rv 321, iv p1, uv, uv, uv, uv] [] σ := by
  refine j_iload_n (i := 1) rfl (show decode cX12_parts 0 = .ok (.iload_n 1, 1) by decide +kernel) ?_
  refine j_iconst (show decode cX12_parts 1 = .ok (.iconst 1, 1) by decide +kernel) ?_
  refine j_ldcw (x := 1000000) (tt_in 1587 (by decide +kernel) rfl) (show decode cX12_parts 2 = .ok (.ldc_w 274, 3) by decide +kernel) ?_
  refine j_ctS (m' := mX12_isIn) (As := [iv p1, iv 1, iv 1000000]) (tag := 0) (cw_X12_85 rfl) (show decode cX12_parts 5 = .ok (.invokestatic 85, 3) by decide +kernel) rfl (Nat.le_of_ble_eq_true rfl) (by decide) (Nat.le_refl _) h (fun r1 σ1 h => ?_)
  have hr1 := h.1
  have h := h.2
  refine j_if_ne (tgt := 13) hr1 (show decode cX12_parts 8 = .ok (.ifCond .ne 5, 3) by decide +kernel) (by decide) (fun c => ?_) (fun c => ?_)
  · have h := h.1 c
    refine j_iconst (show decode cX12_parts 13 = .ok (.iconst 0, 1) by decide +kernel) ?_
    refine s_ist_n (i := 2) (L' := [rv 321, iv p1, iv 0, uv, uv, uv]) rfl (by decide) (show decode cX12_parts 14 = .ok (.istore_n 2, 1) by decide +kernel) ?_
    refine j_iconst (show decode cX12_parts 15 = .ok (.iconst 1, 1) by decide +kernel) ?_
    refine s_ist_n (i := 3) (L' := [rv 321, iv p1, iv 0, iv 1, uv, uv]) rfl (by decide) (show decode cX12_parts 16 = .ok (.istore_n 3, 1) by decide +kernel) ?_
    refine s_aload_n (i := 0) rfl (show decode cX12_parts 17 = .ok (.aload_n 0, 1) by decide +kernel) ?_
    refine gf_X12_56 (x := 333) rfl (show decode cX12_parts 18 = .ok (.getfield 56, 3) by decide +kernel) okl_321 rfl ?_
    refine j_iconst (show decode cX12_parts 21 = .ok (.iconst 0, 1) by decide +kernel) ?_
    refine j_iload_n (i := 1) rfl (show decode cX12_parts 22 = .ok (.iload_n 1, 1) by decide +kernel) ?_
    have hb2 := h.1
    have h := h.2
    refine s_iast (show decode cX12_parts 23 = .ok (.iastore, 1) by decide +kernel) okl_333 hb2 ?_
    obtain ⟨σ4, eσ4⟩ : ∃ z : jM, z = up σ1 333 0 p1 := ⟨_, rfl⟩
    refine j_sig eσ4 ?_
    have h := h σ4 eσ4
    exact h
  · have h := h.2 c
    refine j_iconst (show decode cX12_parts 11 = .ok (.iconst (-1), 1) by decide +kernel) ?_
    exact j_ret (rokI (show decode cX12_parts 12 = .ok (.ireturn, 1) by decide +kernel) rfl) ⟨rfl, rfl, h⟩
theorem c_X12_parts {d : Nat} {t : Int} {Q : Int → jM → Prop} {σ : jM} {p1 : Int} (h : Ct mX12_isIn d 0 t [iv p1, iv 1, iv 1000000] σ (fun r1 σ1 => ((inR r1) ∧ ((¬ r1 = 0 → (((0 : Int) ≤ 0 ∧ (0 : Int) < 64) ∧ (∀ σ4 : jM, σ4 = up σ1 333 0 p1 → (Jt mX12_parts (d + 1) 0 t Q 24 [rv 321, iv p1, iv 0, iv 1, uv, uv] [] σ4)))) ∧ (r1 = 0 → (Q (-1) σ1)))))) : Ct mX12_parts (d + 1) 0 t [rv 321, iv p1] σ Q := Ct_of (by decide +kernel) (Nat.le_of_ble_eq_true rfl) (b_X12_parts_0 h)
set_option maxRecDepth 4000 in
theorem b_X12_hardest_35 {d : Nat} {t : Int} {Q : Int → jM → Prop} {σ : jM} {p1 p2 v3 v4 : Int} (h : (inR v4) ∧ ((inR p2) ∧ ((p2 < v4 → (Q v3 σ)) ∧ (v4 ≤ p2 → (Ct mX12_layChain d 0 t [rv 321, iv v4] σ (fun r3 σ3 => (Ct mX12_layChain d 0 t [rv 321, iv v3] σ3 (fun r4 σ4 => ((inR r3) ∧ ((inR r4) ∧ ((r3 ≤ r4 → (Jt mX12_hardest (d + 1) 0 t Q 35 [rv 321, iv p1, iv p2, iv v3, iv (v4 + 1)] [] σ4)) ∧ (r4 < r3 → (Jt mX12_hardest (d + 1) 0 t Q 35 [rv 321, iv p1, iv p2, iv v4, iv (v4 + 1)] [] σ4))))))))))))) : Jt mX12_hardest (d + 1) 0 t Q 35 [rv 321, iv p1, iv p2, iv v3, iv v4] [] σ := by
  refine j_iload (i := 4) rfl (show decode cX12_hardest 35 = .ok (.iload 4, 2) by decide +kernel) ?_
  refine j_iload_n (i := 2) rfl (show decode cX12_hardest 37 = .ok (.iload_n 2, 1) by decide +kernel) ?_
  have hr0 := h.1
  have h := h.2
  have hr1 := h.1
  have h := h.2
  refine j_icmp_gt (tgt := 64) hr0 hr1 (show decode cX12_hardest 38 = .ok (.if_icmp .gt 26, 3) by decide +kernel) (by decide) (fun c => ?_) (fun c => ?_)
  · have h := h.1 c
    refine j_iload_n (i := 3) rfl (show decode cX12_hardest 64 = .ok (.iload_n 3, 1) by decide +kernel) ?_
    exact j_ret (rokI (show decode cX12_hardest 65 = .ok (.ireturn, 1) by decide +kernel) rfl) ⟨rfl, rfl, h⟩
  · have h := h.2 c
    refine s_aload_n (i := 0) rfl (show decode cX12_hardest 41 = .ok (.aload_n 0, 1) by decide +kernel) ?_
    refine j_iload (i := 4) rfl (show decode cX12_hardest 42 = .ok (.iload 4, 2) by decide +kernel) ?_
    refine j_ctV (m' := mX12_layChain) (As := [iv v4]) (ci := 12) (tag := 0) (N := 0) (cw_X12_358 rfl) (show decode cX12_hardest 44 = .ok (.invokevirtual 358, 3) by decide +kernel) rfl (Nat.le_of_ble_eq_true rfl) (by decide) okl_321 rfl rfl (Nat.le_refl _) h (fun r3 σ3 h => ?_)
    refine s_aload_n (i := 0) rfl (show decode cX12_hardest 47 = .ok (.aload_n 0, 1) by decide +kernel) ?_
    refine j_iload_n (i := 3) rfl (show decode cX12_hardest 48 = .ok (.iload_n 3, 1) by decide +kernel) ?_
    refine j_ctV (m' := mX12_layChain) (As := [iv v3]) (ci := 12) (tag := 0) (N := 0) (cw_X12_358 rfl) (show decode cX12_hardest 49 = .ok (.invokevirtual 358, 3) by decide +kernel) rfl (Nat.le_of_ble_eq_true rfl) (by decide) okl_321 rfl rfl (Nat.le_refl _) h (fun r4 σ4 h => ?_)
    have hr4 := h.1
    have h := h.2
    have hr5 := h.1
    have h := h.2
    refine j_icmp_le (tgt := 58) hr4 hr5 (show decode cX12_hardest 52 = .ok (.if_icmp .le 6, 3) by decide +kernel) (by decide) (fun c => ?_) (fun c => ?_)
    · have h := h.1 c
      refine s_iinc (i := 4) rfl (L' := [rv 321, iv p1, iv p2, iv v3, iv (v4 + 1)]) rfl (show decode cX12_hardest 58 = .ok (.iinc 4 1, 3) by decide +kernel) ?_
      refine j_goto (tgt := 35) (show decode cX12_hardest 61 = .ok (.goto (-26), 3) by decide +kernel) (by decide) ?_
      exact h
    · have h := h.2 c
      refine j_iload (i := 4) rfl (show decode cX12_hardest 55 = .ok (.iload 4, 2) by decide +kernel) ?_
      refine s_ist_n (i := 3) (L' := [rv 321, iv p1, iv p2, iv v4, iv v4]) rfl (by decide) (show decode cX12_hardest 57 = .ok (.istore_n 3, 1) by decide +kernel) ?_
      refine s_iinc (i := 4) rfl (L' := [rv 321, iv p1, iv p2, iv v4, iv (v4 + 1)]) rfl (show decode cX12_hardest 58 = .ok (.iinc 4 1, 3) by decide +kernel) ?_
      refine j_goto (tgt := 35) (show decode cX12_hardest 61 = .ok (.goto (-26), 3) by decide +kernel) (by decide) ?_
      exact h
set_option maxRecDepth 4000 in
theorem b_X12_hardest_0 {d : Nat} {t : Int} {Q : Int → jM → Prop} {σ : jM} {p1 p2 : Int} (h : Ct mX12_isNumber d 0 t [iv p1] σ (fun r1 σ1 => ((inR r1) ∧ ((r1 = 0 → (Q (-1) σ1)) ∧ (¬ r1 = 0 → (Ct mX12_isNumber d 0 t [iv p2] σ1 (fun r3 σ3 => ((inR r3) ∧ ((r3 = 0 → (Q (-1) σ3)) ∧ (¬ r3 = 0 → (Ct mX12_isIn d 0 t [iv (p2 - p1), iv 0, iv 20] σ3 (fun r5 σ5 => ((inR r5) ∧ ((¬ r5 = 0 → (Jt mX12_hardest (d + 1) 0 t Q 35 [rv 321, iv p1, iv p2, iv p1, iv (p1 + 1)] [] σ5)) ∧ (r5 = 0 → (Q (-1) σ5)))))))))))))))) : Jt mX12_hardest (d + 1) 0 t Q 0 [rv 321, iv p1, iv p2, uv, uv] [] σ := by
  refine j_iload_n (i := 1) rfl (show decode cX12_hardest 0 = .ok (.iload_n 1, 1) by decide +kernel) ?_
  refine j_ctS (m' := mX12_isNumber) (As := [iv p1]) (tag := 0) (cw_X12_405 rfl) (show decode cX12_hardest 1 = .ok (.invokestatic 405, 3) by decide +kernel) rfl (Nat.le_of_ble_eq_true rfl) (by decide) (Nat.le_refl _) h (fun r1 σ1 h => ?_)
  have hr1 := h.1
  have h := h.2
  refine j_if_eq (tgt := 26) hr1 (show decode cX12_hardest 4 = .ok (.ifCond .eq 22, 3) by decide +kernel) (by decide) (fun c => ?_) (fun c => ?_)
  · have h := h.1 c
    refine j_iconst (show decode cX12_hardest 26 = .ok (.iconst (-1), 1) by decide +kernel) ?_
    exact j_ret (rokI (show decode cX12_hardest 27 = .ok (.ireturn, 1) by decide +kernel) rfl) ⟨rfl, rfl, h⟩
  · have h := h.2 c
    refine j_iload_n (i := 2) rfl (show decode cX12_hardest 7 = .ok (.iload_n 2, 1) by decide +kernel) ?_
    refine j_ctS (m' := mX12_isNumber) (As := [iv p2]) (tag := 0) (cw_X12_405 rfl) (show decode cX12_hardest 8 = .ok (.invokestatic 405, 3) by decide +kernel) rfl (Nat.le_of_ble_eq_true rfl) (by decide) (Nat.le_refl _) h (fun r3 σ3 h => ?_)
    have hr3 := h.1
    have h := h.2
    refine j_if_eq (tgt := 26) hr3 (show decode cX12_hardest 11 = .ok (.ifCond .eq 15, 3) by decide +kernel) (by decide) (fun c => ?_) (fun c => ?_)
    · have h := h.1 c
      refine j_iconst (show decode cX12_hardest 26 = .ok (.iconst (-1), 1) by decide +kernel) ?_
      exact j_ret (rokI (show decode cX12_hardest 27 = .ok (.ireturn, 1) by decide +kernel) rfl) ⟨rfl, rfl, h⟩
    · have h := h.2 c
      refine j_iload_n (i := 2) rfl (show decode cX12_hardest 14 = .ok (.iload_n 2, 1) by decide +kernel) ?_
      refine j_iload_n (i := 1) rfl (show decode cX12_hardest 15 = .ok (.iload_n 1, 1) by decide +kernel) ?_
      refine j_isub (show decode cX12_hardest 16 = .ok (.isub, 1) by decide +kernel) ?_
      refine j_iconst (show decode cX12_hardest 17 = .ok (.iconst 0, 1) by decide +kernel) ?_
      refine j_bipush (n := 20) (by decide +kernel) (show decode cX12_hardest 18 = .ok (.bipush 20, 2) by decide +kernel) ?_
      refine j_ctS (m' := mX12_isIn) (As := [iv (p2 - p1), iv 0, iv 20]) (tag := 0) (cw_X12_85 rfl) (show decode cX12_hardest 20 = .ok (.invokestatic 85, 3) by decide +kernel) rfl (Nat.le_of_ble_eq_true rfl) (by decide) (Nat.le_refl _) h (fun r5 σ5 h => ?_)
      have hr5 := h.1
      have h := h.2
      refine j_if_ne (tgt := 28) hr5 (show decode cX12_hardest 23 = .ok (.ifCond .ne 5, 3) by decide +kernel) (by decide) (fun c => ?_) (fun c => ?_)
      · have h := h.1 c
        refine j_iload_n (i := 1) rfl (show decode cX12_hardest 28 = .ok (.iload_n 1, 1) by decide +kernel) ?_
        refine s_ist_n (i := 3) (L' := [rv 321, iv p1, iv p2, iv p1, uv]) rfl (by decide) (show decode cX12_hardest 29 = .ok (.istore_n 3, 1) by decide +kernel) ?_
        refine j_iload_n (i := 1) rfl (show decode cX12_hardest 30 = .ok (.iload_n 1, 1) by decide +kernel) ?_
        refine j_iconst (show decode cX12_hardest 31 = .ok (.iconst 1, 1) by decide +kernel) ?_
        refine j_iadd (show decode cX12_hardest 32 = .ok (.iadd, 1) by decide +kernel) ?_
        refine s_ist (i := 4) (L' := [rv 321, iv p1, iv p2, iv p1, iv (p1 + 1)]) rfl (by decide) (show decode cX12_hardest 33 = .ok (.istore 4, 2) by decide +kernel) ?_
        exact h
      · have h := h.2 c
        refine j_iconst (show decode cX12_hardest 26 = .ok (.iconst (-1), 1) by decide +kernel) ?_
        exact j_ret (rokI (show decode cX12_hardest 27 = .ok (.ireturn, 1) by decide +kernel) rfl) ⟨rfl, rfl, h⟩
theorem c_X12_hardest {d : Nat} {t : Int} {Q : Int → jM → Prop} {σ : jM} {p1 p2 : Int} (h : Ct mX12_isNumber d 0 t [iv p1] σ (fun r1 σ1 => ((inR r1) ∧ ((r1 = 0 → (Q (-1) σ1)) ∧ (¬ r1 = 0 → (Ct mX12_isNumber d 0 t [iv p2] σ1 (fun r3 σ3 => ((inR r3) ∧ ((r3 = 0 → (Q (-1) σ3)) ∧ (¬ r3 = 0 → (Ct mX12_isIn d 0 t [iv (p2 - p1), iv 0, iv 20] σ3 (fun r5 σ5 => ((inR r5) ∧ ((¬ r5 = 0 → (Jt mX12_hardest (d + 1) 0 t Q 35 [rv 321, iv p1, iv p2, iv p1, iv (p1 + 1)] [] σ5)) ∧ (r5 = 0 → (Q (-1) σ5)))))))))))))))) : Ct mX12_hardest (d + 1) 0 t [rv 321, iv p1, iv p2] σ Q := Ct_of (by decide +kernel) (Nat.le_of_ble_eq_true rfl) (b_X12_hardest_0 h)
set_option maxRecDepth 4000 in
theorem b_X12_costOf_17 {d : Nat} {t : Int} {Q : Int → jM → Prop} {σ : jM} {p1 p2 p3 p4 v5 v6 v7 : Int} (h : (inR v7) ∧ ((inR v6) ∧ ((v6 < v7 → (Jt mX12_costOf (d) 0 t Q 8 [rv 321, iv p1, iv p2, iv p3, iv p4, iv v5, iv (v6 + 1), uv] [] σ)) ∧ (v7 ≤ v6 → (((0 : Int) ≤ v6 ∧ v6 < 44) ∧ (((0 : Int) ≤ v7 ∧ v7 < 44) ∧ ((inR ((σ 331 v6) + (σ 331 v7))) ∧ ((inR p1) ∧ ((¬ ((σ 331 v6) + (σ 331 v7)) = p1 → (Jt mX12_costOf (d) 0 t Q 17 [rv 321, iv p1, iv p2, iv p3, iv p4, iv v5, iv v6, iv (v7 + 1)] [] σ)) ∧ (((σ 331 v6) + (σ 331 v7)) = p1 → ((inR v6) ∧ ((inR v7) ∧ ((¬ v6 = v7 → ((inR p4) ∧ ((inR v5) ∧ ((v5 ≤ p4 → (Jt mX12_costOf (d) 0 t Q 17 [rv 321, iv p1, iv p2, iv p3, iv p4, iv v5, iv v6, iv (v7 + 1)] [] σ)) ∧ (p4 < v5 → ((inR v6) ∧ ((inR v7) ∧ ((¬ v6 = v7 → (Jt mX12_costOf (d) 0 t Q 17 [rv 321, iv p1, iv p2, iv p3, iv p4, iv p4, iv v6, iv (v7 + 1)] [] σ)) ∧ (v6 = v7 → (Jt mX12_costOf (d) 0 t Q 17 [rv 321, iv p1, iv p2, iv p3, iv p4, iv p3, iv v6, iv (v7 + 1)] [] σ)))))))))) ∧ (v6 = v7 → ((inR p3) ∧ ((inR v5) ∧ ((v5 ≤ p3 → (Jt mX12_costOf (d) 0 t Q 17 [rv 321, iv p1, iv p2, iv p3, iv p4, iv v5, iv v6, iv (v7 + 1)] [] σ)) ∧ (p3 < v5 → ((inR v6) ∧ ((inR v7) ∧ ((¬ v6 = v7 → (Jt mX12_costOf (d) 0 t Q 17 [rv 321, iv p1, iv p2, iv p3, iv p4, iv p4, iv v6, iv (v7 + 1)] [] σ)) ∧ (v6 = v7 → (Jt mX12_costOf (d) 0 t Q 17 [rv 321, iv p1, iv p2, iv p3, iv p4, iv p3, iv v6, iv (v7 + 1)] [] σ))))))))))))))))))))))) : Jt mX12_costOf (d) 0 t Q 17 [rv 321, iv p1, iv p2, iv p3, iv p4, iv v5, iv v6, iv v7] [] σ := by
  refine j_iload (i := 7) rfl (show decode cX12_costOf 17 = .ok (.iload 7, 2) by decide +kernel) ?_
  refine j_iload (i := 6) rfl (show decode cX12_costOf 19 = .ok (.iload 6, 2) by decide +kernel) ?_
  have hr0 := h.1
  have h := h.2
  have hr1 := h.1
  have h := h.2
  refine j_icmp_gt (tgt := 82) hr0 hr1 (show decode cX12_costOf 21 = .ok (.if_icmp .gt 61, 3) by decide +kernel) (by decide) (fun c => ?_) (fun c => ?_)
  · have h := h.1 c
    refine s_iinc (i := 6) rfl (L' := [rv 321, iv p1, iv p2, iv p3, iv p4, iv v5, iv (v6 + 1), iv v7]) rfl (show decode cX12_costOf 82 = .ok (.iinc 6 1, 3) by decide +kernel) ?_
    refine j_goto (tgt := 8) (show decode cX12_costOf 85 = .ok (.goto (-77), 3) by decide +kernel) (by decide) ?_
    refine j_drop 7 ?_
    exact h
  · have h := h.2 c
    refine s_aload_n (i := 0) rfl (show decode cX12_costOf 24 = .ok (.aload_n 0, 1) by decide +kernel) ?_
    refine gf_X12_50 (x := 331) rfl (show decode cX12_costOf 25 = .ok (.getfield 50, 3) by decide +kernel) okl_321 rfl ?_
    refine j_iload (i := 6) rfl (show decode cX12_costOf 28 = .ok (.iload 6, 2) by decide +kernel) ?_
    refine s_iald (show decode cX12_costOf 30 = .ok (.iaload, 1) by decide +kernel) okl_331 h.1 ?_
    have h := h.2
    refine s_aload_n (i := 0) rfl (show decode cX12_costOf 31 = .ok (.aload_n 0, 1) by decide +kernel) ?_
    refine gf_X12_50 (x := 331) rfl (show decode cX12_costOf 32 = .ok (.getfield 50, 3) by decide +kernel) okl_321 rfl ?_
    refine j_iload (i := 7) rfl (show decode cX12_costOf 35 = .ok (.iload 7, 2) by decide +kernel) ?_
    refine s_iald (show decode cX12_costOf 37 = .ok (.iaload, 1) by decide +kernel) okl_331 h.1 ?_
    have h := h.2
    refine j_iadd (show decode cX12_costOf 38 = .ok (.iadd, 1) by decide +kernel) ?_
    refine j_iload_n (i := 1) rfl (show decode cX12_costOf 39 = .ok (.iload_n 1, 1) by decide +kernel) ?_
    have hr2 := h.1
    have h := h.2
    have hr3 := h.1
    have h := h.2
    refine j_icmp_ne (tgt := 76) hr2 hr3 (show decode cX12_costOf 40 = .ok (.if_icmp .ne 36, 3) by decide +kernel) (by decide) (fun c => ?_) (fun c => ?_)
    · have h := h.1 c
      refine s_iinc (i := 7) rfl (L' := [rv 321, iv p1, iv p2, iv p3, iv p4, iv v5, iv v6, iv (v7 + 1)]) rfl (show decode cX12_costOf 76 = .ok (.iinc 7 1, 3) by decide +kernel) ?_
      refine j_goto (tgt := 17) (show decode cX12_costOf 79 = .ok (.goto (-62), 3) by decide +kernel) (by decide) ?_
      exact h
    · have h := h.2 c
      refine j_iload (i := 6) rfl (show decode cX12_costOf 43 = .ok (.iload 6, 2) by decide +kernel) ?_
      refine j_iload (i := 7) rfl (show decode cX12_costOf 45 = .ok (.iload 7, 2) by decide +kernel) ?_
      have hr4 := h.1
      have h := h.2
      have hr5 := h.1
      have h := h.2
      refine j_icmp_ne (tgt := 54) hr4 hr5 (show decode cX12_costOf 47 = .ok (.if_icmp .ne 7, 3) by decide +kernel) (by decide) (fun c => ?_) (fun c => ?_)
      · have h := h.1 c
        refine j_iload (i := 4) rfl (show decode cX12_costOf 54 = .ok (.iload 4, 2) by decide +kernel) ?_
        refine j_iload (i := 5) rfl (show decode cX12_costOf 56 = .ok (.iload 5, 2) by decide +kernel) ?_
        have hr6 := h.1
        have h := h.2
        have hr7 := h.1
        have h := h.2
        refine j_icmp_ge (tgt := 76) hr6 hr7 (show decode cX12_costOf 58 = .ok (.if_icmp .ge 18, 3) by decide +kernel) (by decide) (fun c => ?_) (fun c => ?_)
        · have h := h.1 c
          refine s_iinc (i := 7) rfl (L' := [rv 321, iv p1, iv p2, iv p3, iv p4, iv v5, iv v6, iv (v7 + 1)]) rfl (show decode cX12_costOf 76 = .ok (.iinc 7 1, 3) by decide +kernel) ?_
          refine j_goto (tgt := 17) (show decode cX12_costOf 79 = .ok (.goto (-62), 3) by decide +kernel) (by decide) ?_
          exact h
        · have h := h.2 c
          refine j_iload (i := 6) rfl (show decode cX12_costOf 61 = .ok (.iload 6, 2) by decide +kernel) ?_
          refine j_iload (i := 7) rfl (show decode cX12_costOf 63 = .ok (.iload 7, 2) by decide +kernel) ?_
          have hr8 := h.1
          have h := h.2
          have hr9 := h.1
          have h := h.2
          refine j_icmp_ne (tgt := 72) hr8 hr9 (show decode cX12_costOf 65 = .ok (.if_icmp .ne 7, 3) by decide +kernel) (by decide) (fun c => ?_) (fun c => ?_)
          · have h := h.1 c
            refine j_iload (i := 4) rfl (show decode cX12_costOf 72 = .ok (.iload 4, 2) by decide +kernel) ?_
            refine s_ist (i := 5) (L' := [rv 321, iv p1, iv p2, iv p3, iv p4, iv p4, iv v6, iv v7]) rfl (by decide) (show decode cX12_costOf 74 = .ok (.istore 5, 2) by decide +kernel) ?_
            refine s_iinc (i := 7) rfl (L' := [rv 321, iv p1, iv p2, iv p3, iv p4, iv p4, iv v6, iv (v7 + 1)]) rfl (show decode cX12_costOf 76 = .ok (.iinc 7 1, 3) by decide +kernel) ?_
            refine j_goto (tgt := 17) (show decode cX12_costOf 79 = .ok (.goto (-62), 3) by decide +kernel) (by decide) ?_
            exact h
          · have h := h.2 c
            refine j_iload_n (i := 3) rfl (show decode cX12_costOf 68 = .ok (.iload_n 3, 1) by decide +kernel) ?_
            refine j_goto (tgt := 74) (show decode cX12_costOf 69 = .ok (.goto 5, 3) by decide +kernel) (by decide) ?_
            refine s_ist (i := 5) (L' := [rv 321, iv p1, iv p2, iv p3, iv p4, iv p3, iv v6, iv v7]) rfl (by decide) (show decode cX12_costOf 74 = .ok (.istore 5, 2) by decide +kernel) ?_
            refine s_iinc (i := 7) rfl (L' := [rv 321, iv p1, iv p2, iv p3, iv p4, iv p3, iv v6, iv (v7 + 1)]) rfl (show decode cX12_costOf 76 = .ok (.iinc 7 1, 3) by decide +kernel) ?_
            refine j_goto (tgt := 17) (show decode cX12_costOf 79 = .ok (.goto (-62), 3) by decide +kernel) (by decide) ?_
            exact h
      · have h := h.2 c
        refine j_iload_n (i := 3) rfl (show decode cX12_costOf 50 = .ok (.iload_n 3, 1) by decide +kernel) ?_
        refine j_goto (tgt := 56) (show decode cX12_costOf 51 = .ok (.goto 5, 3) by decide +kernel) (by decide) ?_
        refine j_iload (i := 5) rfl (show decode cX12_costOf 56 = .ok (.iload 5, 2) by decide +kernel) ?_
        have hr10 := h.1
        have h := h.2
        have hr11 := h.1
        have h := h.2
        refine j_icmp_ge (tgt := 76) hr10 hr11 (show decode cX12_costOf 58 = .ok (.if_icmp .ge 18, 3) by decide +kernel) (by decide) (fun c => ?_) (fun c => ?_)
        · have h := h.1 c
          refine s_iinc (i := 7) rfl (L' := [rv 321, iv p1, iv p2, iv p3, iv p4, iv v5, iv v6, iv (v7 + 1)]) rfl (show decode cX12_costOf 76 = .ok (.iinc 7 1, 3) by decide +kernel) ?_
          refine j_goto (tgt := 17) (show decode cX12_costOf 79 = .ok (.goto (-62), 3) by decide +kernel) (by decide) ?_
          exact h
        · have h := h.2 c
          refine j_iload (i := 6) rfl (show decode cX12_costOf 61 = .ok (.iload 6, 2) by decide +kernel) ?_
          refine j_iload (i := 7) rfl (show decode cX12_costOf 63 = .ok (.iload 7, 2) by decide +kernel) ?_
          have hr12 := h.1
          have h := h.2
          have hr13 := h.1
          have h := h.2
          refine j_icmp_ne (tgt := 72) hr12 hr13 (show decode cX12_costOf 65 = .ok (.if_icmp .ne 7, 3) by decide +kernel) (by decide) (fun c => ?_) (fun c => ?_)
          · have h := h.1 c
            refine j_iload (i := 4) rfl (show decode cX12_costOf 72 = .ok (.iload 4, 2) by decide +kernel) ?_
            refine s_ist (i := 5) (L' := [rv 321, iv p1, iv p2, iv p3, iv p4, iv p4, iv v6, iv v7]) rfl (by decide) (show decode cX12_costOf 74 = .ok (.istore 5, 2) by decide +kernel) ?_
            refine s_iinc (i := 7) rfl (L' := [rv 321, iv p1, iv p2, iv p3, iv p4, iv p4, iv v6, iv (v7 + 1)]) rfl (show decode cX12_costOf 76 = .ok (.iinc 7 1, 3) by decide +kernel) ?_
            refine j_goto (tgt := 17) (show decode cX12_costOf 79 = .ok (.goto (-62), 3) by decide +kernel) (by decide) ?_
            exact h
          · have h := h.2 c
            refine j_iload_n (i := 3) rfl (show decode cX12_costOf 68 = .ok (.iload_n 3, 1) by decide +kernel) ?_
            refine j_goto (tgt := 74) (show decode cX12_costOf 69 = .ok (.goto 5, 3) by decide +kernel) (by decide) ?_
            refine s_ist (i := 5) (L' := [rv 321, iv p1, iv p2, iv p3, iv p4, iv p3, iv v6, iv v7]) rfl (by decide) (show decode cX12_costOf 74 = .ok (.istore 5, 2) by decide +kernel) ?_
            refine s_iinc (i := 7) rfl (L' := [rv 321, iv p1, iv p2, iv p3, iv p4, iv p3, iv v6, iv (v7 + 1)]) rfl (show decode cX12_costOf 76 = .ok (.iinc 7 1, 3) by decide +kernel) ?_
            refine j_goto (tgt := 17) (show decode cX12_costOf 79 = .ok (.goto (-62), 3) by decide +kernel) (by decide) ?_
            exact h
set_option maxRecDepth 4000 in
theorem b_X12_costOf_8 {d : Nat} {t : Int} {Q : Int → jM → Prop} {σ : jM} {p1 p2 p3 p4 v5 v6 : Int} (h : (inR v6) ∧ ((inR p2) ∧ ((p2 ≤ v6 → (Q v5 σ)) ∧ (v6 < p2 → (Jt mX12_costOf (d) 0 t Q 17 [rv 321, iv p1, iv p2, iv p3, iv p4, iv v5, iv v6, iv 0] [] σ))))) : Jt mX12_costOf (d) 0 t Q 8 [rv 321, iv p1, iv p2, iv p3, iv p4, iv v5, iv v6, uv] [] σ := by
  refine j_iload (i := 6) rfl (show decode cX12_costOf 8 = .ok (.iload 6, 2) by decide +kernel) ?_
  refine j_iload_n (i := 2) rfl (show decode cX12_costOf 10 = .ok (.iload_n 2, 1) by decide +kernel) ?_
  have hr0 := h.1
  have h := h.2
  have hr1 := h.1
  have h := h.2
  refine j_icmp_ge (tgt := 88) hr0 hr1 (show decode cX12_costOf 11 = .ok (.if_icmp .ge 77, 3) by decide +kernel) (by decide) (fun c => ?_) (fun c => ?_)
  · have h := h.1 c
    refine j_iload (i := 5) rfl (show decode cX12_costOf 88 = .ok (.iload 5, 2) by decide +kernel) ?_
    exact j_ret (rokI (show decode cX12_costOf 90 = .ok (.ireturn, 1) by decide +kernel) rfl) ⟨rfl, rfl, h⟩
  · have h := h.2 c
    refine j_iconst (show decode cX12_costOf 14 = .ok (.iconst 0, 1) by decide +kernel) ?_
    refine s_ist (i := 7) (L' := [rv 321, iv p1, iv p2, iv p3, iv p4, iv v5, iv v6, iv 0]) rfl (by decide) (show decode cX12_costOf 15 = .ok (.istore 7, 2) by decide +kernel) ?_
    exact h
set_option maxRecDepth 4000 in
theorem b_X12_costOf_0 {d : Nat} {t : Int} {Q : Int → jM → Prop} {σ : jM} {p1 p2 p3 p4 : Int} (h : Jt mX12_costOf (d) 0 t Q 8 [rv 321, iv p1, iv p2, iv p3, iv p4, iv 1000000, iv 0, uv] [] σ) : Jt mX12_costOf (d) 0 t Q 0 [rv 321, iv p1, iv p2, iv p3, iv p4, uv, uv, uv] [] σ := by
  refine j_ldcw (x := 1000000) (tt_in 1587 (by decide +kernel) rfl) (show decode cX12_costOf 0 = .ok (.ldc_w 274, 3) by decide +kernel) ?_
  refine s_ist (i := 5) (L' := [rv 321, iv p1, iv p2, iv p3, iv p4, iv 1000000, uv, uv]) rfl (by decide) (show decode cX12_costOf 3 = .ok (.istore 5, 2) by decide +kernel) ?_
  refine j_iconst (show decode cX12_costOf 5 = .ok (.iconst 0, 1) by decide +kernel) ?_
  refine s_ist (i := 6) (L' := [rv 321, iv p1, iv p2, iv p3, iv p4, iv 1000000, iv 0, uv]) rfl (by decide) (show decode cX12_costOf 6 = .ok (.istore 6, 2) by decide +kernel) ?_
  exact h
theorem c_X12_costOf {d : Nat} {t : Int} {Q : Int → jM → Prop} {σ : jM} {p1 p2 p3 p4 : Int} (h : Jt mX12_costOf (d) 0 t Q 8 [rv 321, iv p1, iv p2, iv p3, iv p4, iv 1000000, iv 0, uv] [] σ) : Ct mX12_costOf (d) 0 t [rv 321, iv p1, iv p2, iv p3, iv p4] σ Q := Ct_of (by decide +kernel) (Nat.le_of_ble_eq_true rfl) (b_X12_costOf_0 h)
set_option maxRecDepth 4000 in
theorem b_X12_leastLeft_5 {d : Nat} {t : Int} {Q : Int → jM → Prop} {σ : jM} {p0 p1 p2 v3 v4 : Int} (h : (inR v4) ∧ ((inR p1) ∧ ((p1 ≤ v4 → (Q (v3 * p2) σ)) ∧ (v4 < p1 → (Jt mX12_leastLeft (d) 0 t Q 5 [iv p0, iv p1, iv p2, iv (v3 + 1), iv (v4 * 2)] [] σ))))) : Jt mX12_leastLeft (d) 0 t Q 5 [iv p0, iv p1, iv p2, iv v3, iv v4] [] σ := by
  refine j_iload (i := 4) rfl (show decode cX12_leastLeft 5 = .ok (.iload 4, 2) by decide +kernel) ?_
  refine j_iload_n (i := 1) rfl (show decode cX12_leastLeft 7 = .ok (.iload_n 1, 1) by decide +kernel) ?_
  have hr0 := h.1
  have h := h.2
  have hr1 := h.1
  have h := h.2
  refine j_icmp_ge (tgt := 23) hr0 hr1 (show decode cX12_leastLeft 8 = .ok (.if_icmp .ge 15, 3) by decide +kernel) (by decide) (fun c => ?_) (fun c => ?_)
  · have h := h.1 c
    refine j_iload_n (i := 3) rfl (show decode cX12_leastLeft 23 = .ok (.iload_n 3, 1) by decide +kernel) ?_
    refine j_iload_n (i := 2) rfl (show decode cX12_leastLeft 24 = .ok (.iload_n 2, 1) by decide +kernel) ?_
    refine j_imul (show decode cX12_leastLeft 25 = .ok (.imul, 1) by decide +kernel) ?_
    exact j_ret (rokI (show decode cX12_leastLeft 26 = .ok (.ireturn, 1) by decide +kernel) rfl) ⟨rfl, rfl, h⟩
  · have h := h.2 c
    refine s_iinc (i := 3) rfl (L' := [iv p0, iv p1, iv p2, iv (v3 + 1), iv v4]) rfl (show decode cX12_leastLeft 11 = .ok (.iinc 3 1, 3) by decide +kernel) ?_
    refine j_iload (i := 4) rfl (show decode cX12_leastLeft 14 = .ok (.iload 4, 2) by decide +kernel) ?_
    refine j_iconst (show decode cX12_leastLeft 16 = .ok (.iconst 2, 1) by decide +kernel) ?_
    refine j_imul (show decode cX12_leastLeft 17 = .ok (.imul, 1) by decide +kernel) ?_
    refine s_ist (i := 4) (L' := [iv p0, iv p1, iv p2, iv (v3 + 1), iv (v4 * 2)]) rfl (by decide) (show decode cX12_leastLeft 18 = .ok (.istore 4, 2) by decide +kernel) ?_
    refine j_goto (tgt := 5) (show decode cX12_leastLeft 20 = .ok (.goto (-15), 3) by decide +kernel) (by decide) ?_
    exact h
set_option maxRecDepth 4000 in
theorem b_X12_leastLeft_0 {d : Nat} {t : Int} {Q : Int → jM → Prop} {σ : jM} {p0 p1 p2 : Int} (h : Jt mX12_leastLeft (d) 0 t Q 5 [iv p0, iv p1, iv p2, iv 0, iv p0] [] σ) : Jt mX12_leastLeft (d) 0 t Q 0 [iv p0, iv p1, iv p2, uv, uv] [] σ := by
  refine j_iconst (show decode cX12_leastLeft 0 = .ok (.iconst 0, 1) by decide +kernel) ?_
  refine s_ist_n (i := 3) (L' := [iv p0, iv p1, iv p2, iv 0, uv]) rfl (by decide) (show decode cX12_leastLeft 1 = .ok (.istore_n 3, 1) by decide +kernel) ?_
  refine j_iload_n (i := 0) rfl (show decode cX12_leastLeft 2 = .ok (.iload_n 0, 1) by decide +kernel) ?_
  refine s_ist (i := 4) (L' := [iv p0, iv p1, iv p2, iv 0, iv p0]) rfl (by decide) (show decode cX12_leastLeft 3 = .ok (.istore 4, 2) by decide +kernel) ?_
  exact h
theorem c_X12_leastLeft {d : Nat} {t : Int} {Q : Int → jM → Prop} {σ : jM} {p0 p1 p2 : Int} (h : Jt mX12_leastLeft (d) 0 t Q 5 [iv p0, iv p1, iv p2, iv 0, iv p0] [] σ) : Ct mX12_leastLeft (d) 0 t [iv p0, iv p1, iv p2] σ Q := Ct_of (by decide +kernel) (Nat.le_of_ble_eq_true rfl) (b_X12_leastLeft_0 h)
set_option maxRecDepth 4000 in
theorem b_X12_cost_93 {d : Nat} {t : Int} {Q : Int → jM → Prop} {σ : jM} {p1 p2 p3 v4 v5 v6 : Int} (h : (inR v6) ∧ ((v6 ≤ 0 → (Q v5 σ)) ∧ (0 < v6 → (((0 : Int) ≤ v6 ∧ v6 < 44) ∧ (((0 : Int) ≤ v6 ∧ v6 < 44) ∧ (∀ σ3 : jM, σ3 = up σ 331 v6 ((σ 331 v6) - 1) → (((0 : Int) ≤ v6 ∧ v6 < 44) ∧ (((0 : Int) ≤ (v6 - 1) ∧ (v6 - 1) < 44) ∧ ((inR (σ3 331 v6)) ∧ ((inR (σ3 331 (v6 - 1))) ∧ (((σ3 331 (v6 - 1)) < (σ3 331 v6) → (((0 : Int) ≤ (v6 - 1) ∧ (v6 - 1) < 44) ∧ (Ct mX12_costOf d 0 t [rv 321, iv (σ3 331 v6), iv v6, iv p2, iv p3] σ3 (fun r6 σ6 => (Ct mX12_leastLeft d 0 t [iv (σ3 331 v6), iv p1, iv v4] σ6 (fun r7 σ7 => ((inR (((σ3 334 (v6 - 1)) + r6) + r7)) ∧ ((inR v5) ∧ (((((σ3 334 (v6 - 1)) + r6) + r7) < v5 → ((inR (σ3 331 v6)) ∧ ((inR p1) ∧ ((¬ (σ3 331 v6) = p1 → (((0 : Int) ≤ v6 ∧ v6 < 44) ∧ (∀ σ13 : jM, σ13 = up σ7 334 v6 ((σ3 334 (v6 - 1)) + r6) → ((inR (2 * (σ3 331 v6))) ∧ ((inR p1) ∧ ((p1 ≤ (2 * (σ3 331 v6)) → (((0 : Int) ≤ (v6 + 1) ∧ (v6 + 1) < 44) ∧ (∀ σ17 : jM, σ17 = up σ13 331 (v6 + 1) (1 + p1) → (Jt mX12_cost (d + 1) 0 t Q 93 [rv 321, iv p1, iv p2, iv p3, iv v4, iv v5, iv (v6 + 1), uv, uv] [] σ17)))) ∧ ((2 * (σ3 331 v6)) < p1 → (((0 : Int) ≤ (v6 + 1) ∧ (v6 + 1) < 44) ∧ (∀ σ19 : jM, σ19 = up σ13 331 (v6 + 1) (1 + (2 * (σ3 331 v6))) → (Jt mX12_cost (d + 1) 0 t Q 93 [rv 321, iv p1, iv p2, iv p3, iv v4, iv v5, iv (v6 + 1), uv, uv] [] σ19)))))))))) ∧ ((σ3 331 v6) = p1 → (Jt mX12_cost (d + 1) 0 t Q 93 [rv 321, iv p1, iv p2, iv p3, iv v4, iv ((σ3 334 (v6 - 1)) + r6), iv v6, uv, uv] [] σ7)))))) ∧ (v5 ≤ (((σ3 334 (v6 - 1)) + r6) + r7) → (Jt mX12_cost (d + 1) 0 t Q 93 [rv 321, iv p1, iv p2, iv p3, iv v4, iv v5, iv v6, uv, uv] [] σ7))))))))))) ∧ ((σ3 331 v6) ≤ (σ3 331 (v6 - 1)) → (Jt mX12_cost (d + 1) 0 t Q 93 [rv 321, iv p1, iv p2, iv p3, iv v4, iv v5, iv (v6 + (-1)), uv, uv] [] σ3))))))))))))) : Jt mX12_cost (d + 1) 0 t Q 93 [rv 321, iv p1, iv p2, iv p3, iv v4, iv v5, iv v6, uv, uv] [] σ := by
  refine j_iload (i := 6) rfl (show decode cX12_cost 93 = .ok (.iload 6, 2) by decide +kernel) ?_
  have hr0 := h.1
  have h := h.2
  refine j_if_le (tgt := 232) hr0 (show decode cX12_cost 95 = .ok (.ifCond .le 137, 3) by decide +kernel) (by decide) (fun c => ?_) (fun c => ?_)
  · have h := h.1 c
    refine j_iload (i := 5) rfl (show decode cX12_cost 232 = .ok (.iload 5, 2) by decide +kernel) ?_
    exact j_ret (rokI (show decode cX12_cost 234 = .ok (.ireturn, 1) by decide +kernel) rfl) ⟨rfl, rfl, h⟩
  · have h := h.2 c
    refine s_aload_n (i := 0) rfl (show decode cX12_cost 98 = .ok (.aload_n 0, 1) by decide +kernel) ?_
    refine gf_X12_50 (x := 331) rfl (show decode cX12_cost 99 = .ok (.getfield 50, 3) by decide +kernel) okl_321 rfl ?_
    refine j_iload (i := 6) rfl (show decode cX12_cost 102 = .ok (.iload 6, 2) by decide +kernel) ?_
    refine j_dup2 (show (0 : Nat) ≠ 1 by decide) (show (2 : Nat) ≠ 1 by decide) (show decode cX12_cost 104 = .ok (.dup2, 1) by decide +kernel) ?_
    refine s_iald (show decode cX12_cost 105 = .ok (.iaload, 1) by decide +kernel) okl_331 h.1 ?_
    have h := h.2
    refine j_iconst (show decode cX12_cost 106 = .ok (.iconst 1, 1) by decide +kernel) ?_
    refine j_isub (show decode cX12_cost 107 = .ok (.isub, 1) by decide +kernel) ?_
    have hb1 := h.1
    have h := h.2
    refine s_iast (show decode cX12_cost 108 = .ok (.iastore, 1) by decide +kernel) okl_331 hb1 ?_
    obtain ⟨σ3, eσ3⟩ : ∃ z : jM, z = up σ 331 v6 ((σ 331 v6) - 1) := ⟨_, rfl⟩
    refine j_sig eσ3 ?_
    have h := h σ3 eσ3
    refine s_aload_n (i := 0) rfl (show decode cX12_cost 109 = .ok (.aload_n 0, 1) by decide +kernel) ?_
    refine gf_X12_50 (x := 331) rfl (show decode cX12_cost 110 = .ok (.getfield 50, 3) by decide +kernel) okl_321 rfl ?_
    refine j_iload (i := 6) rfl (show decode cX12_cost 113 = .ok (.iload 6, 2) by decide +kernel) ?_
    refine s_iald (show decode cX12_cost 115 = .ok (.iaload, 1) by decide +kernel) okl_331 h.1 ?_
    have h := h.2
    refine s_ist (i := 7) (L' := [rv 321, iv p1, iv p2, iv p3, iv v4, iv v5, iv v6, iv (σ3 331 v6), uv]) rfl (by decide) (show decode cX12_cost 116 = .ok (.istore 7, 2) by decide +kernel) ?_
    refine j_iload (i := 7) rfl (show decode cX12_cost 118 = .ok (.iload 7, 2) by decide +kernel) ?_
    refine s_aload_n (i := 0) rfl (show decode cX12_cost 120 = .ok (.aload_n 0, 1) by decide +kernel) ?_
    refine gf_X12_50 (x := 331) rfl (show decode cX12_cost 121 = .ok (.getfield 50, 3) by decide +kernel) okl_321 rfl ?_
    refine j_iload (i := 6) rfl (show decode cX12_cost 124 = .ok (.iload 6, 2) by decide +kernel) ?_
    refine j_iconst (show decode cX12_cost 126 = .ok (.iconst 1, 1) by decide +kernel) ?_
    refine j_isub (show decode cX12_cost 127 = .ok (.isub, 1) by decide +kernel) ?_
    refine s_iald (show decode cX12_cost 128 = .ok (.iaload, 1) by decide +kernel) okl_331 h.1 ?_
    have h := h.2
    have hr3 := h.1
    have h := h.2
    have hr4 := h.1
    have h := h.2
    refine j_icmp_gt (tgt := 138) hr3 hr4 (show decode cX12_cost 129 = .ok (.if_icmp .gt 9, 3) by decide +kernel) (by decide) (fun c => ?_) (fun c => ?_)
    · have h := h.1 c
      refine s_aload_n (i := 0) rfl (show decode cX12_cost 138 = .ok (.aload_n 0, 1) by decide +kernel) ?_
      refine gf_X12_59 (x := 334) rfl (show decode cX12_cost 139 = .ok (.getfield 59, 3) by decide +kernel) okl_321 rfl ?_
      refine j_iload (i := 6) rfl (show decode cX12_cost 142 = .ok (.iload 6, 2) by decide +kernel) ?_
      refine j_iconst (show decode cX12_cost 144 = .ok (.iconst 1, 1) by decide +kernel) ?_
      refine j_isub (show decode cX12_cost 145 = .ok (.isub, 1) by decide +kernel) ?_
      refine s_iald (show decode cX12_cost 146 = .ok (.iaload, 1) by decide +kernel) okl_334 h.1 ?_
      have h := h.2
      refine s_aload_n (i := 0) rfl (show decode cX12_cost 147 = .ok (.aload_n 0, 1) by decide +kernel) ?_
      refine j_iload (i := 7) rfl (show decode cX12_cost 148 = .ok (.iload 7, 2) by decide +kernel) ?_
      refine j_iload (i := 6) rfl (show decode cX12_cost 150 = .ok (.iload 6, 2) by decide +kernel) ?_
      refine j_iload_n (i := 2) rfl (show decode cX12_cost 152 = .ok (.iload_n 2, 1) by decide +kernel) ?_
      refine j_iload_n (i := 3) rfl (show decode cX12_cost 153 = .ok (.iload_n 3, 1) by decide +kernel) ?_
      refine j_ctV (m' := mX12_costOf) (As := [iv (σ3 331 v6), iv v6, iv p2, iv p3]) (ci := 12) (tag := 0) (N := 0) (cw_X12_413 rfl) (show decode cX12_cost 154 = .ok (.invokevirtual 413, 3) by decide +kernel) rfl (Nat.le_of_ble_eq_true rfl) (by decide) okl_321 rfl rfl (Nat.le_refl _) h (fun r6 σ6 h => ?_)
      refine j_iadd (show decode cX12_cost 157 = .ok (.iadd, 1) by decide +kernel) ?_
      refine s_ist (i := 8) (L' := [rv 321, iv p1, iv p2, iv p3, iv v4, iv v5, iv v6, iv (σ3 331 v6), iv ((σ3 334 (v6 - 1)) + r6)]) rfl (by decide) (show decode cX12_cost 158 = .ok (.istore 8, 2) by decide +kernel) ?_
      refine j_iload (i := 8) rfl (show decode cX12_cost 160 = .ok (.iload 8, 2) by decide +kernel) ?_
      refine j_iload (i := 7) rfl (show decode cX12_cost 162 = .ok (.iload 7, 2) by decide +kernel) ?_
      refine j_iload_n (i := 1) rfl (show decode cX12_cost 164 = .ok (.iload_n 1, 1) by decide +kernel) ?_
      refine j_iload (i := 4) rfl (show decode cX12_cost 165 = .ok (.iload 4, 2) by decide +kernel) ?_
      refine j_ctS (m' := mX12_leastLeft) (As := [iv (σ3 331 v6), iv p1, iv v4]) (tag := 0) (cw_X12_416 rfl) (show decode cX12_cost 167 = .ok (.invokestatic 416, 3) by decide +kernel) rfl (Nat.le_of_ble_eq_true rfl) (by decide) (Nat.le_refl _) h (fun r7 σ7 h => ?_)
      refine j_iadd (show decode cX12_cost 170 = .ok (.iadd, 1) by decide +kernel) ?_
      refine j_iload (i := 5) rfl (show decode cX12_cost 171 = .ok (.iload 5, 2) by decide +kernel) ?_
      have hr7 := h.1
      have h := h.2
      have hr8 := h.1
      have h := h.2
      refine j_icmp_lt (tgt := 179) hr7 hr8 (show decode cX12_cost 173 = .ok (.if_icmp .lt 6, 3) by decide +kernel) (by decide) (fun c => ?_) (fun c => ?_)
      · have h := h.1 c
        refine j_iload (i := 7) rfl (show decode cX12_cost 179 = .ok (.iload 7, 2) by decide +kernel) ?_
        refine j_iload_n (i := 1) rfl (show decode cX12_cost 181 = .ok (.iload_n 1, 1) by decide +kernel) ?_
        have hr9 := h.1
        have h := h.2
        have hr10 := h.1
        have h := h.2
        refine j_icmp_ne (tgt := 192) hr9 hr10 (show decode cX12_cost 182 = .ok (.if_icmp .ne 10, 3) by decide +kernel) (by decide) (fun c => ?_) (fun c => ?_)
        · have h := h.1 c
          refine s_aload_n (i := 0) rfl (show decode cX12_cost 192 = .ok (.aload_n 0, 1) by decide +kernel) ?_
          refine gf_X12_59 (x := 334) rfl (show decode cX12_cost 193 = .ok (.getfield 59, 3) by decide +kernel) okl_321 rfl ?_
          refine j_iload (i := 6) rfl (show decode cX12_cost 196 = .ok (.iload 6, 2) by decide +kernel) ?_
          refine j_iload (i := 8) rfl (show decode cX12_cost 198 = .ok (.iload 8, 2) by decide +kernel) ?_
          have hb11 := h.1
          have h := h.2
          refine s_iast (show decode cX12_cost 200 = .ok (.iastore, 1) by decide +kernel) okl_334 hb11 ?_
          obtain ⟨σ13, eσ13⟩ : ∃ z : jM, z = up σ7 334 v6 ((σ3 334 (v6 - 1)) + r6) := ⟨_, rfl⟩
          refine j_sig eσ13 ?_
          have h := h σ13 eσ13
          refine s_iinc (i := 6) rfl (L' := [rv 321, iv p1, iv p2, iv p3, iv v4, iv v5, iv (v6 + 1), iv (σ3 331 v6), iv ((σ3 334 (v6 - 1)) + r6)]) rfl (show decode cX12_cost 201 = .ok (.iinc 6 1, 3) by decide +kernel) ?_
          refine s_aload_n (i := 0) rfl (show decode cX12_cost 204 = .ok (.aload_n 0, 1) by decide +kernel) ?_
          refine gf_X12_50 (x := 331) rfl (show decode cX12_cost 205 = .ok (.getfield 50, 3) by decide +kernel) okl_321 rfl ?_
          refine j_iload (i := 6) rfl (show decode cX12_cost 208 = .ok (.iload 6, 2) by decide +kernel) ?_
          refine j_iconst (show decode cX12_cost 210 = .ok (.iconst 1, 1) by decide +kernel) ?_
          refine j_iconst (show decode cX12_cost 211 = .ok (.iconst 2, 1) by decide +kernel) ?_
          refine j_iload (i := 7) rfl (show decode cX12_cost 212 = .ok (.iload 7, 2) by decide +kernel) ?_
          refine j_imul (show decode cX12_cost 214 = .ok (.imul, 1) by decide +kernel) ?_
          refine j_iload_n (i := 1) rfl (show decode cX12_cost 215 = .ok (.iload_n 1, 1) by decide +kernel) ?_
          have hr13 := h.1
          have h := h.2
          have hr14 := h.1
          have h := h.2
          refine j_icmp_ge (tgt := 226) hr13 hr14 (show decode cX12_cost 216 = .ok (.if_icmp .ge 10, 3) by decide +kernel) (by decide) (fun c => ?_) (fun c => ?_)
          · have h := h.1 c
            refine j_iload_n (i := 1) rfl (show decode cX12_cost 226 = .ok (.iload_n 1, 1) by decide +kernel) ?_
            refine j_iadd (show decode cX12_cost 227 = .ok (.iadd, 1) by decide +kernel) ?_
            have hb15 := h.1
            have h := h.2
            refine s_iast (show decode cX12_cost 228 = .ok (.iastore, 1) by decide +kernel) okl_331 hb15 ?_
            obtain ⟨σ17, eσ17⟩ : ∃ z : jM, z = up σ13 331 (v6 + 1) (1 + p1) := ⟨_, rfl⟩
            refine j_sig eσ17 ?_
            have h := h σ17 eσ17
            refine j_goto (tgt := 93) (show decode cX12_cost 229 = .ok (.goto (-136), 3) by decide +kernel) (by decide) ?_
            refine j_drop 7 ?_
            refine j_drop 8 ?_
            exact h
          · have h := h.2 c
            refine j_iconst (show decode cX12_cost 219 = .ok (.iconst 2, 1) by decide +kernel) ?_
            refine j_iload (i := 7) rfl (show decode cX12_cost 220 = .ok (.iload 7, 2) by decide +kernel) ?_
            refine j_imul (show decode cX12_cost 222 = .ok (.imul, 1) by decide +kernel) ?_
            refine j_goto (tgt := 227) (show decode cX12_cost 223 = .ok (.goto 4, 3) by decide +kernel) (by decide) ?_
            refine j_iadd (show decode cX12_cost 227 = .ok (.iadd, 1) by decide +kernel) ?_
            have hb17 := h.1
            have h := h.2
            refine s_iast (show decode cX12_cost 228 = .ok (.iastore, 1) by decide +kernel) okl_331 hb17 ?_
            obtain ⟨σ19, eσ19⟩ : ∃ z : jM, z = up σ13 331 (v6 + 1) (1 + (2 * (σ3 331 v6))) := ⟨_, rfl⟩
            refine j_sig eσ19 ?_
            have h := h σ19 eσ19
            refine j_goto (tgt := 93) (show decode cX12_cost 229 = .ok (.goto (-136), 3) by decide +kernel) (by decide) ?_
            refine j_drop 7 ?_
            refine j_drop 8 ?_
            exact h
        · have h := h.2 c
          refine j_iload (i := 8) rfl (show decode cX12_cost 185 = .ok (.iload 8, 2) by decide +kernel) ?_
          refine s_ist (i := 5) (L' := [rv 321, iv p1, iv p2, iv p3, iv v4, iv ((σ3 334 (v6 - 1)) + r6), iv v6, iv (σ3 331 v6), iv ((σ3 334 (v6 - 1)) + r6)]) rfl (by decide) (show decode cX12_cost 187 = .ok (.istore 5, 2) by decide +kernel) ?_
          refine j_goto (tgt := 93) (show decode cX12_cost 189 = .ok (.goto (-96), 3) by decide +kernel) (by decide) ?_
          refine j_drop 7 ?_
          refine j_drop 8 ?_
          exact h
      · have h := h.2 c
        refine j_goto (tgt := 93) (show decode cX12_cost 176 = .ok (.goto (-83), 3) by decide +kernel) (by decide) ?_
        refine j_drop 7 ?_
        refine j_drop 8 ?_
        exact h
    · have h := h.2 c
      refine s_iinc (i := 6) rfl (L' := [rv 321, iv p1, iv p2, iv p3, iv v4, iv v5, iv (v6 + (-1)), iv (σ3 331 v6), uv]) rfl (show decode cX12_cost 132 = .ok (.iinc 6 (-1), 3) by decide +kernel) ?_
      refine j_goto (tgt := 93) (show decode cX12_cost 135 = .ok (.goto (-42), 3) by decide +kernel) (by decide) ?_
      refine j_drop 7 ?_
      exact h
set_option maxRecDepth 4000 in
theorem b_X12_cost_82 {d : Nat} {t : Int} {Q : Int → jM → Prop} {σ : jM} {p1 p2 p3 v4 v5 u0 : Int} (h : ((0 : Int) ≤ 1 ∧ (1 : Int) < 44) ∧ (∀ σ2 : jM, σ2 = up σ 331 1 (p1 + 1) → (Jt mX12_cost (d + 1) 0 t Q 93 [rv 321, iv p1, iv p2, iv p3, iv v4, iv v5, iv u0, uv, uv] [] σ2))) : Jt mX12_cost (d + 1) 0 t Q 82 [rv 321, iv p1, iv p2, iv p3, iv v4, iv v5, uv, uv, uv] [iv u0] σ := by
  refine s_ist (i := 6) (L' := [rv 321, iv p1, iv p2, iv p3, iv v4, iv v5, iv u0, uv, uv]) rfl (by decide) (show decode cX12_cost 82 = .ok (.istore 6, 2) by decide +kernel) ?_
  refine s_aload_n (i := 0) rfl (show decode cX12_cost 84 = .ok (.aload_n 0, 1) by decide +kernel) ?_
  refine gf_X12_50 (x := 331) rfl (show decode cX12_cost 85 = .ok (.getfield 50, 3) by decide +kernel) okl_321 rfl ?_
  refine j_iconst (show decode cX12_cost 88 = .ok (.iconst 1, 1) by decide +kernel) ?_
  refine j_iload_n (i := 1) rfl (show decode cX12_cost 89 = .ok (.iload_n 1, 1) by decide +kernel) ?_
  refine j_iconst (show decode cX12_cost 90 = .ok (.iconst 1, 1) by decide +kernel) ?_
  refine j_iadd (show decode cX12_cost 91 = .ok (.iadd, 1) by decide +kernel) ?_
  have hb0 := h.1
  have h := h.2
  refine s_iast (show decode cX12_cost 92 = .ok (.iastore, 1) by decide +kernel) okl_331 hb0 ?_
  obtain ⟨σ2, eσ2⟩ : ∃ z : jM, z = up σ 331 1 (p1 + 1) := ⟨_, rfl⟩
  refine j_sig eσ2 ?_
  have h := h σ2 eσ2
  exact h
set_option maxRecDepth 4000 in
theorem b_X12_cost_0 {d : Nat} {t : Int} {Q : Int → jM → Prop} {σ : jM} {p1 p2 p3 : Int} (h : Ct mX12_isIn d 0 t [iv p1, iv 1, iv 40] σ (fun r1 σ1 => ((inR r1) ∧ ((r1 = 0 → (Q (-1) σ1)) ∧ (¬ r1 = 0 → (Ct mX12_isIn d 0 t [iv p2, iv 1, iv 9] σ1 (fun r3 σ3 => ((inR r3) ∧ ((r3 = 0 → (Q (-1) σ3)) ∧ (¬ r3 = 0 → (Ct mX12_isIn d 0 t [iv p3, iv 1, iv 9] σ3 (fun r5 σ5 => ((inR r5) ∧ ((¬ r5 = 0 → ((inR p2) ∧ ((inR p3) ∧ ((p3 ≤ p2 → ((inR p1) ∧ ((¬ p1 = 1 → (((0 : Int) ≤ 0 ∧ (0 : Int) < 44) ∧ (∀ σ11 : jM, σ11 = up σ5 331 0 1 → (((0 : Int) ≤ 0 ∧ (0 : Int) < 44) ∧ (∀ σ13 : jM, σ13 = up σ11 334 0 0 → ((inR p1) ∧ ((¬ p1 = 1 → (Jt mX12_cost (d + 1) 0 t Q 82 [rv 321, iv p1, iv p2, iv p3, iv p3, iv 1000000, uv, uv, uv] [iv 1] σ13)) ∧ (p1 = 1 → (Jt mX12_cost (d + 1) 0 t Q 82 [rv 321, iv p1, iv p2, iv p3, iv p3, iv 1000000, uv, uv, uv] [iv 0] σ13))))))))) ∧ (p1 = 1 → (((0 : Int) ≤ 0 ∧ (0 : Int) < 44) ∧ (∀ σ16 : jM, σ16 = up σ5 331 0 1 → (((0 : Int) ≤ 0 ∧ (0 : Int) < 44) ∧ (∀ σ18 : jM, σ18 = up σ16 334 0 0 → ((inR p1) ∧ ((¬ p1 = 1 → (Jt mX12_cost (d + 1) 0 t Q 82 [rv 321, iv p1, iv p2, iv p3, iv p3, iv 0, uv, uv, uv] [iv 1] σ18)) ∧ (p1 = 1 → (Jt mX12_cost (d + 1) 0 t Q 82 [rv 321, iv p1, iv p2, iv p3, iv p3, iv 0, uv, uv, uv] [iv 0] σ18)))))))))))) ∧ (p2 < p3 → ((inR p1) ∧ ((¬ p1 = 1 → (((0 : Int) ≤ 0 ∧ (0 : Int) < 44) ∧ (∀ σ22 : jM, σ22 = up σ5 331 0 1 → (((0 : Int) ≤ 0 ∧ (0 : Int) < 44) ∧ (∀ σ24 : jM, σ24 = up σ22 334 0 0 → ((inR p1) ∧ ((¬ p1 = 1 → (Jt mX12_cost (d + 1) 0 t Q 82 [rv 321, iv p1, iv p2, iv p3, iv p2, iv 1000000, uv, uv, uv] [iv 1] σ24)) ∧ (p1 = 1 → (Jt mX12_cost (d + 1) 0 t Q 82 [rv 321, iv p1, iv p2, iv p3, iv p2, iv 1000000, uv, uv, uv] [iv 0] σ24))))))))) ∧ (p1 = 1 → (((0 : Int) ≤ 0 ∧ (0 : Int) < 44) ∧ (∀ σ27 : jM, σ27 = up σ5 331 0 1 → (((0 : Int) ≤ 0 ∧ (0 : Int) < 44) ∧ (∀ σ29 : jM, σ29 = up σ27 334 0 0 → ((inR p1) ∧ ((¬ p1 = 1 → (Jt mX12_cost (d + 1) 0 t Q 82 [rv 321, iv p1, iv p2, iv p3, iv p2, iv 0, uv, uv, uv] [iv 1] σ29)) ∧ (p1 = 1 → (Jt mX12_cost (d + 1) 0 t Q 82 [rv 321, iv p1, iv p2, iv p3, iv p2, iv 0, uv, uv, uv] [iv 0] σ29)))))))))))))))) ∧ (r5 = 0 → (Q (-1) σ5)))))))))))))))) : Jt mX12_cost (d + 1) 0 t Q 0 [rv 321, iv p1, iv p2, iv p3, uv, uv, uv, uv, uv] [] σ := by
  refine j_iload_n (i := 1) rfl (show decode cX12_cost 0 = .ok (.iload_n 1, 1) by decide +kernel) ?_
  refine j_iconst (show decode cX12_cost 1 = .ok (.iconst 1, 1) by decide +kernel) ?_
  refine j_bipush (n := 40) (by decide +kernel) (show decode cX12_cost 2 = .ok (.bipush 40, 2) by decide +kernel) ?_
  refine j_ctS (m' := mX12_isIn) (As := [iv p1, iv 1, iv 40]) (tag := 0) (cw_X12_85 rfl) (show decode cX12_cost 4 = .ok (.invokestatic 85, 3) by decide +kernel) rfl (Nat.le_of_ble_eq_true rfl) (by decide) (Nat.le_refl _) h (fun r1 σ1 h => ?_)
  have hr1 := h.1
  have h := h.2
  refine j_if_eq (tgt := 30) hr1 (show decode cX12_cost 7 = .ok (.ifCond .eq 23, 3) by decide +kernel) (by decide) (fun c => ?_) (fun c => ?_)
  · have h := h.1 c
    refine j_iconst (show decode cX12_cost 30 = .ok (.iconst (-1), 1) by decide +kernel) ?_
    exact j_ret (rokI (show decode cX12_cost 31 = .ok (.ireturn, 1) by decide +kernel) rfl) ⟨rfl, rfl, h⟩
  · have h := h.2 c
    refine j_iload_n (i := 2) rfl (show decode cX12_cost 10 = .ok (.iload_n 2, 1) by decide +kernel) ?_
    refine j_iconst (show decode cX12_cost 11 = .ok (.iconst 1, 1) by decide +kernel) ?_
    refine j_bipush (n := 9) (by decide +kernel) (show decode cX12_cost 12 = .ok (.bipush 9, 2) by decide +kernel) ?_
    refine j_ctS (m' := mX12_isIn) (As := [iv p2, iv 1, iv 9]) (tag := 0) (cw_X12_85 rfl) (show decode cX12_cost 14 = .ok (.invokestatic 85, 3) by decide +kernel) rfl (Nat.le_of_ble_eq_true rfl) (by decide) (Nat.le_refl _) h (fun r3 σ3 h => ?_)
    have hr3 := h.1
    have h := h.2
    refine j_if_eq (tgt := 30) hr3 (show decode cX12_cost 17 = .ok (.ifCond .eq 13, 3) by decide +kernel) (by decide) (fun c => ?_) (fun c => ?_)
    · have h := h.1 c
      refine j_iconst (show decode cX12_cost 30 = .ok (.iconst (-1), 1) by decide +kernel) ?_
      exact j_ret (rokI (show decode cX12_cost 31 = .ok (.ireturn, 1) by decide +kernel) rfl) ⟨rfl, rfl, h⟩
    · have h := h.2 c
      refine j_iload_n (i := 3) rfl (show decode cX12_cost 20 = .ok (.iload_n 3, 1) by decide +kernel) ?_
      refine j_iconst (show decode cX12_cost 21 = .ok (.iconst 1, 1) by decide +kernel) ?_
      refine j_bipush (n := 9) (by decide +kernel) (show decode cX12_cost 22 = .ok (.bipush 9, 2) by decide +kernel) ?_
      refine j_ctS (m' := mX12_isIn) (As := [iv p3, iv 1, iv 9]) (tag := 0) (cw_X12_85 rfl) (show decode cX12_cost 24 = .ok (.invokestatic 85, 3) by decide +kernel) rfl (Nat.le_of_ble_eq_true rfl) (by decide) (Nat.le_refl _) h (fun r5 σ5 h => ?_)
      have hr5 := h.1
      have h := h.2
      refine j_if_ne (tgt := 32) hr5 (show decode cX12_cost 27 = .ok (.ifCond .ne 5, 3) by decide +kernel) (by decide) (fun c => ?_) (fun c => ?_)
      · have h := h.1 c
        refine j_iload_n (i := 2) rfl (show decode cX12_cost 32 = .ok (.iload_n 2, 1) by decide +kernel) ?_
        refine j_iload_n (i := 3) rfl (show decode cX12_cost 33 = .ok (.iload_n 3, 1) by decide +kernel) ?_
        have hr6 := h.1
        have h := h.2
        have hr7 := h.1
        have h := h.2
        refine j_icmp_ge (tgt := 41) hr6 hr7 (show decode cX12_cost 34 = .ok (.if_icmp .ge 7, 3) by decide +kernel) (by decide) (fun c => ?_) (fun c => ?_)
        · have h := h.1 c
          refine j_iload_n (i := 3) rfl (show decode cX12_cost 41 = .ok (.iload_n 3, 1) by decide +kernel) ?_
          refine s_ist (i := 4) (L' := [rv 321, iv p1, iv p2, iv p3, iv p3, uv, uv, uv, uv]) rfl (by decide) (show decode cX12_cost 42 = .ok (.istore 4, 2) by decide +kernel) ?_
          refine j_iload_n (i := 1) rfl (show decode cX12_cost 44 = .ok (.iload_n 1, 1) by decide +kernel) ?_
          refine j_iconst (show decode cX12_cost 45 = .ok (.iconst 1, 1) by decide +kernel) ?_
          have hr8 := h.1
          have h := h.2
          refine j_icmp_ne (tgt := 53) hr8 (inl (by decide)) (show decode cX12_cost 46 = .ok (.if_icmp .ne 7, 3) by decide +kernel) (by decide) (fun c => ?_) (fun c => ?_)
          · have h := h.1 c
            refine j_ldcw (x := 1000000) (tt_in 1587 (by decide +kernel) rfl) (show decode cX12_cost 53 = .ok (.ldc_w 274, 3) by decide +kernel) ?_
            refine s_ist (i := 5) (L' := [rv 321, iv p1, iv p2, iv p3, iv p3, iv 1000000, uv, uv, uv]) rfl (by decide) (show decode cX12_cost 56 = .ok (.istore 5, 2) by decide +kernel) ?_
            refine s_aload_n (i := 0) rfl (show decode cX12_cost 58 = .ok (.aload_n 0, 1) by decide +kernel) ?_
            refine gf_X12_50 (x := 331) rfl (show decode cX12_cost 59 = .ok (.getfield 50, 3) by decide +kernel) okl_321 rfl ?_
            refine j_iconst (show decode cX12_cost 62 = .ok (.iconst 0, 1) by decide +kernel) ?_
            refine j_iconst (show decode cX12_cost 63 = .ok (.iconst 1, 1) by decide +kernel) ?_
            have hb9 := h.1
            have h := h.2
            refine s_iast (show decode cX12_cost 64 = .ok (.iastore, 1) by decide +kernel) okl_331 hb9 ?_
            obtain ⟨σ11, eσ11⟩ : ∃ z : jM, z = up σ5 331 0 1 := ⟨_, rfl⟩
            refine j_sig eσ11 ?_
            have h := h σ11 eσ11
            refine s_aload_n (i := 0) rfl (show decode cX12_cost 65 = .ok (.aload_n 0, 1) by decide +kernel) ?_
            refine gf_X12_59 (x := 334) rfl (show decode cX12_cost 66 = .ok (.getfield 59, 3) by decide +kernel) okl_321 rfl ?_
            refine j_iconst (show decode cX12_cost 69 = .ok (.iconst 0, 1) by decide +kernel) ?_
            refine j_iconst (show decode cX12_cost 70 = .ok (.iconst 0, 1) by decide +kernel) ?_
            have hb11 := h.1
            have h := h.2
            refine s_iast (show decode cX12_cost 71 = .ok (.iastore, 1) by decide +kernel) okl_334 hb11 ?_
            obtain ⟨σ13, eσ13⟩ : ∃ z : jM, z = up σ11 334 0 0 := ⟨_, rfl⟩
            refine j_sig eσ13 ?_
            have h := h σ13 eσ13
            refine j_iload_n (i := 1) rfl (show decode cX12_cost 72 = .ok (.iload_n 1, 1) by decide +kernel) ?_
            refine j_iconst (show decode cX12_cost 73 = .ok (.iconst 1, 1) by decide +kernel) ?_
            have hr13 := h.1
            have h := h.2
            refine j_icmp_ne (tgt := 81) hr13 (inl (by decide)) (show decode cX12_cost 74 = .ok (.if_icmp .ne 7, 3) by decide +kernel) (by decide) (fun c => ?_) (fun c => ?_)
            · have h := h.1 c
              refine j_iconst (show decode cX12_cost 81 = .ok (.iconst 1, 1) by decide +kernel) ?_
              exact h
            · have h := h.2 c
              refine j_iconst (show decode cX12_cost 77 = .ok (.iconst 0, 1) by decide +kernel) ?_
              refine j_goto (tgt := 82) (show decode cX12_cost 78 = .ok (.goto 4, 3) by decide +kernel) (by decide) ?_
              exact h
          · have h := h.2 c
            refine j_iconst (show decode cX12_cost 49 = .ok (.iconst 0, 1) by decide +kernel) ?_
            refine j_goto (tgt := 56) (show decode cX12_cost 50 = .ok (.goto 6, 3) by decide +kernel) (by decide) ?_
            refine s_ist (i := 5) (L' := [rv 321, iv p1, iv p2, iv p3, iv p3, iv 0, uv, uv, uv]) rfl (by decide) (show decode cX12_cost 56 = .ok (.istore 5, 2) by decide +kernel) ?_
            refine s_aload_n (i := 0) rfl (show decode cX12_cost 58 = .ok (.aload_n 0, 1) by decide +kernel) ?_
            refine gf_X12_50 (x := 331) rfl (show decode cX12_cost 59 = .ok (.getfield 50, 3) by decide +kernel) okl_321 rfl ?_
            refine j_iconst (show decode cX12_cost 62 = .ok (.iconst 0, 1) by decide +kernel) ?_
            refine j_iconst (show decode cX12_cost 63 = .ok (.iconst 1, 1) by decide +kernel) ?_
            have hb14 := h.1
            have h := h.2
            refine s_iast (show decode cX12_cost 64 = .ok (.iastore, 1) by decide +kernel) okl_331 hb14 ?_
            obtain ⟨σ16, eσ16⟩ : ∃ z : jM, z = up σ5 331 0 1 := ⟨_, rfl⟩
            refine j_sig eσ16 ?_
            have h := h σ16 eσ16
            refine s_aload_n (i := 0) rfl (show decode cX12_cost 65 = .ok (.aload_n 0, 1) by decide +kernel) ?_
            refine gf_X12_59 (x := 334) rfl (show decode cX12_cost 66 = .ok (.getfield 59, 3) by decide +kernel) okl_321 rfl ?_
            refine j_iconst (show decode cX12_cost 69 = .ok (.iconst 0, 1) by decide +kernel) ?_
            refine j_iconst (show decode cX12_cost 70 = .ok (.iconst 0, 1) by decide +kernel) ?_
            have hb16 := h.1
            have h := h.2
            refine s_iast (show decode cX12_cost 71 = .ok (.iastore, 1) by decide +kernel) okl_334 hb16 ?_
            obtain ⟨σ18, eσ18⟩ : ∃ z : jM, z = up σ16 334 0 0 := ⟨_, rfl⟩
            refine j_sig eσ18 ?_
            have h := h σ18 eσ18
            refine j_iload_n (i := 1) rfl (show decode cX12_cost 72 = .ok (.iload_n 1, 1) by decide +kernel) ?_
            refine j_iconst (show decode cX12_cost 73 = .ok (.iconst 1, 1) by decide +kernel) ?_
            have hr18 := h.1
            have h := h.2
            refine j_icmp_ne (tgt := 81) hr18 (inl (by decide)) (show decode cX12_cost 74 = .ok (.if_icmp .ne 7, 3) by decide +kernel) (by decide) (fun c => ?_) (fun c => ?_)
            · have h := h.1 c
              refine j_iconst (show decode cX12_cost 81 = .ok (.iconst 1, 1) by decide +kernel) ?_
              exact h
            · have h := h.2 c
              refine j_iconst (show decode cX12_cost 77 = .ok (.iconst 0, 1) by decide +kernel) ?_
              refine j_goto (tgt := 82) (show decode cX12_cost 78 = .ok (.goto 4, 3) by decide +kernel) (by decide) ?_
              exact h
        · have h := h.2 c
          refine j_iload_n (i := 2) rfl (show decode cX12_cost 37 = .ok (.iload_n 2, 1) by decide +kernel) ?_
          refine j_goto (tgt := 42) (show decode cX12_cost 38 = .ok (.goto 4, 3) by decide +kernel) (by decide) ?_
          refine s_ist (i := 4) (L' := [rv 321, iv p1, iv p2, iv p3, iv p2, uv, uv, uv, uv]) rfl (by decide) (show decode cX12_cost 42 = .ok (.istore 4, 2) by decide +kernel) ?_
          refine j_iload_n (i := 1) rfl (show decode cX12_cost 44 = .ok (.iload_n 1, 1) by decide +kernel) ?_
          refine j_iconst (show decode cX12_cost 45 = .ok (.iconst 1, 1) by decide +kernel) ?_
          have hr19 := h.1
          have h := h.2
          refine j_icmp_ne (tgt := 53) hr19 (inl (by decide)) (show decode cX12_cost 46 = .ok (.if_icmp .ne 7, 3) by decide +kernel) (by decide) (fun c => ?_) (fun c => ?_)
          · have h := h.1 c
            refine j_ldcw (x := 1000000) (tt_in 1587 (by decide +kernel) rfl) (show decode cX12_cost 53 = .ok (.ldc_w 274, 3) by decide +kernel) ?_
            refine s_ist (i := 5) (L' := [rv 321, iv p1, iv p2, iv p3, iv p2, iv 1000000, uv, uv, uv]) rfl (by decide) (show decode cX12_cost 56 = .ok (.istore 5, 2) by decide +kernel) ?_
            refine s_aload_n (i := 0) rfl (show decode cX12_cost 58 = .ok (.aload_n 0, 1) by decide +kernel) ?_
            refine gf_X12_50 (x := 331) rfl (show decode cX12_cost 59 = .ok (.getfield 50, 3) by decide +kernel) okl_321 rfl ?_
            refine j_iconst (show decode cX12_cost 62 = .ok (.iconst 0, 1) by decide +kernel) ?_
            refine j_iconst (show decode cX12_cost 63 = .ok (.iconst 1, 1) by decide +kernel) ?_
            have hb20 := h.1
            have h := h.2
            refine s_iast (show decode cX12_cost 64 = .ok (.iastore, 1) by decide +kernel) okl_331 hb20 ?_
            obtain ⟨σ22, eσ22⟩ : ∃ z : jM, z = up σ5 331 0 1 := ⟨_, rfl⟩
            refine j_sig eσ22 ?_
            have h := h σ22 eσ22
            refine s_aload_n (i := 0) rfl (show decode cX12_cost 65 = .ok (.aload_n 0, 1) by decide +kernel) ?_
            refine gf_X12_59 (x := 334) rfl (show decode cX12_cost 66 = .ok (.getfield 59, 3) by decide +kernel) okl_321 rfl ?_
            refine j_iconst (show decode cX12_cost 69 = .ok (.iconst 0, 1) by decide +kernel) ?_
            refine j_iconst (show decode cX12_cost 70 = .ok (.iconst 0, 1) by decide +kernel) ?_
            have hb22 := h.1
            have h := h.2
            refine s_iast (show decode cX12_cost 71 = .ok (.iastore, 1) by decide +kernel) okl_334 hb22 ?_
            obtain ⟨σ24, eσ24⟩ : ∃ z : jM, z = up σ22 334 0 0 := ⟨_, rfl⟩
            refine j_sig eσ24 ?_
            have h := h σ24 eσ24
            refine j_iload_n (i := 1) rfl (show decode cX12_cost 72 = .ok (.iload_n 1, 1) by decide +kernel) ?_
            refine j_iconst (show decode cX12_cost 73 = .ok (.iconst 1, 1) by decide +kernel) ?_
            have hr24 := h.1
            have h := h.2
            refine j_icmp_ne (tgt := 81) hr24 (inl (by decide)) (show decode cX12_cost 74 = .ok (.if_icmp .ne 7, 3) by decide +kernel) (by decide) (fun c => ?_) (fun c => ?_)
            · have h := h.1 c
              refine j_iconst (show decode cX12_cost 81 = .ok (.iconst 1, 1) by decide +kernel) ?_
              exact h
            · have h := h.2 c
              refine j_iconst (show decode cX12_cost 77 = .ok (.iconst 0, 1) by decide +kernel) ?_
              refine j_goto (tgt := 82) (show decode cX12_cost 78 = .ok (.goto 4, 3) by decide +kernel) (by decide) ?_
              exact h
          · have h := h.2 c
            refine j_iconst (show decode cX12_cost 49 = .ok (.iconst 0, 1) by decide +kernel) ?_
            refine j_goto (tgt := 56) (show decode cX12_cost 50 = .ok (.goto 6, 3) by decide +kernel) (by decide) ?_
            refine s_ist (i := 5) (L' := [rv 321, iv p1, iv p2, iv p3, iv p2, iv 0, uv, uv, uv]) rfl (by decide) (show decode cX12_cost 56 = .ok (.istore 5, 2) by decide +kernel) ?_
            refine s_aload_n (i := 0) rfl (show decode cX12_cost 58 = .ok (.aload_n 0, 1) by decide +kernel) ?_
            refine gf_X12_50 (x := 331) rfl (show decode cX12_cost 59 = .ok (.getfield 50, 3) by decide +kernel) okl_321 rfl ?_
            refine j_iconst (show decode cX12_cost 62 = .ok (.iconst 0, 1) by decide +kernel) ?_
            refine j_iconst (show decode cX12_cost 63 = .ok (.iconst 1, 1) by decide +kernel) ?_
            have hb25 := h.1
            have h := h.2
            refine s_iast (show decode cX12_cost 64 = .ok (.iastore, 1) by decide +kernel) okl_331 hb25 ?_
            obtain ⟨σ27, eσ27⟩ : ∃ z : jM, z = up σ5 331 0 1 := ⟨_, rfl⟩
            refine j_sig eσ27 ?_
            have h := h σ27 eσ27
            refine s_aload_n (i := 0) rfl (show decode cX12_cost 65 = .ok (.aload_n 0, 1) by decide +kernel) ?_
            refine gf_X12_59 (x := 334) rfl (show decode cX12_cost 66 = .ok (.getfield 59, 3) by decide +kernel) okl_321 rfl ?_
            refine j_iconst (show decode cX12_cost 69 = .ok (.iconst 0, 1) by decide +kernel) ?_
            refine j_iconst (show decode cX12_cost 70 = .ok (.iconst 0, 1) by decide +kernel) ?_
            have hb27 := h.1
            have h := h.2
            refine s_iast (show decode cX12_cost 71 = .ok (.iastore, 1) by decide +kernel) okl_334 hb27 ?_
            obtain ⟨σ29, eσ29⟩ : ∃ z : jM, z = up σ27 334 0 0 := ⟨_, rfl⟩
            refine j_sig eσ29 ?_
            have h := h σ29 eσ29
            refine j_iload_n (i := 1) rfl (show decode cX12_cost 72 = .ok (.iload_n 1, 1) by decide +kernel) ?_
            refine j_iconst (show decode cX12_cost 73 = .ok (.iconst 1, 1) by decide +kernel) ?_
            have hr29 := h.1
            have h := h.2
            refine j_icmp_ne (tgt := 81) hr29 (inl (by decide)) (show decode cX12_cost 74 = .ok (.if_icmp .ne 7, 3) by decide +kernel) (by decide) (fun c => ?_) (fun c => ?_)
            · have h := h.1 c
              refine j_iconst (show decode cX12_cost 81 = .ok (.iconst 1, 1) by decide +kernel) ?_
              exact h
            · have h := h.2 c
              refine j_iconst (show decode cX12_cost 77 = .ok (.iconst 0, 1) by decide +kernel) ?_
              refine j_goto (tgt := 82) (show decode cX12_cost 78 = .ok (.goto 4, 3) by decide +kernel) (by decide) ?_
              exact h
      · have h := h.2 c
        refine j_iconst (show decode cX12_cost 30 = .ok (.iconst (-1), 1) by decide +kernel) ?_
        exact j_ret (rokI (show decode cX12_cost 31 = .ok (.ireturn, 1) by decide +kernel) rfl) ⟨rfl, rfl, h⟩
theorem c_X12_cost {d : Nat} {t : Int} {Q : Int → jM → Prop} {σ : jM} {p1 p2 p3 : Int} (h : Ct mX12_isIn d 0 t [iv p1, iv 1, iv 40] σ (fun r1 σ1 => ((inR r1) ∧ ((r1 = 0 → (Q (-1) σ1)) ∧ (¬ r1 = 0 → (Ct mX12_isIn d 0 t [iv p2, iv 1, iv 9] σ1 (fun r3 σ3 => ((inR r3) ∧ ((r3 = 0 → (Q (-1) σ3)) ∧ (¬ r3 = 0 → (Ct mX12_isIn d 0 t [iv p3, iv 1, iv 9] σ3 (fun r5 σ5 => ((inR r5) ∧ ((¬ r5 = 0 → ((inR p2) ∧ ((inR p3) ∧ ((p3 ≤ p2 → ((inR p1) ∧ ((¬ p1 = 1 → (((0 : Int) ≤ 0 ∧ (0 : Int) < 44) ∧ (∀ σ11 : jM, σ11 = up σ5 331 0 1 → (((0 : Int) ≤ 0 ∧ (0 : Int) < 44) ∧ (∀ σ13 : jM, σ13 = up σ11 334 0 0 → ((inR p1) ∧ ((¬ p1 = 1 → (Jt mX12_cost (d + 1) 0 t Q 82 [rv 321, iv p1, iv p2, iv p3, iv p3, iv 1000000, uv, uv, uv] [iv 1] σ13)) ∧ (p1 = 1 → (Jt mX12_cost (d + 1) 0 t Q 82 [rv 321, iv p1, iv p2, iv p3, iv p3, iv 1000000, uv, uv, uv] [iv 0] σ13))))))))) ∧ (p1 = 1 → (((0 : Int) ≤ 0 ∧ (0 : Int) < 44) ∧ (∀ σ16 : jM, σ16 = up σ5 331 0 1 → (((0 : Int) ≤ 0 ∧ (0 : Int) < 44) ∧ (∀ σ18 : jM, σ18 = up σ16 334 0 0 → ((inR p1) ∧ ((¬ p1 = 1 → (Jt mX12_cost (d + 1) 0 t Q 82 [rv 321, iv p1, iv p2, iv p3, iv p3, iv 0, uv, uv, uv] [iv 1] σ18)) ∧ (p1 = 1 → (Jt mX12_cost (d + 1) 0 t Q 82 [rv 321, iv p1, iv p2, iv p3, iv p3, iv 0, uv, uv, uv] [iv 0] σ18)))))))))))) ∧ (p2 < p3 → ((inR p1) ∧ ((¬ p1 = 1 → (((0 : Int) ≤ 0 ∧ (0 : Int) < 44) ∧ (∀ σ22 : jM, σ22 = up σ5 331 0 1 → (((0 : Int) ≤ 0 ∧ (0 : Int) < 44) ∧ (∀ σ24 : jM, σ24 = up σ22 334 0 0 → ((inR p1) ∧ ((¬ p1 = 1 → (Jt mX12_cost (d + 1) 0 t Q 82 [rv 321, iv p1, iv p2, iv p3, iv p2, iv 1000000, uv, uv, uv] [iv 1] σ24)) ∧ (p1 = 1 → (Jt mX12_cost (d + 1) 0 t Q 82 [rv 321, iv p1, iv p2, iv p3, iv p2, iv 1000000, uv, uv, uv] [iv 0] σ24))))))))) ∧ (p1 = 1 → (((0 : Int) ≤ 0 ∧ (0 : Int) < 44) ∧ (∀ σ27 : jM, σ27 = up σ5 331 0 1 → (((0 : Int) ≤ 0 ∧ (0 : Int) < 44) ∧ (∀ σ29 : jM, σ29 = up σ27 334 0 0 → ((inR p1) ∧ ((¬ p1 = 1 → (Jt mX12_cost (d + 1) 0 t Q 82 [rv 321, iv p1, iv p2, iv p3, iv p2, iv 0, uv, uv, uv] [iv 1] σ29)) ∧ (p1 = 1 → (Jt mX12_cost (d + 1) 0 t Q 82 [rv 321, iv p1, iv p2, iv p3, iv p2, iv 0, uv, uv, uv] [iv 0] σ29)))))))))))))))) ∧ (r5 = 0 → (Q (-1) σ5)))))))))))))))) : Ct mX12_cost (d + 1) 0 t [rv 321, iv p1, iv p2, iv p3] σ Q := Ct_of (by decide +kernel) (Nat.le_of_ble_eq_true rfl) (b_X12_cost_0 h)
set_option maxRecDepth 4000 in
theorem b_X12_inPlace_0 {d : Nat} {t : Int} {Q : Int → jM → Prop} {σ : jM} {p0 p1 : Int} (h : (inR p1) ∧ ((¬ p1 = 0 → ((inR p1) ∧ ((¬ p1 = 1 → ((inR p0) ∧ (Q (Int.tmod p0 41) σ))) ∧ (p1 = 1 → ((inR p0) ∧ ((inR (Int.tdiv p0 41)) ∧ (Q (Int.tmod (Int.tdiv p0 41) 41) σ))))))) ∧ (p1 = 0 → ((inR p0) ∧ (Q (Int.tdiv p0 1681) σ))))) : Jt mX12_inPlace (d) 0 t Q 0 [iv p0, iv p1] [] σ := by
  refine j_iload_n (i := 1) rfl (show decode cX12_inPlace 0 = .ok (.iload_n 1, 1) by decide +kernel) ?_
  have hr0 := h.1
  have h := h.2
  refine j_if_ne (tgt := 12) hr0 (show decode cX12_inPlace 1 = .ok (.ifCond .ne 11, 3) by decide +kernel) (by decide) (fun c => ?_) (fun c => ?_)
  · have h := h.1 c
    refine j_iload_n (i := 1) rfl (show decode cX12_inPlace 12 = .ok (.iload_n 1, 1) by decide +kernel) ?_
    refine j_iconst (show decode cX12_inPlace 13 = .ok (.iconst 1, 1) by decide +kernel) ?_
    have hr1 := h.1
    have h := h.2
    refine j_icmp_ne (tgt := 27) hr1 (inl (by decide)) (show decode cX12_inPlace 14 = .ok (.if_icmp .ne 13, 3) by decide +kernel) (by decide) (fun c => ?_) (fun c => ?_)
    · have h := h.1 c
      refine j_iload_n (i := 0) rfl (show decode cX12_inPlace 27 = .ok (.iload_n 0, 1) by decide +kernel) ?_
      refine j_bipush (n := 41) (by decide +kernel) (show decode cX12_inPlace 28 = .ok (.bipush 41, 2) by decide +kernel) ?_
      have hr2 := h.1
      have h := h.2
      refine j_irem hr2 (inl (by decide)) (by decide) (show decode cX12_inPlace 30 = .ok (.irem, 1) by decide +kernel) ?_
      exact j_ret (rokI (show decode cX12_inPlace 31 = .ok (.ireturn, 1) by decide +kernel) rfl) ⟨rfl, rfl, h⟩
    · have h := h.2 c
      refine j_iload_n (i := 0) rfl (show decode cX12_inPlace 17 = .ok (.iload_n 0, 1) by decide +kernel) ?_
      refine j_bipush (n := 41) (by decide +kernel) (show decode cX12_inPlace 18 = .ok (.bipush 41, 2) by decide +kernel) ?_
      have hr3 := h.1
      have h := h.2
      refine j_idiv hr3 (inl (by decide)) (by decide) (show decode cX12_inPlace 20 = .ok (.idiv, 1) by decide +kernel) ?_
      refine j_bipush (n := 41) (by decide +kernel) (show decode cX12_inPlace 21 = .ok (.bipush 41, 2) by decide +kernel) ?_
      have hr4 := h.1
      have h := h.2
      refine j_irem hr4 (inl (by decide)) (by decide) (show decode cX12_inPlace 23 = .ok (.irem, 1) by decide +kernel) ?_
      refine j_goto (tgt := 31) (show decode cX12_inPlace 24 = .ok (.goto 7, 3) by decide +kernel) (by decide) ?_
      exact j_ret (rokI (show decode cX12_inPlace 31 = .ok (.ireturn, 1) by decide +kernel) rfl) ⟨rfl, rfl, h⟩
  · have h := h.2 c
    refine j_iload_n (i := 0) rfl (show decode cX12_inPlace 4 = .ok (.iload_n 0, 1) by decide +kernel) ?_
    refine j_sipush (n := 1681) (by decide +kernel) (show decode cX12_inPlace 5 = .ok (.sipush 1681, 3) by decide +kernel) ?_
    have hr5 := h.1
    have h := h.2
    refine j_idiv hr5 (inl (by decide)) (by decide) (show decode cX12_inPlace 8 = .ok (.idiv, 1) by decide +kernel) ?_
    refine j_goto (tgt := 31) (show decode cX12_inPlace 9 = .ok (.goto 22, 3) by decide +kernel) (by decide) ?_
    exact j_ret (rokI (show decode cX12_inPlace 31 = .ok (.ireturn, 1) by decide +kernel) rfl) ⟨rfl, rfl, h⟩
theorem c_X12_inPlace {d : Nat} {t : Int} {Q : Int → jM → Prop} {σ : jM} {p0 p1 : Int} (h : (inR p1) ∧ ((¬ p1 = 0 → ((inR p1) ∧ ((¬ p1 = 1 → ((inR p0) ∧ (Q (Int.tmod p0 41) σ))) ∧ (p1 = 1 → ((inR p0) ∧ ((inR (Int.tdiv p0 41)) ∧ (Q (Int.tmod (Int.tdiv p0 41) 41) σ))))))) ∧ (p1 = 0 → ((inR p0) ∧ (Q (Int.tdiv p0 1681) σ))))) : Ct mX12_inPlace (d) 0 t [iv p0, iv p1] σ Q := Ct_of (by decide +kernel) (Nat.le_of_ble_eq_true rfl) (b_X12_inPlace_0 h)
set_option maxRecDepth 4000 in
theorem b_X12_laid_0 {d : Nat} {t : Int} {Q : Int → jM → Prop} {σ : jM} {p0 p1 p2 : Int} (h : Ct mX12_inPlace d 0 t [iv p0, iv p1] σ (fun r1 σ1 => ((inR p1) ∧ ((¬ p1 = 0 → ((inR p1) ∧ ((¬ p1 = 1 → (Q (p0 + ((p2 - r1) * 1)) σ1)) ∧ (p1 = 1 → (Q (p0 + ((p2 - r1) * 41)) σ1))))) ∧ (p1 = 0 → (Q (p0 + ((p2 - r1) * 1681)) σ1)))))) : Jt mX12_laid (d + 1) 0 t Q 0 [iv p0, iv p1, iv p2] [] σ := by
  refine j_iload_n (i := 0) rfl (show decode cX12_laid 0 = .ok (.iload_n 0, 1) by decide +kernel) ?_
  refine j_iload_n (i := 2) rfl (show decode cX12_laid 1 = .ok (.iload_n 2, 1) by decide +kernel) ?_
  refine j_iload_n (i := 0) rfl (show decode cX12_laid 2 = .ok (.iload_n 0, 1) by decide +kernel) ?_
  refine j_iload_n (i := 1) rfl (show decode cX12_laid 3 = .ok (.iload_n 1, 1) by decide +kernel) ?_
  refine j_ctS (m' := mX12_inPlace) (As := [iv p0, iv p1]) (tag := 0) (cw_X12_419 rfl) (show decode cX12_laid 4 = .ok (.invokestatic 419, 3) by decide +kernel) rfl (Nat.le_of_ble_eq_true rfl) (by decide) (Nat.le_refl _) h (fun r1 σ1 h => ?_)
  refine j_isub (show decode cX12_laid 7 = .ok (.isub, 1) by decide +kernel) ?_
  refine j_iload_n (i := 1) rfl (show decode cX12_laid 8 = .ok (.iload_n 1, 1) by decide +kernel) ?_
  have hr1 := h.1
  have h := h.2
  refine j_if_ne (tgt := 18) hr1 (show decode cX12_laid 9 = .ok (.ifCond .ne 9, 3) by decide +kernel) (by decide) (fun c => ?_) (fun c => ?_)
  · have h := h.1 c
    refine j_iload_n (i := 1) rfl (show decode cX12_laid 18 = .ok (.iload_n 1, 1) by decide +kernel) ?_
    refine j_iconst (show decode cX12_laid 19 = .ok (.iconst 1, 1) by decide +kernel) ?_
    have hr2 := h.1
    have h := h.2
    refine j_icmp_ne (tgt := 28) hr2 (inl (by decide)) (show decode cX12_laid 20 = .ok (.if_icmp .ne 8, 3) by decide +kernel) (by decide) (fun c => ?_) (fun c => ?_)
    · have h := h.1 c
      refine j_iconst (show decode cX12_laid 28 = .ok (.iconst 1, 1) by decide +kernel) ?_
      refine j_imul (show decode cX12_laid 29 = .ok (.imul, 1) by decide +kernel) ?_
      refine j_iadd (show decode cX12_laid 30 = .ok (.iadd, 1) by decide +kernel) ?_
      exact j_ret (rokI (show decode cX12_laid 31 = .ok (.ireturn, 1) by decide +kernel) rfl) ⟨rfl, rfl, h⟩
    · have h := h.2 c
      refine j_bipush (n := 41) (by decide +kernel) (show decode cX12_laid 23 = .ok (.bipush 41, 2) by decide +kernel) ?_
      refine j_goto (tgt := 29) (show decode cX12_laid 25 = .ok (.goto 4, 3) by decide +kernel) (by decide) ?_
      refine j_imul (show decode cX12_laid 29 = .ok (.imul, 1) by decide +kernel) ?_
      refine j_iadd (show decode cX12_laid 30 = .ok (.iadd, 1) by decide +kernel) ?_
      exact j_ret (rokI (show decode cX12_laid 31 = .ok (.ireturn, 1) by decide +kernel) rfl) ⟨rfl, rfl, h⟩
  · have h := h.2 c
    refine j_sipush (n := 1681) (by decide +kernel) (show decode cX12_laid 12 = .ok (.sipush 1681, 3) by decide +kernel) ?_
    refine j_goto (tgt := 29) (show decode cX12_laid 15 = .ok (.goto 14, 3) by decide +kernel) (by decide) ?_
    refine j_imul (show decode cX12_laid 29 = .ok (.imul, 1) by decide +kernel) ?_
    refine j_iadd (show decode cX12_laid 30 = .ok (.iadd, 1) by decide +kernel) ?_
    exact j_ret (rokI (show decode cX12_laid 31 = .ok (.ireturn, 1) by decide +kernel) rfl) ⟨rfl, rfl, h⟩
theorem c_X12_laid {d : Nat} {t : Int} {Q : Int → jM → Prop} {σ : jM} {p0 p1 p2 : Int} (h : Ct mX12_inPlace d 0 t [iv p0, iv p1] σ (fun r1 σ1 => ((inR p1) ∧ ((¬ p1 = 0 → ((inR p1) ∧ ((¬ p1 = 1 → (Q (p0 + ((p2 - r1) * 1)) σ1)) ∧ (p1 = 1 → (Q (p0 + ((p2 - r1) * 41)) σ1))))) ∧ (p1 = 0 → (Q (p0 + ((p2 - r1) * 1681)) σ1)))))) : Ct mX12_laid (d + 1) 0 t [iv p0, iv p1, iv p2] σ Q := Ct_of (by decide +kernel) (Nat.le_of_ble_eq_true rfl) (b_X12_laid_0 h)
set_option maxRecDepth 4000 in
theorem b_X12_standsIn_0 {d : Nat} {t : Int} {Q : Int → jM → Prop} {σ : jM} {p0 p1 : Int} (h : Ct mX12_inPlace d 0 t [iv p0, iv 0] σ (fun r1 σ1 => ((inR r1) ∧ ((inR p1) ∧ ((r1 = p1 → (Q 1 σ1)) ∧ (¬ r1 = p1 → (Ct mX12_inPlace d 0 t [iv p0, iv 1] σ1 (fun r4 σ4 => ((inR r4) ∧ ((inR p1) ∧ ((r4 = p1 → (Q 1 σ4)) ∧ (¬ r4 = p1 → (Ct mX12_inPlace d 0 t [iv p0, iv 2] σ4 (fun r7 σ7 => ((inR r7) ∧ ((inR p1) ∧ ((¬ r7 = p1 → (Q 0 σ7)) ∧ (r7 = p1 → (Q 1 σ7))))))))))))))))))) : Jt mX12_standsIn (d + 1) 0 t Q 0 [iv p0, iv p1] [] σ := by
  refine j_iload_n (i := 0) rfl (show decode cX12_standsIn 0 = .ok (.iload_n 0, 1) by decide +kernel) ?_
  refine j_iconst (show decode cX12_standsIn 1 = .ok (.iconst 0, 1) by decide +kernel) ?_
  refine j_ctS (m' := mX12_inPlace) (As := [iv p0, iv 0]) (tag := 0) (cw_X12_419 rfl) (show decode cX12_standsIn 2 = .ok (.invokestatic 419, 3) by decide +kernel) rfl (Nat.le_of_ble_eq_true rfl) (by decide) (Nat.le_refl _) h (fun r1 σ1 h => ?_)
  refine j_iload_n (i := 1) rfl (show decode cX12_standsIn 5 = .ok (.iload_n 1, 1) by decide +kernel) ?_
  have hr1 := h.1
  have h := h.2
  have hr2 := h.1
  have h := h.2
  refine j_icmp_eq (tgt := 27) hr1 hr2 (show decode cX12_standsIn 6 = .ok (.if_icmp .eq 21, 3) by decide +kernel) (by decide) (fun c => ?_) (fun c => ?_)
  · have h := h.1 c
    refine j_iconst (show decode cX12_standsIn 27 = .ok (.iconst 1, 1) by decide +kernel) ?_
    refine j_goto (tgt := 32) (show decode cX12_standsIn 28 = .ok (.goto 4, 3) by decide +kernel) (by decide) ?_
    exact j_ret (rokZ (show decode cX12_standsIn 32 = .ok (.ireturn, 1) by decide +kernel) rfl (Or.inr rfl)) ⟨rfl, rfl, h⟩
  · have h := h.2 c
    refine j_iload_n (i := 0) rfl (show decode cX12_standsIn 9 = .ok (.iload_n 0, 1) by decide +kernel) ?_
    refine j_iconst (show decode cX12_standsIn 10 = .ok (.iconst 1, 1) by decide +kernel) ?_
    refine j_ctS (m' := mX12_inPlace) (As := [iv p0, iv 1]) (tag := 0) (cw_X12_419 rfl) (show decode cX12_standsIn 11 = .ok (.invokestatic 419, 3) by decide +kernel) rfl (Nat.le_of_ble_eq_true rfl) (by decide) (Nat.le_refl _) h (fun r4 σ4 h => ?_)
    refine j_iload_n (i := 1) rfl (show decode cX12_standsIn 14 = .ok (.iload_n 1, 1) by decide +kernel) ?_
    have hr4 := h.1
    have h := h.2
    have hr5 := h.1
    have h := h.2
    refine j_icmp_eq (tgt := 27) hr4 hr5 (show decode cX12_standsIn 15 = .ok (.if_icmp .eq 12, 3) by decide +kernel) (by decide) (fun c => ?_) (fun c => ?_)
    · have h := h.1 c
      refine j_iconst (show decode cX12_standsIn 27 = .ok (.iconst 1, 1) by decide +kernel) ?_
      refine j_goto (tgt := 32) (show decode cX12_standsIn 28 = .ok (.goto 4, 3) by decide +kernel) (by decide) ?_
      exact j_ret (rokZ (show decode cX12_standsIn 32 = .ok (.ireturn, 1) by decide +kernel) rfl (Or.inr rfl)) ⟨rfl, rfl, h⟩
    · have h := h.2 c
      refine j_iload_n (i := 0) rfl (show decode cX12_standsIn 18 = .ok (.iload_n 0, 1) by decide +kernel) ?_
      refine j_iconst (show decode cX12_standsIn 19 = .ok (.iconst 2, 1) by decide +kernel) ?_
      refine j_ctS (m' := mX12_inPlace) (As := [iv p0, iv 2]) (tag := 0) (cw_X12_419 rfl) (show decode cX12_standsIn 20 = .ok (.invokestatic 419, 3) by decide +kernel) rfl (Nat.le_of_ble_eq_true rfl) (by decide) (Nat.le_refl _) h (fun r7 σ7 h => ?_)
      refine j_iload_n (i := 1) rfl (show decode cX12_standsIn 23 = .ok (.iload_n 1, 1) by decide +kernel) ?_
      have hr7 := h.1
      have h := h.2
      have hr8 := h.1
      have h := h.2
      refine j_icmp_ne (tgt := 31) hr7 hr8 (show decode cX12_standsIn 24 = .ok (.if_icmp .ne 7, 3) by decide +kernel) (by decide) (fun c => ?_) (fun c => ?_)
      · have h := h.1 c
        refine j_iconst (show decode cX12_standsIn 31 = .ok (.iconst 0, 1) by decide +kernel) ?_
        exact j_ret (rokZ (show decode cX12_standsIn 32 = .ok (.ireturn, 1) by decide +kernel) rfl (Or.inl rfl)) ⟨rfl, rfl, h⟩
      · have h := h.2 c
        refine j_iconst (show decode cX12_standsIn 27 = .ok (.iconst 1, 1) by decide +kernel) ?_
        refine j_goto (tgt := 32) (show decode cX12_standsIn 28 = .ok (.goto 4, 3) by decide +kernel) (by decide) ?_
        exact j_ret (rokZ (show decode cX12_standsIn 32 = .ok (.ireturn, 1) by decide +kernel) rfl (Or.inr rfl)) ⟨rfl, rfl, h⟩
theorem c_X12_standsIn {d : Nat} {t : Int} {Q : Int → jM → Prop} {σ : jM} {p0 p1 : Int} (h : Ct mX12_inPlace d 0 t [iv p0, iv 0] σ (fun r1 σ1 => ((inR r1) ∧ ((inR p1) ∧ ((r1 = p1 → (Q 1 σ1)) ∧ (¬ r1 = p1 → (Ct mX12_inPlace d 0 t [iv p0, iv 1] σ1 (fun r4 σ4 => ((inR r4) ∧ ((inR p1) ∧ ((r4 = p1 → (Q 1 σ4)) ∧ (¬ r4 = p1 → (Ct mX12_inPlace d 0 t [iv p0, iv 2] σ4 (fun r7 σ7 => ((inR r7) ∧ ((inR p1) ∧ ((¬ r7 = p1 → (Q 0 σ7)) ∧ (r7 = p1 → (Q 1 σ7))))))))))))))))))) : Ct mX12_standsIn (d + 1) 0 t [iv p0, iv p1] σ Q := Ct_of (by decide +kernel) (Nat.le_of_ble_eq_true rfl) (b_X12_standsIn_0 h)
set_option maxRecDepth 4000 in
theorem b_X12_spread_64 {d : Nat} {t : Int} {Q : Int → jM → Prop} {σ : jM} {p1 p2 p3 v4 v5 v6 v7 : Int} (h : (inR v7) ∧ ((inR p3) ∧ ((p3 ≤ v7 → (Jt mX12_spread (d + 1) 9 t Q 13 [rv 321, iv p1, iv p2, iv p3, iv v4, iv (v5 + 1), uv, uv, uv] [] σ)) ∧ (v7 < p3 → (Ct mX12_laid d 0 t [iv p1, iv v7, iv v6] σ (fun r3 σ3 => (((0 : Int) ≤ r3 ∧ r3 < 68921) ∧ ((inR (σ3 335 r3)) ∧ (((σ3 335 r3) < 0 → (((0 : Int) ≤ p1 ∧ p1 < 68921) ∧ (((0 : Int) ≤ r3 ∧ r3 < 68921) ∧ (∀ σ6 : jM, σ6 = up σ3 335 r3 ((σ3 335 p1) + 1) → (((0 : Int) ≤ (σ6 321 32) ∧ (σ6 321 32) < 68921) ∧ (∀ σ8 : jM, σ8 = up σ6 336 (σ6 321 32) r3 → (∀ σ9 : jM, σ9 = up σ8 321 32 ((σ8 321 32) + 1) → (Jt mX12_spread (d + 1) 9 t Q 64 [rv 321, iv p1, iv p2, iv p3, iv v4, iv v5, iv v6, iv (v7 + 1), uv] [] σ9)))))))) ∧ (0 ≤ (σ3 335 r3) → (Jt mX12_spread (d + 1) 9 t Q 64 [rv 321, iv p1, iv p2, iv p3, iv v4, iv v5, iv v6, iv (v7 + 1), uv] [] σ3))))))))))) : Jt mX12_spread (d + 1) 9 t Q 64 [rv 321, iv p1, iv p2, iv p3, iv v4, iv v5, iv v6, iv v7, uv] [] σ := by
  refine j_iload (i := 7) rfl (show decode cX12_spread 64 = .ok (.iload 7, 2) by decide +kernel) ?_
  refine j_iload_n (i := 3) rfl (show decode cX12_spread 66 = .ok (.iload_n 3, 1) by decide +kernel) ?_
  have hr0 := h.1
  have h := h.2
  have hr1 := h.1
  have h := h.2
  refine j_icmp_ge (tgt := 135) hr0 hr1 (show decode cX12_spread 67 = .ok (.if_icmp .ge 68, 3) by decide +kernel) (by decide) (fun c => ?_) (fun c => ?_)
  · have h := h.1 c
    refine s_iinc (i := 5) rfl (L' := [rv 321, iv p1, iv p2, iv p3, iv v4, iv (v5 + 1), iv v6, iv v7, uv]) rfl (show decode cX12_spread 135 = .ok (.iinc 5 1, 3) by decide +kernel) ?_
    refine j_goto (tgt := 13) (show decode cX12_spread 138 = .ok (.goto (-125), 3) by decide +kernel) (by decide) ?_
    refine j_drop 6 ?_
    refine j_drop 7 ?_
    exact h
  · have h := h.2 c
    refine j_iload_n (i := 1) rfl (show decode cX12_spread 70 = .ok (.iload_n 1, 1) by decide +kernel) ?_
    refine j_iload (i := 7) rfl (show decode cX12_spread 71 = .ok (.iload 7, 2) by decide +kernel) ?_
    refine j_iload (i := 6) rfl (show decode cX12_spread 73 = .ok (.iload 6, 2) by decide +kernel) ?_
    refine j_ctS (m' := mX12_laid) (As := [iv p1, iv v7, iv v6]) (tag := 0) (cw_X12_422 rfl) (show decode cX12_spread 75 = .ok (.invokestatic 422, 3) by decide +kernel) rfl (Nat.le_of_ble_eq_true rfl) (by decide) (Nat.le_refl _) h (fun r3 σ3 h => ?_)
    refine s_ist (i := 8) (L' := [rv 321, iv p1, iv p2, iv p3, iv v4, iv v5, iv v6, iv v7, iv r3]) rfl (by decide) (show decode cX12_spread 78 = .ok (.istore 8, 2) by decide +kernel) ?_
    refine s_aload_n (i := 0) rfl (show decode cX12_spread 80 = .ok (.aload_n 0, 1) by decide +kernel) ?_
    refine gf_X12_63 (x := 335) rfl (show decode cX12_spread 81 = .ok (.getfield 63, 3) by decide +kernel) okl_321 rfl ?_
    refine j_iload (i := 8) rfl (show decode cX12_spread 84 = .ok (.iload 8, 2) by decide +kernel) ?_
    refine s_iald (show decode cX12_spread 86 = .ok (.iaload, 1) by decide +kernel) okl_335 h.1 ?_
    have h := h.2
    have hr3 := h.1
    have h := h.2
    refine j_if_lt (tgt := 93) hr3 (show decode cX12_spread 87 = .ok (.ifCond .lt 6, 3) by decide +kernel) (by decide) (fun c => ?_) (fun c => ?_)
    · have h := h.1 c
      refine s_aload_n (i := 0) rfl (show decode cX12_spread 93 = .ok (.aload_n 0, 1) by decide +kernel) ?_
      refine gf_X12_63 (x := 335) rfl (show decode cX12_spread 94 = .ok (.getfield 63, 3) by decide +kernel) okl_321 rfl ?_
      refine j_iload (i := 8) rfl (show decode cX12_spread 97 = .ok (.iload 8, 2) by decide +kernel) ?_
      refine s_aload_n (i := 0) rfl (show decode cX12_spread 99 = .ok (.aload_n 0, 1) by decide +kernel) ?_
      refine gf_X12_63 (x := 335) rfl (show decode cX12_spread 100 = .ok (.getfield 63, 3) by decide +kernel) okl_321 rfl ?_
      refine j_iload_n (i := 1) rfl (show decode cX12_spread 103 = .ok (.iload_n 1, 1) by decide +kernel) ?_
      refine s_iald (show decode cX12_spread 104 = .ok (.iaload, 1) by decide +kernel) okl_335 h.1 ?_
      have h := h.2
      refine j_iconst (show decode cX12_spread 105 = .ok (.iconst 1, 1) by decide +kernel) ?_
      refine j_iadd (show decode cX12_spread 106 = .ok (.iadd, 1) by decide +kernel) ?_
      have hb4 := h.1
      have h := h.2
      refine s_iast (show decode cX12_spread 107 = .ok (.iastore, 1) by decide +kernel) okl_335 hb4 ?_
      obtain ⟨σ6, eσ6⟩ : ∃ z : jM, z = up σ3 335 r3 ((σ3 335 p1) + 1) := ⟨_, rfl⟩
      refine j_sig eσ6 ?_
      have h := h σ6 eσ6
      refine s_aload_n (i := 0) rfl (show decode cX12_spread 108 = .ok (.aload_n 0, 1) by decide +kernel) ?_
      refine gf_X12_66 (x := 336) rfl (show decode cX12_spread 109 = .ok (.getfield 66, 3) by decide +kernel) okl_321 rfl ?_
      refine s_aload_n (i := 0) rfl (show decode cX12_spread 112 = .ok (.aload_n 0, 1) by decide +kernel) ?_
      refine gf_X12_425 rfl (show decode cX12_spread 113 = .ok (.getfield 425, 3) by decide +kernel) okl_321 ?_
      refine j_iload (i := 8) rfl (show decode cX12_spread 116 = .ok (.iload 8, 2) by decide +kernel) ?_
      have hb6 := h.1
      have h := h.2
      refine s_iast (show decode cX12_spread 118 = .ok (.iastore, 1) by decide +kernel) okl_336 hb6 ?_
      obtain ⟨σ8, eσ8⟩ : ∃ z : jM, z = up σ6 336 (σ6 321 32) r3 := ⟨_, rfl⟩
      refine j_sig eσ8 ?_
      have h := h σ8 eσ8
      refine s_aload_n (i := 0) rfl (show decode cX12_spread 119 = .ok (.aload_n 0, 1) by decide +kernel) ?_
      refine j_dup (show (2 : Nat) ≠ 1 by decide) (show decode cX12_spread 120 = .ok (.dup, 1) by decide +kernel) ?_
      refine gf_X12_425 rfl (show decode cX12_spread 121 = .ok (.getfield 425, 3) by decide +kernel) okl_321 ?_
      refine j_iconst (show decode cX12_spread 124 = .ok (.iconst 1, 1) by decide +kernel) ?_
      refine j_iadd (show decode cX12_spread 125 = .ok (.iadd, 1) by decide +kernel) ?_
      refine pf_X12_425 rfl (show decode cX12_spread 126 = .ok (.putfield 425, 3) by decide +kernel) okl_321 ?_
      obtain ⟨σ9, eσ9⟩ : ∃ z : jM, z = up σ8 321 32 ((σ8 321 32) + 1) := ⟨_, rfl⟩
      refine j_sig eσ9 ?_
      have h := h σ9 eσ9
      refine s_iinc (i := 7) rfl (L' := [rv 321, iv p1, iv p2, iv p3, iv v4, iv v5, iv v6, iv (v7 + 1), iv r3]) rfl (show decode cX12_spread 129 = .ok (.iinc 7 1, 3) by decide +kernel) ?_
      refine j_goto (tgt := 64) (show decode cX12_spread 132 = .ok (.goto (-68), 3) by decide +kernel) (by decide) ?_
      refine j_drop 8 ?_
      exact h
    · have h := h.2 c
      refine j_goto (tgt := 129) (show decode cX12_spread 90 = .ok (.goto 39, 3) by decide +kernel) (by decide) ?_
      refine s_iinc (i := 7) rfl (L' := [rv 321, iv p1, iv p2, iv p3, iv v4, iv v5, iv v6, iv (v7 + 1), iv r3]) rfl (show decode cX12_spread 129 = .ok (.iinc 7 1, 3) by decide +kernel) ?_
      refine j_goto (tgt := 64) (show decode cX12_spread 132 = .ok (.goto (-68), 3) by decide +kernel) (by decide) ?_
      refine j_drop 8 ?_
      exact h
set_option maxRecDepth 4000 in
theorem b_X12_spread_13 {d : Nat} {t : Int} {Q : Int → jM → Prop} {σ : jM} {p1 p2 p3 v4 v5 : Int} (h : (inR v5) ∧ ((inR p3) ∧ ((p3 ≤ v5 → (Jt mX12_spread (d + 1) 9 t Q 3 [rv 321, iv p1, iv p2, iv p3, iv (v4 + 1), uv, uv, uv, uv] [] σ)) ∧ (v5 < p3 → (Ct mX12_inPlace d 0 t [iv p1, iv v4] σ (fun r3 σ3 => (Ct mX12_inPlace d 0 t [iv p1, iv v5] σ3 (fun r4 σ4 => (Ct mX12_inPlace d 0 t [iv p1, iv v4] σ4 (fun r5 σ5 => ((inR r5) ∧ ((r5 = 0 → (Jt mX12_spread (d + 1) 9 t Q 13 [rv 321, iv p1, iv p2, iv p3, iv v4, iv (v5 + 1), uv, uv, uv] [] σ5)) ∧ (¬ r5 = 0 → (Ct mX12_inPlace d 0 t [iv p1, iv v5] σ5 (fun r7 σ7 => ((inR r7) ∧ ((r7 = 0 → (Jt mX12_spread (d + 1) 9 t Q 13 [rv 321, iv p1, iv p2, iv p3, iv v4, iv (v5 + 1), uv, uv, uv] [] σ7)) ∧ (¬ r7 = 0 → ((inR (r3 + r4)) ∧ ((inR p2) ∧ (((r3 + r4) ≤ p2 → (Jt mX12_spread (d + 1) 9 t Q 64 [rv 321, iv p1, iv p2, iv p3, iv v4, iv v5, iv (r3 + r4), iv 0, uv] [] σ7)) ∧ (p2 < (r3 + r4) → (Jt mX12_spread (d + 1) 9 t Q 13 [rv 321, iv p1, iv p2, iv p3, iv v4, iv (v5 + 1), uv, uv, uv] [] σ7))))))))))))))))))))))) : Jt mX12_spread (d + 1) 9 t Q 13 [rv 321, iv p1, iv p2, iv p3, iv v4, iv v5, uv, uv, uv] [] σ := by
  refine j_iload (i := 5) rfl (show decode cX12_spread 13 = .ok (.iload 5, 2) by decide +kernel) ?_
  refine j_iload_n (i := 3) rfl (show decode cX12_spread 15 = .ok (.iload_n 3, 1) by decide +kernel) ?_
  have hr0 := h.1
  have h := h.2
  have hr1 := h.1
  have h := h.2
  refine j_icmp_ge (tgt := 141) hr0 hr1 (show decode cX12_spread 16 = .ok (.if_icmp .ge 125, 3) by decide +kernel) (by decide) (fun c => ?_) (fun c => ?_)
  · have h := h.1 c
    refine s_iinc (i := 4) rfl (L' := [rv 321, iv p1, iv p2, iv p3, iv (v4 + 1), iv v5, uv, uv, uv]) rfl (show decode cX12_spread 141 = .ok (.iinc 4 1, 3) by decide +kernel) ?_
    refine j_goto (tgt := 3) (show decode cX12_spread 144 = .ok (.goto (-141), 3) by decide +kernel) (by decide) ?_
    refine j_drop 5 ?_
    exact h
  · have h := h.2 c
    refine j_iload_n (i := 1) rfl (show decode cX12_spread 19 = .ok (.iload_n 1, 1) by decide +kernel) ?_
    refine j_iload (i := 4) rfl (show decode cX12_spread 20 = .ok (.iload 4, 2) by decide +kernel) ?_
    refine j_ctS (m' := mX12_inPlace) (As := [iv p1, iv v4]) (tag := 0) (cw_X12_419 rfl) (show decode cX12_spread 22 = .ok (.invokestatic 419, 3) by decide +kernel) rfl (Nat.le_of_ble_eq_true rfl) (by decide) (Nat.le_refl _) h (fun r3 σ3 h => ?_)
    refine j_iload_n (i := 1) rfl (show decode cX12_spread 25 = .ok (.iload_n 1, 1) by decide +kernel) ?_
    refine j_iload (i := 5) rfl (show decode cX12_spread 26 = .ok (.iload 5, 2) by decide +kernel) ?_
    refine j_ctS (m' := mX12_inPlace) (As := [iv p1, iv v5]) (tag := 0) (cw_X12_419 rfl) (show decode cX12_spread 28 = .ok (.invokestatic 419, 3) by decide +kernel) rfl (Nat.le_of_ble_eq_true rfl) (by decide) (Nat.le_refl _) h (fun r4 σ4 h => ?_)
    refine j_iadd (show decode cX12_spread 31 = .ok (.iadd, 1) by decide +kernel) ?_
    refine s_ist (i := 6) (L' := [rv 321, iv p1, iv p2, iv p3, iv v4, iv v5, iv (r3 + r4), uv, uv]) rfl (by decide) (show decode cX12_spread 32 = .ok (.istore 6, 2) by decide +kernel) ?_
    refine j_iload_n (i := 1) rfl (show decode cX12_spread 34 = .ok (.iload_n 1, 1) by decide +kernel) ?_
    refine j_iload (i := 4) rfl (show decode cX12_spread 35 = .ok (.iload 4, 2) by decide +kernel) ?_
    refine j_ctS (m' := mX12_inPlace) (As := [iv p1, iv v4]) (tag := 0) (cw_X12_419 rfl) (show decode cX12_spread 37 = .ok (.invokestatic 419, 3) by decide +kernel) rfl (Nat.le_of_ble_eq_true rfl) (by decide) (Nat.le_refl _) h (fun r5 σ5 h => ?_)
    have hr5 := h.1
    have h := h.2
    refine j_if_eq (tgt := 135) hr5 (show decode cX12_spread 40 = .ok (.ifCond .eq 95, 3) by decide +kernel) (by decide) (fun c => ?_) (fun c => ?_)
    · have h := h.1 c
      refine s_iinc (i := 5) rfl (L' := [rv 321, iv p1, iv p2, iv p3, iv v4, iv (v5 + 1), iv (r3 + r4), uv, uv]) rfl (show decode cX12_spread 135 = .ok (.iinc 5 1, 3) by decide +kernel) ?_
      refine j_goto (tgt := 13) (show decode cX12_spread 138 = .ok (.goto (-125), 3) by decide +kernel) (by decide) ?_
      refine j_drop 6 ?_
      exact h
    · have h := h.2 c
      refine j_iload_n (i := 1) rfl (show decode cX12_spread 43 = .ok (.iload_n 1, 1) by decide +kernel) ?_
      refine j_iload (i := 5) rfl (show decode cX12_spread 44 = .ok (.iload 5, 2) by decide +kernel) ?_
      refine j_ctS (m' := mX12_inPlace) (As := [iv p1, iv v5]) (tag := 0) (cw_X12_419 rfl) (show decode cX12_spread 46 = .ok (.invokestatic 419, 3) by decide +kernel) rfl (Nat.le_of_ble_eq_true rfl) (by decide) (Nat.le_refl _) h (fun r7 σ7 h => ?_)
      have hr7 := h.1
      have h := h.2
      refine j_if_eq (tgt := 135) hr7 (show decode cX12_spread 49 = .ok (.ifCond .eq 86, 3) by decide +kernel) (by decide) (fun c => ?_) (fun c => ?_)
      · have h := h.1 c
        refine s_iinc (i := 5) rfl (L' := [rv 321, iv p1, iv p2, iv p3, iv v4, iv (v5 + 1), iv (r3 + r4), uv, uv]) rfl (show decode cX12_spread 135 = .ok (.iinc 5 1, 3) by decide +kernel) ?_
        refine j_goto (tgt := 13) (show decode cX12_spread 138 = .ok (.goto (-125), 3) by decide +kernel) (by decide) ?_
        refine j_drop 6 ?_
        exact h
      · have h := h.2 c
        refine j_iload (i := 6) rfl (show decode cX12_spread 52 = .ok (.iload 6, 2) by decide +kernel) ?_
        refine j_iload_n (i := 2) rfl (show decode cX12_spread 54 = .ok (.iload_n 2, 1) by decide +kernel) ?_
        have hr8 := h.1
        have h := h.2
        have hr9 := h.1
        have h := h.2
        refine j_icmp_le (tgt := 61) hr8 hr9 (show decode cX12_spread 55 = .ok (.if_icmp .le 6, 3) by decide +kernel) (by decide) (fun c => ?_) (fun c => ?_)
        · have h := h.1 c
          refine j_iconst (show decode cX12_spread 61 = .ok (.iconst 0, 1) by decide +kernel) ?_
          refine s_ist (i := 7) (L' := [rv 321, iv p1, iv p2, iv p3, iv v4, iv v5, iv (r3 + r4), iv 0, uv]) rfl (by decide) (show decode cX12_spread 62 = .ok (.istore 7, 2) by decide +kernel) ?_
          exact h
        · have h := h.2 c
          refine j_goto (tgt := 135) (show decode cX12_spread 58 = .ok (.goto 77, 3) by decide +kernel) (by decide) ?_
          refine s_iinc (i := 5) rfl (L' := [rv 321, iv p1, iv p2, iv p3, iv v4, iv (v5 + 1), iv (r3 + r4), uv, uv]) rfl (show decode cX12_spread 135 = .ok (.iinc 5 1, 3) by decide +kernel) ?_
          refine j_goto (tgt := 13) (show decode cX12_spread 138 = .ok (.goto (-125), 3) by decide +kernel) (by decide) ?_
          refine j_drop 6 ?_
          exact h
set_option maxRecDepth 4000 in
theorem b_X12_spread_3 {d : Nat} {t : Int} {Q : Int → jM → Prop} {σ : jM} {p1 p2 p3 v4 : Int} (h : (inR v4) ∧ ((inR p3) ∧ ((p3 ≤ v4 → (Q 0 σ)) ∧ (v4 < p3 → (Jt mX12_spread (d + 1) 9 t Q 13 [rv 321, iv p1, iv p2, iv p3, iv v4, iv v4, uv, uv, uv] [] σ))))) : Jt mX12_spread (d + 1) 9 t Q 3 [rv 321, iv p1, iv p2, iv p3, iv v4, uv, uv, uv, uv] [] σ := by
  refine j_iload (i := 4) rfl (show decode cX12_spread 3 = .ok (.iload 4, 2) by decide +kernel) ?_
  refine j_iload_n (i := 3) rfl (show decode cX12_spread 5 = .ok (.iload_n 3, 1) by decide +kernel) ?_
  have hr0 := h.1
  have h := h.2
  have hr1 := h.1
  have h := h.2
  refine j_icmp_ge (tgt := 147) hr0 hr1 (show decode cX12_spread 6 = .ok (.if_icmp .ge 141, 3) by decide +kernel) (by decide) (fun c => ?_) (fun c => ?_)
  · have h := h.1 c
    exact j_ret (rokV (show decode cX12_spread 147 = .ok (.return_, 1) by decide +kernel) rfl) ⟨rfl, rfl, h⟩
  · have h := h.2 c
    refine j_iload (i := 4) rfl (show decode cX12_spread 9 = .ok (.iload 4, 2) by decide +kernel) ?_
    refine s_ist (i := 5) (L' := [rv 321, iv p1, iv p2, iv p3, iv v4, iv v4, uv, uv, uv]) rfl (by decide) (show decode cX12_spread 11 = .ok (.istore 5, 2) by decide +kernel) ?_
    exact h
set_option maxRecDepth 4000 in
theorem b_X12_spread_0 {d : Nat} {t : Int} {Q : Int → jM → Prop} {σ : jM} {p1 p2 p3 : Int} (h : Jt mX12_spread (d + 1) 9 t Q 3 [rv 321, iv p1, iv p2, iv p3, iv 0, uv, uv, uv, uv] [] σ) : Jt mX12_spread (d + 1) 9 t Q 0 [rv 321, iv p1, iv p2, iv p3, uv, uv, uv, uv, uv] [] σ := by
  refine j_iconst (show decode cX12_spread 0 = .ok (.iconst 0, 1) by decide +kernel) ?_
  refine s_ist (i := 4) (L' := [rv 321, iv p1, iv p2, iv p3, iv 0, uv, uv, uv, uv]) rfl (by decide) (show decode cX12_spread 1 = .ok (.istore 4, 2) by decide +kernel) ?_
  exact h
theorem c_X12_spread {d : Nat} {t : Int} {Q : Int → jM → Prop} {σ : jM} {p1 p2 p3 : Int} (h : Jt mX12_spread (d + 1) 9 t Q 3 [rv 321, iv p1, iv p2, iv p3, iv 0, uv, uv, uv, uv] [] σ) : Ct mX12_spread (d + 1) 9 t [rv 321, iv p1, iv p2, iv p3] σ Q := Ct_of (by decide +kernel) (Nat.le_of_ble_eq_true rfl) (b_X12_spread_0 h)
set_option maxRecDepth 4000 in
theorem b_X12_few_67 {d : Nat} {t : Int} {Q : Int → jM → Prop} {σ : jM} {p1 p2 v3 : Int} (h : (inR v3) ∧ ((inR (σ 321 32)) ∧ (((σ 321 32) ≤ v3 → (Q (-1) σ)) ∧ (v3 < (σ 321 32) → (((0 : Int) ≤ v3 ∧ v3 < 68921) ∧ (Ct mX12_standsIn d 0 t [iv (σ 336 v3), iv p1] σ (fun r3 σ3 => ((inR r3) ∧ ((r3 = 0 → (((0 : Int) ≤ v3 ∧ v3 < 68921) ∧ (Ct mX12_spread d 9 t [rv 321, iv (σ3 336 v3), iv p1, iv p2] σ3 (fun r5 σ5 => (Jt mX12_few (d + 1) 0 t Q 67 [rv 321, iv p1, iv p2, iv (v3 + 1)] [] σ5))))) ∧ (¬ r3 = 0 → (((0 : Int) ≤ v3 ∧ v3 < 68921) ∧ (((0 : Int) ≤ (σ3 336 v3) ∧ (σ3 336 v3) < 68921) ∧ (Q (σ3 335 (σ3 336 v3)) σ3))))))))))))) : Jt mX12_few (d + 1) 0 t Q 67 [rv 321, iv p1, iv p2, iv v3] [] σ := by
  refine j_iload_n (i := 3) rfl (show decode cX12_few 67 = .ok (.iload_n 3, 1) by decide +kernel) ?_
  refine s_aload_n (i := 0) rfl (show decode cX12_few 68 = .ok (.aload_n 0, 1) by decide +kernel) ?_
  refine gf_X12_425 rfl (show decode cX12_few 69 = .ok (.getfield 425, 3) by decide +kernel) okl_321 ?_
  have hr0 := h.1
  have h := h.2
  have hr1 := h.1
  have h := h.2
  refine j_icmp_ge (tgt := 118) hr0 hr1 (show decode cX12_few 72 = .ok (.if_icmp .ge 46, 3) by decide +kernel) (by decide) (fun c => ?_) (fun c => ?_)
  · have h := h.1 c
    refine j_iconst (show decode cX12_few 118 = .ok (.iconst (-1), 1) by decide +kernel) ?_
    exact j_ret (rokI (show decode cX12_few 119 = .ok (.ireturn, 1) by decide +kernel) rfl) ⟨rfl, rfl, h⟩
  · have h := h.2 c
    refine s_aload_n (i := 0) rfl (show decode cX12_few 75 = .ok (.aload_n 0, 1) by decide +kernel) ?_
    refine gf_X12_66 (x := 336) rfl (show decode cX12_few 76 = .ok (.getfield 66, 3) by decide +kernel) okl_321 rfl ?_
    refine j_iload_n (i := 3) rfl (show decode cX12_few 79 = .ok (.iload_n 3, 1) by decide +kernel) ?_
    refine s_iald (show decode cX12_few 80 = .ok (.iaload, 1) by decide +kernel) okl_336 h.1 ?_
    have h := h.2
    refine j_iload_n (i := 1) rfl (show decode cX12_few 81 = .ok (.iload_n 1, 1) by decide +kernel) ?_
    refine j_ctS (m' := mX12_standsIn) (As := [iv (σ 336 v3), iv p1]) (tag := 0) (cw_X12_428 rfl) (show decode cX12_few 82 = .ok (.invokestatic 428, 3) by decide +kernel) rfl (Nat.le_of_ble_eq_true rfl) (by decide) (Nat.le_refl _) h (fun r3 σ3 h => ?_)
    have hr3 := h.1
    have h := h.2
    refine j_if_eq (tgt := 100) hr3 (show decode cX12_few 85 = .ok (.ifCond .eq 15, 3) by decide +kernel) (by decide) (fun c => ?_) (fun c => ?_)
    · have h := h.1 c
      refine s_aload_n (i := 0) rfl (show decode cX12_few 100 = .ok (.aload_n 0, 1) by decide +kernel) ?_
      refine s_aload_n (i := 0) rfl (show decode cX12_few 101 = .ok (.aload_n 0, 1) by decide +kernel) ?_
      refine gf_X12_66 (x := 336) rfl (show decode cX12_few 102 = .ok (.getfield 66, 3) by decide +kernel) okl_321 rfl ?_
      refine j_iload_n (i := 3) rfl (show decode cX12_few 105 = .ok (.iload_n 3, 1) by decide +kernel) ?_
      refine s_iald (show decode cX12_few 106 = .ok (.iaload, 1) by decide +kernel) okl_336 h.1 ?_
      have h := h.2
      refine j_iload_n (i := 1) rfl (show decode cX12_few 107 = .ok (.iload_n 1, 1) by decide +kernel) ?_
      refine j_iload_n (i := 2) rfl (show decode cX12_few 108 = .ok (.iload_n 2, 1) by decide +kernel) ?_
      refine j_ctVv (m' := mX12_spread) (As := [iv (σ3 336 v3), iv p1, iv p2]) (ci := 12) (N := 0) (cw_X12_431 rfl) (show decode cX12_few 109 = .ok (.invokevirtual 431, 3) by decide +kernel) rfl (Nat.le_of_ble_eq_true rfl) okl_321 rfl rfl (Nat.le_refl _) h (fun r5 σ5 h => ?_)
      refine s_iinc (i := 3) rfl (L' := [rv 321, iv p1, iv p2, iv (v3 + 1)]) rfl (show decode cX12_few 112 = .ok (.iinc 3 1, 3) by decide +kernel) ?_
      refine j_goto (tgt := 67) (show decode cX12_few 115 = .ok (.goto (-48), 3) by decide +kernel) (by decide) ?_
      exact h
    · have h := h.2 c
      refine s_aload_n (i := 0) rfl (show decode cX12_few 88 = .ok (.aload_n 0, 1) by decide +kernel) ?_
      refine gf_X12_63 (x := 335) rfl (show decode cX12_few 89 = .ok (.getfield 63, 3) by decide +kernel) okl_321 rfl ?_
      refine s_aload_n (i := 0) rfl (show decode cX12_few 92 = .ok (.aload_n 0, 1) by decide +kernel) ?_
      refine gf_X12_66 (x := 336) rfl (show decode cX12_few 93 = .ok (.getfield 66, 3) by decide +kernel) okl_321 rfl ?_
      refine j_iload_n (i := 3) rfl (show decode cX12_few 96 = .ok (.iload_n 3, 1) by decide +kernel) ?_
      refine s_iald (show decode cX12_few 97 = .ok (.iaload, 1) by decide +kernel) okl_336 h.1 ?_
      have h := h.2
      refine s_iald (show decode cX12_few 98 = .ok (.iaload, 1) by decide +kernel) okl_335 h.1 ?_
      have h := h.2
      exact j_ret (rokI (show decode cX12_few 99 = .ok (.ireturn, 1) by decide +kernel) rfl) ⟨rfl, rfl, h⟩
set_option maxRecDepth 4000 in
theorem b_X12_few_23 {d : Nat} {t : Int} {Q : Int → jM → Prop} {σ : jM} {p1 p2 v3 : Int} (h : (inR v3) ∧ ((68921 ≤ v3 → (((0 : Int) ≤ 0 ∧ (0 : Int) < 68921) ∧ (∀ σ3 : jM, σ3 = up σ 336 0 1681 → (((0 : Int) ≤ 1681 ∧ (1681 : Int) < 68921) ∧ (∀ σ5 : jM, σ5 = up σ3 335 1681 0 → (∀ σ6 : jM, σ6 = up σ5 321 32 1 → (Jt mX12_few (d + 1) 0 t Q 67 [rv 321, iv p1, iv p2, iv 0] [] σ6))))))) ∧ (v3 < 68921 → (((0 : Int) ≤ v3 ∧ v3 < 68921) ∧ (∀ σ8 : jM, σ8 = up σ 335 v3 (-1) → (Jt mX12_few (d + 1) 0 t Q 23 [rv 321, iv p1, iv p2, iv (v3 + 1)] [] σ8)))))) : Jt mX12_few (d + 1) 0 t Q 23 [rv 321, iv p1, iv p2, iv v3] [] σ := by
  refine j_iload_n (i := 3) rfl (show decode cX12_few 23 = .ok (.iload_n 3, 1) by decide +kernel) ?_
  refine j_ldc (x := 68921) (tt_in 1233 (by decide +kernel) rfl) (show decode cX12_few 24 = .ok (.ldc 62, 2) by decide +kernel) ?_
  have hr0 := h.1
  have h := h.2
  refine j_icmp_ge (tgt := 42) hr0 (inl (by decide)) (show decode cX12_few 26 = .ok (.if_icmp .ge 16, 3) by decide +kernel) (by decide) (fun c => ?_) (fun c => ?_)
  · have h := h.1 c
    refine s_aload_n (i := 0) rfl (show decode cX12_few 42 = .ok (.aload_n 0, 1) by decide +kernel) ?_
    refine gf_X12_66 (x := 336) rfl (show decode cX12_few 43 = .ok (.getfield 66, 3) by decide +kernel) okl_321 rfl ?_
    refine j_iconst (show decode cX12_few 46 = .ok (.iconst 0, 1) by decide +kernel) ?_
    refine j_sipush (n := 1681) (by decide +kernel) (show decode cX12_few 47 = .ok (.sipush 1681, 3) by decide +kernel) ?_
    have hb1 := h.1
    have h := h.2
    refine s_iast (show decode cX12_few 50 = .ok (.iastore, 1) by decide +kernel) okl_336 hb1 ?_
    obtain ⟨σ3, eσ3⟩ : ∃ z : jM, z = up σ 336 0 1681 := ⟨_, rfl⟩
    refine j_sig eσ3 ?_
    have h := h σ3 eσ3
    refine s_aload_n (i := 0) rfl (show decode cX12_few 51 = .ok (.aload_n 0, 1) by decide +kernel) ?_
    refine gf_X12_63 (x := 335) rfl (show decode cX12_few 52 = .ok (.getfield 63, 3) by decide +kernel) okl_321 rfl ?_
    refine j_sipush (n := 1681) (by decide +kernel) (show decode cX12_few 55 = .ok (.sipush 1681, 3) by decide +kernel) ?_
    refine j_iconst (show decode cX12_few 58 = .ok (.iconst 0, 1) by decide +kernel) ?_
    have hb3 := h.1
    have h := h.2
    refine s_iast (show decode cX12_few 59 = .ok (.iastore, 1) by decide +kernel) okl_335 hb3 ?_
    obtain ⟨σ5, eσ5⟩ : ∃ z : jM, z = up σ3 335 1681 0 := ⟨_, rfl⟩
    refine j_sig eσ5 ?_
    have h := h σ5 eσ5
    refine s_aload_n (i := 0) rfl (show decode cX12_few 60 = .ok (.aload_n 0, 1) by decide +kernel) ?_
    refine j_iconst (show decode cX12_few 61 = .ok (.iconst 1, 1) by decide +kernel) ?_
    refine pf_X12_425 rfl (show decode cX12_few 62 = .ok (.putfield 425, 3) by decide +kernel) okl_321 ?_
    obtain ⟨σ6, eσ6⟩ : ∃ z : jM, z = up σ5 321 32 1 := ⟨_, rfl⟩
    refine j_sig eσ6 ?_
    have h := h σ6 eσ6
    refine j_iconst (show decode cX12_few 65 = .ok (.iconst 0, 1) by decide +kernel) ?_
    refine s_ist_n (i := 3) (L' := [rv 321, iv p1, iv p2, iv 0]) rfl (by decide) (show decode cX12_few 66 = .ok (.istore_n 3, 1) by decide +kernel) ?_
    exact h
  · have h := h.2 c
    refine s_aload_n (i := 0) rfl (show decode cX12_few 29 = .ok (.aload_n 0, 1) by decide +kernel) ?_
    refine gf_X12_63 (x := 335) rfl (show decode cX12_few 30 = .ok (.getfield 63, 3) by decide +kernel) okl_321 rfl ?_
    refine j_iload_n (i := 3) rfl (show decode cX12_few 33 = .ok (.iload_n 3, 1) by decide +kernel) ?_
    refine j_iconst (show decode cX12_few 34 = .ok (.iconst (-1), 1) by decide +kernel) ?_
    have hb6 := h.1
    have h := h.2
    refine s_iast (show decode cX12_few 35 = .ok (.iastore, 1) by decide +kernel) okl_335 hb6 ?_
    obtain ⟨σ8, eσ8⟩ : ∃ z : jM, z = up σ 335 v3 (-1) := ⟨_, rfl⟩
    refine j_sig eσ8 ?_
    have h := h σ8 eσ8
    refine s_iinc (i := 3) rfl (L' := [rv 321, iv p1, iv p2, iv (v3 + 1)]) rfl (show decode cX12_few 36 = .ok (.iinc 3 1, 3) by decide +kernel) ?_
    refine j_goto (tgt := 23) (show decode cX12_few 39 = .ok (.goto (-16), 3) by decide +kernel) (by decide) ?_
    exact h
set_option maxRecDepth 4000 in
theorem b_X12_few_0 {d : Nat} {t : Int} {Q : Int → jM → Prop} {σ : jM} {p1 p2 : Int} (h : Ct mX12_isIn d 0 t [iv p1, iv 1, iv 40] σ (fun r1 σ1 => ((inR r1) ∧ ((r1 = 0 → (Q (-1) σ1)) ∧ (¬ r1 = 0 → (Ct mX12_isIn d 0 t [iv p2, iv 1, iv 3] σ1 (fun r3 σ3 => ((inR r3) ∧ ((¬ r3 = 0 → (Jt mX12_few (d + 1) 0 t Q 23 [rv 321, iv p1, iv p2, iv 0] [] σ3)) ∧ (r3 = 0 → (Q (-1) σ3))))))))))) : Jt mX12_few (d + 1) 0 t Q 0 [rv 321, iv p1, iv p2, uv] [] σ := by
  refine j_iload_n (i := 1) rfl (show decode cX12_few 0 = .ok (.iload_n 1, 1) by decide +kernel) ?_
  refine j_iconst (show decode cX12_few 1 = .ok (.iconst 1, 1) by decide +kernel) ?_
  refine j_bipush (n := 40) (by decide +kernel) (show decode cX12_few 2 = .ok (.bipush 40, 2) by decide +kernel) ?_
  refine j_ctS (m' := mX12_isIn) (As := [iv p1, iv 1, iv 40]) (tag := 0) (cw_X12_85 rfl) (show decode cX12_few 4 = .ok (.invokestatic 85, 3) by decide +kernel) rfl (Nat.le_of_ble_eq_true rfl) (by decide) (Nat.le_refl _) h (fun r1 σ1 h => ?_)
  have hr1 := h.1
  have h := h.2
  refine j_if_eq (tgt := 19) hr1 (show decode cX12_few 7 = .ok (.ifCond .eq 12, 3) by decide +kernel) (by decide) (fun c => ?_) (fun c => ?_)
  · have h := h.1 c
    refine j_iconst (show decode cX12_few 19 = .ok (.iconst (-1), 1) by decide +kernel) ?_
    exact j_ret (rokI (show decode cX12_few 20 = .ok (.ireturn, 1) by decide +kernel) rfl) ⟨rfl, rfl, h⟩
  · have h := h.2 c
    refine j_iload_n (i := 2) rfl (show decode cX12_few 10 = .ok (.iload_n 2, 1) by decide +kernel) ?_
    refine j_iconst (show decode cX12_few 11 = .ok (.iconst 1, 1) by decide +kernel) ?_
    refine j_iconst (show decode cX12_few 12 = .ok (.iconst 3, 1) by decide +kernel) ?_
    refine j_ctS (m' := mX12_isIn) (As := [iv p2, iv 1, iv 3]) (tag := 0) (cw_X12_85 rfl) (show decode cX12_few 13 = .ok (.invokestatic 85, 3) by decide +kernel) rfl (Nat.le_of_ble_eq_true rfl) (by decide) (Nat.le_refl _) h (fun r3 σ3 h => ?_)
    have hr3 := h.1
    have h := h.2
    refine j_if_ne (tgt := 21) hr3 (show decode cX12_few 16 = .ok (.ifCond .ne 5, 3) by decide +kernel) (by decide) (fun c => ?_) (fun c => ?_)
    · have h := h.1 c
      refine j_iconst (show decode cX12_few 21 = .ok (.iconst 0, 1) by decide +kernel) ?_
      refine s_ist_n (i := 3) (L' := [rv 321, iv p1, iv p2, iv 0]) rfl (by decide) (show decode cX12_few 22 = .ok (.istore_n 3, 1) by decide +kernel) ?_
      exact h
    · have h := h.2 c
      refine j_iconst (show decode cX12_few 19 = .ok (.iconst (-1), 1) by decide +kernel) ?_
      exact j_ret (rokI (show decode cX12_few 20 = .ok (.ireturn, 1) by decide +kernel) rfl) ⟨rfl, rfl, h⟩
theorem c_X12_few {d : Nat} {t : Int} {Q : Int → jM → Prop} {σ : jM} {p1 p2 : Int} (h : Ct mX12_isIn d 0 t [iv p1, iv 1, iv 40] σ (fun r1 σ1 => ((inR r1) ∧ ((r1 = 0 → (Q (-1) σ1)) ∧ (¬ r1 = 0 → (Ct mX12_isIn d 0 t [iv p2, iv 1, iv 3] σ1 (fun r3 σ3 => ((inR r3) ∧ ((¬ r3 = 0 → (Jt mX12_few (d + 1) 0 t Q 23 [rv 321, iv p1, iv p2, iv 0] [] σ3)) ∧ (r3 = 0 → (Q (-1) σ3))))))))))) : Ct mX12_few (d + 1) 0 t [rv 321, iv p1, iv p2] σ Q := Ct_of (by decide +kernel) (Nat.le_of_ble_eq_true rfl) (b_X12_few_0 h)
set_option maxRecDepth 4000 in
theorem b_X12_spoonAt_0 {d : Nat} {t : Int} {Q : Int → jM → Prop} {σ : jM} {p1 p2 : Int} (h : Ct mX12_isIn d 0 t [iv p2, iv 1, iv 80] σ (fun r1 σ1 => ((inR r1) ∧ ((r1 = 0 → (Q 0 σ1)) ∧ (¬ r1 = 0 → (((0 : Int) ≤ ((81 * p1) + p2) ∧ ((81 * p1) + p2) < 810) ∧ ((inR (σ1 337 ((81 * p1) + p2))) ∧ ((¬ (σ1 337 ((81 * p1) + p2)) = 0 → (Q 0 σ1)) ∧ ((σ1 337 ((81 * p1) + p2)) = 0 → (((0 : Int) ≤ ((81 * p1) + p2) ∧ ((81 * p1) + p2) < 810) ∧ (∀ σ5 : jM, σ5 = up σ1 337 ((81 * p1) + p2) 1 → (Q 0 σ5)))))))))))) : Jt mX12_spoonAt (d + 1) 9 t Q 0 [rv 321, iv p1, iv p2] [] σ := by
  refine j_iload_n (i := 2) rfl (show decode cX12_spoonAt 0 = .ok (.iload_n 2, 1) by decide +kernel) ?_
  refine j_iconst (show decode cX12_spoonAt 1 = .ok (.iconst 1, 1) by decide +kernel) ?_
  refine j_bipush (n := 80) (by decide +kernel) (show decode cX12_spoonAt 2 = .ok (.bipush 80, 2) by decide +kernel) ?_
  refine j_ctS (m' := mX12_isIn) (As := [iv p2, iv 1, iv 80]) (tag := 0) (cw_X12_85 rfl) (show decode cX12_spoonAt 4 = .ok (.invokestatic 85, 3) by decide +kernel) rfl (Nat.le_of_ble_eq_true rfl) (by decide) (Nat.le_refl _) h (fun r1 σ1 h => ?_)
  have hr1 := h.1
  have h := h.2
  refine j_if_eq (tgt := 36) hr1 (show decode cX12_spoonAt 7 = .ok (.ifCond .eq 29, 3) by decide +kernel) (by decide) (fun c => ?_) (fun c => ?_)
  · have h := h.1 c
    exact j_ret (rokV (show decode cX12_spoonAt 36 = .ok (.return_, 1) by decide +kernel) rfl) ⟨rfl, rfl, h⟩
  · have h := h.2 c
    refine s_aload_n (i := 0) rfl (show decode cX12_spoonAt 10 = .ok (.aload_n 0, 1) by decide +kernel) ?_
    refine gf_X12_69 (x := 337) rfl (show decode cX12_spoonAt 11 = .ok (.getfield 69, 3) by decide +kernel) okl_321 rfl ?_
    refine j_bipush (n := 81) (by decide +kernel) (show decode cX12_spoonAt 14 = .ok (.bipush 81, 2) by decide +kernel) ?_
    refine j_iload_n (i := 1) rfl (show decode cX12_spoonAt 16 = .ok (.iload_n 1, 1) by decide +kernel) ?_
    refine j_imul (show decode cX12_spoonAt 17 = .ok (.imul, 1) by decide +kernel) ?_
    refine j_iload_n (i := 2) rfl (show decode cX12_spoonAt 18 = .ok (.iload_n 2, 1) by decide +kernel) ?_
    refine j_iadd (show decode cX12_spoonAt 19 = .ok (.iadd, 1) by decide +kernel) ?_
    refine s_iald (show decode cX12_spoonAt 20 = .ok (.iaload, 1) by decide +kernel) okl_337 h.1 ?_
    have h := h.2
    have hr2 := h.1
    have h := h.2
    refine j_if_ne (tgt := 36) hr2 (show decode cX12_spoonAt 21 = .ok (.ifCond .ne 15, 3) by decide +kernel) (by decide) (fun c => ?_) (fun c => ?_)
    · have h := h.1 c
      exact j_ret (rokV (show decode cX12_spoonAt 36 = .ok (.return_, 1) by decide +kernel) rfl) ⟨rfl, rfl, h⟩
    · have h := h.2 c
      refine s_aload_n (i := 0) rfl (show decode cX12_spoonAt 24 = .ok (.aload_n 0, 1) by decide +kernel) ?_
      refine gf_X12_69 (x := 337) rfl (show decode cX12_spoonAt 25 = .ok (.getfield 69, 3) by decide +kernel) okl_321 rfl ?_
      refine j_bipush (n := 81) (by decide +kernel) (show decode cX12_spoonAt 28 = .ok (.bipush 81, 2) by decide +kernel) ?_
      refine j_iload_n (i := 1) rfl (show decode cX12_spoonAt 30 = .ok (.iload_n 1, 1) by decide +kernel) ?_
      refine j_imul (show decode cX12_spoonAt 31 = .ok (.imul, 1) by decide +kernel) ?_
      refine j_iload_n (i := 2) rfl (show decode cX12_spoonAt 32 = .ok (.iload_n 2, 1) by decide +kernel) ?_
      refine j_iadd (show decode cX12_spoonAt 33 = .ok (.iadd, 1) by decide +kernel) ?_
      refine j_iconst (show decode cX12_spoonAt 34 = .ok (.iconst 1, 1) by decide +kernel) ?_
      have hb3 := h.1
      have h := h.2
      refine s_iast (show decode cX12_spoonAt 35 = .ok (.iastore, 1) by decide +kernel) okl_337 hb3 ?_
      obtain ⟨σ5, eσ5⟩ : ∃ z : jM, z = up σ1 337 ((81 * p1) + p2) 1 := ⟨_, rfl⟩
      refine j_sig eσ5 ?_
      have h := h σ5 eσ5
      exact j_ret (rokV (show decode cX12_spoonAt 36 = .ok (.return_, 1) by decide +kernel) rfl) ⟨rfl, rfl, h⟩
theorem c_X12_spoonAt {d : Nat} {t : Int} {Q : Int → jM → Prop} {σ : jM} {p1 p2 : Int} (h : Ct mX12_isIn d 0 t [iv p2, iv 1, iv 80] σ (fun r1 σ1 => ((inR r1) ∧ ((r1 = 0 → (Q 0 σ1)) ∧ (¬ r1 = 0 → (((0 : Int) ≤ ((81 * p1) + p2) ∧ ((81 * p1) + p2) < 810) ∧ ((inR (σ1 337 ((81 * p1) + p2))) ∧ ((¬ (σ1 337 ((81 * p1) + p2)) = 0 → (Q 0 σ1)) ∧ ((σ1 337 ((81 * p1) + p2)) = 0 → (((0 : Int) ≤ ((81 * p1) + p2) ∧ ((81 * p1) + p2) < 810) ∧ (∀ σ5 : jM, σ5 = up σ1 337 ((81 * p1) + p2) 1 → (Q 0 σ5)))))))))))) : Ct mX12_spoonAt (d + 1) 9 t [rv 321, iv p1, iv p2] σ Q := Ct_of (by decide +kernel) (Nat.le_of_ble_eq_true rfl) (b_X12_spoonAt_0 h)
set_option maxRecDepth 4000 in
theorem b_X12_layNexts_9 {d : Nat} {t : Int} {Q : Int → jM → Prop} {σ : jM} {p1 v2 v3 : Int} (h : (inR v3) ∧ ((inR p1) ∧ ((p1 < v3 → (Q 0 σ)) ∧ (v3 ≤ p1 → (((0 : Int) ≤ v3 ∧ v3 < 44) ∧ (Ct mX12_spoonAt d 9 t [rv 321, iv p1, iv (v2 + (σ 331 v3))] σ (fun r3 σ3 => (((0 : Int) ≤ v3 ∧ v3 < 44) ∧ (Ct mX12_spoonAt d 9 t [rv 321, iv p1, iv (v2 - (σ3 331 v3))] σ3 (fun r4 σ4 => (((0 : Int) ≤ v3 ∧ v3 < 44) ∧ (Ct mX12_spoonAt d 9 t [rv 321, iv p1, iv ((σ4 331 v3) - v2)] σ4 (fun r5 σ5 => (Jt mX12_layNexts (d + 1) 9 t Q 9 [rv 321, iv p1, iv v2, iv (v3 + 1)] [] σ5)))))))))))))) : Jt mX12_layNexts (d + 1) 9 t Q 9 [rv 321, iv p1, iv v2, iv v3] [] σ := by
  refine j_iload_n (i := 3) rfl (show decode cX12_layNexts 9 = .ok (.iload_n 3, 1) by decide +kernel) ?_
  refine j_iload_n (i := 1) rfl (show decode cX12_layNexts 10 = .ok (.iload_n 1, 1) by decide +kernel) ?_
  have hr0 := h.1
  have h := h.2
  have hr1 := h.1
  have h := h.2
  refine j_icmp_gt (tgt := 59) hr0 hr1 (show decode cX12_layNexts 11 = .ok (.if_icmp .gt 48, 3) by decide +kernel) (by decide) (fun c => ?_) (fun c => ?_)
  · have h := h.1 c
    exact j_ret (rokV (show decode cX12_layNexts 59 = .ok (.return_, 1) by decide +kernel) rfl) ⟨rfl, rfl, h⟩
  · have h := h.2 c
    refine s_aload_n (i := 0) rfl (show decode cX12_layNexts 14 = .ok (.aload_n 0, 1) by decide +kernel) ?_
    refine j_iload_n (i := 1) rfl (show decode cX12_layNexts 15 = .ok (.iload_n 1, 1) by decide +kernel) ?_
    refine j_iload_n (i := 2) rfl (show decode cX12_layNexts 16 = .ok (.iload_n 2, 1) by decide +kernel) ?_
    refine s_aload_n (i := 0) rfl (show decode cX12_layNexts 17 = .ok (.aload_n 0, 1) by decide +kernel) ?_
    refine gf_X12_50 (x := 331) rfl (show decode cX12_layNexts 18 = .ok (.getfield 50, 3) by decide +kernel) okl_321 rfl ?_
    refine j_iload_n (i := 3) rfl (show decode cX12_layNexts 21 = .ok (.iload_n 3, 1) by decide +kernel) ?_
    refine s_iald (show decode cX12_layNexts 22 = .ok (.iaload, 1) by decide +kernel) okl_331 h.1 ?_
    have h := h.2
    refine j_iadd (show decode cX12_layNexts 23 = .ok (.iadd, 1) by decide +kernel) ?_
    refine j_ctVv (m' := mX12_spoonAt) (As := [iv p1, iv (v2 + (σ 331 v3))]) (ci := 12) (N := 0) (cw_X12_434 rfl) (show decode cX12_layNexts 24 = .ok (.invokevirtual 434, 3) by decide +kernel) rfl (Nat.le_of_ble_eq_true rfl) okl_321 rfl rfl (Nat.le_refl _) h (fun r3 σ3 h => ?_)
    refine s_aload_n (i := 0) rfl (show decode cX12_layNexts 27 = .ok (.aload_n 0, 1) by decide +kernel) ?_
    refine j_iload_n (i := 1) rfl (show decode cX12_layNexts 28 = .ok (.iload_n 1, 1) by decide +kernel) ?_
    refine j_iload_n (i := 2) rfl (show decode cX12_layNexts 29 = .ok (.iload_n 2, 1) by decide +kernel) ?_
    refine s_aload_n (i := 0) rfl (show decode cX12_layNexts 30 = .ok (.aload_n 0, 1) by decide +kernel) ?_
    refine gf_X12_50 (x := 331) rfl (show decode cX12_layNexts 31 = .ok (.getfield 50, 3) by decide +kernel) okl_321 rfl ?_
    refine j_iload_n (i := 3) rfl (show decode cX12_layNexts 34 = .ok (.iload_n 3, 1) by decide +kernel) ?_
    refine s_iald (show decode cX12_layNexts 35 = .ok (.iaload, 1) by decide +kernel) okl_331 h.1 ?_
    have h := h.2
    refine j_isub (show decode cX12_layNexts 36 = .ok (.isub, 1) by decide +kernel) ?_
    refine j_ctVv (m' := mX12_spoonAt) (As := [iv p1, iv (v2 - (σ3 331 v3))]) (ci := 12) (N := 0) (cw_X12_434 rfl) (show decode cX12_layNexts 37 = .ok (.invokevirtual 434, 3) by decide +kernel) rfl (Nat.le_of_ble_eq_true rfl) okl_321 rfl rfl (Nat.le_refl _) h (fun r4 σ4 h => ?_)
    refine s_aload_n (i := 0) rfl (show decode cX12_layNexts 40 = .ok (.aload_n 0, 1) by decide +kernel) ?_
    refine j_iload_n (i := 1) rfl (show decode cX12_layNexts 41 = .ok (.iload_n 1, 1) by decide +kernel) ?_
    refine s_aload_n (i := 0) rfl (show decode cX12_layNexts 42 = .ok (.aload_n 0, 1) by decide +kernel) ?_
    refine gf_X12_50 (x := 331) rfl (show decode cX12_layNexts 43 = .ok (.getfield 50, 3) by decide +kernel) okl_321 rfl ?_
    refine j_iload_n (i := 3) rfl (show decode cX12_layNexts 46 = .ok (.iload_n 3, 1) by decide +kernel) ?_
    refine s_iald (show decode cX12_layNexts 47 = .ok (.iaload, 1) by decide +kernel) okl_331 h.1 ?_
    have h := h.2
    refine j_iload_n (i := 2) rfl (show decode cX12_layNexts 48 = .ok (.iload_n 2, 1) by decide +kernel) ?_
    refine j_isub (show decode cX12_layNexts 49 = .ok (.isub, 1) by decide +kernel) ?_
    refine j_ctVv (m' := mX12_spoonAt) (As := [iv p1, iv ((σ4 331 v3) - v2)]) (ci := 12) (N := 0) (cw_X12_434 rfl) (show decode cX12_layNexts 50 = .ok (.invokevirtual 434, 3) by decide +kernel) rfl (Nat.le_of_ble_eq_true rfl) okl_321 rfl rfl (Nat.le_refl _) h (fun r5 σ5 h => ?_)
    refine s_iinc (i := 3) rfl (L' := [rv 321, iv p1, iv v2, iv (v3 + 1)]) rfl (show decode cX12_layNexts 53 = .ok (.iinc 3 1, 3) by decide +kernel) ?_
    refine j_goto (tgt := 9) (show decode cX12_layNexts 56 = .ok (.goto (-47), 3) by decide +kernel) (by decide) ?_
    exact h
set_option maxRecDepth 4000 in
theorem b_X12_layNexts_0 {d : Nat} {t : Int} {Q : Int → jM → Prop} {σ : jM} {p1 : Int} (h : ((0 : Int) ≤ p1 ∧ p1 < 44) ∧ (Jt mX12_layNexts (d + 1) 9 t Q 9 [rv 321, iv p1, iv (σ 331 p1), iv 0] [] σ)) : Jt mX12_layNexts (d + 1) 9 t Q 0 [rv 321, iv p1, uv, uv] [] σ := by
  refine s_aload_n (i := 0) rfl (show decode cX12_layNexts 0 = .ok (.aload_n 0, 1) by decide +kernel) ?_
  refine gf_X12_50 (x := 331) rfl (show decode cX12_layNexts 1 = .ok (.getfield 50, 3) by decide +kernel) okl_321 rfl ?_
  refine j_iload_n (i := 1) rfl (show decode cX12_layNexts 4 = .ok (.iload_n 1, 1) by decide +kernel) ?_
  refine s_iald (show decode cX12_layNexts 5 = .ok (.iaload, 1) by decide +kernel) okl_331 h.1 ?_
  have h := h.2
  refine s_ist_n (i := 2) (L' := [rv 321, iv p1, iv (σ 331 p1), uv]) rfl (by decide) (show decode cX12_layNexts 6 = .ok (.istore_n 2, 1) by decide +kernel) ?_
  refine j_iconst (show decode cX12_layNexts 7 = .ok (.iconst 0, 1) by decide +kernel) ?_
  refine s_ist_n (i := 3) (L' := [rv 321, iv p1, iv (σ 331 p1), iv 0]) rfl (by decide) (show decode cX12_layNexts 8 = .ok (.istore_n 3, 1) by decide +kernel) ?_
  exact h
theorem c_X12_layNexts {d : Nat} {t : Int} {Q : Int → jM → Prop} {σ : jM} {p1 : Int} (h : ((0 : Int) ≤ p1 ∧ p1 < 44) ∧ (Jt mX12_layNexts (d + 1) 9 t Q 9 [rv 321, iv p1, iv (σ 331 p1), iv 0] [] σ)) : Ct mX12_layNexts (d + 1) 9 t [rv 321, iv p1] σ Q := Ct_of (by decide +kernel) (Nat.le_of_ble_eq_true rfl) (b_X12_layNexts_0 h)
set_option maxRecDepth 4000 in
theorem b_X12_mostOf_4 {d : Nat} {t : Int} {Q : Int → jM → Prop} {σ : jM} {p1 v2 v3 : Int} (h : (inR v3) ∧ ((inR p1) ∧ ((p1 < v3 → (Q v2 σ)) ∧ (v3 ≤ p1 → (((0 : Int) ≤ v3 ∧ v3 < 44) ∧ ((inR (σ 331 v3)) ∧ ((inR v2) ∧ (((σ 331 v3) ≤ v2 → (Jt mX12_mostOf (d) 0 t Q 4 [rv 321, iv p1, iv v2, iv (v3 + 1)] [] σ)) ∧ (v2 < (σ 331 v3) → (((0 : Int) ≤ v3 ∧ v3 < 44) ∧ (Jt mX12_mostOf (d) 0 t Q 4 [rv 321, iv p1, iv (σ 331 v3), iv (v3 + 1)] [] σ))))))))))) : Jt mX12_mostOf (d) 0 t Q 4 [rv 321, iv p1, iv v2, iv v3] [] σ := by
  refine j_iload_n (i := 3) rfl (show decode cX12_mostOf 4 = .ok (.iload_n 3, 1) by decide +kernel) ?_
  refine j_iload_n (i := 1) rfl (show decode cX12_mostOf 5 = .ok (.iload_n 1, 1) by decide +kernel) ?_
  have hr0 := h.1
  have h := h.2
  have hr1 := h.1
  have h := h.2
  refine j_icmp_gt (tgt := 36) hr0 hr1 (show decode cX12_mostOf 6 = .ok (.if_icmp .gt 30, 3) by decide +kernel) (by decide) (fun c => ?_) (fun c => ?_)
  · have h := h.1 c
    refine j_iload_n (i := 2) rfl (show decode cX12_mostOf 36 = .ok (.iload_n 2, 1) by decide +kernel) ?_
    exact j_ret (rokI (show decode cX12_mostOf 37 = .ok (.ireturn, 1) by decide +kernel) rfl) ⟨rfl, rfl, h⟩
  · have h := h.2 c
    refine s_aload_n (i := 0) rfl (show decode cX12_mostOf 9 = .ok (.aload_n 0, 1) by decide +kernel) ?_
    refine gf_X12_50 (x := 331) rfl (show decode cX12_mostOf 10 = .ok (.getfield 50, 3) by decide +kernel) okl_321 rfl ?_
    refine j_iload_n (i := 3) rfl (show decode cX12_mostOf 13 = .ok (.iload_n 3, 1) by decide +kernel) ?_
    refine s_iald (show decode cX12_mostOf 14 = .ok (.iaload, 1) by decide +kernel) okl_331 h.1 ?_
    have h := h.2
    refine j_iload_n (i := 2) rfl (show decode cX12_mostOf 15 = .ok (.iload_n 2, 1) by decide +kernel) ?_
    have hr2 := h.1
    have h := h.2
    have hr3 := h.1
    have h := h.2
    refine j_icmp_le (tgt := 28) hr2 hr3 (show decode cX12_mostOf 16 = .ok (.if_icmp .le 12, 3) by decide +kernel) (by decide) (fun c => ?_) (fun c => ?_)
    · have h := h.1 c
      refine j_iload_n (i := 2) rfl (show decode cX12_mostOf 28 = .ok (.iload_n 2, 1) by decide +kernel) ?_
      refine s_ist_n (i := 2) (L' := [rv 321, iv p1, iv v2, iv v3]) rfl (by decide) (show decode cX12_mostOf 29 = .ok (.istore_n 2, 1) by decide +kernel) ?_
      refine s_iinc (i := 3) rfl (L' := [rv 321, iv p1, iv v2, iv (v3 + 1)]) rfl (show decode cX12_mostOf 30 = .ok (.iinc 3 1, 3) by decide +kernel) ?_
      refine j_goto (tgt := 4) (show decode cX12_mostOf 33 = .ok (.goto (-29), 3) by decide +kernel) (by decide) ?_
      exact h
    · have h := h.2 c
      refine s_aload_n (i := 0) rfl (show decode cX12_mostOf 19 = .ok (.aload_n 0, 1) by decide +kernel) ?_
      refine gf_X12_50 (x := 331) rfl (show decode cX12_mostOf 20 = .ok (.getfield 50, 3) by decide +kernel) okl_321 rfl ?_
      refine j_iload_n (i := 3) rfl (show decode cX12_mostOf 23 = .ok (.iload_n 3, 1) by decide +kernel) ?_
      refine s_iald (show decode cX12_mostOf 24 = .ok (.iaload, 1) by decide +kernel) okl_331 h.1 ?_
      have h := h.2
      refine j_goto (tgt := 29) (show decode cX12_mostOf 25 = .ok (.goto 4, 3) by decide +kernel) (by decide) ?_
      refine s_ist_n (i := 2) (L' := [rv 321, iv p1, iv (σ 331 v3), iv v3]) rfl (by decide) (show decode cX12_mostOf 29 = .ok (.istore_n 2, 1) by decide +kernel) ?_
      refine s_iinc (i := 3) rfl (L' := [rv 321, iv p1, iv (σ 331 v3), iv (v3 + 1)]) rfl (show decode cX12_mostOf 30 = .ok (.iinc 3 1, 3) by decide +kernel) ?_
      refine j_goto (tgt := 4) (show decode cX12_mostOf 33 = .ok (.goto (-29), 3) by decide +kernel) (by decide) ?_
      exact h
set_option maxRecDepth 4000 in
theorem b_X12_mostOf_0 {d : Nat} {t : Int} {Q : Int → jM → Prop} {σ : jM} {p1 : Int} (h : Jt mX12_mostOf (d) 0 t Q 4 [rv 321, iv p1, iv 0, iv 0] [] σ) : Jt mX12_mostOf (d) 0 t Q 0 [rv 321, iv p1, uv, uv] [] σ := by
  refine j_iconst (show decode cX12_mostOf 0 = .ok (.iconst 0, 1) by decide +kernel) ?_
  refine s_ist_n (i := 2) (L' := [rv 321, iv p1, iv 0, uv]) rfl (by decide) (show decode cX12_mostOf 1 = .ok (.istore_n 2, 1) by decide +kernel) ?_
  refine j_iconst (show decode cX12_mostOf 2 = .ok (.iconst 0, 1) by decide +kernel) ?_
  refine s_ist_n (i := 3) (L' := [rv 321, iv p1, iv 0, iv 0]) rfl (by decide) (show decode cX12_mostOf 3 = .ok (.istore_n 3, 1) by decide +kernel) ?_
  exact h
theorem c_X12_mostOf {d : Nat} {t : Int} {Q : Int → jM → Prop} {σ : jM} {p1 : Int} (h : Jt mX12_mostOf (d) 0 t Q 4 [rv 321, iv p1, iv 0, iv 0] [] σ) : Ct mX12_mostOf (d) 0 t [rv 321, iv p1] σ Q := Ct_of (by decide +kernel) (Nat.le_of_ble_eq_true rfl) (b_X12_mostOf_0 h)
set_option maxRecDepth 4000 in
theorem b_X12_nextSpoon_2 {d : Nat} {t : Int} {Q : Int → jM → Prop} {σ : jM} {p1 v2 : Int} (h : (inR v2) ∧ ((81 ≤ v2 → (Q v2 σ)) ∧ (v2 < 81 → (((0 : Int) ≤ ((81 * p1) + v2) ∧ ((81 * p1) + v2) < 810) ∧ ((inR (σ 337 ((81 * p1) + v2))) ∧ (((σ 337 ((81 * p1) + v2)) = 1 → (Q v2 σ)) ∧ (¬ (σ 337 ((81 * p1) + v2)) = 1 → (Jt mX12_nextSpoon (d) 0 t Q 2 [rv 321, iv p1, iv (v2 + 1)] [] σ)))))))) : Jt mX12_nextSpoon (d) 0 t Q 2 [rv 321, iv p1, iv v2] [] σ := by
  refine j_iload_n (i := 2) rfl (show decode cX12_nextSpoon 2 = .ok (.iload_n 2, 1) by decide +kernel) ?_
  refine j_bipush (n := 81) (by decide +kernel) (show decode cX12_nextSpoon 3 = .ok (.bipush 81, 2) by decide +kernel) ?_
  have hr0 := h.1
  have h := h.2
  refine j_icmp_ge (tgt := 29) hr0 (inl (by decide)) (show decode cX12_nextSpoon 5 = .ok (.if_icmp .ge 24, 3) by decide +kernel) (by decide) (fun c => ?_) (fun c => ?_)
  · have h := h.1 c
    refine j_iload_n (i := 2) rfl (show decode cX12_nextSpoon 29 = .ok (.iload_n 2, 1) by decide +kernel) ?_
    exact j_ret (rokI (show decode cX12_nextSpoon 30 = .ok (.ireturn, 1) by decide +kernel) rfl) ⟨rfl, rfl, h⟩
  · have h := h.2 c
    refine s_aload_n (i := 0) rfl (show decode cX12_nextSpoon 8 = .ok (.aload_n 0, 1) by decide +kernel) ?_
    refine gf_X12_69 (x := 337) rfl (show decode cX12_nextSpoon 9 = .ok (.getfield 69, 3) by decide +kernel) okl_321 rfl ?_
    refine j_bipush (n := 81) (by decide +kernel) (show decode cX12_nextSpoon 12 = .ok (.bipush 81, 2) by decide +kernel) ?_
    refine j_iload_n (i := 1) rfl (show decode cX12_nextSpoon 14 = .ok (.iload_n 1, 1) by decide +kernel) ?_
    refine j_imul (show decode cX12_nextSpoon 15 = .ok (.imul, 1) by decide +kernel) ?_
    refine j_iload_n (i := 2) rfl (show decode cX12_nextSpoon 16 = .ok (.iload_n 2, 1) by decide +kernel) ?_
    refine j_iadd (show decode cX12_nextSpoon 17 = .ok (.iadd, 1) by decide +kernel) ?_
    refine s_iald (show decode cX12_nextSpoon 18 = .ok (.iaload, 1) by decide +kernel) okl_337 h.1 ?_
    have h := h.2
    refine j_iconst (show decode cX12_nextSpoon 19 = .ok (.iconst 1, 1) by decide +kernel) ?_
    have hr1 := h.1
    have h := h.2
    refine j_icmp_eq (tgt := 29) hr1 (inl (by decide)) (show decode cX12_nextSpoon 20 = .ok (.if_icmp .eq 9, 3) by decide +kernel) (by decide) (fun c => ?_) (fun c => ?_)
    · have h := h.1 c
      refine j_iload_n (i := 2) rfl (show decode cX12_nextSpoon 29 = .ok (.iload_n 2, 1) by decide +kernel) ?_
      exact j_ret (rokI (show decode cX12_nextSpoon 30 = .ok (.ireturn, 1) by decide +kernel) rfl) ⟨rfl, rfl, h⟩
    · have h := h.2 c
      refine s_iinc (i := 2) rfl (L' := [rv 321, iv p1, iv (v2 + 1)]) rfl (show decode cX12_nextSpoon 23 = .ok (.iinc 2 1, 3) by decide +kernel) ?_
      refine j_goto (tgt := 2) (show decode cX12_nextSpoon 26 = .ok (.goto (-24), 3) by decide +kernel) (by decide) ?_
      exact h
set_option maxRecDepth 4000 in
theorem b_X12_nextSpoon_0 {d : Nat} {t : Int} {Q : Int → jM → Prop} {σ : jM} {p1 : Int} (h : Jt mX12_nextSpoon (d) 0 t Q 2 [rv 321, iv p1, iv 1] [] σ) : Jt mX12_nextSpoon (d) 0 t Q 0 [rv 321, iv p1, uv] [] σ := by
  refine j_iconst (show decode cX12_nextSpoon 0 = .ok (.iconst 1, 1) by decide +kernel) ?_
  refine s_ist_n (i := 2) (L' := [rv 321, iv p1, iv 1]) rfl (by decide) (show decode cX12_nextSpoon 1 = .ok (.istore_n 2, 1) by decide +kernel) ?_
  exact h
theorem c_X12_nextSpoon {d : Nat} {t : Int} {Q : Int → jM → Prop} {σ : jM} {p1 : Int} (h : Jt mX12_nextSpoon (d) 0 t Q 2 [rv 321, iv p1, iv 1] [] σ) : Ct mX12_nextSpoon (d) 0 t [rv 321, iv p1] σ Q := Ct_of (by decide +kernel) (Nat.le_of_ble_eq_true rfl) (b_X12_nextSpoon_0 h)
set_option maxRecDepth 4000 in
theorem b_X12_isSpooned_126 {d : Nat} {t : Int} {Q : Int → jM → Prop} {σ : jM} {p1 p2 v3 v4 v5 : Int} (h : (inR v5) ∧ ((81 ≤ v5 → (((0 : Int) ≤ (v3 + 1) ∧ (v3 + 1) < 44) ∧ (∀ σ3 : jM, σ3 = up σ 331 (v3 + 1) v4 → (Ct mX12_layNexts d 9 t [rv 321, iv (v3 + 1)] σ3 (fun r4 σ4 => (Jt mX12_isSpooned (d + 1) 0 t Q 44 [rv 321, iv p1, iv p2, iv (v3 + 1), uv, uv] [] σ4)))))) ∧ (v5 < 81 → (((0 : Int) ≤ ((81 * v3) + v5) ∧ ((81 * v3) + v5) < 810) ∧ (((0 : Int) ≤ ((81 * (v3 + 1)) + v5) ∧ ((81 * (v3 + 1)) + v5) < 810) ∧ (∀ σ6 : jM, σ6 = up σ 337 ((81 * (v3 + 1)) + v5) (σ 337 ((81 * v3) + v5)) → (Jt mX12_isSpooned (d + 1) 0 t Q 126 [rv 321, iv p1, iv p2, iv v3, iv v4, iv (v5 + 1)] [] σ6))))))) : Jt mX12_isSpooned (d + 1) 0 t Q 126 [rv 321, iv p1, iv p2, iv v3, iv v4, iv v5] [] σ := by
  refine j_iload (i := 5) rfl (show decode cX12_isSpooned 126 = .ok (.iload 5, 2) by decide +kernel) ?_
  refine j_bipush (n := 81) (by decide +kernel) (show decode cX12_isSpooned 128 = .ok (.bipush 81, 2) by decide +kernel) ?_
  have hr0 := h.1
  have h := h.2
  refine j_icmp_ge (tgt := 165) hr0 (inl (by decide)) (show decode cX12_isSpooned 130 = .ok (.if_icmp .ge 35, 3) by decide +kernel) (by decide) (fun c => ?_) (fun c => ?_)
  · have h := h.1 c
    refine s_iinc (i := 3) rfl (L' := [rv 321, iv p1, iv p2, iv (v3 + 1), iv v4, iv v5]) rfl (show decode cX12_isSpooned 165 = .ok (.iinc 3 1, 3) by decide +kernel) ?_
    refine s_aload_n (i := 0) rfl (show decode cX12_isSpooned 168 = .ok (.aload_n 0, 1) by decide +kernel) ?_
    refine gf_X12_50 (x := 331) rfl (show decode cX12_isSpooned 169 = .ok (.getfield 50, 3) by decide +kernel) okl_321 rfl ?_
    refine j_iload_n (i := 3) rfl (show decode cX12_isSpooned 172 = .ok (.iload_n 3, 1) by decide +kernel) ?_
    refine j_iload (i := 4) rfl (show decode cX12_isSpooned 173 = .ok (.iload 4, 2) by decide +kernel) ?_
    have hb1 := h.1
    have h := h.2
    refine s_iast (show decode cX12_isSpooned 175 = .ok (.iastore, 1) by decide +kernel) okl_331 hb1 ?_
    obtain ⟨σ3, eσ3⟩ : ∃ z : jM, z = up σ 331 (v3 + 1) v4 := ⟨_, rfl⟩
    refine j_sig eσ3 ?_
    have h := h σ3 eσ3
    refine s_aload_n (i := 0) rfl (show decode cX12_isSpooned 176 = .ok (.aload_n 0, 1) by decide +kernel) ?_
    refine j_iload_n (i := 3) rfl (show decode cX12_isSpooned 177 = .ok (.iload_n 3, 1) by decide +kernel) ?_
    refine j_ctVv (m' := mX12_layNexts) (As := [iv (v3 + 1)]) (ci := 12) (N := 0) (cw_X12_437 rfl) (show decode cX12_isSpooned 178 = .ok (.invokevirtual 437, 3) by decide +kernel) rfl (Nat.le_of_ble_eq_true rfl) okl_321 rfl rfl (Nat.le_refl _) h (fun r4 σ4 h => ?_)
    refine j_goto (tgt := 44) (show decode cX12_isSpooned 181 = .ok (.goto (-137), 3) by decide +kernel) (by decide) ?_
    refine j_drop 4 ?_
    refine j_drop 5 ?_
    exact h
  · have h := h.2 c
    refine s_aload_n (i := 0) rfl (show decode cX12_isSpooned 133 = .ok (.aload_n 0, 1) by decide +kernel) ?_
    refine gf_X12_69 (x := 337) rfl (show decode cX12_isSpooned 134 = .ok (.getfield 69, 3) by decide +kernel) okl_321 rfl ?_
    refine j_bipush (n := 81) (by decide +kernel) (show decode cX12_isSpooned 137 = .ok (.bipush 81, 2) by decide +kernel) ?_
    refine j_iload_n (i := 3) rfl (show decode cX12_isSpooned 139 = .ok (.iload_n 3, 1) by decide +kernel) ?_
    refine j_iconst (show decode cX12_isSpooned 140 = .ok (.iconst 1, 1) by decide +kernel) ?_
    refine j_iadd (show decode cX12_isSpooned 141 = .ok (.iadd, 1) by decide +kernel) ?_
    refine j_imul (show decode cX12_isSpooned 142 = .ok (.imul, 1) by decide +kernel) ?_
    refine j_iload (i := 5) rfl (show decode cX12_isSpooned 143 = .ok (.iload 5, 2) by decide +kernel) ?_
    refine j_iadd (show decode cX12_isSpooned 145 = .ok (.iadd, 1) by decide +kernel) ?_
    refine s_aload_n (i := 0) rfl (show decode cX12_isSpooned 146 = .ok (.aload_n 0, 1) by decide +kernel) ?_
    refine gf_X12_69 (x := 337) rfl (show decode cX12_isSpooned 147 = .ok (.getfield 69, 3) by decide +kernel) okl_321 rfl ?_
    refine j_bipush (n := 81) (by decide +kernel) (show decode cX12_isSpooned 150 = .ok (.bipush 81, 2) by decide +kernel) ?_
    refine j_iload_n (i := 3) rfl (show decode cX12_isSpooned 152 = .ok (.iload_n 3, 1) by decide +kernel) ?_
    refine j_imul (show decode cX12_isSpooned 153 = .ok (.imul, 1) by decide +kernel) ?_
    refine j_iload (i := 5) rfl (show decode cX12_isSpooned 154 = .ok (.iload 5, 2) by decide +kernel) ?_
    refine j_iadd (show decode cX12_isSpooned 156 = .ok (.iadd, 1) by decide +kernel) ?_
    refine s_iald (show decode cX12_isSpooned 157 = .ok (.iaload, 1) by decide +kernel) okl_337 h.1 ?_
    have h := h.2
    have hb4 := h.1
    have h := h.2
    refine s_iast (show decode cX12_isSpooned 158 = .ok (.iastore, 1) by decide +kernel) okl_337 hb4 ?_
    obtain ⟨σ6, eσ6⟩ : ∃ z : jM, z = up σ 337 ((81 * (v3 + 1)) + v5) (σ 337 ((81 * v3) + v5)) := ⟨_, rfl⟩
    refine j_sig eσ6 ?_
    have h := h σ6 eσ6
    refine s_iinc (i := 5) rfl (L' := [rv 321, iv p1, iv p2, iv v3, iv v4, iv (v5 + 1)]) rfl (show decode cX12_isSpooned 159 = .ok (.iinc 5 1, 3) by decide +kernel) ?_
    refine j_goto (tgt := 126) (show decode cX12_isSpooned 162 = .ok (.goto (-36), 3) by decide +kernel) (by decide) ?_
    exact h
set_option maxRecDepth 4000 in
theorem b_X12_isSpooned_44 {d : Nat} {t : Int} {Q : Int → jM → Prop} {σ : jM} {p1 p2 v3 : Int} (h : (inR v3) ∧ ((v3 < 0 → (Q 0 σ)) ∧ (0 ≤ v3 → (((0 : Int) ≤ ((81 * v3) + p1) ∧ ((81 * v3) + p1) < 810) ∧ ((inR (σ 337 ((81 * v3) + p1))) ∧ ((¬ (σ 337 ((81 * v3) + p1)) = 1 → ((inR (p2 - v3)) ∧ (((p2 - v3) < 2 → ((¬ (81 : Int) = 81 → (((0 : Int) ≤ ((81 * v3) + 81) ∧ ((81 * v3) + 81) < 810) ∧ (∀ σ5 : jM, σ5 = up σ 337 ((81 * v3) + 81) 2 → (Jt mX12_isSpooned (d + 1) 0 t Q 126 [rv 321, iv p1, iv p2, iv v3, iv 81, iv 0] [] σ5)))) ∧ ((81 : Int) = 81 → (Jt mX12_isSpooned (d + 1) 0 t Q 44 [rv 321, iv p1, iv p2, iv (v3 + (-1)), uv, uv] [] σ)))) ∧ (2 ≤ (p2 - v3) → (Ct mX12_mostOf d 0 t [rv 321, iv v3] σ (fun r6 σ6 => ((inR (i_shl r6 (p2 - v3))) ∧ ((inR p1) ∧ ((p1 ≤ (i_shl r6 (p2 - v3)) → (Ct mX12_nextSpoon d 0 t [rv 321, iv v3] σ6 (fun r9 σ9 => ((inR r9) ∧ ((¬ r9 = 81 → (((0 : Int) ≤ ((81 * v3) + r9) ∧ ((81 * v3) + r9) < 810) ∧ (∀ σ12 : jM, σ12 = up σ9 337 ((81 * v3) + r9) 2 → (Jt mX12_isSpooned (d + 1) 0 t Q 126 [rv 321, iv p1, iv p2, iv v3, iv r9, iv 0] [] σ12)))) ∧ (r9 = 81 → (Jt mX12_isSpooned (d + 1) 0 t Q 44 [rv 321, iv p1, iv p2, iv (v3 + (-1)), uv, uv] [] σ9))))))) ∧ ((i_shl r6 (p2 - v3)) < p1 → ((¬ (81 : Int) = 81 → (((0 : Int) ≤ ((81 * v3) + 81) ∧ ((81 * v3) + 81) < 810) ∧ (∀ σ14 : jM, σ14 = up σ6 337 ((81 * v3) + 81) 2 → (Jt mX12_isSpooned (d + 1) 0 t Q 126 [rv 321, iv p1, iv p2, iv v3, iv 81, iv 0] [] σ14)))) ∧ ((81 : Int) = 81 → (Jt mX12_isSpooned (d + 1) 0 t Q 44 [rv 321, iv p1, iv p2, iv (v3 + (-1)), uv, uv] [] σ6))))))))))))) ∧ ((σ 337 ((81 * v3) + p1)) = 1 → (Q 1 σ)))))))) : Jt mX12_isSpooned (d + 1) 0 t Q 44 [rv 321, iv p1, iv p2, iv v3, uv, uv] [] σ := by
  refine j_iload_n (i := 3) rfl (show decode cX12_isSpooned 44 = .ok (.iload_n 3, 1) by decide +kernel) ?_
  have hr0 := h.1
  have h := h.2
  refine j_if_lt (tgt := 184) hr0 (show decode cX12_isSpooned 45 = .ok (.ifCond .lt 139, 3) by decide +kernel) (by decide) (fun c => ?_) (fun c => ?_)
  · have h := h.1 c
    refine j_iconst (show decode cX12_isSpooned 184 = .ok (.iconst 0, 1) by decide +kernel) ?_
    exact j_ret (rokZ (show decode cX12_isSpooned 185 = .ok (.ireturn, 1) by decide +kernel) rfl (Or.inl rfl)) ⟨rfl, rfl, h⟩
  · have h := h.2 c
    refine s_aload_n (i := 0) rfl (show decode cX12_isSpooned 48 = .ok (.aload_n 0, 1) by decide +kernel) ?_
    refine gf_X12_69 (x := 337) rfl (show decode cX12_isSpooned 49 = .ok (.getfield 69, 3) by decide +kernel) okl_321 rfl ?_
    refine j_bipush (n := 81) (by decide +kernel) (show decode cX12_isSpooned 52 = .ok (.bipush 81, 2) by decide +kernel) ?_
    refine j_iload_n (i := 3) rfl (show decode cX12_isSpooned 54 = .ok (.iload_n 3, 1) by decide +kernel) ?_
    refine j_imul (show decode cX12_isSpooned 55 = .ok (.imul, 1) by decide +kernel) ?_
    refine j_iload_n (i := 1) rfl (show decode cX12_isSpooned 56 = .ok (.iload_n 1, 1) by decide +kernel) ?_
    refine j_iadd (show decode cX12_isSpooned 57 = .ok (.iadd, 1) by decide +kernel) ?_
    refine s_iald (show decode cX12_isSpooned 58 = .ok (.iaload, 1) by decide +kernel) okl_337 h.1 ?_
    have h := h.2
    refine j_iconst (show decode cX12_isSpooned 59 = .ok (.iconst 1, 1) by decide +kernel) ?_
    have hr1 := h.1
    have h := h.2
    refine j_icmp_ne (tgt := 65) hr1 (inl (by decide)) (show decode cX12_isSpooned 60 = .ok (.if_icmp .ne 5, 3) by decide +kernel) (by decide) (fun c => ?_) (fun c => ?_)
    · have h := h.1 c
      refine j_iload_n (i := 2) rfl (show decode cX12_isSpooned 65 = .ok (.iload_n 2, 1) by decide +kernel) ?_
      refine j_iload_n (i := 3) rfl (show decode cX12_isSpooned 66 = .ok (.iload_n 3, 1) by decide +kernel) ?_
      refine j_isub (show decode cX12_isSpooned 67 = .ok (.isub, 1) by decide +kernel) ?_
      refine j_iconst (show decode cX12_isSpooned 68 = .ok (.iconst 2, 1) by decide +kernel) ?_
      have hr2 := h.1
      have h := h.2
      refine j_icmp_lt (tgt := 85) hr2 (inl (by decide)) (show decode cX12_isSpooned 69 = .ok (.if_icmp .lt 16, 3) by decide +kernel) (by decide) (fun c => ?_) (fun c => ?_)
      · have h := h.1 c
        refine j_bipush (n := 81) (by decide +kernel) (show decode cX12_isSpooned 85 = .ok (.bipush 81, 2) by decide +kernel) ?_
        refine j_goto (tgt := 95) (show decode cX12_isSpooned 87 = .ok (.goto 8, 3) by decide +kernel) (by decide) ?_
        refine s_ist (i := 4) (L' := [rv 321, iv p1, iv p2, iv v3, iv 81, uv]) rfl (by decide) (show decode cX12_isSpooned 95 = .ok (.istore 4, 2) by decide +kernel) ?_
        refine j_iload (i := 4) rfl (show decode cX12_isSpooned 97 = .ok (.iload 4, 2) by decide +kernel) ?_
        refine j_bipush (n := 81) (by decide +kernel) (show decode cX12_isSpooned 99 = .ok (.bipush 81, 2) by decide +kernel) ?_
        refine j_icmp_ne (tgt := 110) (inl (by decide)) (inl (by decide)) (show decode cX12_isSpooned 101 = .ok (.if_icmp .ne 9, 3) by decide +kernel) (by decide) (fun c => ?_) (fun c => ?_)
        · have h := h.1 c
          refine s_aload_n (i := 0) rfl (show decode cX12_isSpooned 110 = .ok (.aload_n 0, 1) by decide +kernel) ?_
          refine gf_X12_69 (x := 337) rfl (show decode cX12_isSpooned 111 = .ok (.getfield 69, 3) by decide +kernel) okl_321 rfl ?_
          refine j_bipush (n := 81) (by decide +kernel) (show decode cX12_isSpooned 114 = .ok (.bipush 81, 2) by decide +kernel) ?_
          refine j_iload_n (i := 3) rfl (show decode cX12_isSpooned 116 = .ok (.iload_n 3, 1) by decide +kernel) ?_
          refine j_imul (show decode cX12_isSpooned 117 = .ok (.imul, 1) by decide +kernel) ?_
          refine j_iload (i := 4) rfl (show decode cX12_isSpooned 118 = .ok (.iload 4, 2) by decide +kernel) ?_
          refine j_iadd (show decode cX12_isSpooned 120 = .ok (.iadd, 1) by decide +kernel) ?_
          refine j_iconst (show decode cX12_isSpooned 121 = .ok (.iconst 2, 1) by decide +kernel) ?_
          have hb3 := h.1
          have h := h.2
          refine s_iast (show decode cX12_isSpooned 122 = .ok (.iastore, 1) by decide +kernel) okl_337 hb3 ?_
          obtain ⟨σ5, eσ5⟩ : ∃ z : jM, z = up σ 337 ((81 * v3) + 81) 2 := ⟨_, rfl⟩
          refine j_sig eσ5 ?_
          have h := h σ5 eσ5
          refine j_iconst (show decode cX12_isSpooned 123 = .ok (.iconst 0, 1) by decide +kernel) ?_
          refine s_ist (i := 5) (L' := [rv 321, iv p1, iv p2, iv v3, iv 81, iv 0]) rfl (by decide) (show decode cX12_isSpooned 124 = .ok (.istore 5, 2) by decide +kernel) ?_
          exact h
        · have h := h.2 c
          refine s_iinc (i := 3) rfl (L' := [rv 321, iv p1, iv p2, iv (v3 + (-1)), iv 81, uv]) rfl (show decode cX12_isSpooned 104 = .ok (.iinc 3 (-1), 3) by decide +kernel) ?_
          refine j_goto (tgt := 44) (show decode cX12_isSpooned 107 = .ok (.goto (-63), 3) by decide +kernel) (by decide) ?_
          refine j_drop 4 ?_
          exact h
      · have h := h.2 c
        refine s_aload_n (i := 0) rfl (show decode cX12_isSpooned 72 = .ok (.aload_n 0, 1) by decide +kernel) ?_
        refine j_iload_n (i := 3) rfl (show decode cX12_isSpooned 73 = .ok (.iload_n 3, 1) by decide +kernel) ?_
        refine j_ctV (m' := mX12_mostOf) (As := [iv v3]) (ci := 12) (tag := 0) (N := 0) (cw_X12_440 rfl) (show decode cX12_isSpooned 74 = .ok (.invokevirtual 440, 3) by decide +kernel) rfl (Nat.le_of_ble_eq_true rfl) (by decide) okl_321 rfl rfl (Nat.le_refl _) h (fun r6 σ6 h => ?_)
        refine j_iload_n (i := 2) rfl (show decode cX12_isSpooned 77 = .ok (.iload_n 2, 1) by decide +kernel) ?_
        refine j_iload_n (i := 3) rfl (show decode cX12_isSpooned 78 = .ok (.iload_n 3, 1) by decide +kernel) ?_
        refine j_isub (show decode cX12_isSpooned 79 = .ok (.isub, 1) by decide +kernel) ?_
        refine j_ishl (show decode cX12_isSpooned 80 = .ok (.ishl, 1) by decide +kernel) ?_
        refine j_iload_n (i := 1) rfl (show decode cX12_isSpooned 81 = .ok (.iload_n 1, 1) by decide +kernel) ?_
        have hr6 := h.1
        have h := h.2
        have hr7 := h.1
        have h := h.2
        refine j_icmp_ge (tgt := 90) hr6 hr7 (show decode cX12_isSpooned 82 = .ok (.if_icmp .ge 8, 3) by decide +kernel) (by decide) (fun c => ?_) (fun c => ?_)
        · have h := h.1 c
          refine s_aload_n (i := 0) rfl (show decode cX12_isSpooned 90 = .ok (.aload_n 0, 1) by decide +kernel) ?_
          refine j_iload_n (i := 3) rfl (show decode cX12_isSpooned 91 = .ok (.iload_n 3, 1) by decide +kernel) ?_
          refine j_ctV (m' := mX12_nextSpoon) (As := [iv v3]) (ci := 12) (tag := 0) (N := 0) (cw_X12_443 rfl) (show decode cX12_isSpooned 92 = .ok (.invokevirtual 443, 3) by decide +kernel) rfl (Nat.le_of_ble_eq_true rfl) (by decide) okl_321 rfl rfl (Nat.le_refl _) h (fun r9 σ9 h => ?_)
          refine s_ist (i := 4) (L' := [rv 321, iv p1, iv p2, iv v3, iv r9, uv]) rfl (by decide) (show decode cX12_isSpooned 95 = .ok (.istore 4, 2) by decide +kernel) ?_
          refine j_iload (i := 4) rfl (show decode cX12_isSpooned 97 = .ok (.iload 4, 2) by decide +kernel) ?_
          refine j_bipush (n := 81) (by decide +kernel) (show decode cX12_isSpooned 99 = .ok (.bipush 81, 2) by decide +kernel) ?_
          have hr9 := h.1
          have h := h.2
          refine j_icmp_ne (tgt := 110) hr9 (inl (by decide)) (show decode cX12_isSpooned 101 = .ok (.if_icmp .ne 9, 3) by decide +kernel) (by decide) (fun c => ?_) (fun c => ?_)
          · have h := h.1 c
            refine s_aload_n (i := 0) rfl (show decode cX12_isSpooned 110 = .ok (.aload_n 0, 1) by decide +kernel) ?_
            refine gf_X12_69 (x := 337) rfl (show decode cX12_isSpooned 111 = .ok (.getfield 69, 3) by decide +kernel) okl_321 rfl ?_
            refine j_bipush (n := 81) (by decide +kernel) (show decode cX12_isSpooned 114 = .ok (.bipush 81, 2) by decide +kernel) ?_
            refine j_iload_n (i := 3) rfl (show decode cX12_isSpooned 116 = .ok (.iload_n 3, 1) by decide +kernel) ?_
            refine j_imul (show decode cX12_isSpooned 117 = .ok (.imul, 1) by decide +kernel) ?_
            refine j_iload (i := 4) rfl (show decode cX12_isSpooned 118 = .ok (.iload 4, 2) by decide +kernel) ?_
            refine j_iadd (show decode cX12_isSpooned 120 = .ok (.iadd, 1) by decide +kernel) ?_
            refine j_iconst (show decode cX12_isSpooned 121 = .ok (.iconst 2, 1) by decide +kernel) ?_
            have hb10 := h.1
            have h := h.2
            refine s_iast (show decode cX12_isSpooned 122 = .ok (.iastore, 1) by decide +kernel) okl_337 hb10 ?_
            obtain ⟨σ12, eσ12⟩ : ∃ z : jM, z = up σ9 337 ((81 * v3) + r9) 2 := ⟨_, rfl⟩
            refine j_sig eσ12 ?_
            have h := h σ12 eσ12
            refine j_iconst (show decode cX12_isSpooned 123 = .ok (.iconst 0, 1) by decide +kernel) ?_
            refine s_ist (i := 5) (L' := [rv 321, iv p1, iv p2, iv v3, iv r9, iv 0]) rfl (by decide) (show decode cX12_isSpooned 124 = .ok (.istore 5, 2) by decide +kernel) ?_
            exact h
          · have h := h.2 c
            refine s_iinc (i := 3) rfl (L' := [rv 321, iv p1, iv p2, iv (v3 + (-1)), iv r9, uv]) rfl (show decode cX12_isSpooned 104 = .ok (.iinc 3 (-1), 3) by decide +kernel) ?_
            refine j_goto (tgt := 44) (show decode cX12_isSpooned 107 = .ok (.goto (-63), 3) by decide +kernel) (by decide) ?_
            refine j_drop 4 ?_
            exact h
        · have h := h.2 c
          refine j_bipush (n := 81) (by decide +kernel) (show decode cX12_isSpooned 85 = .ok (.bipush 81, 2) by decide +kernel) ?_
          refine j_goto (tgt := 95) (show decode cX12_isSpooned 87 = .ok (.goto 8, 3) by decide +kernel) (by decide) ?_
          refine s_ist (i := 4) (L' := [rv 321, iv p1, iv p2, iv v3, iv 81, uv]) rfl (by decide) (show decode cX12_isSpooned 95 = .ok (.istore 4, 2) by decide +kernel) ?_
          refine j_iload (i := 4) rfl (show decode cX12_isSpooned 97 = .ok (.iload 4, 2) by decide +kernel) ?_
          refine j_bipush (n := 81) (by decide +kernel) (show decode cX12_isSpooned 99 = .ok (.bipush 81, 2) by decide +kernel) ?_
          refine j_icmp_ne (tgt := 110) (inl (by decide)) (inl (by decide)) (show decode cX12_isSpooned 101 = .ok (.if_icmp .ne 9, 3) by decide +kernel) (by decide) (fun c => ?_) (fun c => ?_)
          · have h := h.1 c
            refine s_aload_n (i := 0) rfl (show decode cX12_isSpooned 110 = .ok (.aload_n 0, 1) by decide +kernel) ?_
            refine gf_X12_69 (x := 337) rfl (show decode cX12_isSpooned 111 = .ok (.getfield 69, 3) by decide +kernel) okl_321 rfl ?_
            refine j_bipush (n := 81) (by decide +kernel) (show decode cX12_isSpooned 114 = .ok (.bipush 81, 2) by decide +kernel) ?_
            refine j_iload_n (i := 3) rfl (show decode cX12_isSpooned 116 = .ok (.iload_n 3, 1) by decide +kernel) ?_
            refine j_imul (show decode cX12_isSpooned 117 = .ok (.imul, 1) by decide +kernel) ?_
            refine j_iload (i := 4) rfl (show decode cX12_isSpooned 118 = .ok (.iload 4, 2) by decide +kernel) ?_
            refine j_iadd (show decode cX12_isSpooned 120 = .ok (.iadd, 1) by decide +kernel) ?_
            refine j_iconst (show decode cX12_isSpooned 121 = .ok (.iconst 2, 1) by decide +kernel) ?_
            have hb12 := h.1
            have h := h.2
            refine s_iast (show decode cX12_isSpooned 122 = .ok (.iastore, 1) by decide +kernel) okl_337 hb12 ?_
            obtain ⟨σ14, eσ14⟩ : ∃ z : jM, z = up σ6 337 ((81 * v3) + 81) 2 := ⟨_, rfl⟩
            refine j_sig eσ14 ?_
            have h := h σ14 eσ14
            refine j_iconst (show decode cX12_isSpooned 123 = .ok (.iconst 0, 1) by decide +kernel) ?_
            refine s_ist (i := 5) (L' := [rv 321, iv p1, iv p2, iv v3, iv 81, iv 0]) rfl (by decide) (show decode cX12_isSpooned 124 = .ok (.istore 5, 2) by decide +kernel) ?_
            exact h
          · have h := h.2 c
            refine s_iinc (i := 3) rfl (L' := [rv 321, iv p1, iv p2, iv (v3 + (-1)), iv 81, uv]) rfl (show decode cX12_isSpooned 104 = .ok (.iinc 3 (-1), 3) by decide +kernel) ?_
            refine j_goto (tgt := 44) (show decode cX12_isSpooned 107 = .ok (.goto (-63), 3) by decide +kernel) (by decide) ?_
            refine j_drop 4 ?_
            exact h
    · have h := h.2 c
      refine j_iconst (show decode cX12_isSpooned 63 = .ok (.iconst 1, 1) by decide +kernel) ?_
      exact j_ret (rokZ (show decode cX12_isSpooned 64 = .ok (.ireturn, 1) by decide +kernel) rfl (Or.inr rfl)) ⟨rfl, rfl, h⟩
set_option maxRecDepth 4000 in
theorem b_X12_isSpooned_2 {d : Nat} {t : Int} {Q : Int → jM → Prop} {σ : jM} {p1 p2 v3 : Int} (h : (inR v3) ∧ ((81 ≤ v3 → (((0 : Int) ≤ 0 ∧ (0 : Int) < 44) ∧ (∀ σ3 : jM, σ3 = up σ 331 0 1 → (Ct mX12_layNexts d 9 t [rv 321, iv 0] σ3 (fun r4 σ4 => (Jt mX12_isSpooned (d + 1) 0 t Q 44 [rv 321, iv p1, iv p2, iv 0, uv, uv] [] σ4)))))) ∧ (v3 < 81 → ((inR v3) ∧ ((¬ v3 = 1 → (((0 : Int) ≤ v3 ∧ v3 < 810) ∧ (∀ σ7 : jM, σ7 = up σ 337 v3 0 → (Jt mX12_isSpooned (d + 1) 0 t Q 2 [rv 321, iv p1, iv p2, iv (v3 + 1), uv, uv] [] σ7)))) ∧ (v3 = 1 → (((0 : Int) ≤ v3 ∧ v3 < 810) ∧ (∀ σ9 : jM, σ9 = up σ 337 v3 2 → (Jt mX12_isSpooned (d + 1) 0 t Q 2 [rv 321, iv p1, iv p2, iv (v3 + 1), uv, uv] [] σ9))))))))) : Jt mX12_isSpooned (d + 1) 0 t Q 2 [rv 321, iv p1, iv p2, iv v3, uv, uv] [] σ := by
  refine j_iload_n (i := 3) rfl (show decode cX12_isSpooned 2 = .ok (.iload_n 3, 1) by decide +kernel) ?_
  refine j_bipush (n := 81) (by decide +kernel) (show decode cX12_isSpooned 3 = .ok (.bipush 81, 2) by decide +kernel) ?_
  have hr0 := h.1
  have h := h.2
  refine j_icmp_ge (tgt := 30) hr0 (inl (by decide)) (show decode cX12_isSpooned 5 = .ok (.if_icmp .ge 25, 3) by decide +kernel) (by decide) (fun c => ?_) (fun c => ?_)
  · have h := h.1 c
    refine s_aload_n (i := 0) rfl (show decode cX12_isSpooned 30 = .ok (.aload_n 0, 1) by decide +kernel) ?_
    refine gf_X12_50 (x := 331) rfl (show decode cX12_isSpooned 31 = .ok (.getfield 50, 3) by decide +kernel) okl_321 rfl ?_
    refine j_iconst (show decode cX12_isSpooned 34 = .ok (.iconst 0, 1) by decide +kernel) ?_
    refine j_iconst (show decode cX12_isSpooned 35 = .ok (.iconst 1, 1) by decide +kernel) ?_
    have hb1 := h.1
    have h := h.2
    refine s_iast (show decode cX12_isSpooned 36 = .ok (.iastore, 1) by decide +kernel) okl_331 hb1 ?_
    obtain ⟨σ3, eσ3⟩ : ∃ z : jM, z = up σ 331 0 1 := ⟨_, rfl⟩
    refine j_sig eσ3 ?_
    have h := h σ3 eσ3
    refine s_aload_n (i := 0) rfl (show decode cX12_isSpooned 37 = .ok (.aload_n 0, 1) by decide +kernel) ?_
    refine j_iconst (show decode cX12_isSpooned 38 = .ok (.iconst 0, 1) by decide +kernel) ?_
    refine j_ctVv (m' := mX12_layNexts) (As := [iv 0]) (ci := 12) (N := 0) (cw_X12_437 rfl) (show decode cX12_isSpooned 39 = .ok (.invokevirtual 437, 3) by decide +kernel) rfl (Nat.le_of_ble_eq_true rfl) okl_321 rfl rfl (Nat.le_refl _) h (fun r4 σ4 h => ?_)
    refine j_iconst (show decode cX12_isSpooned 42 = .ok (.iconst 0, 1) by decide +kernel) ?_
    refine s_ist_n (i := 3) (L' := [rv 321, iv p1, iv p2, iv 0, uv, uv]) rfl (by decide) (show decode cX12_isSpooned 43 = .ok (.istore_n 3, 1) by decide +kernel) ?_
    exact h
  · have h := h.2 c
    refine s_aload_n (i := 0) rfl (show decode cX12_isSpooned 8 = .ok (.aload_n 0, 1) by decide +kernel) ?_
    refine gf_X12_69 (x := 337) rfl (show decode cX12_isSpooned 9 = .ok (.getfield 69, 3) by decide +kernel) okl_321 rfl ?_
    refine j_iload_n (i := 3) rfl (show decode cX12_isSpooned 12 = .ok (.iload_n 3, 1) by decide +kernel) ?_
    refine j_iload_n (i := 3) rfl (show decode cX12_isSpooned 13 = .ok (.iload_n 3, 1) by decide +kernel) ?_
    refine j_iconst (show decode cX12_isSpooned 14 = .ok (.iconst 1, 1) by decide +kernel) ?_
    have hr4 := h.1
    have h := h.2
    refine j_icmp_ne (tgt := 22) hr4 (inl (by decide)) (show decode cX12_isSpooned 15 = .ok (.if_icmp .ne 7, 3) by decide +kernel) (by decide) (fun c => ?_) (fun c => ?_)
    · have h := h.1 c
      refine j_iconst (show decode cX12_isSpooned 22 = .ok (.iconst 0, 1) by decide +kernel) ?_
      have hb5 := h.1
      have h := h.2
      refine s_iast (show decode cX12_isSpooned 23 = .ok (.iastore, 1) by decide +kernel) okl_337 hb5 ?_
      obtain ⟨σ7, eσ7⟩ : ∃ z : jM, z = up σ 337 v3 0 := ⟨_, rfl⟩
      refine j_sig eσ7 ?_
      have h := h σ7 eσ7
      refine s_iinc (i := 3) rfl (L' := [rv 321, iv p1, iv p2, iv (v3 + 1), uv, uv]) rfl (show decode cX12_isSpooned 24 = .ok (.iinc 3 1, 3) by decide +kernel) ?_
      refine j_goto (tgt := 2) (show decode cX12_isSpooned 27 = .ok (.goto (-25), 3) by decide +kernel) (by decide) ?_
      exact h
    · have h := h.2 c
      refine j_iconst (show decode cX12_isSpooned 18 = .ok (.iconst 2, 1) by decide +kernel) ?_
      refine j_goto (tgt := 23) (show decode cX12_isSpooned 19 = .ok (.goto 4, 3) by decide +kernel) (by decide) ?_
      have hb7 := h.1
      have h := h.2
      refine s_iast (show decode cX12_isSpooned 23 = .ok (.iastore, 1) by decide +kernel) okl_337 hb7 ?_
      obtain ⟨σ9, eσ9⟩ : ∃ z : jM, z = up σ 337 v3 2 := ⟨_, rfl⟩
      refine j_sig eσ9 ?_
      have h := h σ9 eσ9
      refine s_iinc (i := 3) rfl (L' := [rv 321, iv p1, iv p2, iv (v3 + 1), uv, uv]) rfl (show decode cX12_isSpooned 24 = .ok (.iinc 3 1, 3) by decide +kernel) ?_
      refine j_goto (tgt := 2) (show decode cX12_isSpooned 27 = .ok (.goto (-25), 3) by decide +kernel) (by decide) ?_
      exact h
set_option maxRecDepth 4000 in
theorem b_X12_isSpooned_0 {d : Nat} {t : Int} {Q : Int → jM → Prop} {σ : jM} {p1 p2 : Int} (h : Jt mX12_isSpooned (d + 1) 0 t Q 2 [rv 321, iv p1, iv p2, iv 0, uv, uv] [] σ) : Jt mX12_isSpooned (d + 1) 0 t Q 0 [rv 321, iv p1, iv p2, uv, uv, uv] [] σ := by
  refine j_iconst (show decode cX12_isSpooned 0 = .ok (.iconst 0, 1) by decide +kernel) ?_
  refine s_ist_n (i := 3) (L' := [rv 321, iv p1, iv p2, iv 0, uv, uv]) rfl (by decide) (show decode cX12_isSpooned 1 = .ok (.istore_n 3, 1) by decide +kernel) ?_
  exact h
theorem c_X12_isSpooned {d : Nat} {t : Int} {Q : Int → jM → Prop} {σ : jM} {p1 p2 : Int} (h : Jt mX12_isSpooned (d + 1) 0 t Q 2 [rv 321, iv p1, iv p2, iv 0, uv, uv] [] σ) : Ct mX12_isSpooned (d + 1) 0 t [rv 321, iv p1, iv p2] σ Q := Ct_of (by decide +kernel) (Nat.le_of_ble_eq_true rfl) (b_X12_isSpooned_0 h)
set_option maxRecDepth 4000 in
theorem b_X12_spoons_39 {d : Nat} {t : Int} {Q : Int → jM → Prop} {σ : jM} {p1 v2 : Int} (h : ((0 : Int) ≤ p1 ∧ p1 < 41) ∧ ((inR (σ 338 p1)) ∧ ((¬ (σ 338 p1) = 0 → (((0 : Int) ≤ p1 ∧ p1 < 41) ∧ (∀ σ3 : jM, σ3 = up σ 338 p1 v2 → (Q v2 σ3)))) ∧ ((σ 338 p1) = 0 → (Ct mX12_isSpooned d 0 t [rv 321, iv p1, iv v2] σ (fun r4 σ4 => ((inR r4) ∧ ((¬ r4 = 0 → (((0 : Int) ≤ p1 ∧ p1 < 41) ∧ (∀ σ7 : jM, σ7 = up σ4 338 p1 v2 → (Q v2 σ7)))) ∧ (r4 = 0 → (Jt mX12_spoons (d + 1) 0 t Q 39 [rv 321, iv p1, iv (v2 + 1)] [] σ4)))))))))) : Jt mX12_spoons (d + 1) 0 t Q 39 [rv 321, iv p1, iv v2] [] σ := by
  refine s_aload_n (i := 0) rfl (show decode cX12_spoons 39 = .ok (.aload_n 0, 1) by decide +kernel) ?_
  refine gf_X12_72 (x := 338) rfl (show decode cX12_spoons 40 = .ok (.getfield 72, 3) by decide +kernel) okl_321 rfl ?_
  refine j_iload_n (i := 1) rfl (show decode cX12_spoons 43 = .ok (.iload_n 1, 1) by decide +kernel) ?_
  refine s_iald (show decode cX12_spoons 44 = .ok (.iaload, 1) by decide +kernel) okl_338 h.1 ?_
  have h := h.2
  have hr0 := h.1
  have h := h.2
  refine j_if_ne (tgt := 63) hr0 (show decode cX12_spoons 45 = .ok (.ifCond .ne 18, 3) by decide +kernel) (by decide) (fun c => ?_) (fun c => ?_)
  · have h := h.1 c
    refine s_aload_n (i := 0) rfl (show decode cX12_spoons 63 = .ok (.aload_n 0, 1) by decide +kernel) ?_
    refine gf_X12_72 (x := 338) rfl (show decode cX12_spoons 64 = .ok (.getfield 72, 3) by decide +kernel) okl_321 rfl ?_
    refine j_iload_n (i := 1) rfl (show decode cX12_spoons 67 = .ok (.iload_n 1, 1) by decide +kernel) ?_
    refine j_iload_n (i := 2) rfl (show decode cX12_spoons 68 = .ok (.iload_n 2, 1) by decide +kernel) ?_
    have hb1 := h.1
    have h := h.2
    refine s_iast (show decode cX12_spoons 69 = .ok (.iastore, 1) by decide +kernel) okl_338 hb1 ?_
    obtain ⟨σ3, eσ3⟩ : ∃ z : jM, z = up σ 338 p1 v2 := ⟨_, rfl⟩
    refine j_sig eσ3 ?_
    have h := h σ3 eσ3
    refine j_iload_n (i := 2) rfl (show decode cX12_spoons 70 = .ok (.iload_n 2, 1) by decide +kernel) ?_
    exact j_ret (rokI (show decode cX12_spoons 71 = .ok (.ireturn, 1) by decide +kernel) rfl) ⟨rfl, rfl, h⟩
  · have h := h.2 c
    refine s_aload_n (i := 0) rfl (show decode cX12_spoons 48 = .ok (.aload_n 0, 1) by decide +kernel) ?_
    refine j_iload_n (i := 1) rfl (show decode cX12_spoons 49 = .ok (.iload_n 1, 1) by decide +kernel) ?_
    refine j_iload_n (i := 2) rfl (show decode cX12_spoons 50 = .ok (.iload_n 2, 1) by decide +kernel) ?_
    refine j_ctV (m' := mX12_isSpooned) (As := [iv p1, iv v2]) (ci := 12) (tag := 0) (N := 0) (cw_X12_446 rfl) (show decode cX12_spoons 51 = .ok (.invokevirtual 446, 3) by decide +kernel) rfl (Nat.le_of_ble_eq_true rfl) (by decide) okl_321 rfl rfl (Nat.le_refl _) h (fun r4 σ4 h => ?_)
    have hr4 := h.1
    have h := h.2
    refine j_if_ne (tgt := 63) hr4 (show decode cX12_spoons 54 = .ok (.ifCond .ne 9, 3) by decide +kernel) (by decide) (fun c => ?_) (fun c => ?_)
    · have h := h.1 c
      refine s_aload_n (i := 0) rfl (show decode cX12_spoons 63 = .ok (.aload_n 0, 1) by decide +kernel) ?_
      refine gf_X12_72 (x := 338) rfl (show decode cX12_spoons 64 = .ok (.getfield 72, 3) by decide +kernel) okl_321 rfl ?_
      refine j_iload_n (i := 1) rfl (show decode cX12_spoons 67 = .ok (.iload_n 1, 1) by decide +kernel) ?_
      refine j_iload_n (i := 2) rfl (show decode cX12_spoons 68 = .ok (.iload_n 2, 1) by decide +kernel) ?_
      have hb5 := h.1
      have h := h.2
      refine s_iast (show decode cX12_spoons 69 = .ok (.iastore, 1) by decide +kernel) okl_338 hb5 ?_
      obtain ⟨σ7, eσ7⟩ : ∃ z : jM, z = up σ4 338 p1 v2 := ⟨_, rfl⟩
      refine j_sig eσ7 ?_
      have h := h σ7 eσ7
      refine j_iload_n (i := 2) rfl (show decode cX12_spoons 70 = .ok (.iload_n 2, 1) by decide +kernel) ?_
      exact j_ret (rokI (show decode cX12_spoons 71 = .ok (.ireturn, 1) by decide +kernel) rfl) ⟨rfl, rfl, h⟩
    · have h := h.2 c
      refine s_iinc (i := 2) rfl (L' := [rv 321, iv p1, iv (v2 + 1)]) rfl (show decode cX12_spoons 57 = .ok (.iinc 2 1, 3) by decide +kernel) ?_
      refine j_goto (tgt := 39) (show decode cX12_spoons 60 = .ok (.goto (-21), 3) by decide +kernel) (by decide) ?_
      exact h
set_option maxRecDepth 4000 in
theorem b_X12_spoons_0 {d : Nat} {t : Int} {Q : Int → jM → Prop} {σ : jM} {p1 : Int} (h : Ct mX12_isIn d 0 t [iv p1, iv 1, iv 40] σ (fun r1 σ1 => ((inR r1) ∧ ((¬ r1 = 0 → ((inR p1) ∧ ((¬ p1 = 1 → (((0 : Int) ≤ p1 ∧ p1 < 41) ∧ ((inR (σ1 338 p1)) ∧ ((¬ (σ1 338 p1) = 0 → (((0 : Int) ≤ p1 ∧ p1 < 41) ∧ (Jt mX12_spoons (d + 1) 0 t Q 39 [rv 321, iv p1, iv (σ1 338 p1)] [] σ1))) ∧ ((σ1 338 p1) = 0 → (Jt mX12_spoons (d + 1) 0 t Q 39 [rv 321, iv p1, iv 1] [] σ1)))))) ∧ (p1 = 1 → (Q 0 σ1))))) ∧ (r1 = 0 → (Q (-1) σ1)))))) : Jt mX12_spoons (d + 1) 0 t Q 0 [rv 321, iv p1, uv] [] σ := by
  refine j_iload_n (i := 1) rfl (show decode cX12_spoons 0 = .ok (.iload_n 1, 1) by decide +kernel) ?_
  refine j_iconst (show decode cX12_spoons 1 = .ok (.iconst 1, 1) by decide +kernel) ?_
  refine j_bipush (n := 40) (by decide +kernel) (show decode cX12_spoons 2 = .ok (.bipush 40, 2) by decide +kernel) ?_
  refine j_ctS (m' := mX12_isIn) (As := [iv p1, iv 1, iv 40]) (tag := 0) (cw_X12_85 rfl) (show decode cX12_spoons 4 = .ok (.invokestatic 85, 3) by decide +kernel) rfl (Nat.le_of_ble_eq_true rfl) (by decide) (Nat.le_refl _) h (fun r1 σ1 h => ?_)
  have hr1 := h.1
  have h := h.2
  refine j_if_ne (tgt := 12) hr1 (show decode cX12_spoons 7 = .ok (.ifCond .ne 5, 3) by decide +kernel) (by decide) (fun c => ?_) (fun c => ?_)
  · have h := h.1 c
    refine j_iload_n (i := 1) rfl (show decode cX12_spoons 12 = .ok (.iload_n 1, 1) by decide +kernel) ?_
    refine j_iconst (show decode cX12_spoons 13 = .ok (.iconst 1, 1) by decide +kernel) ?_
    have hr2 := h.1
    have h := h.2
    refine j_icmp_ne (tgt := 19) hr2 (inl (by decide)) (show decode cX12_spoons 14 = .ok (.if_icmp .ne 5, 3) by decide +kernel) (by decide) (fun c => ?_) (fun c => ?_)
    · have h := h.1 c
      refine s_aload_n (i := 0) rfl (show decode cX12_spoons 19 = .ok (.aload_n 0, 1) by decide +kernel) ?_
      refine gf_X12_72 (x := 338) rfl (show decode cX12_spoons 20 = .ok (.getfield 72, 3) by decide +kernel) okl_321 rfl ?_
      refine j_iload_n (i := 1) rfl (show decode cX12_spoons 23 = .ok (.iload_n 1, 1) by decide +kernel) ?_
      refine s_iald (show decode cX12_spoons 24 = .ok (.iaload, 1) by decide +kernel) okl_338 h.1 ?_
      have h := h.2
      have hr3 := h.1
      have h := h.2
      refine j_if_ne (tgt := 32) hr3 (show decode cX12_spoons 25 = .ok (.ifCond .ne 7, 3) by decide +kernel) (by decide) (fun c => ?_) (fun c => ?_)
      · have h := h.1 c
        refine s_aload_n (i := 0) rfl (show decode cX12_spoons 32 = .ok (.aload_n 0, 1) by decide +kernel) ?_
        refine gf_X12_72 (x := 338) rfl (show decode cX12_spoons 33 = .ok (.getfield 72, 3) by decide +kernel) okl_321 rfl ?_
        refine j_iload_n (i := 1) rfl (show decode cX12_spoons 36 = .ok (.iload_n 1, 1) by decide +kernel) ?_
        refine s_iald (show decode cX12_spoons 37 = .ok (.iaload, 1) by decide +kernel) okl_338 h.1 ?_
        have h := h.2
        refine s_ist_n (i := 2) (L' := [rv 321, iv p1, iv (σ1 338 p1)]) rfl (by decide) (show decode cX12_spoons 38 = .ok (.istore_n 2, 1) by decide +kernel) ?_
        exact h
      · have h := h.2 c
        refine j_iconst (show decode cX12_spoons 28 = .ok (.iconst 1, 1) by decide +kernel) ?_
        refine j_goto (tgt := 38) (show decode cX12_spoons 29 = .ok (.goto 9, 3) by decide +kernel) (by decide) ?_
        refine s_ist_n (i := 2) (L' := [rv 321, iv p1, iv 1]) rfl (by decide) (show decode cX12_spoons 38 = .ok (.istore_n 2, 1) by decide +kernel) ?_
        exact h
    · have h := h.2 c
      refine j_iconst (show decode cX12_spoons 17 = .ok (.iconst 0, 1) by decide +kernel) ?_
      exact j_ret (rokI (show decode cX12_spoons 18 = .ok (.ireturn, 1) by decide +kernel) rfl) ⟨rfl, rfl, h⟩
  · have h := h.2 c
    refine j_iconst (show decode cX12_spoons 10 = .ok (.iconst (-1), 1) by decide +kernel) ?_
    exact j_ret (rokI (show decode cX12_spoons 11 = .ok (.ireturn, 1) by decide +kernel) rfl) ⟨rfl, rfl, h⟩
theorem c_X12_spoons {d : Nat} {t : Int} {Q : Int → jM → Prop} {σ : jM} {p1 : Int} (h : Ct mX12_isIn d 0 t [iv p1, iv 1, iv 40] σ (fun r1 σ1 => ((inR r1) ∧ ((¬ r1 = 0 → ((inR p1) ∧ ((¬ p1 = 1 → (((0 : Int) ≤ p1 ∧ p1 < 41) ∧ ((inR (σ1 338 p1)) ∧ ((¬ (σ1 338 p1) = 0 → (((0 : Int) ≤ p1 ∧ p1 < 41) ∧ (Jt mX12_spoons (d + 1) 0 t Q 39 [rv 321, iv p1, iv (σ1 338 p1)] [] σ1))) ∧ ((σ1 338 p1) = 0 → (Jt mX12_spoons (d + 1) 0 t Q 39 [rv 321, iv p1, iv 1] [] σ1)))))) ∧ (p1 = 1 → (Q 0 σ1))))) ∧ (r1 = 0 → (Q (-1) σ1)))))) : Ct mX12_spoons (d + 1) 0 t [rv 321, iv p1] σ Q := Ct_of (by decide +kernel) (Nat.le_of_ble_eq_true rfl) (b_X12_spoons_0 h)
set_option maxRecDepth 4000 in
theorem b_X12_isBoth_0 {d : Nat} {t : Int} {Q : Int → jM → Prop} {σ : jM} {p1 p2 p3 p4 : Int} (h : (inR p1) ∧ ((inR (Int.tmod p1 10)) ∧ ((inR p3) ∧ ((p3 < (Int.tmod p1 10) → (Q 0 σ)) ∧ ((Int.tmod p1 10) ≤ p3 → ((inR p1) ∧ ((inR p1) ∧ ((inR ((Int.tdiv p1 10) - (Int.tmod p1 10))) ∧ ((inR p4) ∧ ((p4 < ((Int.tdiv p1 10) - (Int.tmod p1 10)) → (Q 0 σ)) ∧ (((Int.tdiv p1 10) - (Int.tmod p1 10)) ≤ p4 → ((inR p1) ∧ ((inR p1) ∧ ((inR (Int.tdiv p1 10)) ∧ ((inR (Int.tmod p1 10)) ∧ (((Int.tmod p1 10) ≤ (Int.tdiv p1 10) → (Ct mX12_isSum d 0 t [rv 321, iv p1, iv p2] σ (fun r12 σ12 => ((r12 = 0 ∨ r12 = 1) ∧ (Q r12 σ12))))) ∧ ((Int.tdiv p1 10) < (Int.tmod p1 10) → (Q 0 σ)))))))))))))))))) : Jt mX12_isBoth (d + 1) 0 t Q 0 [rv 321, iv p1, iv p2, iv p3, iv p4] [] σ := by
  refine j_iload_n (i := 1) rfl (show decode cX12_isBoth 0 = .ok (.iload_n 1, 1) by decide +kernel) ?_
  refine j_bipush (n := 10) (by decide +kernel) (show decode cX12_isBoth 1 = .ok (.bipush 10, 2) by decide +kernel) ?_
  have hr0 := h.1
  have h := h.2
  refine j_irem hr0 (inl (by decide)) (by decide) (show decode cX12_isBoth 3 = .ok (.irem, 1) by decide +kernel) ?_
  refine j_iload_n (i := 3) rfl (show decode cX12_isBoth 4 = .ok (.iload_n 3, 1) by decide +kernel) ?_
  have hr1 := h.1
  have h := h.2
  have hr2 := h.1
  have h := h.2
  refine j_icmp_gt (tgt := 33) hr1 hr2 (show decode cX12_isBoth 5 = .ok (.if_icmp .gt 28, 3) by decide +kernel) (by decide) (fun c => ?_) (fun c => ?_)
  · have h := h.1 c
    refine j_iconst (show decode cX12_isBoth 33 = .ok (.iconst 0, 1) by decide +kernel) ?_
    exact j_ret (rokZ (show decode cX12_isBoth 34 = .ok (.ireturn, 1) by decide +kernel) rfl (Or.inl rfl)) ⟨rfl, rfl, h⟩
  · have h := h.2 c
    refine j_iload_n (i := 1) rfl (show decode cX12_isBoth 8 = .ok (.iload_n 1, 1) by decide +kernel) ?_
    refine j_bipush (n := 10) (by decide +kernel) (show decode cX12_isBoth 9 = .ok (.bipush 10, 2) by decide +kernel) ?_
    have hr3 := h.1
    have h := h.2
    refine j_idiv hr3 (inl (by decide)) (by decide) (show decode cX12_isBoth 11 = .ok (.idiv, 1) by decide +kernel) ?_
    refine j_iload_n (i := 1) rfl (show decode cX12_isBoth 12 = .ok (.iload_n 1, 1) by decide +kernel) ?_
    refine j_bipush (n := 10) (by decide +kernel) (show decode cX12_isBoth 13 = .ok (.bipush 10, 2) by decide +kernel) ?_
    have hr4 := h.1
    have h := h.2
    refine j_irem hr4 (inl (by decide)) (by decide) (show decode cX12_isBoth 15 = .ok (.irem, 1) by decide +kernel) ?_
    refine j_isub (show decode cX12_isBoth 16 = .ok (.isub, 1) by decide +kernel) ?_
    refine j_iload (i := 4) rfl (show decode cX12_isBoth 17 = .ok (.iload 4, 2) by decide +kernel) ?_
    have hr5 := h.1
    have h := h.2
    have hr6 := h.1
    have h := h.2
    refine j_icmp_gt (tgt := 33) hr5 hr6 (show decode cX12_isBoth 19 = .ok (.if_icmp .gt 14, 3) by decide +kernel) (by decide) (fun c => ?_) (fun c => ?_)
    · have h := h.1 c
      refine j_iconst (show decode cX12_isBoth 33 = .ok (.iconst 0, 1) by decide +kernel) ?_
      exact j_ret (rokZ (show decode cX12_isBoth 34 = .ok (.ireturn, 1) by decide +kernel) rfl (Or.inl rfl)) ⟨rfl, rfl, h⟩
    · have h := h.2 c
      refine j_iload_n (i := 1) rfl (show decode cX12_isBoth 22 = .ok (.iload_n 1, 1) by decide +kernel) ?_
      refine j_bipush (n := 10) (by decide +kernel) (show decode cX12_isBoth 23 = .ok (.bipush 10, 2) by decide +kernel) ?_
      have hr7 := h.1
      have h := h.2
      refine j_idiv hr7 (inl (by decide)) (by decide) (show decode cX12_isBoth 25 = .ok (.idiv, 1) by decide +kernel) ?_
      refine j_iload_n (i := 1) rfl (show decode cX12_isBoth 26 = .ok (.iload_n 1, 1) by decide +kernel) ?_
      refine j_bipush (n := 10) (by decide +kernel) (show decode cX12_isBoth 27 = .ok (.bipush 10, 2) by decide +kernel) ?_
      have hr8 := h.1
      have h := h.2
      refine j_irem hr8 (inl (by decide)) (by decide) (show decode cX12_isBoth 29 = .ok (.irem, 1) by decide +kernel) ?_
      have hr9 := h.1
      have h := h.2
      have hr10 := h.1
      have h := h.2
      refine j_icmp_ge (tgt := 35) hr9 hr10 (show decode cX12_isBoth 30 = .ok (.if_icmp .ge 5, 3) by decide +kernel) (by decide) (fun c => ?_) (fun c => ?_)
      · have h := h.1 c
        refine s_aload_n (i := 0) rfl (show decode cX12_isBoth 35 = .ok (.aload_n 0, 1) by decide +kernel) ?_
        refine j_iload_n (i := 1) rfl (show decode cX12_isBoth 36 = .ok (.iload_n 1, 1) by decide +kernel) ?_
        refine j_iload_n (i := 2) rfl (show decode cX12_isBoth 37 = .ok (.iload_n 2, 1) by decide +kernel) ?_
        refine j_ctV (m' := mX12_isSum) (As := [iv p1, iv p2]) (ci := 12) (tag := 0) (N := 0) (cw_X12_391 rfl) (show decode cX12_isBoth 38 = .ok (.invokevirtual 391, 3) by decide +kernel) rfl (Nat.le_of_ble_eq_true rfl) (by decide) okl_321 rfl rfl (Nat.le_refl _) h (fun r12 σ12 h => ?_)
        have hz12 := h.1
        have h := h.2
        exact j_ret (rokZ (show decode cX12_isBoth 41 = .ok (.ireturn, 1) by decide +kernel) rfl hz12) ⟨rfl, rfl, h⟩
      · have h := h.2 c
        refine j_iconst (show decode cX12_isBoth 33 = .ok (.iconst 0, 1) by decide +kernel) ?_
        exact j_ret (rokZ (show decode cX12_isBoth 34 = .ok (.ireturn, 1) by decide +kernel) rfl (Or.inl rfl)) ⟨rfl, rfl, h⟩
theorem c_X12_isBoth {d : Nat} {t : Int} {Q : Int → jM → Prop} {σ : jM} {p1 p2 p3 p4 : Int} (h : (inR p1) ∧ ((inR (Int.tmod p1 10)) ∧ ((inR p3) ∧ ((p3 < (Int.tmod p1 10) → (Q 0 σ)) ∧ ((Int.tmod p1 10) ≤ p3 → ((inR p1) ∧ ((inR p1) ∧ ((inR ((Int.tdiv p1 10) - (Int.tmod p1 10))) ∧ ((inR p4) ∧ ((p4 < ((Int.tdiv p1 10) - (Int.tmod p1 10)) → (Q 0 σ)) ∧ (((Int.tdiv p1 10) - (Int.tmod p1 10)) ≤ p4 → ((inR p1) ∧ ((inR p1) ∧ ((inR (Int.tdiv p1 10)) ∧ ((inR (Int.tmod p1 10)) ∧ (((Int.tmod p1 10) ≤ (Int.tdiv p1 10) → (Ct mX12_isSum d 0 t [rv 321, iv p1, iv p2] σ (fun r12 σ12 => ((r12 = 0 ∨ r12 = 1) ∧ (Q r12 σ12))))) ∧ ((Int.tdiv p1 10) < (Int.tmod p1 10) → (Q 0 σ)))))))))))))))))) : Ct mX12_isBoth (d + 1) 0 t [rv 321, iv p1, iv p2, iv p3, iv p4] σ Q := Ct_of (by decide +kernel) (Nat.le_of_ble_eq_true rfl) (b_X12_isBoth_0 h)
set_option maxRecDepth 4000 in
theorem b_X12_nextBoth_21 {d : Nat} {t : Int} {Q : Int → jM → Prop} {σ : jM} {p1 p2 p3 p4 v5 v6 : Int} (h : (inR v6) ∧ ((inR v5) ∧ ((v5 < v6 → (Q v6 σ)) ∧ (v6 ≤ v5 → ((inR v6) ∧ ((inR v5) ∧ ((¬ v6 = v5 → ((inR p1) ∧ ((inR p2) ∧ ((¬ p1 = p2 → ((¬ (0 : Int) = 0 → (Jt mX12_nextBoth (d + 1) 0 t Q 21 [rv 321, iv p1, iv p2, iv p3, iv p4, iv v5, iv (v6 + 1)] [] σ)) ∧ ((0 : Int) = 0 → ((inR v6) ∧ ((inR v5) ∧ ((inR (i_shl (Int.tdiv v6 10) (p2 - p1))) ∧ ((inR (Int.tdiv v5 10)) ∧ (((i_shl (Int.tdiv v6 10) (p2 - p1)) < (Int.tdiv v5 10) → (Jt mX12_nextBoth (d + 1) 0 t Q 21 [rv 321, iv p1, iv p2, iv p3, iv p4, iv v5, iv (v6 + 1)] [] σ)) ∧ ((Int.tdiv v5 10) ≤ (i_shl (Int.tdiv v6 10) (p2 - p1)) → (Ct mX12_isBoth d 0 t [rv 321, iv v6, iv p1, iv p3, iv p4] σ (fun r11 σ11 => ((inR r11) ∧ ((¬ r11 = 0 → (Q v6 σ11)) ∧ (r11 = 0 → (Jt mX12_nextBoth (d + 1) 0 t Q 21 [rv 321, iv p1, iv p2, iv p3, iv p4, iv v5, iv (v6 + 1)] [] σ11))))))))))))))) ∧ (p1 = p2 → ((¬ (0 : Int) = 1 → (Jt mX12_nextBoth (d + 1) 0 t Q 21 [rv 321, iv p1, iv p2, iv p3, iv p4, iv v5, iv (v6 + 1)] [] σ)) ∧ ((0 : Int) = 1 → ((inR v6) ∧ ((inR v5) ∧ ((inR (i_shl (Int.tdiv v6 10) (p2 - p1))) ∧ ((inR (Int.tdiv v5 10)) ∧ (((i_shl (Int.tdiv v6 10) (p2 - p1)) < (Int.tdiv v5 10) → (Jt mX12_nextBoth (d + 1) 0 t Q 21 [rv 321, iv p1, iv p2, iv p3, iv p4, iv v5, iv (v6 + 1)] [] σ)) ∧ ((Int.tdiv v5 10) ≤ (i_shl (Int.tdiv v6 10) (p2 - p1)) → (Ct mX12_isBoth d 0 t [rv 321, iv v6, iv p1, iv p3, iv p4] σ (fun r17 σ17 => ((inR r17) ∧ ((¬ r17 = 0 → (Q v6 σ17)) ∧ (r17 = 0 → (Jt mX12_nextBoth (d + 1) 0 t Q 21 [rv 321, iv p1, iv p2, iv p3, iv p4, iv v5, iv (v6 + 1)] [] σ17))))))))))))))))))) ∧ (v6 = v5 → ((inR p1) ∧ ((inR p2) ∧ ((¬ p1 = p2 → ((¬ (1 : Int) = 0 → (Jt mX12_nextBoth (d + 1) 0 t Q 21 [rv 321, iv p1, iv p2, iv p3, iv p4, iv v5, iv (v6 + 1)] [] σ)) ∧ ((1 : Int) = 0 → ((inR v6) ∧ ((inR v5) ∧ ((inR (i_shl (Int.tdiv v6 10) (p2 - p1))) ∧ ((inR (Int.tdiv v5 10)) ∧ (((i_shl (Int.tdiv v6 10) (p2 - p1)) < (Int.tdiv v5 10) → (Jt mX12_nextBoth (d + 1) 0 t Q 21 [rv 321, iv p1, iv p2, iv p3, iv p4, iv v5, iv (v6 + 1)] [] σ)) ∧ ((Int.tdiv v5 10) ≤ (i_shl (Int.tdiv v6 10) (p2 - p1)) → (Ct mX12_isBoth d 0 t [rv 321, iv v6, iv p1, iv p3, iv p4] σ (fun r25 σ25 => ((inR r25) ∧ ((¬ r25 = 0 → (Q v6 σ25)) ∧ (r25 = 0 → (Jt mX12_nextBoth (d + 1) 0 t Q 21 [rv 321, iv p1, iv p2, iv p3, iv p4, iv v5, iv (v6 + 1)] [] σ25))))))))))))))) ∧ (p1 = p2 → ((¬ (1 : Int) = 1 → (Jt mX12_nextBoth (d + 1) 0 t Q 21 [rv 321, iv p1, iv p2, iv p3, iv p4, iv v5, iv (v6 + 1)] [] σ)) ∧ ((1 : Int) = 1 → ((inR v6) ∧ ((inR v5) ∧ ((inR (i_shl (Int.tdiv v6 10) (p2 - p1))) ∧ ((inR (Int.tdiv v5 10)) ∧ (((i_shl (Int.tdiv v6 10) (p2 - p1)) < (Int.tdiv v5 10) → (Jt mX12_nextBoth (d + 1) 0 t Q 21 [rv 321, iv p1, iv p2, iv p3, iv p4, iv v5, iv (v6 + 1)] [] σ)) ∧ ((Int.tdiv v5 10) ≤ (i_shl (Int.tdiv v6 10) (p2 - p1)) → (Ct mX12_isBoth d 0 t [rv 321, iv v6, iv p1, iv p3, iv p4] σ (fun r31 σ31 => ((inR r31) ∧ ((¬ r31 = 0 → (Q v6 σ31)) ∧ (r31 = 0 → (Jt mX12_nextBoth (d + 1) 0 t Q 21 [rv 321, iv p1, iv p2, iv p3, iv p4, iv v5, iv (v6 + 1)] [] σ31)))))))))))))))))))))))))) : Jt mX12_nextBoth (d + 1) 0 t Q 21 [rv 321, iv p1, iv p2, iv p3, iv p4, iv v5, iv v6] [] σ := by
  refine j_iload (i := 6) rfl (show decode cX12_nextBoth 21 = .ok (.iload 6, 2) by decide +kernel) ?_
  refine j_iload (i := 5) rfl (show decode cX12_nextBoth 23 = .ok (.iload 5, 2) by decide +kernel) ?_
  have hr0 := h.1
  have h := h.2
  have hr1 := h.1
  have h := h.2
  refine j_icmp_gt (tgt := 89) hr0 hr1 (show decode cX12_nextBoth 25 = .ok (.if_icmp .gt 64, 3) by decide +kernel) (by decide) (fun c => ?_) (fun c => ?_)
  · have h := h.1 c
    refine j_iload (i := 6) rfl (show decode cX12_nextBoth 89 = .ok (.iload 6, 2) by decide +kernel) ?_
    exact j_ret (rokI (show decode cX12_nextBoth 91 = .ok (.ireturn, 1) by decide +kernel) rfl) ⟨rfl, rfl, h⟩
  · have h := h.2 c
    refine j_iload (i := 6) rfl (show decode cX12_nextBoth 28 = .ok (.iload 6, 2) by decide +kernel) ?_
    refine j_iload (i := 5) rfl (show decode cX12_nextBoth 30 = .ok (.iload 5, 2) by decide +kernel) ?_
    have hr2 := h.1
    have h := h.2
    have hr3 := h.1
    have h := h.2
    refine j_icmp_ne (tgt := 39) hr2 hr3 (show decode cX12_nextBoth 32 = .ok (.if_icmp .ne 7, 3) by decide +kernel) (by decide) (fun c => ?_) (fun c => ?_)
    · have h := h.1 c
      refine j_iconst (show decode cX12_nextBoth 39 = .ok (.iconst 0, 1) by decide +kernel) ?_
      refine j_iload_n (i := 1) rfl (show decode cX12_nextBoth 40 = .ok (.iload_n 1, 1) by decide +kernel) ?_
      refine j_iload_n (i := 2) rfl (show decode cX12_nextBoth 41 = .ok (.iload_n 2, 1) by decide +kernel) ?_
      have hr4 := h.1
      have h := h.2
      have hr5 := h.1
      have h := h.2
      refine j_icmp_ne (tgt := 49) hr4 hr5 (show decode cX12_nextBoth 42 = .ok (.if_icmp .ne 7, 3) by decide +kernel) (by decide) (fun c => ?_) (fun c => ?_)
      · have h := h.1 c
        refine j_iconst (show decode cX12_nextBoth 49 = .ok (.iconst 0, 1) by decide +kernel) ?_
        refine j_icmp_ne (tgt := 83) (inl (by decide)) (inl (by decide)) (show decode cX12_nextBoth 50 = .ok (.if_icmp .ne 33, 3) by decide +kernel) (by decide) (fun c => ?_) (fun c => ?_)
        · have h := h.1 c
          refine s_iinc (i := 6) rfl (L' := [rv 321, iv p1, iv p2, iv p3, iv p4, iv v5, iv (v6 + 1)]) rfl (show decode cX12_nextBoth 83 = .ok (.iinc 6 1, 3) by decide +kernel) ?_
          refine j_goto (tgt := 21) (show decode cX12_nextBoth 86 = .ok (.goto (-65), 3) by decide +kernel) (by decide) ?_
          exact h
        · have h := h.2 c
          refine j_iload (i := 6) rfl (show decode cX12_nextBoth 53 = .ok (.iload 6, 2) by decide +kernel) ?_
          refine j_bipush (n := 10) (by decide +kernel) (show decode cX12_nextBoth 55 = .ok (.bipush 10, 2) by decide +kernel) ?_
          have hr6 := h.1
          have h := h.2
          refine j_idiv hr6 (inl (by decide)) (by decide) (show decode cX12_nextBoth 57 = .ok (.idiv, 1) by decide +kernel) ?_
          refine j_iload_n (i := 2) rfl (show decode cX12_nextBoth 58 = .ok (.iload_n 2, 1) by decide +kernel) ?_
          refine j_iload_n (i := 1) rfl (show decode cX12_nextBoth 59 = .ok (.iload_n 1, 1) by decide +kernel) ?_
          refine j_isub (show decode cX12_nextBoth 60 = .ok (.isub, 1) by decide +kernel) ?_
          refine j_ishl (show decode cX12_nextBoth 61 = .ok (.ishl, 1) by decide +kernel) ?_
          refine j_iload (i := 5) rfl (show decode cX12_nextBoth 62 = .ok (.iload 5, 2) by decide +kernel) ?_
          refine j_bipush (n := 10) (by decide +kernel) (show decode cX12_nextBoth 64 = .ok (.bipush 10, 2) by decide +kernel) ?_
          have hr7 := h.1
          have h := h.2
          refine j_idiv hr7 (inl (by decide)) (by decide) (show decode cX12_nextBoth 66 = .ok (.idiv, 1) by decide +kernel) ?_
          have hr8 := h.1
          have h := h.2
          have hr9 := h.1
          have h := h.2
          refine j_icmp_lt (tgt := 83) hr8 hr9 (show decode cX12_nextBoth 67 = .ok (.if_icmp .lt 16, 3) by decide +kernel) (by decide) (fun c => ?_) (fun c => ?_)
          · have h := h.1 c
            refine s_iinc (i := 6) rfl (L' := [rv 321, iv p1, iv p2, iv p3, iv p4, iv v5, iv (v6 + 1)]) rfl (show decode cX12_nextBoth 83 = .ok (.iinc 6 1, 3) by decide +kernel) ?_
            refine j_goto (tgt := 21) (show decode cX12_nextBoth 86 = .ok (.goto (-65), 3) by decide +kernel) (by decide) ?_
            exact h
          · have h := h.2 c
            refine s_aload_n (i := 0) rfl (show decode cX12_nextBoth 70 = .ok (.aload_n 0, 1) by decide +kernel) ?_
            refine j_iload (i := 6) rfl (show decode cX12_nextBoth 71 = .ok (.iload 6, 2) by decide +kernel) ?_
            refine j_iload_n (i := 1) rfl (show decode cX12_nextBoth 73 = .ok (.iload_n 1, 1) by decide +kernel) ?_
            refine j_iload_n (i := 3) rfl (show decode cX12_nextBoth 74 = .ok (.iload_n 3, 1) by decide +kernel) ?_
            refine j_iload (i := 4) rfl (show decode cX12_nextBoth 75 = .ok (.iload 4, 2) by decide +kernel) ?_
            refine j_ctV (m' := mX12_isBoth) (As := [iv v6, iv p1, iv p3, iv p4]) (ci := 12) (tag := 0) (N := 0) (cw_X12_449 rfl) (show decode cX12_nextBoth 77 = .ok (.invokevirtual 449, 3) by decide +kernel) rfl (Nat.le_of_ble_eq_true rfl) (by decide) okl_321 rfl rfl (Nat.le_refl _) h (fun r11 σ11 h => ?_)
            have hr11 := h.1
            have h := h.2
            refine j_if_ne (tgt := 89) hr11 (show decode cX12_nextBoth 80 = .ok (.ifCond .ne 9, 3) by decide +kernel) (by decide) (fun c => ?_) (fun c => ?_)
            · have h := h.1 c
              refine j_iload (i := 6) rfl (show decode cX12_nextBoth 89 = .ok (.iload 6, 2) by decide +kernel) ?_
              exact j_ret (rokI (show decode cX12_nextBoth 91 = .ok (.ireturn, 1) by decide +kernel) rfl) ⟨rfl, rfl, h⟩
            · have h := h.2 c
              refine s_iinc (i := 6) rfl (L' := [rv 321, iv p1, iv p2, iv p3, iv p4, iv v5, iv (v6 + 1)]) rfl (show decode cX12_nextBoth 83 = .ok (.iinc 6 1, 3) by decide +kernel) ?_
              refine j_goto (tgt := 21) (show decode cX12_nextBoth 86 = .ok (.goto (-65), 3) by decide +kernel) (by decide) ?_
              exact h
      · have h := h.2 c
        refine j_iconst (show decode cX12_nextBoth 45 = .ok (.iconst 1, 1) by decide +kernel) ?_
        refine j_goto (tgt := 50) (show decode cX12_nextBoth 46 = .ok (.goto 4, 3) by decide +kernel) (by decide) ?_
        refine j_icmp_ne (tgt := 83) (inl (by decide)) (inl (by decide)) (show decode cX12_nextBoth 50 = .ok (.if_icmp .ne 33, 3) by decide +kernel) (by decide) (fun c => ?_) (fun c => ?_)
        · have h := h.1 c
          refine s_iinc (i := 6) rfl (L' := [rv 321, iv p1, iv p2, iv p3, iv p4, iv v5, iv (v6 + 1)]) rfl (show decode cX12_nextBoth 83 = .ok (.iinc 6 1, 3) by decide +kernel) ?_
          refine j_goto (tgt := 21) (show decode cX12_nextBoth 86 = .ok (.goto (-65), 3) by decide +kernel) (by decide) ?_
          exact h
        · have h := h.2 c
          refine j_iload (i := 6) rfl (show decode cX12_nextBoth 53 = .ok (.iload 6, 2) by decide +kernel) ?_
          refine j_bipush (n := 10) (by decide +kernel) (show decode cX12_nextBoth 55 = .ok (.bipush 10, 2) by decide +kernel) ?_
          have hr12 := h.1
          have h := h.2
          refine j_idiv hr12 (inl (by decide)) (by decide) (show decode cX12_nextBoth 57 = .ok (.idiv, 1) by decide +kernel) ?_
          refine j_iload_n (i := 2) rfl (show decode cX12_nextBoth 58 = .ok (.iload_n 2, 1) by decide +kernel) ?_
          refine j_iload_n (i := 1) rfl (show decode cX12_nextBoth 59 = .ok (.iload_n 1, 1) by decide +kernel) ?_
          refine j_isub (show decode cX12_nextBoth 60 = .ok (.isub, 1) by decide +kernel) ?_
          refine j_ishl (show decode cX12_nextBoth 61 = .ok (.ishl, 1) by decide +kernel) ?_
          refine j_iload (i := 5) rfl (show decode cX12_nextBoth 62 = .ok (.iload 5, 2) by decide +kernel) ?_
          refine j_bipush (n := 10) (by decide +kernel) (show decode cX12_nextBoth 64 = .ok (.bipush 10, 2) by decide +kernel) ?_
          have hr13 := h.1
          have h := h.2
          refine j_idiv hr13 (inl (by decide)) (by decide) (show decode cX12_nextBoth 66 = .ok (.idiv, 1) by decide +kernel) ?_
          have hr14 := h.1
          have h := h.2
          have hr15 := h.1
          have h := h.2
          refine j_icmp_lt (tgt := 83) hr14 hr15 (show decode cX12_nextBoth 67 = .ok (.if_icmp .lt 16, 3) by decide +kernel) (by decide) (fun c => ?_) (fun c => ?_)
          · have h := h.1 c
            refine s_iinc (i := 6) rfl (L' := [rv 321, iv p1, iv p2, iv p3, iv p4, iv v5, iv (v6 + 1)]) rfl (show decode cX12_nextBoth 83 = .ok (.iinc 6 1, 3) by decide +kernel) ?_
            refine j_goto (tgt := 21) (show decode cX12_nextBoth 86 = .ok (.goto (-65), 3) by decide +kernel) (by decide) ?_
            exact h
          · have h := h.2 c
            refine s_aload_n (i := 0) rfl (show decode cX12_nextBoth 70 = .ok (.aload_n 0, 1) by decide +kernel) ?_
            refine j_iload (i := 6) rfl (show decode cX12_nextBoth 71 = .ok (.iload 6, 2) by decide +kernel) ?_
            refine j_iload_n (i := 1) rfl (show decode cX12_nextBoth 73 = .ok (.iload_n 1, 1) by decide +kernel) ?_
            refine j_iload_n (i := 3) rfl (show decode cX12_nextBoth 74 = .ok (.iload_n 3, 1) by decide +kernel) ?_
            refine j_iload (i := 4) rfl (show decode cX12_nextBoth 75 = .ok (.iload 4, 2) by decide +kernel) ?_
            refine j_ctV (m' := mX12_isBoth) (As := [iv v6, iv p1, iv p3, iv p4]) (ci := 12) (tag := 0) (N := 0) (cw_X12_449 rfl) (show decode cX12_nextBoth 77 = .ok (.invokevirtual 449, 3) by decide +kernel) rfl (Nat.le_of_ble_eq_true rfl) (by decide) okl_321 rfl rfl (Nat.le_refl _) h (fun r17 σ17 h => ?_)
            have hr17 := h.1
            have h := h.2
            refine j_if_ne (tgt := 89) hr17 (show decode cX12_nextBoth 80 = .ok (.ifCond .ne 9, 3) by decide +kernel) (by decide) (fun c => ?_) (fun c => ?_)
            · have h := h.1 c
              refine j_iload (i := 6) rfl (show decode cX12_nextBoth 89 = .ok (.iload 6, 2) by decide +kernel) ?_
              exact j_ret (rokI (show decode cX12_nextBoth 91 = .ok (.ireturn, 1) by decide +kernel) rfl) ⟨rfl, rfl, h⟩
            · have h := h.2 c
              refine s_iinc (i := 6) rfl (L' := [rv 321, iv p1, iv p2, iv p3, iv p4, iv v5, iv (v6 + 1)]) rfl (show decode cX12_nextBoth 83 = .ok (.iinc 6 1, 3) by decide +kernel) ?_
              refine j_goto (tgt := 21) (show decode cX12_nextBoth 86 = .ok (.goto (-65), 3) by decide +kernel) (by decide) ?_
              exact h
    · have h := h.2 c
      refine j_iconst (show decode cX12_nextBoth 35 = .ok (.iconst 1, 1) by decide +kernel) ?_
      refine j_goto (tgt := 40) (show decode cX12_nextBoth 36 = .ok (.goto 4, 3) by decide +kernel) (by decide) ?_
      refine j_iload_n (i := 1) rfl (show decode cX12_nextBoth 40 = .ok (.iload_n 1, 1) by decide +kernel) ?_
      refine j_iload_n (i := 2) rfl (show decode cX12_nextBoth 41 = .ok (.iload_n 2, 1) by decide +kernel) ?_
      have hr18 := h.1
      have h := h.2
      have hr19 := h.1
      have h := h.2
      refine j_icmp_ne (tgt := 49) hr18 hr19 (show decode cX12_nextBoth 42 = .ok (.if_icmp .ne 7, 3) by decide +kernel) (by decide) (fun c => ?_) (fun c => ?_)
      · have h := h.1 c
        refine j_iconst (show decode cX12_nextBoth 49 = .ok (.iconst 0, 1) by decide +kernel) ?_
        refine j_icmp_ne (tgt := 83) (inl (by decide)) (inl (by decide)) (show decode cX12_nextBoth 50 = .ok (.if_icmp .ne 33, 3) by decide +kernel) (by decide) (fun c => ?_) (fun c => ?_)
        · have h := h.1 c
          refine s_iinc (i := 6) rfl (L' := [rv 321, iv p1, iv p2, iv p3, iv p4, iv v5, iv (v6 + 1)]) rfl (show decode cX12_nextBoth 83 = .ok (.iinc 6 1, 3) by decide +kernel) ?_
          refine j_goto (tgt := 21) (show decode cX12_nextBoth 86 = .ok (.goto (-65), 3) by decide +kernel) (by decide) ?_
          exact h
        · have h := h.2 c
          refine j_iload (i := 6) rfl (show decode cX12_nextBoth 53 = .ok (.iload 6, 2) by decide +kernel) ?_
          refine j_bipush (n := 10) (by decide +kernel) (show decode cX12_nextBoth 55 = .ok (.bipush 10, 2) by decide +kernel) ?_
          have hr20 := h.1
          have h := h.2
          refine j_idiv hr20 (inl (by decide)) (by decide) (show decode cX12_nextBoth 57 = .ok (.idiv, 1) by decide +kernel) ?_
          refine j_iload_n (i := 2) rfl (show decode cX12_nextBoth 58 = .ok (.iload_n 2, 1) by decide +kernel) ?_
          refine j_iload_n (i := 1) rfl (show decode cX12_nextBoth 59 = .ok (.iload_n 1, 1) by decide +kernel) ?_
          refine j_isub (show decode cX12_nextBoth 60 = .ok (.isub, 1) by decide +kernel) ?_
          refine j_ishl (show decode cX12_nextBoth 61 = .ok (.ishl, 1) by decide +kernel) ?_
          refine j_iload (i := 5) rfl (show decode cX12_nextBoth 62 = .ok (.iload 5, 2) by decide +kernel) ?_
          refine j_bipush (n := 10) (by decide +kernel) (show decode cX12_nextBoth 64 = .ok (.bipush 10, 2) by decide +kernel) ?_
          have hr21 := h.1
          have h := h.2
          refine j_idiv hr21 (inl (by decide)) (by decide) (show decode cX12_nextBoth 66 = .ok (.idiv, 1) by decide +kernel) ?_
          have hr22 := h.1
          have h := h.2
          have hr23 := h.1
          have h := h.2
          refine j_icmp_lt (tgt := 83) hr22 hr23 (show decode cX12_nextBoth 67 = .ok (.if_icmp .lt 16, 3) by decide +kernel) (by decide) (fun c => ?_) (fun c => ?_)
          · have h := h.1 c
            refine s_iinc (i := 6) rfl (L' := [rv 321, iv p1, iv p2, iv p3, iv p4, iv v5, iv (v6 + 1)]) rfl (show decode cX12_nextBoth 83 = .ok (.iinc 6 1, 3) by decide +kernel) ?_
            refine j_goto (tgt := 21) (show decode cX12_nextBoth 86 = .ok (.goto (-65), 3) by decide +kernel) (by decide) ?_
            exact h
          · have h := h.2 c
            refine s_aload_n (i := 0) rfl (show decode cX12_nextBoth 70 = .ok (.aload_n 0, 1) by decide +kernel) ?_
            refine j_iload (i := 6) rfl (show decode cX12_nextBoth 71 = .ok (.iload 6, 2) by decide +kernel) ?_
            refine j_iload_n (i := 1) rfl (show decode cX12_nextBoth 73 = .ok (.iload_n 1, 1) by decide +kernel) ?_
            refine j_iload_n (i := 3) rfl (show decode cX12_nextBoth 74 = .ok (.iload_n 3, 1) by decide +kernel) ?_
            refine j_iload (i := 4) rfl (show decode cX12_nextBoth 75 = .ok (.iload 4, 2) by decide +kernel) ?_
            refine j_ctV (m' := mX12_isBoth) (As := [iv v6, iv p1, iv p3, iv p4]) (ci := 12) (tag := 0) (N := 0) (cw_X12_449 rfl) (show decode cX12_nextBoth 77 = .ok (.invokevirtual 449, 3) by decide +kernel) rfl (Nat.le_of_ble_eq_true rfl) (by decide) okl_321 rfl rfl (Nat.le_refl _) h (fun r25 σ25 h => ?_)
            have hr25 := h.1
            have h := h.2
            refine j_if_ne (tgt := 89) hr25 (show decode cX12_nextBoth 80 = .ok (.ifCond .ne 9, 3) by decide +kernel) (by decide) (fun c => ?_) (fun c => ?_)
            · have h := h.1 c
              refine j_iload (i := 6) rfl (show decode cX12_nextBoth 89 = .ok (.iload 6, 2) by decide +kernel) ?_
              exact j_ret (rokI (show decode cX12_nextBoth 91 = .ok (.ireturn, 1) by decide +kernel) rfl) ⟨rfl, rfl, h⟩
            · have h := h.2 c
              refine s_iinc (i := 6) rfl (L' := [rv 321, iv p1, iv p2, iv p3, iv p4, iv v5, iv (v6 + 1)]) rfl (show decode cX12_nextBoth 83 = .ok (.iinc 6 1, 3) by decide +kernel) ?_
              refine j_goto (tgt := 21) (show decode cX12_nextBoth 86 = .ok (.goto (-65), 3) by decide +kernel) (by decide) ?_
              exact h
      · have h := h.2 c
        refine j_iconst (show decode cX12_nextBoth 45 = .ok (.iconst 1, 1) by decide +kernel) ?_
        refine j_goto (tgt := 50) (show decode cX12_nextBoth 46 = .ok (.goto 4, 3) by decide +kernel) (by decide) ?_
        refine j_icmp_ne (tgt := 83) (inl (by decide)) (inl (by decide)) (show decode cX12_nextBoth 50 = .ok (.if_icmp .ne 33, 3) by decide +kernel) (by decide) (fun c => ?_) (fun c => ?_)
        · have h := h.1 c
          refine s_iinc (i := 6) rfl (L' := [rv 321, iv p1, iv p2, iv p3, iv p4, iv v5, iv (v6 + 1)]) rfl (show decode cX12_nextBoth 83 = .ok (.iinc 6 1, 3) by decide +kernel) ?_
          refine j_goto (tgt := 21) (show decode cX12_nextBoth 86 = .ok (.goto (-65), 3) by decide +kernel) (by decide) ?_
          exact h
        · have h := h.2 c
          refine j_iload (i := 6) rfl (show decode cX12_nextBoth 53 = .ok (.iload 6, 2) by decide +kernel) ?_
          refine j_bipush (n := 10) (by decide +kernel) (show decode cX12_nextBoth 55 = .ok (.bipush 10, 2) by decide +kernel) ?_
          have hr26 := h.1
          have h := h.2
          refine j_idiv hr26 (inl (by decide)) (by decide) (show decode cX12_nextBoth 57 = .ok (.idiv, 1) by decide +kernel) ?_
          refine j_iload_n (i := 2) rfl (show decode cX12_nextBoth 58 = .ok (.iload_n 2, 1) by decide +kernel) ?_
          refine j_iload_n (i := 1) rfl (show decode cX12_nextBoth 59 = .ok (.iload_n 1, 1) by decide +kernel) ?_
          refine j_isub (show decode cX12_nextBoth 60 = .ok (.isub, 1) by decide +kernel) ?_
          refine j_ishl (show decode cX12_nextBoth 61 = .ok (.ishl, 1) by decide +kernel) ?_
          refine j_iload (i := 5) rfl (show decode cX12_nextBoth 62 = .ok (.iload 5, 2) by decide +kernel) ?_
          refine j_bipush (n := 10) (by decide +kernel) (show decode cX12_nextBoth 64 = .ok (.bipush 10, 2) by decide +kernel) ?_
          have hr27 := h.1
          have h := h.2
          refine j_idiv hr27 (inl (by decide)) (by decide) (show decode cX12_nextBoth 66 = .ok (.idiv, 1) by decide +kernel) ?_
          have hr28 := h.1
          have h := h.2
          have hr29 := h.1
          have h := h.2
          refine j_icmp_lt (tgt := 83) hr28 hr29 (show decode cX12_nextBoth 67 = .ok (.if_icmp .lt 16, 3) by decide +kernel) (by decide) (fun c => ?_) (fun c => ?_)
          · have h := h.1 c
            refine s_iinc (i := 6) rfl (L' := [rv 321, iv p1, iv p2, iv p3, iv p4, iv v5, iv (v6 + 1)]) rfl (show decode cX12_nextBoth 83 = .ok (.iinc 6 1, 3) by decide +kernel) ?_
            refine j_goto (tgt := 21) (show decode cX12_nextBoth 86 = .ok (.goto (-65), 3) by decide +kernel) (by decide) ?_
            exact h
          · have h := h.2 c
            refine s_aload_n (i := 0) rfl (show decode cX12_nextBoth 70 = .ok (.aload_n 0, 1) by decide +kernel) ?_
            refine j_iload (i := 6) rfl (show decode cX12_nextBoth 71 = .ok (.iload 6, 2) by decide +kernel) ?_
            refine j_iload_n (i := 1) rfl (show decode cX12_nextBoth 73 = .ok (.iload_n 1, 1) by decide +kernel) ?_
            refine j_iload_n (i := 3) rfl (show decode cX12_nextBoth 74 = .ok (.iload_n 3, 1) by decide +kernel) ?_
            refine j_iload (i := 4) rfl (show decode cX12_nextBoth 75 = .ok (.iload 4, 2) by decide +kernel) ?_
            refine j_ctV (m' := mX12_isBoth) (As := [iv v6, iv p1, iv p3, iv p4]) (ci := 12) (tag := 0) (N := 0) (cw_X12_449 rfl) (show decode cX12_nextBoth 77 = .ok (.invokevirtual 449, 3) by decide +kernel) rfl (Nat.le_of_ble_eq_true rfl) (by decide) okl_321 rfl rfl (Nat.le_refl _) h (fun r31 σ31 h => ?_)
            have hr31 := h.1
            have h := h.2
            refine j_if_ne (tgt := 89) hr31 (show decode cX12_nextBoth 80 = .ok (.ifCond .ne 9, 3) by decide +kernel) (by decide) (fun c => ?_) (fun c => ?_)
            · have h := h.1 c
              refine j_iload (i := 6) rfl (show decode cX12_nextBoth 89 = .ok (.iload 6, 2) by decide +kernel) ?_
              exact j_ret (rokI (show decode cX12_nextBoth 91 = .ok (.ireturn, 1) by decide +kernel) rfl) ⟨rfl, rfl, h⟩
            · have h := h.2 c
              refine s_iinc (i := 6) rfl (L' := [rv 321, iv p1, iv p2, iv p3, iv p4, iv v5, iv (v6 + 1)]) rfl (show decode cX12_nextBoth 83 = .ok (.iinc 6 1, 3) by decide +kernel) ?_
              refine j_goto (tgt := 21) (show decode cX12_nextBoth 86 = .ok (.goto (-65), 3) by decide +kernel) (by decide) ?_
              exact h
set_option maxRecDepth 4000 in
theorem b_X12_nextBoth_0 {d : Nat} {t : Int} {Q : Int → jM → Prop} {σ : jM} {p1 p2 p3 p4 : Int} (h : ((0 : Int) ≤ p1 ∧ p1 < 44) ∧ (Jt mX12_nextBoth (d + 1) 0 t Q 21 [rv 321, iv p1, iv p2, iv p3, iv p4, iv ((10 * (p3 + p4)) + p3), iv ((σ 331 p1) + 1)] [] σ)) : Jt mX12_nextBoth (d + 1) 0 t Q 0 [rv 321, iv p1, iv p2, iv p3, iv p4, uv, uv] [] σ := by
  refine j_bipush (n := 10) (by decide +kernel) (show decode cX12_nextBoth 0 = .ok (.bipush 10, 2) by decide +kernel) ?_
  refine j_iload_n (i := 3) rfl (show decode cX12_nextBoth 2 = .ok (.iload_n 3, 1) by decide +kernel) ?_
  refine j_iload (i := 4) rfl (show decode cX12_nextBoth 3 = .ok (.iload 4, 2) by decide +kernel) ?_
  refine j_iadd (show decode cX12_nextBoth 5 = .ok (.iadd, 1) by decide +kernel) ?_
  refine j_imul (show decode cX12_nextBoth 6 = .ok (.imul, 1) by decide +kernel) ?_
  refine j_iload_n (i := 3) rfl (show decode cX12_nextBoth 7 = .ok (.iload_n 3, 1) by decide +kernel) ?_
  refine j_iadd (show decode cX12_nextBoth 8 = .ok (.iadd, 1) by decide +kernel) ?_
  refine s_ist (i := 5) (L' := [rv 321, iv p1, iv p2, iv p3, iv p4, iv ((10 * (p3 + p4)) + p3), uv]) rfl (by decide) (show decode cX12_nextBoth 9 = .ok (.istore 5, 2) by decide +kernel) ?_
  refine s_aload_n (i := 0) rfl (show decode cX12_nextBoth 11 = .ok (.aload_n 0, 1) by decide +kernel) ?_
  refine gf_X12_50 (x := 331) rfl (show decode cX12_nextBoth 12 = .ok (.getfield 50, 3) by decide +kernel) okl_321 rfl ?_
  refine j_iload_n (i := 1) rfl (show decode cX12_nextBoth 15 = .ok (.iload_n 1, 1) by decide +kernel) ?_
  refine s_iald (show decode cX12_nextBoth 16 = .ok (.iaload, 1) by decide +kernel) okl_331 h.1 ?_
  have h := h.2
  refine j_iconst (show decode cX12_nextBoth 17 = .ok (.iconst 1, 1) by decide +kernel) ?_
  refine j_iadd (show decode cX12_nextBoth 18 = .ok (.iadd, 1) by decide +kernel) ?_
  refine s_ist (i := 6) (L' := [rv 321, iv p1, iv p2, iv p3, iv p4, iv ((10 * (p3 + p4)) + p3), iv ((σ 331 p1) + 1)]) rfl (by decide) (show decode cX12_nextBoth 19 = .ok (.istore 6, 2) by decide +kernel) ?_
  exact h
theorem c_X12_nextBoth {d : Nat} {t : Int} {Q : Int → jM → Prop} {σ : jM} {p1 p2 p3 p4 : Int} (h : ((0 : Int) ≤ p1 ∧ p1 < 44) ∧ (Jt mX12_nextBoth (d + 1) 0 t Q 21 [rv 321, iv p1, iv p2, iv p3, iv p4, iv ((10 * (p3 + p4)) + p3), iv ((σ 331 p1) + 1)] [] σ)) : Ct mX12_nextBoth (d + 1) 0 t [rv 321, iv p1, iv p2, iv p3, iv p4] σ Q := Ct_of (by decide +kernel) (Nat.le_of_ble_eq_true rfl) (b_X12_nextBoth_0 h)
set_option maxRecDepth 4000 in
theorem b_X12_areBoth_42 {d : Nat} {t : Int} {Q : Int → jM → Prop} {σ : jM} {p1 p2 p3 v4 v5 v6 : Int} (h : (inR v6) ∧ ((v6 ≤ 1 → (Q 0 σ)) ∧ (1 < v6 → (Ct mX12_nextBoth d 0 t [rv 321, iv v6, iv v5, iv p1, iv p2] σ (fun r2 σ2 => (((0 : Int) ≤ v6 ∧ v6 < 44) ∧ (∀ σ4 : jM, σ4 = up σ2 331 v6 r2 → (((0 : Int) ≤ v6 ∧ v6 < 44) ∧ ((inR (σ4 331 v6)) ∧ ((inR v4) ∧ (((σ4 331 v6) ≤ v4 → ((inR v6) ∧ ((inR v5) ∧ ((¬ v6 = v5 → (((0 : Int) ≤ ((v6 + 1) - 1) ∧ ((v6 + 1) - 1) < 44) ∧ (((0 : Int) ≤ (v6 + 1) ∧ (v6 + 1) < 44) ∧ (∀ σ10 : jM, σ10 = up σ4 331 (v6 + 1) (σ4 331 ((v6 + 1) - 1)) → (Jt mX12_areBoth (d + 1) 0 t Q 42 [rv 321, iv p1, iv p2, iv p3, iv v4, iv v5, iv (v6 + 1)] [] σ10))))) ∧ (v6 = v5 → (Q 1 σ4)))))) ∧ (v4 < (σ4 331 v6) → (Jt mX12_areBoth (d + 1) 0 t Q 42 [rv 321, iv p1, iv p2, iv p3, iv v4, iv v5, iv (v6 + (-1))] [] σ4))))))))))))) : Jt mX12_areBoth (d + 1) 0 t Q 42 [rv 321, iv p1, iv p2, iv p3, iv v4, iv v5, iv v6] [] σ := by
  refine j_iload (i := 6) rfl (show decode cX12_areBoth 42 = .ok (.iload 6, 2) by decide +kernel) ?_
  refine j_iconst (show decode cX12_areBoth 44 = .ok (.iconst 1, 1) by decide +kernel) ?_
  have hr0 := h.1
  have h := h.2
  refine j_icmp_le (tgt := 114) hr0 (inl (by decide)) (show decode cX12_areBoth 45 = .ok (.if_icmp .le 69, 3) by decide +kernel) (by decide) (fun c => ?_) (fun c => ?_)
  · have h := h.1 c
    refine j_iconst (show decode cX12_areBoth 114 = .ok (.iconst 0, 1) by decide +kernel) ?_
    exact j_ret (rokZ (show decode cX12_areBoth 115 = .ok (.ireturn, 1) by decide +kernel) rfl (Or.inl rfl)) ⟨rfl, rfl, h⟩
  · have h := h.2 c
    refine s_aload_n (i := 0) rfl (show decode cX12_areBoth 48 = .ok (.aload_n 0, 1) by decide +kernel) ?_
    refine gf_X12_50 (x := 331) rfl (show decode cX12_areBoth 49 = .ok (.getfield 50, 3) by decide +kernel) okl_321 rfl ?_
    refine j_iload (i := 6) rfl (show decode cX12_areBoth 52 = .ok (.iload 6, 2) by decide +kernel) ?_
    refine s_aload_n (i := 0) rfl (show decode cX12_areBoth 54 = .ok (.aload_n 0, 1) by decide +kernel) ?_
    refine j_iload (i := 6) rfl (show decode cX12_areBoth 55 = .ok (.iload 6, 2) by decide +kernel) ?_
    refine j_iload (i := 5) rfl (show decode cX12_areBoth 57 = .ok (.iload 5, 2) by decide +kernel) ?_
    refine j_iload_n (i := 1) rfl (show decode cX12_areBoth 59 = .ok (.iload_n 1, 1) by decide +kernel) ?_
    refine j_iload_n (i := 2) rfl (show decode cX12_areBoth 60 = .ok (.iload_n 2, 1) by decide +kernel) ?_
    refine j_ctV (m' := mX12_nextBoth) (As := [iv v6, iv v5, iv p1, iv p2]) (ci := 12) (tag := 0) (N := 0) (cw_X12_453 rfl) (show decode cX12_areBoth 61 = .ok (.invokevirtual 453, 3) by decide +kernel) rfl (Nat.le_of_ble_eq_true rfl) (by decide) okl_321 rfl rfl (Nat.le_refl _) h (fun r2 σ2 h => ?_)
    have hb2 := h.1
    have h := h.2
    refine s_iast (show decode cX12_areBoth 64 = .ok (.iastore, 1) by decide +kernel) okl_331 hb2 ?_
    obtain ⟨σ4, eσ4⟩ : ∃ z : jM, z = up σ2 331 v6 r2 := ⟨_, rfl⟩
    refine j_sig eσ4 ?_
    have h := h σ4 eσ4
    refine s_aload_n (i := 0) rfl (show decode cX12_areBoth 65 = .ok (.aload_n 0, 1) by decide +kernel) ?_
    refine gf_X12_50 (x := 331) rfl (show decode cX12_areBoth 66 = .ok (.getfield 50, 3) by decide +kernel) okl_321 rfl ?_
    refine j_iload (i := 6) rfl (show decode cX12_areBoth 69 = .ok (.iload 6, 2) by decide +kernel) ?_
    refine s_iald (show decode cX12_areBoth 71 = .ok (.iaload, 1) by decide +kernel) okl_331 h.1 ?_
    have h := h.2
    refine j_iload (i := 4) rfl (show decode cX12_areBoth 72 = .ok (.iload 4, 2) by decide +kernel) ?_
    have hr4 := h.1
    have h := h.2
    have hr5 := h.1
    have h := h.2
    refine j_icmp_le (tgt := 83) hr4 hr5 (show decode cX12_areBoth 74 = .ok (.if_icmp .le 9, 3) by decide +kernel) (by decide) (fun c => ?_) (fun c => ?_)
    · have h := h.1 c
      refine j_iload (i := 6) rfl (show decode cX12_areBoth 83 = .ok (.iload 6, 2) by decide +kernel) ?_
      refine j_iload (i := 5) rfl (show decode cX12_areBoth 85 = .ok (.iload 5, 2) by decide +kernel) ?_
      have hr6 := h.1
      have h := h.2
      have hr7 := h.1
      have h := h.2
      refine j_icmp_ne (tgt := 92) hr6 hr7 (show decode cX12_areBoth 87 = .ok (.if_icmp .ne 5, 3) by decide +kernel) (by decide) (fun c => ?_) (fun c => ?_)
      · have h := h.1 c
        refine s_iinc (i := 6) rfl (L' := [rv 321, iv p1, iv p2, iv p3, iv v4, iv v5, iv (v6 + 1)]) rfl (show decode cX12_areBoth 92 = .ok (.iinc 6 1, 3) by decide +kernel) ?_
        refine s_aload_n (i := 0) rfl (show decode cX12_areBoth 95 = .ok (.aload_n 0, 1) by decide +kernel) ?_
        refine gf_X12_50 (x := 331) rfl (show decode cX12_areBoth 96 = .ok (.getfield 50, 3) by decide +kernel) okl_321 rfl ?_
        refine j_iload (i := 6) rfl (show decode cX12_areBoth 99 = .ok (.iload 6, 2) by decide +kernel) ?_
        refine s_aload_n (i := 0) rfl (show decode cX12_areBoth 101 = .ok (.aload_n 0, 1) by decide +kernel) ?_
        refine gf_X12_50 (x := 331) rfl (show decode cX12_areBoth 102 = .ok (.getfield 50, 3) by decide +kernel) okl_321 rfl ?_
        refine j_iload (i := 6) rfl (show decode cX12_areBoth 105 = .ok (.iload 6, 2) by decide +kernel) ?_
        refine j_iconst (show decode cX12_areBoth 107 = .ok (.iconst 1, 1) by decide +kernel) ?_
        refine j_isub (show decode cX12_areBoth 108 = .ok (.isub, 1) by decide +kernel) ?_
        refine s_iald (show decode cX12_areBoth 109 = .ok (.iaload, 1) by decide +kernel) okl_331 h.1 ?_
        have h := h.2
        have hb8 := h.1
        have h := h.2
        refine s_iast (show decode cX12_areBoth 110 = .ok (.iastore, 1) by decide +kernel) okl_331 hb8 ?_
        obtain ⟨σ10, eσ10⟩ : ∃ z : jM, z = up σ4 331 (v6 + 1) (σ4 331 ((v6 + 1) - 1)) := ⟨_, rfl⟩
        refine j_sig eσ10 ?_
        have h := h σ10 eσ10
        refine j_goto (tgt := 42) (show decode cX12_areBoth 111 = .ok (.goto (-69), 3) by decide +kernel) (by decide) ?_
        exact h
      · have h := h.2 c
        refine j_iconst (show decode cX12_areBoth 90 = .ok (.iconst 1, 1) by decide +kernel) ?_
        exact j_ret (rokZ (show decode cX12_areBoth 91 = .ok (.ireturn, 1) by decide +kernel) rfl (Or.inr rfl)) ⟨rfl, rfl, h⟩
    · have h := h.2 c
      refine s_iinc (i := 6) rfl (L' := [rv 321, iv p1, iv p2, iv p3, iv v4, iv v5, iv (v6 + (-1))]) rfl (show decode cX12_areBoth 77 = .ok (.iinc 6 (-1), 3) by decide +kernel) ?_
      refine j_goto (tgt := 42) (show decode cX12_areBoth 80 = .ok (.goto (-38), 3) by decide +kernel) (by decide) ?_
      exact h
set_option maxRecDepth 4000 in
theorem b_X12_areBoth_0 {d : Nat} {t : Int} {Q : Int → jM → Prop} {σ : jM} {p1 p2 p3 : Int} (h : ((0 : Int) ≤ 0 ∧ (0 : Int) < 44) ∧ (∀ σ2 : jM, σ2 = up σ 331 0 10 → (((0 : Int) ≤ 1 ∧ (1 : Int) < 44) ∧ (∀ σ4 : jM, σ4 = up σ2 331 1 11 → (((0 : Int) ≤ 2 ∧ (2 : Int) < 44) ∧ (∀ σ6 : jM, σ6 = up σ4 331 2 11 → (Jt mX12_areBoth (d + 1) 0 t Q 42 [rv 321, iv p1, iv p2, iv p3, iv ((10 * (p1 + p2)) + p1), iv (p3 + 1), iv 2] [] σ6))))))) : Jt mX12_areBoth (d + 1) 0 t Q 0 [rv 321, iv p1, iv p2, iv p3, uv, uv, uv] [] σ := by
  refine j_bipush (n := 10) (by decide +kernel) (show decode cX12_areBoth 0 = .ok (.bipush 10, 2) by decide +kernel) ?_
  refine j_iload_n (i := 1) rfl (show decode cX12_areBoth 2 = .ok (.iload_n 1, 1) by decide +kernel) ?_
  refine j_iload_n (i := 2) rfl (show decode cX12_areBoth 3 = .ok (.iload_n 2, 1) by decide +kernel) ?_
  refine j_iadd (show decode cX12_areBoth 4 = .ok (.iadd, 1) by decide +kernel) ?_
  refine j_imul (show decode cX12_areBoth 5 = .ok (.imul, 1) by decide +kernel) ?_
  refine j_iload_n (i := 1) rfl (show decode cX12_areBoth 6 = .ok (.iload_n 1, 1) by decide +kernel) ?_
  refine j_iadd (show decode cX12_areBoth 7 = .ok (.iadd, 1) by decide +kernel) ?_
  refine s_ist (i := 4) (L' := [rv 321, iv p1, iv p2, iv p3, iv ((10 * (p1 + p2)) + p1), uv, uv]) rfl (by decide) (show decode cX12_areBoth 8 = .ok (.istore 4, 2) by decide +kernel) ?_
  refine j_iload_n (i := 3) rfl (show decode cX12_areBoth 10 = .ok (.iload_n 3, 1) by decide +kernel) ?_
  refine j_iconst (show decode cX12_areBoth 11 = .ok (.iconst 1, 1) by decide +kernel) ?_
  refine j_iadd (show decode cX12_areBoth 12 = .ok (.iadd, 1) by decide +kernel) ?_
  refine s_ist (i := 5) (L' := [rv 321, iv p1, iv p2, iv p3, iv ((10 * (p1 + p2)) + p1), iv (p3 + 1), uv]) rfl (by decide) (show decode cX12_areBoth 13 = .ok (.istore 5, 2) by decide +kernel) ?_
  refine s_aload_n (i := 0) rfl (show decode cX12_areBoth 15 = .ok (.aload_n 0, 1) by decide +kernel) ?_
  refine gf_X12_50 (x := 331) rfl (show decode cX12_areBoth 16 = .ok (.getfield 50, 3) by decide +kernel) okl_321 rfl ?_
  refine j_iconst (show decode cX12_areBoth 19 = .ok (.iconst 0, 1) by decide +kernel) ?_
  refine j_bipush (n := 10) (by decide +kernel) (show decode cX12_areBoth 20 = .ok (.bipush 10, 2) by decide +kernel) ?_
  have hb0 := h.1
  have h := h.2
  refine s_iast (show decode cX12_areBoth 22 = .ok (.iastore, 1) by decide +kernel) okl_331 hb0 ?_
  obtain ⟨σ2, eσ2⟩ : ∃ z : jM, z = up σ 331 0 10 := ⟨_, rfl⟩
  refine j_sig eσ2 ?_
  have h := h σ2 eσ2
  refine s_aload_n (i := 0) rfl (show decode cX12_areBoth 23 = .ok (.aload_n 0, 1) by decide +kernel) ?_
  refine gf_X12_50 (x := 331) rfl (show decode cX12_areBoth 24 = .ok (.getfield 50, 3) by decide +kernel) okl_321 rfl ?_
  refine j_iconst (show decode cX12_areBoth 27 = .ok (.iconst 1, 1) by decide +kernel) ?_
  refine j_bipush (n := 11) (by decide +kernel) (show decode cX12_areBoth 28 = .ok (.bipush 11, 2) by decide +kernel) ?_
  have hb2 := h.1
  have h := h.2
  refine s_iast (show decode cX12_areBoth 30 = .ok (.iastore, 1) by decide +kernel) okl_331 hb2 ?_
  obtain ⟨σ4, eσ4⟩ : ∃ z : jM, z = up σ2 331 1 11 := ⟨_, rfl⟩
  refine j_sig eσ4 ?_
  have h := h σ4 eσ4
  refine j_iconst (show decode cX12_areBoth 31 = .ok (.iconst 2, 1) by decide +kernel) ?_
  refine s_ist (i := 6) (L' := [rv 321, iv p1, iv p2, iv p3, iv ((10 * (p1 + p2)) + p1), iv (p3 + 1), iv 2]) rfl (by decide) (show decode cX12_areBoth 32 = .ok (.istore 6, 2) by decide +kernel) ?_
  refine s_aload_n (i := 0) rfl (show decode cX12_areBoth 34 = .ok (.aload_n 0, 1) by decide +kernel) ?_
  refine gf_X12_50 (x := 331) rfl (show decode cX12_areBoth 35 = .ok (.getfield 50, 3) by decide +kernel) okl_321 rfl ?_
  refine j_iconst (show decode cX12_areBoth 38 = .ok (.iconst 2, 1) by decide +kernel) ?_
  refine j_bipush (n := 11) (by decide +kernel) (show decode cX12_areBoth 39 = .ok (.bipush 11, 2) by decide +kernel) ?_
  have hb4 := h.1
  have h := h.2
  refine s_iast (show decode cX12_areBoth 41 = .ok (.iastore, 1) by decide +kernel) okl_331 hb4 ?_
  obtain ⟨σ6, eσ6⟩ : ∃ z : jM, z = up σ4 331 2 11 := ⟨_, rfl⟩
  refine j_sig eσ6 ?_
  have h := h σ6 eσ6
  exact h
theorem c_X12_areBoth {d : Nat} {t : Int} {Q : Int → jM → Prop} {σ : jM} {p1 p2 p3 : Int} (h : ((0 : Int) ≤ 0 ∧ (0 : Int) < 44) ∧ (∀ σ2 : jM, σ2 = up σ 331 0 10 → (((0 : Int) ≤ 1 ∧ (1 : Int) < 44) ∧ (∀ σ4 : jM, σ4 = up σ2 331 1 11 → (((0 : Int) ≤ 2 ∧ (2 : Int) < 44) ∧ (∀ σ6 : jM, σ6 = up σ4 331 2 11 → (Jt mX12_areBoth (d + 1) 0 t Q 42 [rv 321, iv p1, iv p2, iv p3, iv ((10 * (p1 + p2)) + p1), iv (p3 + 1), iv 2] [] σ6))))))) : Ct mX12_areBoth (d + 1) 0 t [rv 321, iv p1, iv p2, iv p3] σ Q := Ct_of (by decide +kernel) (Nat.le_of_ble_eq_true rfl) (b_X12_areBoth_0 h)
set_option maxRecDepth 4000 in
theorem b_X12_both_39 {d : Nat} {t : Int} {Q : Int → jM → Prop} {σ : jM} {p1 p2 v3 : Int} (h : Ct mX12_areBoth d 0 t [rv 321, iv p1, iv p2, iv v3] σ (fun r1 σ1 => ((inR r1) ∧ ((¬ r1 = 0 → (Q v3 σ1)) ∧ (r1 = 0 → (Jt mX12_both (d + 1) 0 t Q 39 [rv 321, iv p1, iv p2, iv (v3 + 1)] [] σ1)))))) : Jt mX12_both (d + 1) 0 t Q 39 [rv 321, iv p1, iv p2, iv v3] [] σ := by
  refine s_aload_n (i := 0) rfl (show decode cX12_both 39 = .ok (.aload_n 0, 1) by decide +kernel) ?_
  refine j_iload_n (i := 1) rfl (show decode cX12_both 40 = .ok (.iload_n 1, 1) by decide +kernel) ?_
  refine j_iload_n (i := 2) rfl (show decode cX12_both 41 = .ok (.iload_n 2, 1) by decide +kernel) ?_
  refine j_iload_n (i := 3) rfl (show decode cX12_both 42 = .ok (.iload_n 3, 1) by decide +kernel) ?_
  refine j_ctV (m' := mX12_areBoth) (As := [iv p1, iv p2, iv v3]) (ci := 12) (tag := 0) (N := 0) (cw_X12_456 rfl) (show decode cX12_both 43 = .ok (.invokevirtual 456, 3) by decide +kernel) rfl (Nat.le_of_ble_eq_true rfl) (by decide) okl_321 rfl rfl (Nat.le_refl _) h (fun r1 σ1 h => ?_)
  have hr1 := h.1
  have h := h.2
  refine j_if_ne (tgt := 55) hr1 (show decode cX12_both 46 = .ok (.ifCond .ne 9, 3) by decide +kernel) (by decide) (fun c => ?_) (fun c => ?_)
  · have h := h.1 c
    refine j_iload_n (i := 3) rfl (show decode cX12_both 55 = .ok (.iload_n 3, 1) by decide +kernel) ?_
    exact j_ret (rokI (show decode cX12_both 56 = .ok (.ireturn, 1) by decide +kernel) rfl) ⟨rfl, rfl, h⟩
  · have h := h.2 c
    refine s_iinc (i := 3) rfl (L' := [rv 321, iv p1, iv p2, iv (v3 + 1)]) rfl (show decode cX12_both 49 = .ok (.iinc 3 1, 3) by decide +kernel) ?_
    refine j_goto (tgt := 39) (show decode cX12_both 52 = .ok (.goto (-13), 3) by decide +kernel) (by decide) ?_
    exact h
set_option maxRecDepth 4000 in
theorem b_X12_both_0 {d : Nat} {t : Int} {Q : Int → jM → Prop} {σ : jM} {p1 p2 : Int} (h : Ct mX12_isIn d 0 t [iv p1, iv 0, iv 9] σ (fun r1 σ1 => ((inR r1) ∧ ((r1 = 0 → (Q (-1) σ1)) ∧ (¬ r1 = 0 → (Ct mX12_isIn d 0 t [iv p2, iv 0, iv 9] σ1 (fun r3 σ3 => ((inR r3) ∧ ((r3 = 0 → (Q (-1) σ3)) ∧ (¬ r3 = 0 → ((inR (p1 + p2)) ∧ ((¬ (p1 + p2) = 0 → ((inR (p1 + p2)) ∧ ((¬ (p1 + p2) = 1 → (Jt mX12_both (d + 1) 0 t Q 39 [rv 321, iv p1, iv p2, iv 1] [] σ3)) ∧ ((p1 + p2) = 1 → (Q 0 σ3))))) ∧ ((p1 + p2) = 0 → (Q (-1) σ3)))))))))))))) : Jt mX12_both (d + 1) 0 t Q 0 [rv 321, iv p1, iv p2, uv] [] σ := by
  refine j_iload_n (i := 1) rfl (show decode cX12_both 0 = .ok (.iload_n 1, 1) by decide +kernel) ?_
  refine j_iconst (show decode cX12_both 1 = .ok (.iconst 0, 1) by decide +kernel) ?_
  refine j_bipush (n := 9) (by decide +kernel) (show decode cX12_both 2 = .ok (.bipush 9, 2) by decide +kernel) ?_
  refine j_ctS (m' := mX12_isIn) (As := [iv p1, iv 0, iv 9]) (tag := 0) (cw_X12_85 rfl) (show decode cX12_both 4 = .ok (.invokestatic 85, 3) by decide +kernel) rfl (Nat.le_of_ble_eq_true rfl) (by decide) (Nat.le_refl _) h (fun r1 σ1 h => ?_)
  have hr1 := h.1
  have h := h.2
  refine j_if_eq (tgt := 26) hr1 (show decode cX12_both 7 = .ok (.ifCond .eq 19, 3) by decide +kernel) (by decide) (fun c => ?_) (fun c => ?_)
  · have h := h.1 c
    refine j_iconst (show decode cX12_both 26 = .ok (.iconst (-1), 1) by decide +kernel) ?_
    exact j_ret (rokI (show decode cX12_both 27 = .ok (.ireturn, 1) by decide +kernel) rfl) ⟨rfl, rfl, h⟩
  · have h := h.2 c
    refine j_iload_n (i := 2) rfl (show decode cX12_both 10 = .ok (.iload_n 2, 1) by decide +kernel) ?_
    refine j_iconst (show decode cX12_both 11 = .ok (.iconst 0, 1) by decide +kernel) ?_
    refine j_bipush (n := 9) (by decide +kernel) (show decode cX12_both 12 = .ok (.bipush 9, 2) by decide +kernel) ?_
    refine j_ctS (m' := mX12_isIn) (As := [iv p2, iv 0, iv 9]) (tag := 0) (cw_X12_85 rfl) (show decode cX12_both 14 = .ok (.invokestatic 85, 3) by decide +kernel) rfl (Nat.le_of_ble_eq_true rfl) (by decide) (Nat.le_refl _) h (fun r3 σ3 h => ?_)
    have hr3 := h.1
    have h := h.2
    refine j_if_eq (tgt := 26) hr3 (show decode cX12_both 17 = .ok (.ifCond .eq 9, 3) by decide +kernel) (by decide) (fun c => ?_) (fun c => ?_)
    · have h := h.1 c
      refine j_iconst (show decode cX12_both 26 = .ok (.iconst (-1), 1) by decide +kernel) ?_
      exact j_ret (rokI (show decode cX12_both 27 = .ok (.ireturn, 1) by decide +kernel) rfl) ⟨rfl, rfl, h⟩
    · have h := h.2 c
      refine j_iload_n (i := 1) rfl (show decode cX12_both 20 = .ok (.iload_n 1, 1) by decide +kernel) ?_
      refine j_iload_n (i := 2) rfl (show decode cX12_both 21 = .ok (.iload_n 2, 1) by decide +kernel) ?_
      refine j_iadd (show decode cX12_both 22 = .ok (.iadd, 1) by decide +kernel) ?_
      have hr4 := h.1
      have h := h.2
      refine j_if_ne (tgt := 28) hr4 (show decode cX12_both 23 = .ok (.ifCond .ne 5, 3) by decide +kernel) (by decide) (fun c => ?_) (fun c => ?_)
      · have h := h.1 c
        refine j_iload_n (i := 1) rfl (show decode cX12_both 28 = .ok (.iload_n 1, 1) by decide +kernel) ?_
        refine j_iload_n (i := 2) rfl (show decode cX12_both 29 = .ok (.iload_n 2, 1) by decide +kernel) ?_
        refine j_iadd (show decode cX12_both 30 = .ok (.iadd, 1) by decide +kernel) ?_
        refine j_iconst (show decode cX12_both 31 = .ok (.iconst 1, 1) by decide +kernel) ?_
        have hr5 := h.1
        have h := h.2
        refine j_icmp_ne (tgt := 37) hr5 (inl (by decide)) (show decode cX12_both 32 = .ok (.if_icmp .ne 5, 3) by decide +kernel) (by decide) (fun c => ?_) (fun c => ?_)
        · have h := h.1 c
          refine j_iconst (show decode cX12_both 37 = .ok (.iconst 1, 1) by decide +kernel) ?_
          refine s_ist_n (i := 3) (L' := [rv 321, iv p1, iv p2, iv 1]) rfl (by decide) (show decode cX12_both 38 = .ok (.istore_n 3, 1) by decide +kernel) ?_
          exact h
        · have h := h.2 c
          refine j_iconst (show decode cX12_both 35 = .ok (.iconst 0, 1) by decide +kernel) ?_
          exact j_ret (rokI (show decode cX12_both 36 = .ok (.ireturn, 1) by decide +kernel) rfl) ⟨rfl, rfl, h⟩
      · have h := h.2 c
        refine j_iconst (show decode cX12_both 26 = .ok (.iconst (-1), 1) by decide +kernel) ?_
        exact j_ret (rokI (show decode cX12_both 27 = .ok (.ireturn, 1) by decide +kernel) rfl) ⟨rfl, rfl, h⟩
theorem c_X12_both {d : Nat} {t : Int} {Q : Int → jM → Prop} {σ : jM} {p1 p2 : Int} (h : Ct mX12_isIn d 0 t [iv p1, iv 0, iv 9] σ (fun r1 σ1 => ((inR r1) ∧ ((r1 = 0 → (Q (-1) σ1)) ∧ (¬ r1 = 0 → (Ct mX12_isIn d 0 t [iv p2, iv 0, iv 9] σ1 (fun r3 σ3 => ((inR r3) ∧ ((r3 = 0 → (Q (-1) σ3)) ∧ (¬ r3 = 0 → ((inR (p1 + p2)) ∧ ((¬ (p1 + p2) = 0 → ((inR (p1 + p2)) ∧ ((¬ (p1 + p2) = 1 → (Jt mX12_both (d + 1) 0 t Q 39 [rv 321, iv p1, iv p2, iv 1] [] σ3)) ∧ ((p1 + p2) = 1 → (Q 0 σ3))))) ∧ ((p1 + p2) = 0 → (Q (-1) σ3)))))))))))))) : Ct mX12_both (d + 1) 0 t [rv 321, iv p1, iv p2] σ Q := Ct_of (by decide +kernel) (Nat.le_of_ble_eq_true rfl) (b_X12_both_0 h)
set_option maxRecDepth 4000 in
theorem b_X12_order_0 {d : Nat} {t : Int} {Q : Int → jM → Prop} {σ : jM} {p1 : Int} (h : (inR p1) ∧ ((¬ p1 = (-1) → (Ct mX12_isIn d 0 t [iv p1, iv 1, iv 40] σ (fun r2 σ2 => ((inR r2) ∧ ((r2 = 0 → (Q (-2) σ2)) ∧ (¬ r2 = 0 → (((0 : Int) ≤ 3 ∧ (3 : Int) < 2208) ∧ ((inR (σ2 322 3)) ∧ ((¬ (σ2 322 3) = 4 → (((0 : Int) ≤ 3 ∧ (3 : Int) < 2208) ∧ (((0 : Int) ≤ (26 + (σ2 322 3)) ∧ (26 + (σ2 322 3)) < 2208) ∧ (∀ σ6 : jM, σ6 = up σ2 322 (26 + (σ2 322 3)) p1 → (((0 : Int) ≤ 3 ∧ (3 : Int) < 2208) ∧ (((0 : Int) ≤ 3 ∧ (3 : Int) < 2208) ∧ (∀ σ8 : jM, σ8 = up σ6 322 3 ((σ6 322 3) + 1) → (((0 : Int) ≤ 3 ∧ (3 : Int) < 2208) ∧ (Q (σ8 322 3) σ8))))))))) ∧ ((σ2 322 3) = 4 → (Q (-2) σ2))))))))))) ∧ (p1 = (-1) → (((0 : Int) ≤ 3 ∧ (3 : Int) < 2208) ∧ (∀ σ10 : jM, σ10 = up σ 322 3 0 → (Q 0 σ10)))))) : Jt mX12_order (d + 1) 0 t Q 0 [rv 321, iv p1] [] σ := by
  refine j_iload_n (i := 1) rfl (show decode cX12_order 0 = .ok (.iload_n 1, 1) by decide +kernel) ?_
  refine j_iconst (show decode cX12_order 1 = .ok (.iconst (-1), 1) by decide +kernel) ?_
  have hr0 := h.1
  have h := h.2
  refine j_icmp_ne (tgt := 14) hr0 (inl (by decide)) (show decode cX12_order 2 = .ok (.if_icmp .ne 12, 3) by decide +kernel) (by decide) (fun c => ?_) (fun c => ?_)
  · have h := h.1 c
    refine j_iload_n (i := 1) rfl (show decode cX12_order 14 = .ok (.iload_n 1, 1) by decide +kernel) ?_
    refine j_iconst (show decode cX12_order 15 = .ok (.iconst 1, 1) by decide +kernel) ?_
    refine j_bipush (n := 40) (by decide +kernel) (show decode cX12_order 16 = .ok (.bipush 40, 2) by decide +kernel) ?_
    refine j_ctS (m' := mX12_isIn) (As := [iv p1, iv 1, iv 40]) (tag := 0) (cw_X12_85 rfl) (show decode cX12_order 18 = .ok (.invokestatic 85, 3) by decide +kernel) rfl (Nat.le_of_ble_eq_true rfl) (by decide) (Nat.le_refl _) h (fun r2 σ2 h => ?_)
    have hr2 := h.1
    have h := h.2
    refine j_if_eq (tgt := 34) hr2 (show decode cX12_order 21 = .ok (.ifCond .eq 13, 3) by decide +kernel) (by decide) (fun c => ?_) (fun c => ?_)
    · have h := h.1 c
      refine j_bipush (n := -2) (by decide +kernel) (show decode cX12_order 34 = .ok (.bipush (-2), 2) by decide +kernel) ?_
      exact j_ret (rokI (show decode cX12_order 36 = .ok (.ireturn, 1) by decide +kernel) rfl) ⟨rfl, rfl, h⟩
    · have h := h.2 c
      refine s_aload_n (i := 0) rfl (show decode cX12_order 24 = .ok (.aload_n 0, 1) by decide +kernel) ?_
      refine gf_X12_7 (x := 322) rfl (show decode cX12_order 25 = .ok (.getfield 7, 3) by decide +kernel) okl_321 rfl ?_
      refine j_iconst (show decode cX12_order 28 = .ok (.iconst 3, 1) by decide +kernel) ?_
      refine s_iald (show decode cX12_order 29 = .ok (.iaload, 1) by decide +kernel) okl_322 h.1 ?_
      have h := h.2
      refine j_iconst (show decode cX12_order 30 = .ok (.iconst 4, 1) by decide +kernel) ?_
      have hr3 := h.1
      have h := h.2
      refine j_icmp_ne (tgt := 37) hr3 (inl (by decide)) (show decode cX12_order 31 = .ok (.if_icmp .ne 6, 3) by decide +kernel) (by decide) (fun c => ?_) (fun c => ?_)
      · have h := h.1 c
        refine s_aload_n (i := 0) rfl (show decode cX12_order 37 = .ok (.aload_n 0, 1) by decide +kernel) ?_
        refine gf_X12_7 (x := 322) rfl (show decode cX12_order 38 = .ok (.getfield 7, 3) by decide +kernel) okl_321 rfl ?_
        refine j_bipush (n := 26) (by decide +kernel) (show decode cX12_order 41 = .ok (.bipush 26, 2) by decide +kernel) ?_
        refine s_aload_n (i := 0) rfl (show decode cX12_order 43 = .ok (.aload_n 0, 1) by decide +kernel) ?_
        refine gf_X12_7 (x := 322) rfl (show decode cX12_order 44 = .ok (.getfield 7, 3) by decide +kernel) okl_321 rfl ?_
        refine j_iconst (show decode cX12_order 47 = .ok (.iconst 3, 1) by decide +kernel) ?_
        refine s_iald (show decode cX12_order 48 = .ok (.iaload, 1) by decide +kernel) okl_322 h.1 ?_
        have h := h.2
        refine j_iadd (show decode cX12_order 49 = .ok (.iadd, 1) by decide +kernel) ?_
        refine j_iload_n (i := 1) rfl (show decode cX12_order 50 = .ok (.iload_n 1, 1) by decide +kernel) ?_
        have hb4 := h.1
        have h := h.2
        refine s_iast (show decode cX12_order 51 = .ok (.iastore, 1) by decide +kernel) okl_322 hb4 ?_
        obtain ⟨σ6, eσ6⟩ : ∃ z : jM, z = up σ2 322 (26 + (σ2 322 3)) p1 := ⟨_, rfl⟩
        refine j_sig eσ6 ?_
        have h := h σ6 eσ6
        refine s_aload_n (i := 0) rfl (show decode cX12_order 52 = .ok (.aload_n 0, 1) by decide +kernel) ?_
        refine gf_X12_7 (x := 322) rfl (show decode cX12_order 53 = .ok (.getfield 7, 3) by decide +kernel) okl_321 rfl ?_
        refine j_iconst (show decode cX12_order 56 = .ok (.iconst 3, 1) by decide +kernel) ?_
        refine j_dup2 (show (0 : Nat) ≠ 1 by decide) (show (2 : Nat) ≠ 1 by decide) (show decode cX12_order 57 = .ok (.dup2, 1) by decide +kernel) ?_
        refine s_iald (show decode cX12_order 58 = .ok (.iaload, 1) by decide +kernel) okl_322 h.1 ?_
        have h := h.2
        refine j_iconst (show decode cX12_order 59 = .ok (.iconst 1, 1) by decide +kernel) ?_
        refine j_iadd (show decode cX12_order 60 = .ok (.iadd, 1) by decide +kernel) ?_
        have hb6 := h.1
        have h := h.2
        refine s_iast (show decode cX12_order 61 = .ok (.iastore, 1) by decide +kernel) okl_322 hb6 ?_
        obtain ⟨σ8, eσ8⟩ : ∃ z : jM, z = up σ6 322 3 ((σ6 322 3) + 1) := ⟨_, rfl⟩
        refine j_sig eσ8 ?_
        have h := h σ8 eσ8
        refine s_aload_n (i := 0) rfl (show decode cX12_order 62 = .ok (.aload_n 0, 1) by decide +kernel) ?_
        refine gf_X12_7 (x := 322) rfl (show decode cX12_order 63 = .ok (.getfield 7, 3) by decide +kernel) okl_321 rfl ?_
        refine j_iconst (show decode cX12_order 66 = .ok (.iconst 3, 1) by decide +kernel) ?_
        refine s_iald (show decode cX12_order 67 = .ok (.iaload, 1) by decide +kernel) okl_322 h.1 ?_
        have h := h.2
        exact j_ret (rokI (show decode cX12_order 68 = .ok (.ireturn, 1) by decide +kernel) rfl) ⟨rfl, rfl, h⟩
      · have h := h.2 c
        refine j_bipush (n := -2) (by decide +kernel) (show decode cX12_order 34 = .ok (.bipush (-2), 2) by decide +kernel) ?_
        exact j_ret (rokI (show decode cX12_order 36 = .ok (.ireturn, 1) by decide +kernel) rfl) ⟨rfl, rfl, h⟩
  · have h := h.2 c
    refine s_aload_n (i := 0) rfl (show decode cX12_order 5 = .ok (.aload_n 0, 1) by decide +kernel) ?_
    refine gf_X12_7 (x := 322) rfl (show decode cX12_order 6 = .ok (.getfield 7, 3) by decide +kernel) okl_321 rfl ?_
    refine j_iconst (show decode cX12_order 9 = .ok (.iconst 3, 1) by decide +kernel) ?_
    refine j_iconst (show decode cX12_order 10 = .ok (.iconst 0, 1) by decide +kernel) ?_
    have hb8 := h.1
    have h := h.2
    refine s_iast (show decode cX12_order 11 = .ok (.iastore, 1) by decide +kernel) okl_322 hb8 ?_
    obtain ⟨σ10, eσ10⟩ : ∃ z : jM, z = up σ 322 3 0 := ⟨_, rfl⟩
    refine j_sig eσ10 ?_
    have h := h σ10 eσ10
    refine j_iconst (show decode cX12_order 12 = .ok (.iconst 0, 1) by decide +kernel) ?_
    exact j_ret (rokI (show decode cX12_order 13 = .ok (.ireturn, 1) by decide +kernel) rfl) ⟨rfl, rfl, h⟩
theorem c_X12_order {d : Nat} {t : Int} {Q : Int → jM → Prop} {σ : jM} {p1 : Int} (h : (inR p1) ∧ ((¬ p1 = (-1) → (Ct mX12_isIn d 0 t [iv p1, iv 1, iv 40] σ (fun r2 σ2 => ((inR r2) ∧ ((r2 = 0 → (Q (-2) σ2)) ∧ (¬ r2 = 0 → (((0 : Int) ≤ 3 ∧ (3 : Int) < 2208) ∧ ((inR (σ2 322 3)) ∧ ((¬ (σ2 322 3) = 4 → (((0 : Int) ≤ 3 ∧ (3 : Int) < 2208) ∧ (((0 : Int) ≤ (26 + (σ2 322 3)) ∧ (26 + (σ2 322 3)) < 2208) ∧ (∀ σ6 : jM, σ6 = up σ2 322 (26 + (σ2 322 3)) p1 → (((0 : Int) ≤ 3 ∧ (3 : Int) < 2208) ∧ (((0 : Int) ≤ 3 ∧ (3 : Int) < 2208) ∧ (∀ σ8 : jM, σ8 = up σ6 322 3 ((σ6 322 3) + 1) → (((0 : Int) ≤ 3 ∧ (3 : Int) < 2208) ∧ (Q (σ8 322 3) σ8))))))))) ∧ ((σ2 322 3) = 4 → (Q (-2) σ2))))))))))) ∧ (p1 = (-1) → (((0 : Int) ≤ 3 ∧ (3 : Int) < 2208) ∧ (∀ σ10 : jM, σ10 = up σ 322 3 0 → (Q 0 σ10)))))) : Ct mX12_order (d + 1) 0 t [rv 321, iv p1] σ Q := Ct_of (by decide +kernel) (Nat.le_of_ble_eq_true rfl) (b_X12_order_0 h)
set_option maxRecDepth 4000 in
theorem b_X12_layMade_49 {d : Nat} {t : Int} {Q : Int → jM → Prop} {σ : jM} {v1 v2 : Int} (h : Ct mX12_searched d 1 t [rv 321, iv v1, iv v2, iv 0, iv 1] σ (fun r1 σ1 => ((inL r1) ∧ ((¬ r1 = 0 → (Q v2 σ1)) ∧ (r1 = 0 → (Jt mX12_layMade (d + 1) 0 t Q 49 [rv 321, iv v1, iv (v2 + 1)] [] σ1)))))) : Jt mX12_layMade (d + 1) 0 t Q 49 [rv 321, iv v1, iv v2] [] σ := by
  refine s_aload_n (i := 0) rfl (show decode cX12_layMade 49 = .ok (.aload_n 0, 1) by decide +kernel) ?_
  refine j_iload_n (i := 1) rfl (show decode cX12_layMade 50 = .ok (.iload_n 1, 1) by decide +kernel) ?_
  refine j_iload_n (i := 2) rfl (show decode cX12_layMade 51 = .ok (.iload_n 2, 1) by decide +kernel) ?_
  refine j_iconst (show decode cX12_layMade 52 = .ok (.iconst 0, 1) by decide +kernel) ?_
  refine j_iconst (show decode cX12_layMade 53 = .ok (.iconst 1, 1) by decide +kernel) ?_
  refine j_ctV (m' := mX12_searched) (As := [iv v1, iv v2, iv 0, iv 1]) (ci := 12) (tag := 1) (N := 0) (cw_X12_401 rfl) (show decode cX12_layMade 54 = .ok (.invokevirtual 401, 3) by decide +kernel) rfl (Nat.le_of_ble_eq_true rfl) (by decide) okl_321 rfl rfl (Nat.le_refl _) h (fun r1 σ1 h => ?_)
  refine j_lconst (x := 0) (by decide +kernel) (show decode cX12_layMade 57 = .ok (.lconst 0, 1) by decide +kernel) ?_
  have hr1 := h.1
  have h := h.2
  refine s_lif_ne (tgt := 68) hr1 (inll (by decide)) (show decode cX12_layMade 58 = .ok (.lcmp, 1) by decide +kernel) (show decode cX12_layMade 59 = .ok (.ifCond .ne 9, 3) by decide +kernel) (by decide) (fun c => ?_) (fun c => ?_)
  · have h := h.1 c
    refine j_iload_n (i := 2) rfl (show decode cX12_layMade 68 = .ok (.iload_n 2, 1) by decide +kernel) ?_
    exact j_ret (rokI (show decode cX12_layMade 69 = .ok (.ireturn, 1) by decide +kernel) rfl) ⟨rfl, rfl, h⟩
  · have h := h.2 c
    refine s_iinc (i := 2) rfl (L' := [rv 321, iv v1, iv (v2 + 1)]) rfl (show decode cX12_layMade 62 = .ok (.iinc 2 1, 3) by decide +kernel) ?_
    refine j_goto (tgt := 49) (show decode cX12_layMade 65 = .ok (.goto (-16), 3) by decide +kernel) (by decide) ?_
    exact h
set_option maxRecDepth 4000 in
theorem b_X12_layMade_4 {d : Nat} {t : Int} {Q : Int → jM → Prop} {σ : jM} {v1 v2 : Int} (h : ((0 : Int) ≤ 3 ∧ (3 : Int) < 2208) ∧ ((inR v2) ∧ ((inR (σ 322 3)) ∧ (((σ 322 3) ≤ v2 → (Jt mX12_layMade (d + 1) 0 t Q 49 [rv 321, iv v1, iv 0] [] σ)) ∧ (v2 < (σ 322 3) → (((0 : Int) ≤ (26 + v2) ∧ (26 + v2) < 2208) ∧ ((inR (σ 322 (26 + v2))) ∧ ((inR v1) ∧ (((σ 322 (26 + v2)) ≤ v1 → (Jt mX12_layMade (d + 1) 0 t Q 4 [rv 321, iv v1, iv (v2 + 1)] [] σ)) ∧ (v1 < (σ 322 (26 + v2)) → (((0 : Int) ≤ (26 + v2) ∧ (26 + v2) < 2208) ∧ (Jt mX12_layMade (d + 1) 0 t Q 4 [rv 321, iv (σ 322 (26 + v2)), iv (v2 + 1)] [] σ)))))))))))) : Jt mX12_layMade (d + 1) 0 t Q 4 [rv 321, iv v1, iv v2] [] σ := by
  refine j_iload_n (i := 2) rfl (show decode cX12_layMade 4 = .ok (.iload_n 2, 1) by decide +kernel) ?_
  refine s_aload_n (i := 0) rfl (show decode cX12_layMade 5 = .ok (.aload_n 0, 1) by decide +kernel) ?_
  refine gf_X12_7 (x := 322) rfl (show decode cX12_layMade 6 = .ok (.getfield 7, 3) by decide +kernel) okl_321 rfl ?_
  refine j_iconst (show decode cX12_layMade 9 = .ok (.iconst 3, 1) by decide +kernel) ?_
  refine s_iald (show decode cX12_layMade 10 = .ok (.iaload, 1) by decide +kernel) okl_322 h.1 ?_
  have h := h.2
  have hr0 := h.1
  have h := h.2
  have hr1 := h.1
  have h := h.2
  refine j_icmp_ge (tgt := 47) hr0 hr1 (show decode cX12_layMade 11 = .ok (.if_icmp .ge 36, 3) by decide +kernel) (by decide) (fun c => ?_) (fun c => ?_)
  · have h := h.1 c
    refine j_iconst (show decode cX12_layMade 47 = .ok (.iconst 0, 1) by decide +kernel) ?_
    refine s_ist_n (i := 2) (L' := [rv 321, iv v1, iv 0]) rfl (by decide) (show decode cX12_layMade 48 = .ok (.istore_n 2, 1) by decide +kernel) ?_
    exact h
  · have h := h.2 c
    refine s_aload_n (i := 0) rfl (show decode cX12_layMade 14 = .ok (.aload_n 0, 1) by decide +kernel) ?_
    refine gf_X12_7 (x := 322) rfl (show decode cX12_layMade 15 = .ok (.getfield 7, 3) by decide +kernel) okl_321 rfl ?_
    refine j_bipush (n := 26) (by decide +kernel) (show decode cX12_layMade 18 = .ok (.bipush 26, 2) by decide +kernel) ?_
    refine j_iload_n (i := 2) rfl (show decode cX12_layMade 20 = .ok (.iload_n 2, 1) by decide +kernel) ?_
    refine j_iadd (show decode cX12_layMade 21 = .ok (.iadd, 1) by decide +kernel) ?_
    refine s_iald (show decode cX12_layMade 22 = .ok (.iaload, 1) by decide +kernel) okl_322 h.1 ?_
    have h := h.2
    refine j_iload_n (i := 1) rfl (show decode cX12_layMade 23 = .ok (.iload_n 1, 1) by decide +kernel) ?_
    have hr2 := h.1
    have h := h.2
    have hr3 := h.1
    have h := h.2
    refine j_icmp_le (tgt := 39) hr2 hr3 (show decode cX12_layMade 24 = .ok (.if_icmp .le 15, 3) by decide +kernel) (by decide) (fun c => ?_) (fun c => ?_)
    · have h := h.1 c
      refine j_iload_n (i := 1) rfl (show decode cX12_layMade 39 = .ok (.iload_n 1, 1) by decide +kernel) ?_
      refine s_ist_n (i := 1) (L' := [rv 321, iv v1, iv v2]) rfl (by decide) (show decode cX12_layMade 40 = .ok (.istore_n 1, 1) by decide +kernel) ?_
      refine s_iinc (i := 2) rfl (L' := [rv 321, iv v1, iv (v2 + 1)]) rfl (show decode cX12_layMade 41 = .ok (.iinc 2 1, 3) by decide +kernel) ?_
      refine j_goto (tgt := 4) (show decode cX12_layMade 44 = .ok (.goto (-40), 3) by decide +kernel) (by decide) ?_
      exact h
    · have h := h.2 c
      refine s_aload_n (i := 0) rfl (show decode cX12_layMade 27 = .ok (.aload_n 0, 1) by decide +kernel) ?_
      refine gf_X12_7 (x := 322) rfl (show decode cX12_layMade 28 = .ok (.getfield 7, 3) by decide +kernel) okl_321 rfl ?_
      refine j_bipush (n := 26) (by decide +kernel) (show decode cX12_layMade 31 = .ok (.bipush 26, 2) by decide +kernel) ?_
      refine j_iload_n (i := 2) rfl (show decode cX12_layMade 33 = .ok (.iload_n 2, 1) by decide +kernel) ?_
      refine j_iadd (show decode cX12_layMade 34 = .ok (.iadd, 1) by decide +kernel) ?_
      refine s_iald (show decode cX12_layMade 35 = .ok (.iaload, 1) by decide +kernel) okl_322 h.1 ?_
      have h := h.2
      refine j_goto (tgt := 40) (show decode cX12_layMade 36 = .ok (.goto 4, 3) by decide +kernel) (by decide) ?_
      refine s_ist_n (i := 1) (L' := [rv 321, iv (σ 322 (26 + v2)), iv v2]) rfl (by decide) (show decode cX12_layMade 40 = .ok (.istore_n 1, 1) by decide +kernel) ?_
      refine s_iinc (i := 2) rfl (L' := [rv 321, iv (σ 322 (26 + v2)), iv (v2 + 1)]) rfl (show decode cX12_layMade 41 = .ok (.iinc 2 1, 3) by decide +kernel) ?_
      refine j_goto (tgt := 4) (show decode cX12_layMade 44 = .ok (.goto (-40), 3) by decide +kernel) (by decide) ?_
      exact h
set_option maxRecDepth 4000 in
theorem b_X12_layMade_0 {d : Nat} {t : Int} {Q : Int → jM → Prop} {σ : jM} (h : Jt mX12_layMade (d + 1) 0 t Q 4 [rv 321, iv 1, iv 0] [] σ) : Jt mX12_layMade (d + 1) 0 t Q 0 [rv 321, uv, uv] [] σ := by
  refine j_iconst (show decode cX12_layMade 0 = .ok (.iconst 1, 1) by decide +kernel) ?_
  refine s_ist_n (i := 1) (L' := [rv 321, iv 1, uv]) rfl (by decide) (show decode cX12_layMade 1 = .ok (.istore_n 1, 1) by decide +kernel) ?_
  refine j_iconst (show decode cX12_layMade 2 = .ok (.iconst 0, 1) by decide +kernel) ?_
  refine s_ist_n (i := 2) (L' := [rv 321, iv 1, iv 0]) rfl (by decide) (show decode cX12_layMade 3 = .ok (.istore_n 2, 1) by decide +kernel) ?_
  exact h
theorem c_X12_layMade {d : Nat} {t : Int} {Q : Int → jM → Prop} {σ : jM} (h : Jt mX12_layMade (d + 1) 0 t Q 4 [rv 321, iv 1, iv 0] [] σ) : Ct mX12_layMade (d + 1) 0 t [rv 321] σ Q := Ct_of (by decide +kernel) (Nat.le_of_ble_eq_true rfl) (b_X12_layMade_0 h)
set_option maxRecDepth 4000 in
theorem b_X12_made_0 {d : Nat} {t : Int} {Q : Int → jM → Prop} {σ : jM} {p1 : Int} (h : Ct mX12_layMade d 0 t [rv 321] σ (fun r1 σ1 => ((inR p1) ∧ ((¬ p1 = (-1) → (Ct mX12_isIn d 0 t [iv p1, iv 0, iv r1] σ1 (fun r3 σ3 => ((inR r3) ∧ ((r3 = 0 → (Q (-2) σ3)) ∧ (¬ r3 = 0 → (((0 : Int) ≤ p1 ∧ p1 < 44) ∧ (Q (σ3 331 p1) σ3)))))))) ∧ (p1 = (-1) → (Q r1 σ1)))))) : Jt mX12_made (d + 1) 0 t Q 0 [rv 321, iv p1, uv] [] σ := by
  refine s_aload_n (i := 0) rfl (show decode cX12_made 0 = .ok (.aload_n 0, 1) by decide +kernel) ?_
  refine j_ctV (m' := mX12_layMade) (As := []) (ci := 12) (tag := 0) (N := 0) (cw_X12_459 rfl) (show decode cX12_made 1 = .ok (.invokevirtual 459, 3) by decide +kernel) rfl (Nat.le_of_ble_eq_true rfl) (by decide) okl_321 rfl rfl (Nat.le_refl _) h (fun r1 σ1 h => ?_)
  refine s_ist_n (i := 2) (L' := [rv 321, iv p1, iv r1]) rfl (by decide) (show decode cX12_made 4 = .ok (.istore_n 2, 1) by decide +kernel) ?_
  refine j_iload_n (i := 1) rfl (show decode cX12_made 5 = .ok (.iload_n 1, 1) by decide +kernel) ?_
  refine j_iconst (show decode cX12_made 6 = .ok (.iconst (-1), 1) by decide +kernel) ?_
  have hr1 := h.1
  have h := h.2
  refine j_icmp_ne (tgt := 14) hr1 (inl (by decide)) (show decode cX12_made 7 = .ok (.if_icmp .ne 7, 3) by decide +kernel) (by decide) (fun c => ?_) (fun c => ?_)
  · have h := h.1 c
    refine j_iload_n (i := 1) rfl (show decode cX12_made 14 = .ok (.iload_n 1, 1) by decide +kernel) ?_
    refine j_iconst (show decode cX12_made 15 = .ok (.iconst 0, 1) by decide +kernel) ?_
    refine j_iload_n (i := 2) rfl (show decode cX12_made 16 = .ok (.iload_n 2, 1) by decide +kernel) ?_
    refine j_ctS (m' := mX12_isIn) (As := [iv p1, iv 0, iv r1]) (tag := 0) (cw_X12_85 rfl) (show decode cX12_made 17 = .ok (.invokestatic 85, 3) by decide +kernel) rfl (Nat.le_of_ble_eq_true rfl) (by decide) (Nat.le_refl _) h (fun r3 σ3 h => ?_)
    have hr3 := h.1
    have h := h.2
    refine j_if_eq (tgt := 32) hr3 (show decode cX12_made 20 = .ok (.ifCond .eq 12, 3) by decide +kernel) (by decide) (fun c => ?_) (fun c => ?_)
    · have h := h.1 c
      refine j_bipush (n := -2) (by decide +kernel) (show decode cX12_made 32 = .ok (.bipush (-2), 2) by decide +kernel) ?_
      exact j_ret (rokI (show decode cX12_made 34 = .ok (.ireturn, 1) by decide +kernel) rfl) ⟨rfl, rfl, h⟩
    · have h := h.2 c
      refine s_aload_n (i := 0) rfl (show decode cX12_made 23 = .ok (.aload_n 0, 1) by decide +kernel) ?_
      refine gf_X12_50 (x := 331) rfl (show decode cX12_made 24 = .ok (.getfield 50, 3) by decide +kernel) okl_321 rfl ?_
      refine j_iload_n (i := 1) rfl (show decode cX12_made 27 = .ok (.iload_n 1, 1) by decide +kernel) ?_
      refine s_iald (show decode cX12_made 28 = .ok (.iaload, 1) by decide +kernel) okl_331 h.1 ?_
      have h := h.2
      refine j_goto (tgt := 34) (show decode cX12_made 29 = .ok (.goto 5, 3) by decide +kernel) (by decide) ?_
      exact j_ret (rokI (show decode cX12_made 34 = .ok (.ireturn, 1) by decide +kernel) rfl) ⟨rfl, rfl, h⟩
  · have h := h.2 c
    refine j_iload_n (i := 2) rfl (show decode cX12_made 10 = .ok (.iload_n 2, 1) by decide +kernel) ?_
    refine j_goto (tgt := 34) (show decode cX12_made 11 = .ok (.goto 23, 3) by decide +kernel) (by decide) ?_
    exact j_ret (rokI (show decode cX12_made 34 = .ok (.ireturn, 1) by decide +kernel) rfl) ⟨rfl, rfl, h⟩
theorem c_X12_made {d : Nat} {t : Int} {Q : Int → jM → Prop} {σ : jM} {p1 : Int} (h : Ct mX12_layMade d 0 t [rv 321] σ (fun r1 σ1 => ((inR p1) ∧ ((¬ p1 = (-1) → (Ct mX12_isIn d 0 t [iv p1, iv 0, iv r1] σ1 (fun r3 σ3 => ((inR r3) ∧ ((r3 = 0 → (Q (-2) σ3)) ∧ (¬ r3 = 0 → (((0 : Int) ≤ p1 ∧ p1 < 44) ∧ (Q (σ3 331 p1) σ3)))))))) ∧ (p1 = (-1) → (Q r1 σ1)))))) : Ct mX12_made (d + 1) 0 t [rv 321, iv p1] σ Q := Ct_of (by decide +kernel) (Nat.le_of_ble_eq_true rfl) (b_X12_made_0 h)
set_option maxRecDepth 4000 in
theorem b_X12_layReached_58 {d : Nat} {t : Int} {Q : Int → jM → Prop} {σ : jM} {p1 v2 : Int} (h : (inR v2) ∧ ((v2 ≤ 0 → (Q 0 σ)) ∧ (0 < v2 → (((0 : Int) ≤ v2 ∧ v2 < 44) ∧ (((0 : Int) ≤ v2 ∧ v2 < 44) ∧ (∀ σ3 : jM, σ3 = up σ 331 v2 ((σ 331 v2) + 1) → (((0 : Int) ≤ v2 ∧ v2 < 44) ∧ (((0 : Int) ≤ (v2 - 1) ∧ (v2 - 1) < 44) ∧ ((inR (σ3 331 v2)) ∧ ((inR (2 * (σ3 331 (v2 - 1)))) ∧ (((σ3 331 v2) ≤ (2 * (σ3 331 (v2 - 1))) → (Ct mX12_isSum d 0 t [rv 321, iv (σ3 331 v2), iv v2] σ3 (fun r6 σ6 => ((inR r6) ∧ ((r6 = 0 → (Jt mX12_layReached (d + 1) 9 t Q 58 [rv 321, iv p1, iv v2, uv] [] σ6)) ∧ (¬ r6 = 0 → (((0 : Int) ≤ (σ3 331 v2) ∧ (σ3 331 v2) < 65) ∧ ((inR v2) ∧ ((inR p1) ∧ ((¬ v2 = p1 → (((0 : Int) ≤ (σ3 331 v2) ∧ (σ3 331 v2) < 65) ∧ (((i_or (σ6 339 (σ3 331 v2)) 0) = 0 ∨ (i_or (σ6 339 (σ3 331 v2)) 0) = 1) ∧ (∀ σ12 : jM, σ12 = up σ6 339 (σ3 331 v2) (i_or (σ6 339 (σ3 331 v2)) 0) → ((inR v2) ∧ ((inR p1) ∧ ((p1 ≤ v2 → (Jt mX12_layReached (d + 1) 9 t Q 58 [rv 321, iv p1, iv v2, uv] [] σ12)) ∧ (v2 < p1 → (((0 : Int) ≤ ((v2 + 1) - 1) ∧ ((v2 + 1) - 1) < 44) ∧ (((0 : Int) ≤ (v2 + 1) ∧ (v2 + 1) < 44) ∧ (∀ σ16 : jM, σ16 = up σ12 331 (v2 + 1) (σ12 331 ((v2 + 1) - 1)) → (Jt mX12_layReached (d + 1) 9 t Q 58 [rv 321, iv p1, iv (v2 + 1), uv] [] σ16)))))))))))) ∧ (v2 = p1 → (((0 : Int) ≤ (σ3 331 v2) ∧ (σ3 331 v2) < 65) ∧ (((i_or (σ6 339 (σ3 331 v2)) 1) = 0 ∨ (i_or (σ6 339 (σ3 331 v2)) 1) = 1) ∧ (∀ σ19 : jM, σ19 = up σ6 339 (σ3 331 v2) (i_or (σ6 339 (σ3 331 v2)) 1) → ((inR v2) ∧ ((inR p1) ∧ ((p1 ≤ v2 → (Jt mX12_layReached (d + 1) 9 t Q 58 [rv 321, iv p1, iv v2, uv] [] σ19)) ∧ (v2 < p1 → (((0 : Int) ≤ ((v2 + 1) - 1) ∧ ((v2 + 1) - 1) < 44) ∧ (((0 : Int) ≤ (v2 + 1) ∧ (v2 + 1) < 44) ∧ (∀ σ23 : jM, σ23 = up σ19 331 (v2 + 1) (σ19 331 ((v2 + 1) - 1)) → (Jt mX12_layReached (d + 1) 9 t Q 58 [rv 321, iv p1, iv (v2 + 1), uv] [] σ23)))))))))))))))))))))) ∧ ((2 * (σ3 331 (v2 - 1))) < (σ3 331 v2) → (Jt mX12_layReached (d + 1) 9 t Q 58 [rv 321, iv p1, iv (v2 + (-1)), uv] [] σ3))))))))))))) : Jt mX12_layReached (d + 1) 9 t Q 58 [rv 321, iv p1, iv v2, uv] [] σ := by
  refine j_iload_n (i := 2) rfl (show decode cX12_layReached 58 = .ok (.iload_n 2, 1) by decide +kernel) ?_
  have hr0 := h.1
  have h := h.2
  refine j_if_le (tgt := 152) hr0 (show decode cX12_layReached 59 = .ok (.ifCond .le 93, 3) by decide +kernel) (by decide) (fun c => ?_) (fun c => ?_)
  · have h := h.1 c
    exact j_ret (rokV (show decode cX12_layReached 152 = .ok (.return_, 1) by decide +kernel) rfl) ⟨rfl, rfl, h⟩
  · have h := h.2 c
    refine s_aload_n (i := 0) rfl (show decode cX12_layReached 62 = .ok (.aload_n 0, 1) by decide +kernel) ?_
    refine gf_X12_50 (x := 331) rfl (show decode cX12_layReached 63 = .ok (.getfield 50, 3) by decide +kernel) okl_321 rfl ?_
    refine j_iload_n (i := 2) rfl (show decode cX12_layReached 66 = .ok (.iload_n 2, 1) by decide +kernel) ?_
    refine j_dup2 (show (0 : Nat) ≠ 1 by decide) (show (2 : Nat) ≠ 1 by decide) (show decode cX12_layReached 67 = .ok (.dup2, 1) by decide +kernel) ?_
    refine s_iald (show decode cX12_layReached 68 = .ok (.iaload, 1) by decide +kernel) okl_331 h.1 ?_
    have h := h.2
    refine j_iconst (show decode cX12_layReached 69 = .ok (.iconst 1, 1) by decide +kernel) ?_
    refine j_iadd (show decode cX12_layReached 70 = .ok (.iadd, 1) by decide +kernel) ?_
    have hb1 := h.1
    have h := h.2
    refine s_iast (show decode cX12_layReached 71 = .ok (.iastore, 1) by decide +kernel) okl_331 hb1 ?_
    obtain ⟨σ3, eσ3⟩ : ∃ z : jM, z = up σ 331 v2 ((σ 331 v2) + 1) := ⟨_, rfl⟩
    refine j_sig eσ3 ?_
    have h := h σ3 eσ3
    refine s_aload_n (i := 0) rfl (show decode cX12_layReached 72 = .ok (.aload_n 0, 1) by decide +kernel) ?_
    refine gf_X12_50 (x := 331) rfl (show decode cX12_layReached 73 = .ok (.getfield 50, 3) by decide +kernel) okl_321 rfl ?_
    refine j_iload_n (i := 2) rfl (show decode cX12_layReached 76 = .ok (.iload_n 2, 1) by decide +kernel) ?_
    refine s_iald (show decode cX12_layReached 77 = .ok (.iaload, 1) by decide +kernel) okl_331 h.1 ?_
    have h := h.2
    refine s_ist_n (i := 3) (L' := [rv 321, iv p1, iv v2, iv (σ3 331 v2)]) rfl (by decide) (show decode cX12_layReached 78 = .ok (.istore_n 3, 1) by decide +kernel) ?_
    refine j_iload_n (i := 3) rfl (show decode cX12_layReached 79 = .ok (.iload_n 3, 1) by decide +kernel) ?_
    refine j_iconst (show decode cX12_layReached 80 = .ok (.iconst 2, 1) by decide +kernel) ?_
    refine s_aload_n (i := 0) rfl (show decode cX12_layReached 81 = .ok (.aload_n 0, 1) by decide +kernel) ?_
    refine gf_X12_50 (x := 331) rfl (show decode cX12_layReached 82 = .ok (.getfield 50, 3) by decide +kernel) okl_321 rfl ?_
    refine j_iload_n (i := 2) rfl (show decode cX12_layReached 85 = .ok (.iload_n 2, 1) by decide +kernel) ?_
    refine j_iconst (show decode cX12_layReached 86 = .ok (.iconst 1, 1) by decide +kernel) ?_
    refine j_isub (show decode cX12_layReached 87 = .ok (.isub, 1) by decide +kernel) ?_
    refine s_iald (show decode cX12_layReached 88 = .ok (.iaload, 1) by decide +kernel) okl_331 h.1 ?_
    have h := h.2
    refine j_imul (show decode cX12_layReached 89 = .ok (.imul, 1) by decide +kernel) ?_
    have hr3 := h.1
    have h := h.2
    have hr4 := h.1
    have h := h.2
    refine j_icmp_le (tgt := 99) hr3 hr4 (show decode cX12_layReached 90 = .ok (.if_icmp .le 9, 3) by decide +kernel) (by decide) (fun c => ?_) (fun c => ?_)
    · have h := h.1 c
      refine s_aload_n (i := 0) rfl (show decode cX12_layReached 99 = .ok (.aload_n 0, 1) by decide +kernel) ?_
      refine j_iload_n (i := 3) rfl (show decode cX12_layReached 100 = .ok (.iload_n 3, 1) by decide +kernel) ?_
      refine j_iload_n (i := 2) rfl (show decode cX12_layReached 101 = .ok (.iload_n 2, 1) by decide +kernel) ?_
      refine j_ctV (m' := mX12_isSum) (As := [iv (σ3 331 v2), iv v2]) (ci := 12) (tag := 0) (N := 0) (cw_X12_391 rfl) (show decode cX12_layReached 102 = .ok (.invokevirtual 391, 3) by decide +kernel) rfl (Nat.le_of_ble_eq_true rfl) (by decide) okl_321 rfl rfl (Nat.le_refl _) h (fun r6 σ6 h => ?_)
      have hr6 := h.1
      have h := h.2
      refine j_if_eq (tgt := 149) hr6 (show decode cX12_layReached 105 = .ok (.ifCond .eq 44, 3) by decide +kernel) (by decide) (fun c => ?_) (fun c => ?_)
      · have h := h.1 c
        refine j_goto (tgt := 58) (show decode cX12_layReached 149 = .ok (.goto (-91), 3) by decide +kernel) (by decide) ?_
        refine j_drop 3 ?_
        exact h
      · have h := h.2 c
        refine s_aload_n (i := 0) rfl (show decode cX12_layReached 108 = .ok (.aload_n 0, 1) by decide +kernel) ?_
        refine gf_X12_75 (x := 339) rfl (show decode cX12_layReached 109 = .ok (.getfield 75, 3) by decide +kernel) okl_321 rfl ?_
        refine j_iload_n (i := 3) rfl (show decode cX12_layReached 112 = .ok (.iload_n 3, 1) by decide +kernel) ?_
        refine j_dup2 (show (0 : Nat) ≠ 1 by decide) (show (2 : Nat) ≠ 1 by decide) (show decode cX12_layReached 113 = .ok (.dup2, 1) by decide +kernel) ?_
        refine s_zald (show decode cX12_layReached 114 = .ok (.baload, 1) by decide +kernel) okl_339 h.1 ?_
        have h := h.2
        refine j_iload_n (i := 2) rfl (show decode cX12_layReached 115 = .ok (.iload_n 2, 1) by decide +kernel) ?_
        refine j_iload_n (i := 1) rfl (show decode cX12_layReached 116 = .ok (.iload_n 1, 1) by decide +kernel) ?_
        have hr7 := h.1
        have h := h.2
        have hr8 := h.1
        have h := h.2
        refine j_icmp_ne (tgt := 124) hr7 hr8 (show decode cX12_layReached 117 = .ok (.if_icmp .ne 7, 3) by decide +kernel) (by decide) (fun c => ?_) (fun c => ?_)
        · have h := h.1 c
          refine j_iconst (show decode cX12_layReached 124 = .ok (.iconst 0, 1) by decide +kernel) ?_
          refine j_ior (show decode cX12_layReached 125 = .ok (.ior, 1) by decide +kernel) ?_
          have hb9 := h.1
          have h := h.2
          have hz10 := h.1
          have h := h.2
          refine s_zast (show decode cX12_layReached 126 = .ok (.bastore, 1) by decide +kernel) okl_339 hb9 hz10 ?_
          obtain ⟨σ12, eσ12⟩ : ∃ z : jM, z = up σ6 339 (σ3 331 v2) (i_or (σ6 339 (σ3 331 v2)) 0) := ⟨_, rfl⟩
          refine j_sig eσ12 ?_
          have h := h σ12 eσ12
          refine j_iload_n (i := 2) rfl (show decode cX12_layReached 127 = .ok (.iload_n 2, 1) by decide +kernel) ?_
          refine j_iload_n (i := 1) rfl (show decode cX12_layReached 128 = .ok (.iload_n 1, 1) by decide +kernel) ?_
          have hr12 := h.1
          have h := h.2
          have hr13 := h.1
          have h := h.2
          refine j_icmp_ge (tgt := 149) hr12 hr13 (show decode cX12_layReached 129 = .ok (.if_icmp .ge 20, 3) by decide +kernel) (by decide) (fun c => ?_) (fun c => ?_)
          · have h := h.1 c
            refine j_goto (tgt := 58) (show decode cX12_layReached 149 = .ok (.goto (-91), 3) by decide +kernel) (by decide) ?_
            refine j_drop 3 ?_
            exact h
          · have h := h.2 c
            refine s_iinc (i := 2) rfl (L' := [rv 321, iv p1, iv (v2 + 1), iv (σ3 331 v2)]) rfl (show decode cX12_layReached 132 = .ok (.iinc 2 1, 3) by decide +kernel) ?_
            refine s_aload_n (i := 0) rfl (show decode cX12_layReached 135 = .ok (.aload_n 0, 1) by decide +kernel) ?_
            refine gf_X12_50 (x := 331) rfl (show decode cX12_layReached 136 = .ok (.getfield 50, 3) by decide +kernel) okl_321 rfl ?_
            refine j_iload_n (i := 2) rfl (show decode cX12_layReached 139 = .ok (.iload_n 2, 1) by decide +kernel) ?_
            refine s_aload_n (i := 0) rfl (show decode cX12_layReached 140 = .ok (.aload_n 0, 1) by decide +kernel) ?_
            refine gf_X12_50 (x := 331) rfl (show decode cX12_layReached 141 = .ok (.getfield 50, 3) by decide +kernel) okl_321 rfl ?_
            refine j_iload_n (i := 2) rfl (show decode cX12_layReached 144 = .ok (.iload_n 2, 1) by decide +kernel) ?_
            refine j_iconst (show decode cX12_layReached 145 = .ok (.iconst 1, 1) by decide +kernel) ?_
            refine j_isub (show decode cX12_layReached 146 = .ok (.isub, 1) by decide +kernel) ?_
            refine s_iald (show decode cX12_layReached 147 = .ok (.iaload, 1) by decide +kernel) okl_331 h.1 ?_
            have h := h.2
            have hb14 := h.1
            have h := h.2
            refine s_iast (show decode cX12_layReached 148 = .ok (.iastore, 1) by decide +kernel) okl_331 hb14 ?_
            obtain ⟨σ16, eσ16⟩ : ∃ z : jM, z = up σ12 331 (v2 + 1) (σ12 331 ((v2 + 1) - 1)) := ⟨_, rfl⟩
            refine j_sig eσ16 ?_
            have h := h σ16 eσ16
            refine j_goto (tgt := 58) (show decode cX12_layReached 149 = .ok (.goto (-91), 3) by decide +kernel) (by decide) ?_
            refine j_drop 3 ?_
            exact h
        · have h := h.2 c
          refine j_iconst (show decode cX12_layReached 120 = .ok (.iconst 1, 1) by decide +kernel) ?_
          refine j_goto (tgt := 125) (show decode cX12_layReached 121 = .ok (.goto 4, 3) by decide +kernel) (by decide) ?_
          refine j_ior (show decode cX12_layReached 125 = .ok (.ior, 1) by decide +kernel) ?_
          have hb16 := h.1
          have h := h.2
          have hz17 := h.1
          have h := h.2
          refine s_zast (show decode cX12_layReached 126 = .ok (.bastore, 1) by decide +kernel) okl_339 hb16 hz17 ?_
          obtain ⟨σ19, eσ19⟩ : ∃ z : jM, z = up σ6 339 (σ3 331 v2) (i_or (σ6 339 (σ3 331 v2)) 1) := ⟨_, rfl⟩
          refine j_sig eσ19 ?_
          have h := h σ19 eσ19
          refine j_iload_n (i := 2) rfl (show decode cX12_layReached 127 = .ok (.iload_n 2, 1) by decide +kernel) ?_
          refine j_iload_n (i := 1) rfl (show decode cX12_layReached 128 = .ok (.iload_n 1, 1) by decide +kernel) ?_
          have hr19 := h.1
          have h := h.2
          have hr20 := h.1
          have h := h.2
          refine j_icmp_ge (tgt := 149) hr19 hr20 (show decode cX12_layReached 129 = .ok (.if_icmp .ge 20, 3) by decide +kernel) (by decide) (fun c => ?_) (fun c => ?_)
          · have h := h.1 c
            refine j_goto (tgt := 58) (show decode cX12_layReached 149 = .ok (.goto (-91), 3) by decide +kernel) (by decide) ?_
            refine j_drop 3 ?_
            exact h
          · have h := h.2 c
            refine s_iinc (i := 2) rfl (L' := [rv 321, iv p1, iv (v2 + 1), iv (σ3 331 v2)]) rfl (show decode cX12_layReached 132 = .ok (.iinc 2 1, 3) by decide +kernel) ?_
            refine s_aload_n (i := 0) rfl (show decode cX12_layReached 135 = .ok (.aload_n 0, 1) by decide +kernel) ?_
            refine gf_X12_50 (x := 331) rfl (show decode cX12_layReached 136 = .ok (.getfield 50, 3) by decide +kernel) okl_321 rfl ?_
            refine j_iload_n (i := 2) rfl (show decode cX12_layReached 139 = .ok (.iload_n 2, 1) by decide +kernel) ?_
            refine s_aload_n (i := 0) rfl (show decode cX12_layReached 140 = .ok (.aload_n 0, 1) by decide +kernel) ?_
            refine gf_X12_50 (x := 331) rfl (show decode cX12_layReached 141 = .ok (.getfield 50, 3) by decide +kernel) okl_321 rfl ?_
            refine j_iload_n (i := 2) rfl (show decode cX12_layReached 144 = .ok (.iload_n 2, 1) by decide +kernel) ?_
            refine j_iconst (show decode cX12_layReached 145 = .ok (.iconst 1, 1) by decide +kernel) ?_
            refine j_isub (show decode cX12_layReached 146 = .ok (.isub, 1) by decide +kernel) ?_
            refine s_iald (show decode cX12_layReached 147 = .ok (.iaload, 1) by decide +kernel) okl_331 h.1 ?_
            have h := h.2
            have hb21 := h.1
            have h := h.2
            refine s_iast (show decode cX12_layReached 148 = .ok (.iastore, 1) by decide +kernel) okl_331 hb21 ?_
            obtain ⟨σ23, eσ23⟩ : ∃ z : jM, z = up σ19 331 (v2 + 1) (σ19 331 ((v2 + 1) - 1)) := ⟨_, rfl⟩
            refine j_sig eσ23 ?_
            have h := h σ23 eσ23
            refine j_goto (tgt := 58) (show decode cX12_layReached 149 = .ok (.goto (-91), 3) by decide +kernel) (by decide) ?_
            refine j_drop 3 ?_
            exact h
    · have h := h.2 c
      refine s_iinc (i := 2) rfl (L' := [rv 321, iv p1, iv (v2 + (-1)), iv (σ3 331 v2)]) rfl (show decode cX12_layReached 93 = .ok (.iinc 2 (-1), 3) by decide +kernel) ?_
      refine j_goto (tgt := 149) (show decode cX12_layReached 96 = .ok (.goto 53, 3) by decide +kernel) (by decide) ?_
      refine j_goto (tgt := 58) (show decode cX12_layReached 149 = .ok (.goto (-91), 3) by decide +kernel) (by decide) ?_
      refine j_drop 3 ?_
      exact h
set_option maxRecDepth 4000 in
theorem b_X12_layReached_2 {d : Nat} {t : Int} {Q : Int → jM → Prop} {σ : jM} {p1 v2 : Int} (h : (inR v2) ∧ ((65 ≤ v2 → (((0 : Int) ≤ 0 ∧ (0 : Int) < 44) ∧ (∀ σ3 : jM, σ3 = up σ 331 0 1 → (((0 : Int) ≤ 1 ∧ (1 : Int) < 44) ∧ (∀ σ5 : jM, σ5 = up σ3 331 1 1 → ((inR p1) ∧ ((¬ p1 = 0 → (Jt mX12_layReached (d + 1) 9 t Q 58 [rv 321, iv p1, iv 1, uv] [] σ5)) ∧ (p1 = 0 → (Jt mX12_layReached (d + 1) 9 t Q 58 [rv 321, iv p1, iv 0, uv] [] σ5))))))))) ∧ (v2 < 65 → ((inR v2) ∧ ((¬ v2 = 1 → (((0 : Int) ≤ v2 ∧ v2 < 65) ∧ (∀ σ9 : jM, σ9 = up σ 339 v2 0 → (Jt mX12_layReached (d + 1) 9 t Q 2 [rv 321, iv p1, iv (v2 + 1), uv] [] σ9)))) ∧ (v2 = 1 → ((inR p1) ∧ ((¬ p1 = 0 → (((0 : Int) ≤ v2 ∧ v2 < 65) ∧ (∀ σ12 : jM, σ12 = up σ 339 v2 0 → (Jt mX12_layReached (d + 1) 9 t Q 2 [rv 321, iv p1, iv (v2 + 1), uv] [] σ12)))) ∧ (p1 = 0 → (((0 : Int) ≤ v2 ∧ v2 < 65) ∧ (∀ σ14 : jM, σ14 = up σ 339 v2 1 → (Jt mX12_layReached (d + 1) 9 t Q 2 [rv 321, iv p1, iv (v2 + 1), uv] [] σ14)))))))))))) : Jt mX12_layReached (d + 1) 9 t Q 2 [rv 321, iv p1, iv v2, uv] [] σ := by
  refine j_iload_n (i := 2) rfl (show decode cX12_layReached 2 = .ok (.iload_n 2, 1) by decide +kernel) ?_
  refine j_bipush (n := 65) (by decide +kernel) (show decode cX12_layReached 3 = .ok (.bipush 65, 2) by decide +kernel) ?_
  have hr0 := h.1
  have h := h.2
  refine j_icmp_ge (tgt := 34) hr0 (inl (by decide)) (show decode cX12_layReached 5 = .ok (.if_icmp .ge 29, 3) by decide +kernel) (by decide) (fun c => ?_) (fun c => ?_)
  · have h := h.1 c
    refine s_aload_n (i := 0) rfl (show decode cX12_layReached 34 = .ok (.aload_n 0, 1) by decide +kernel) ?_
    refine gf_X12_50 (x := 331) rfl (show decode cX12_layReached 35 = .ok (.getfield 50, 3) by decide +kernel) okl_321 rfl ?_
    refine j_iconst (show decode cX12_layReached 38 = .ok (.iconst 0, 1) by decide +kernel) ?_
    refine j_iconst (show decode cX12_layReached 39 = .ok (.iconst 1, 1) by decide +kernel) ?_
    have hb1 := h.1
    have h := h.2
    refine s_iast (show decode cX12_layReached 40 = .ok (.iastore, 1) by decide +kernel) okl_331 hb1 ?_
    obtain ⟨σ3, eσ3⟩ : ∃ z : jM, z = up σ 331 0 1 := ⟨_, rfl⟩
    refine j_sig eσ3 ?_
    have h := h σ3 eσ3
    refine s_aload_n (i := 0) rfl (show decode cX12_layReached 41 = .ok (.aload_n 0, 1) by decide +kernel) ?_
    refine gf_X12_50 (x := 331) rfl (show decode cX12_layReached 42 = .ok (.getfield 50, 3) by decide +kernel) okl_321 rfl ?_
    refine j_iconst (show decode cX12_layReached 45 = .ok (.iconst 1, 1) by decide +kernel) ?_
    refine j_iconst (show decode cX12_layReached 46 = .ok (.iconst 1, 1) by decide +kernel) ?_
    have hb3 := h.1
    have h := h.2
    refine s_iast (show decode cX12_layReached 47 = .ok (.iastore, 1) by decide +kernel) okl_331 hb3 ?_
    obtain ⟨σ5, eσ5⟩ : ∃ z : jM, z = up σ3 331 1 1 := ⟨_, rfl⟩
    refine j_sig eσ5 ?_
    have h := h σ5 eσ5
    refine j_iload_n (i := 1) rfl (show decode cX12_layReached 48 = .ok (.iload_n 1, 1) by decide +kernel) ?_
    have hr5 := h.1
    have h := h.2
    refine j_if_ne (tgt := 56) hr5 (show decode cX12_layReached 49 = .ok (.ifCond .ne 7, 3) by decide +kernel) (by decide) (fun c => ?_) (fun c => ?_)
    · have h := h.1 c
      refine j_iconst (show decode cX12_layReached 56 = .ok (.iconst 1, 1) by decide +kernel) ?_
      refine s_ist_n (i := 2) (L' := [rv 321, iv p1, iv 1, uv]) rfl (by decide) (show decode cX12_layReached 57 = .ok (.istore_n 2, 1) by decide +kernel) ?_
      exact h
    · have h := h.2 c
      refine j_iconst (show decode cX12_layReached 52 = .ok (.iconst 0, 1) by decide +kernel) ?_
      refine j_goto (tgt := 57) (show decode cX12_layReached 53 = .ok (.goto 4, 3) by decide +kernel) (by decide) ?_
      refine s_ist_n (i := 2) (L' := [rv 321, iv p1, iv 0, uv]) rfl (by decide) (show decode cX12_layReached 57 = .ok (.istore_n 2, 1) by decide +kernel) ?_
      exact h
  · have h := h.2 c
    refine s_aload_n (i := 0) rfl (show decode cX12_layReached 8 = .ok (.aload_n 0, 1) by decide +kernel) ?_
    refine gf_X12_75 (x := 339) rfl (show decode cX12_layReached 9 = .ok (.getfield 75, 3) by decide +kernel) okl_321 rfl ?_
    refine j_iload_n (i := 2) rfl (show decode cX12_layReached 12 = .ok (.iload_n 2, 1) by decide +kernel) ?_
    refine j_iload_n (i := 2) rfl (show decode cX12_layReached 13 = .ok (.iload_n 2, 1) by decide +kernel) ?_
    refine j_iconst (show decode cX12_layReached 14 = .ok (.iconst 1, 1) by decide +kernel) ?_
    have hr6 := h.1
    have h := h.2
    refine j_icmp_ne (tgt := 26) hr6 (inl (by decide)) (show decode cX12_layReached 15 = .ok (.if_icmp .ne 11, 3) by decide +kernel) (by decide) (fun c => ?_) (fun c => ?_)
    · have h := h.1 c
      refine j_iconst (show decode cX12_layReached 26 = .ok (.iconst 0, 1) by decide +kernel) ?_
      have hb7 := h.1
      have h := h.2
      refine s_zast (show decode cX12_layReached 27 = .ok (.bastore, 1) by decide +kernel) okl_339 hb7 (by decide) ?_
      obtain ⟨σ9, eσ9⟩ : ∃ z : jM, z = up σ 339 v2 0 := ⟨_, rfl⟩
      refine j_sig eσ9 ?_
      have h := h σ9 eσ9
      refine s_iinc (i := 2) rfl (L' := [rv 321, iv p1, iv (v2 + 1), uv]) rfl (show decode cX12_layReached 28 = .ok (.iinc 2 1, 3) by decide +kernel) ?_
      refine j_goto (tgt := 2) (show decode cX12_layReached 31 = .ok (.goto (-29), 3) by decide +kernel) (by decide) ?_
      exact h
    · have h := h.2 c
      refine j_iload_n (i := 1) rfl (show decode cX12_layReached 18 = .ok (.iload_n 1, 1) by decide +kernel) ?_
      have hr9 := h.1
      have h := h.2
      refine j_if_ne (tgt := 26) hr9 (show decode cX12_layReached 19 = .ok (.ifCond .ne 7, 3) by decide +kernel) (by decide) (fun c => ?_) (fun c => ?_)
      · have h := h.1 c
        refine j_iconst (show decode cX12_layReached 26 = .ok (.iconst 0, 1) by decide +kernel) ?_
        have hb10 := h.1
        have h := h.2
        refine s_zast (show decode cX12_layReached 27 = .ok (.bastore, 1) by decide +kernel) okl_339 hb10 (by decide) ?_
        obtain ⟨σ12, eσ12⟩ : ∃ z : jM, z = up σ 339 v2 0 := ⟨_, rfl⟩
        refine j_sig eσ12 ?_
        have h := h σ12 eσ12
        refine s_iinc (i := 2) rfl (L' := [rv 321, iv p1, iv (v2 + 1), uv]) rfl (show decode cX12_layReached 28 = .ok (.iinc 2 1, 3) by decide +kernel) ?_
        refine j_goto (tgt := 2) (show decode cX12_layReached 31 = .ok (.goto (-29), 3) by decide +kernel) (by decide) ?_
        exact h
      · have h := h.2 c
        refine j_iconst (show decode cX12_layReached 22 = .ok (.iconst 1, 1) by decide +kernel) ?_
        refine j_goto (tgt := 27) (show decode cX12_layReached 23 = .ok (.goto 4, 3) by decide +kernel) (by decide) ?_
        have hb12 := h.1
        have h := h.2
        refine s_zast (show decode cX12_layReached 27 = .ok (.bastore, 1) by decide +kernel) okl_339 hb12 (by decide) ?_
        obtain ⟨σ14, eσ14⟩ : ∃ z : jM, z = up σ 339 v2 1 := ⟨_, rfl⟩
        refine j_sig eσ14 ?_
        have h := h σ14 eσ14
        refine s_iinc (i := 2) rfl (L' := [rv 321, iv p1, iv (v2 + 1), uv]) rfl (show decode cX12_layReached 28 = .ok (.iinc 2 1, 3) by decide +kernel) ?_
        refine j_goto (tgt := 2) (show decode cX12_layReached 31 = .ok (.goto (-29), 3) by decide +kernel) (by decide) ?_
        exact h
set_option maxRecDepth 4000 in
theorem b_X12_layReached_0 {d : Nat} {t : Int} {Q : Int → jM → Prop} {σ : jM} {p1 : Int} (h : Jt mX12_layReached (d + 1) 9 t Q 2 [rv 321, iv p1, iv 0, uv] [] σ) : Jt mX12_layReached (d + 1) 9 t Q 0 [rv 321, iv p1, uv, uv] [] σ := by
  refine j_iconst (show decode cX12_layReached 0 = .ok (.iconst 0, 1) by decide +kernel) ?_
  refine s_ist_n (i := 2) (L' := [rv 321, iv p1, iv 0, uv]) rfl (by decide) (show decode cX12_layReached 1 = .ok (.istore_n 2, 1) by decide +kernel) ?_
  exact h
theorem c_X12_layReached {d : Nat} {t : Int} {Q : Int → jM → Prop} {σ : jM} {p1 : Int} (h : Jt mX12_layReached (d + 1) 9 t Q 2 [rv 321, iv p1, iv 0, uv] [] σ) : Ct mX12_layReached (d + 1) 9 t [rv 321, iv p1] σ Q := Ct_of (by decide +kernel) (Nat.le_of_ble_eq_true rfl) (b_X12_layReached_0 h)
set_option maxRecDepth 4000 in
theorem b_X12_reach_21 {d : Nat} {t : Int} {Q : Int → jM → Prop} {σ : jM} {p1 v2 v3 : Int} (h : (inR v3) ∧ ((65 ≤ v3 → (Q v2 σ)) ∧ (v3 < 65 → (((0 : Int) ≤ v3 ∧ v3 < 65) ∧ ((inR (σ 339 v3)) ∧ (((σ 339 v3) = 0 → (Jt mX12_reach (d + 1) 0 t Q 21 [rv 321, iv p1, iv (v2 + 0), iv (v3 + 1)] [] σ)) ∧ (¬ (σ 339 v3) = 0 → (Jt mX12_reach (d + 1) 0 t Q 21 [rv 321, iv p1, iv (v2 + 1), iv (v3 + 1)] [] σ)))))))) : Jt mX12_reach (d + 1) 0 t Q 21 [rv 321, iv p1, iv v2, iv v3] [] σ := by
  refine j_iload_n (i := 3) rfl (show decode cX12_reach 21 = .ok (.iload_n 3, 1) by decide +kernel) ?_
  refine j_bipush (n := 65) (by decide +kernel) (show decode cX12_reach 22 = .ok (.bipush 65, 2) by decide +kernel) ?_
  have hr0 := h.1
  have h := h.2
  refine j_icmp_ge (tgt := 50) hr0 (inl (by decide)) (show decode cX12_reach 24 = .ok (.if_icmp .ge 26, 3) by decide +kernel) (by decide) (fun c => ?_) (fun c => ?_)
  · have h := h.1 c
    refine j_iload_n (i := 2) rfl (show decode cX12_reach 50 = .ok (.iload_n 2, 1) by decide +kernel) ?_
    exact j_ret (rokI (show decode cX12_reach 51 = .ok (.ireturn, 1) by decide +kernel) rfl) ⟨rfl, rfl, h⟩
  · have h := h.2 c
    refine j_iload_n (i := 2) rfl (show decode cX12_reach 27 = .ok (.iload_n 2, 1) by decide +kernel) ?_
    refine s_aload_n (i := 0) rfl (show decode cX12_reach 28 = .ok (.aload_n 0, 1) by decide +kernel) ?_
    refine gf_X12_75 (x := 339) rfl (show decode cX12_reach 29 = .ok (.getfield 75, 3) by decide +kernel) okl_321 rfl ?_
    refine j_iload_n (i := 3) rfl (show decode cX12_reach 32 = .ok (.iload_n 3, 1) by decide +kernel) ?_
    refine s_zald (show decode cX12_reach 33 = .ok (.baload, 1) by decide +kernel) okl_339 h.1 ?_
    have h := h.2
    have hr1 := h.1
    have h := h.2
    refine j_if_eq (tgt := 41) hr1 (show decode cX12_reach 34 = .ok (.ifCond .eq 7, 3) by decide +kernel) (by decide) (fun c => ?_) (fun c => ?_)
    · have h := h.1 c
      refine j_iconst (show decode cX12_reach 41 = .ok (.iconst 0, 1) by decide +kernel) ?_
      refine j_iadd (show decode cX12_reach 42 = .ok (.iadd, 1) by decide +kernel) ?_
      refine s_ist_n (i := 2) (L' := [rv 321, iv p1, iv (v2 + 0), iv v3]) rfl (by decide) (show decode cX12_reach 43 = .ok (.istore_n 2, 1) by decide +kernel) ?_
      refine s_iinc (i := 3) rfl (L' := [rv 321, iv p1, iv (v2 + 0), iv (v3 + 1)]) rfl (show decode cX12_reach 44 = .ok (.iinc 3 1, 3) by decide +kernel) ?_
      refine j_goto (tgt := 21) (show decode cX12_reach 47 = .ok (.goto (-26), 3) by decide +kernel) (by decide) ?_
      exact h
    · have h := h.2 c
      refine j_iconst (show decode cX12_reach 37 = .ok (.iconst 1, 1) by decide +kernel) ?_
      refine j_goto (tgt := 42) (show decode cX12_reach 38 = .ok (.goto 4, 3) by decide +kernel) (by decide) ?_
      refine j_iadd (show decode cX12_reach 42 = .ok (.iadd, 1) by decide +kernel) ?_
      refine s_ist_n (i := 2) (L' := [rv 321, iv p1, iv (v2 + 1), iv v3]) rfl (by decide) (show decode cX12_reach 43 = .ok (.istore_n 2, 1) by decide +kernel) ?_
      refine s_iinc (i := 3) rfl (L' := [rv 321, iv p1, iv (v2 + 1), iv (v3 + 1)]) rfl (show decode cX12_reach 44 = .ok (.iinc 3 1, 3) by decide +kernel) ?_
      refine j_goto (tgt := 21) (show decode cX12_reach 47 = .ok (.goto (-26), 3) by decide +kernel) (by decide) ?_
      exact h
set_option maxRecDepth 4000 in
theorem b_X12_reach_0 {d : Nat} {t : Int} {Q : Int → jM → Prop} {σ : jM} {p1 : Int} (h : Ct mX12_isIn d 0 t [iv p1, iv 0, iv 6] σ (fun r1 σ1 => ((inR r1) ∧ ((¬ r1 = 0 → (Ct mX12_layReached d 9 t [rv 321, iv p1] σ1 (fun r3 σ3 => (Jt mX12_reach (d + 1) 0 t Q 21 [rv 321, iv p1, iv 0, iv 0] [] σ3)))) ∧ (r1 = 0 → (Q (-1) σ1)))))) : Jt mX12_reach (d + 1) 0 t Q 0 [rv 321, iv p1, uv, uv] [] σ := by
  refine j_iload_n (i := 1) rfl (show decode cX12_reach 0 = .ok (.iload_n 1, 1) by decide +kernel) ?_
  refine j_iconst (show decode cX12_reach 1 = .ok (.iconst 0, 1) by decide +kernel) ?_
  refine j_bipush (n := 6) (by decide +kernel) (show decode cX12_reach 2 = .ok (.bipush 6, 2) by decide +kernel) ?_
  refine j_ctS (m' := mX12_isIn) (As := [iv p1, iv 0, iv 6]) (tag := 0) (cw_X12_85 rfl) (show decode cX12_reach 4 = .ok (.invokestatic 85, 3) by decide +kernel) rfl (Nat.le_of_ble_eq_true rfl) (by decide) (Nat.le_refl _) h (fun r1 σ1 h => ?_)
  have hr1 := h.1
  have h := h.2
  refine j_if_ne (tgt := 12) hr1 (show decode cX12_reach 7 = .ok (.ifCond .ne 5, 3) by decide +kernel) (by decide) (fun c => ?_) (fun c => ?_)
  · have h := h.1 c
    refine s_aload_n (i := 0) rfl (show decode cX12_reach 12 = .ok (.aload_n 0, 1) by decide +kernel) ?_
    refine j_iload_n (i := 1) rfl (show decode cX12_reach 13 = .ok (.iload_n 1, 1) by decide +kernel) ?_
    refine j_ctVv (m' := mX12_layReached) (As := [iv p1]) (ci := 12) (N := 0) (cw_X12_462 rfl) (show decode cX12_reach 14 = .ok (.invokevirtual 462, 3) by decide +kernel) rfl (Nat.le_of_ble_eq_true rfl) okl_321 rfl rfl (Nat.le_refl _) h (fun r3 σ3 h => ?_)
    refine j_iconst (show decode cX12_reach 17 = .ok (.iconst 0, 1) by decide +kernel) ?_
    refine s_ist_n (i := 2) (L' := [rv 321, iv p1, iv 0, uv]) rfl (by decide) (show decode cX12_reach 18 = .ok (.istore_n 2, 1) by decide +kernel) ?_
    refine j_iconst (show decode cX12_reach 19 = .ok (.iconst 0, 1) by decide +kernel) ?_
    refine s_ist_n (i := 3) (L' := [rv 321, iv p1, iv 0, iv 0]) rfl (by decide) (show decode cX12_reach 20 = .ok (.istore_n 3, 1) by decide +kernel) ?_
    exact h
  · have h := h.2 c
    refine j_iconst (show decode cX12_reach 10 = .ok (.iconst (-1), 1) by decide +kernel) ?_
    exact j_ret (rokI (show decode cX12_reach 11 = .ok (.ireturn, 1) by decide +kernel) rfl) ⟨rfl, rfl, h⟩
theorem c_X12_reach {d : Nat} {t : Int} {Q : Int → jM → Prop} {σ : jM} {p1 : Int} (h : Ct mX12_isIn d 0 t [iv p1, iv 0, iv 6] σ (fun r1 σ1 => ((inR r1) ∧ ((¬ r1 = 0 → (Ct mX12_layReached d 9 t [rv 321, iv p1] σ1 (fun r3 σ3 => (Jt mX12_reach (d + 1) 0 t Q 21 [rv 321, iv p1, iv 0, iv 0] [] σ3)))) ∧ (r1 = 0 → (Q (-1) σ1)))))) : Ct mX12_reach (d + 1) 0 t [rv 321, iv p1] σ Q := Ct_of (by decide +kernel) (Nat.le_of_ble_eq_true rfl) (b_X12_reach_0 h)
set_option maxRecDepth 4000 in
theorem b_X12_reached_26 {d : Nat} {t : Int} {Q : Int → jM → Prop} {σ : jM} {p1 p2 v3 v4 : Int} (h : (inR v4) ∧ ((65 ≤ v4 → (Q (-1) σ)) ∧ (v4 < 65 → (((0 : Int) ≤ v4 ∧ v4 < 65) ∧ ((inR (σ 339 v4)) ∧ ((¬ (σ 339 v4) = 0 → ((inR v3) ∧ ((inR p2) ∧ ((¬ v3 = p2 → (Jt mX12_reached (d + 1) 0 t Q 26 [rv 321, iv p1, iv p2, iv (v3 + 1), iv (v4 + 1)] [] σ)) ∧ (v3 = p2 → (Q v4 σ)))))) ∧ ((σ 339 v4) = 0 → (Jt mX12_reached (d + 1) 0 t Q 26 [rv 321, iv p1, iv p2, iv v3, iv (v4 + 1)] [] σ)))))))) : Jt mX12_reached (d + 1) 0 t Q 26 [rv 321, iv p1, iv p2, iv v3, iv v4] [] σ := by
  refine j_iload (i := 4) rfl (show decode cX12_reached 26 = .ok (.iload 4, 2) by decide +kernel) ?_
  refine j_bipush (n := 65) (by decide +kernel) (show decode cX12_reached 28 = .ok (.bipush 65, 2) by decide +kernel) ?_
  have hr0 := h.1
  have h := h.2
  refine j_icmp_ge (tgt := 63) hr0 (inl (by decide)) (show decode cX12_reached 30 = .ok (.if_icmp .ge 33, 3) by decide +kernel) (by decide) (fun c => ?_) (fun c => ?_)
  · have h := h.1 c
    refine j_iconst (show decode cX12_reached 63 = .ok (.iconst (-1), 1) by decide +kernel) ?_
    exact j_ret (rokI (show decode cX12_reached 64 = .ok (.ireturn, 1) by decide +kernel) rfl) ⟨rfl, rfl, h⟩
  · have h := h.2 c
    refine s_aload_n (i := 0) rfl (show decode cX12_reached 33 = .ok (.aload_n 0, 1) by decide +kernel) ?_
    refine gf_X12_75 (x := 339) rfl (show decode cX12_reached 34 = .ok (.getfield 75, 3) by decide +kernel) okl_321 rfl ?_
    refine j_iload (i := 4) rfl (show decode cX12_reached 37 = .ok (.iload 4, 2) by decide +kernel) ?_
    refine s_zald (show decode cX12_reached 39 = .ok (.baload, 1) by decide +kernel) okl_339 h.1 ?_
    have h := h.2
    have hr1 := h.1
    have h := h.2
    refine j_if_ne (tgt := 46) hr1 (show decode cX12_reached 40 = .ok (.ifCond .ne 6, 3) by decide +kernel) (by decide) (fun c => ?_) (fun c => ?_)
    · have h := h.1 c
      refine j_iload_n (i := 3) rfl (show decode cX12_reached 46 = .ok (.iload_n 3, 1) by decide +kernel) ?_
      refine j_iload_n (i := 2) rfl (show decode cX12_reached 47 = .ok (.iload_n 2, 1) by decide +kernel) ?_
      have hr2 := h.1
      have h := h.2
      have hr3 := h.1
      have h := h.2
      refine j_icmp_ne (tgt := 54) hr2 hr3 (show decode cX12_reached 48 = .ok (.if_icmp .ne 6, 3) by decide +kernel) (by decide) (fun c => ?_) (fun c => ?_)
      · have h := h.1 c
        refine s_iinc (i := 3) rfl (L' := [rv 321, iv p1, iv p2, iv (v3 + 1), iv v4]) rfl (show decode cX12_reached 54 = .ok (.iinc 3 1, 3) by decide +kernel) ?_
        refine s_iinc (i := 4) rfl (L' := [rv 321, iv p1, iv p2, iv (v3 + 1), iv (v4 + 1)]) rfl (show decode cX12_reached 57 = .ok (.iinc 4 1, 3) by decide +kernel) ?_
        refine j_goto (tgt := 26) (show decode cX12_reached 60 = .ok (.goto (-34), 3) by decide +kernel) (by decide) ?_
        exact h
      · have h := h.2 c
        refine j_iload (i := 4) rfl (show decode cX12_reached 51 = .ok (.iload 4, 2) by decide +kernel) ?_
        exact j_ret (rokI (show decode cX12_reached 53 = .ok (.ireturn, 1) by decide +kernel) rfl) ⟨rfl, rfl, h⟩
    · have h := h.2 c
      refine j_goto (tgt := 57) (show decode cX12_reached 43 = .ok (.goto 14, 3) by decide +kernel) (by decide) ?_
      refine s_iinc (i := 4) rfl (L' := [rv 321, iv p1, iv p2, iv v3, iv (v4 + 1)]) rfl (show decode cX12_reached 57 = .ok (.iinc 4 1, 3) by decide +kernel) ?_
      refine j_goto (tgt := 26) (show decode cX12_reached 60 = .ok (.goto (-34), 3) by decide +kernel) (by decide) ?_
      exact h
set_option maxRecDepth 4000 in
theorem b_X12_reached_0 {d : Nat} {t : Int} {Q : Int → jM → Prop} {σ : jM} {p1 p2 : Int} (h : Ct mX12_isIn d 0 t [iv p1, iv 0, iv 6] σ (fun r1 σ1 => ((inR r1) ∧ ((r1 = 0 → (Q (-1) σ1)) ∧ (¬ r1 = 0 → ((inR p2) ∧ ((0 ≤ p2 → (Ct mX12_layReached d 9 t [rv 321, iv p1] σ1 (fun r4 σ4 => (Jt mX12_reached (d + 1) 0 t Q 26 [rv 321, iv p1, iv p2, iv 0, iv 0] [] σ4)))) ∧ (p2 < 0 → (Q (-1) σ1))))))))) : Jt mX12_reached (d + 1) 0 t Q 0 [rv 321, iv p1, iv p2, uv, uv] [] σ := by
  refine j_iload_n (i := 1) rfl (show decode cX12_reached 0 = .ok (.iload_n 1, 1) by decide +kernel) ?_
  refine j_iconst (show decode cX12_reached 1 = .ok (.iconst 0, 1) by decide +kernel) ?_
  refine j_bipush (n := 6) (by decide +kernel) (show decode cX12_reached 2 = .ok (.bipush 6, 2) by decide +kernel) ?_
  refine j_ctS (m' := mX12_isIn) (As := [iv p1, iv 0, iv 6]) (tag := 0) (cw_X12_85 rfl) (show decode cX12_reached 4 = .ok (.invokestatic 85, 3) by decide +kernel) rfl (Nat.le_of_ble_eq_true rfl) (by decide) (Nat.le_refl _) h (fun r1 σ1 h => ?_)
  have hr1 := h.1
  have h := h.2
  refine j_if_eq (tgt := 14) hr1 (show decode cX12_reached 7 = .ok (.ifCond .eq 7, 3) by decide +kernel) (by decide) (fun c => ?_) (fun c => ?_)
  · have h := h.1 c
    refine j_iconst (show decode cX12_reached 14 = .ok (.iconst (-1), 1) by decide +kernel) ?_
    exact j_ret (rokI (show decode cX12_reached 15 = .ok (.ireturn, 1) by decide +kernel) rfl) ⟨rfl, rfl, h⟩
  · have h := h.2 c
    refine j_iload_n (i := 2) rfl (show decode cX12_reached 10 = .ok (.iload_n 2, 1) by decide +kernel) ?_
    have hr2 := h.1
    have h := h.2
    refine j_if_ge (tgt := 16) hr2 (show decode cX12_reached 11 = .ok (.ifCond .ge 5, 3) by decide +kernel) (by decide) (fun c => ?_) (fun c => ?_)
    · have h := h.1 c
      refine s_aload_n (i := 0) rfl (show decode cX12_reached 16 = .ok (.aload_n 0, 1) by decide +kernel) ?_
      refine j_iload_n (i := 1) rfl (show decode cX12_reached 17 = .ok (.iload_n 1, 1) by decide +kernel) ?_
      refine j_ctVv (m' := mX12_layReached) (As := [iv p1]) (ci := 12) (N := 0) (cw_X12_462 rfl) (show decode cX12_reached 18 = .ok (.invokevirtual 462, 3) by decide +kernel) rfl (Nat.le_of_ble_eq_true rfl) okl_321 rfl rfl (Nat.le_refl _) h (fun r4 σ4 h => ?_)
      refine j_iconst (show decode cX12_reached 21 = .ok (.iconst 0, 1) by decide +kernel) ?_
      refine s_ist_n (i := 3) (L' := [rv 321, iv p1, iv p2, iv 0, uv]) rfl (by decide) (show decode cX12_reached 22 = .ok (.istore_n 3, 1) by decide +kernel) ?_
      refine j_iconst (show decode cX12_reached 23 = .ok (.iconst 0, 1) by decide +kernel) ?_
      refine s_ist (i := 4) (L' := [rv 321, iv p1, iv p2, iv 0, iv 0]) rfl (by decide) (show decode cX12_reached 24 = .ok (.istore 4, 2) by decide +kernel) ?_
      exact h
    · have h := h.2 c
      refine j_iconst (show decode cX12_reached 14 = .ok (.iconst (-1), 1) by decide +kernel) ?_
      exact j_ret (rokI (show decode cX12_reached 15 = .ok (.ireturn, 1) by decide +kernel) rfl) ⟨rfl, rfl, h⟩
theorem c_X12_reached {d : Nat} {t : Int} {Q : Int → jM → Prop} {σ : jM} {p1 p2 : Int} (h : Ct mX12_isIn d 0 t [iv p1, iv 0, iv 6] σ (fun r1 σ1 => ((inR r1) ∧ ((r1 = 0 → (Q (-1) σ1)) ∧ (¬ r1 = 0 → ((inR p2) ∧ ((0 ≤ p2 → (Ct mX12_layReached d 9 t [rv 321, iv p1] σ1 (fun r4 σ4 => (Jt mX12_reached (d + 1) 0 t Q 26 [rv 321, iv p1, iv p2, iv 0, iv 0] [] σ4)))) ∧ (p2 < 0 → (Q (-1) σ1))))))))) : Ct mX12_reached (d + 1) 0 t [rv 321, iv p1, iv p2] σ Q := Ct_of (by decide +kernel) (Nat.le_of_ble_eq_true rfl) (b_X12_reached_0 h)
set_option maxRecDepth 4000 in
theorem b_X12_first_14 {d : Nat} {t : Int} {Q : Int → jM → Prop} {σ : jM} {p1 v2 : Int} (h : Ct mX12_layChain d 0 t [rv 321, iv v2] σ (fun r1 σ1 => ((inR r1) ∧ ((inR p1) ∧ ((p1 ≤ r1 → (Q v2 σ1)) ∧ (r1 < p1 → (Jt mX12_first (d + 1) 0 t Q 14 [rv 321, iv p1, iv (v2 + 1)] [] σ1))))))) : Jt mX12_first (d + 1) 0 t Q 14 [rv 321, iv p1, iv v2] [] σ := by
  refine s_aload_n (i := 0) rfl (show decode cX12_first 14 = .ok (.aload_n 0, 1) by decide +kernel) ?_
  refine j_iload_n (i := 2) rfl (show decode cX12_first 15 = .ok (.iload_n 2, 1) by decide +kernel) ?_
  refine j_ctV (m' := mX12_layChain) (As := [iv v2]) (ci := 12) (tag := 0) (N := 0) (cw_X12_358 rfl) (show decode cX12_first 16 = .ok (.invokevirtual 358, 3) by decide +kernel) rfl (Nat.le_of_ble_eq_true rfl) (by decide) okl_321 rfl rfl (Nat.le_refl _) h (fun r1 σ1 h => ?_)
  refine j_iload_n (i := 1) rfl (show decode cX12_first 19 = .ok (.iload_n 1, 1) by decide +kernel) ?_
  have hr1 := h.1
  have h := h.2
  have hr2 := h.1
  have h := h.2
  refine j_icmp_ge (tgt := 29) hr1 hr2 (show decode cX12_first 20 = .ok (.if_icmp .ge 9, 3) by decide +kernel) (by decide) (fun c => ?_) (fun c => ?_)
  · have h := h.1 c
    refine j_iload_n (i := 2) rfl (show decode cX12_first 29 = .ok (.iload_n 2, 1) by decide +kernel) ?_
    exact j_ret (rokI (show decode cX12_first 30 = .ok (.ireturn, 1) by decide +kernel) rfl) ⟨rfl, rfl, h⟩
  · have h := h.2 c
    refine s_iinc (i := 2) rfl (L' := [rv 321, iv p1, iv (v2 + 1)]) rfl (show decode cX12_first 23 = .ok (.iinc 2 1, 3) by decide +kernel) ?_
    refine j_goto (tgt := 14) (show decode cX12_first 26 = .ok (.goto (-12), 3) by decide +kernel) (by decide) ?_
    exact h
set_option maxRecDepth 4000 in
theorem b_X12_first_0 {d : Nat} {t : Int} {Q : Int → jM → Prop} {σ : jM} {p1 : Int} (h : Ct mX12_isIn d 0 t [iv p1, iv 0, iv 9] σ (fun r1 σ1 => ((inR r1) ∧ ((¬ r1 = 0 → (Jt mX12_first (d + 1) 0 t Q 14 [rv 321, iv p1, iv 1] [] σ1)) ∧ (r1 = 0 → (Q (-1) σ1)))))) : Jt mX12_first (d + 1) 0 t Q 0 [rv 321, iv p1, uv] [] σ := by
  refine j_iload_n (i := 1) rfl (show decode cX12_first 0 = .ok (.iload_n 1, 1) by decide +kernel) ?_
  refine j_iconst (show decode cX12_first 1 = .ok (.iconst 0, 1) by decide +kernel) ?_
  refine j_bipush (n := 9) (by decide +kernel) (show decode cX12_first 2 = .ok (.bipush 9, 2) by decide +kernel) ?_
  refine j_ctS (m' := mX12_isIn) (As := [iv p1, iv 0, iv 9]) (tag := 0) (cw_X12_85 rfl) (show decode cX12_first 4 = .ok (.invokestatic 85, 3) by decide +kernel) rfl (Nat.le_of_ble_eq_true rfl) (by decide) (Nat.le_refl _) h (fun r1 σ1 h => ?_)
  have hr1 := h.1
  have h := h.2
  refine j_if_ne (tgt := 12) hr1 (show decode cX12_first 7 = .ok (.ifCond .ne 5, 3) by decide +kernel) (by decide) (fun c => ?_) (fun c => ?_)
  · have h := h.1 c
    refine j_iconst (show decode cX12_first 12 = .ok (.iconst 1, 1) by decide +kernel) ?_
    refine s_ist_n (i := 2) (L' := [rv 321, iv p1, iv 1]) rfl (by decide) (show decode cX12_first 13 = .ok (.istore_n 2, 1) by decide +kernel) ?_
    exact h
  · have h := h.2 c
    refine j_iconst (show decode cX12_first 10 = .ok (.iconst (-1), 1) by decide +kernel) ?_
    exact j_ret (rokI (show decode cX12_first 11 = .ok (.ireturn, 1) by decide +kernel) rfl) ⟨rfl, rfl, h⟩
theorem c_X12_first {d : Nat} {t : Int} {Q : Int → jM → Prop} {σ : jM} {p1 : Int} (h : Ct mX12_isIn d 0 t [iv p1, iv 0, iv 9] σ (fun r1 σ1 => ((inR r1) ∧ ((¬ r1 = 0 → (Jt mX12_first (d + 1) 0 t Q 14 [rv 321, iv p1, iv 1] [] σ1)) ∧ (r1 = 0 → (Q (-1) σ1)))))) : Ct mX12_first (d + 1) 0 t [rv 321, iv p1] σ Q := Ct_of (by decide +kernel) (Nat.le_of_ble_eq_true rfl) (b_X12_first_0 h)
set_option maxRecDepth 4000 in
theorem b_X12_tell_0 {d : Nat} {t : Int} {Q : Int → jM → Prop} {σ : jM} {p1 : Int} (h : (inR p1) ∧ ((¬ p1 = (-1) → (Ct mX12_isIn d 0 t [iv p1, iv 1, iv 9999] σ (fun r2 σ2 => ((inR r2) ∧ ((r2 = 0 → (Q (-2) σ2)) ∧ (¬ r2 = 0 → (((0 : Int) ≤ 4 ∧ (4 : Int) < 2208) ∧ ((inR (σ2 322 4)) ∧ ((¬ (σ2 322 4) = 12 → (((0 : Int) ≤ 4 ∧ (4 : Int) < 2208) ∧ (((0 : Int) ≤ (30 + (σ2 322 4)) ∧ (30 + (σ2 322 4)) < 2208) ∧ (∀ σ6 : jM, σ6 = up σ2 322 (30 + (σ2 322 4)) p1 → (((0 : Int) ≤ 4 ∧ (4 : Int) < 2208) ∧ (((0 : Int) ≤ 4 ∧ (4 : Int) < 2208) ∧ (∀ σ8 : jM, σ8 = up σ6 322 4 ((σ6 322 4) + 1) → (((0 : Int) ≤ 4 ∧ (4 : Int) < 2208) ∧ (Q (σ8 322 4) σ8))))))))) ∧ ((σ2 322 4) = 12 → (Q (-2) σ2))))))))))) ∧ (p1 = (-1) → (((0 : Int) ≤ 4 ∧ (4 : Int) < 2208) ∧ (∀ σ10 : jM, σ10 = up σ 322 4 1 → (Q 1 σ10)))))) : Jt mX12_tell (d + 1) 0 t Q 0 [rv 321, iv p1] [] σ := by
  refine j_iload_n (i := 1) rfl (show decode cX12_tell 0 = .ok (.iload_n 1, 1) by decide +kernel) ?_
  refine j_iconst (show decode cX12_tell 1 = .ok (.iconst (-1), 1) by decide +kernel) ?_
  have hr0 := h.1
  have h := h.2
  refine j_icmp_ne (tgt := 14) hr0 (inl (by decide)) (show decode cX12_tell 2 = .ok (.if_icmp .ne 12, 3) by decide +kernel) (by decide) (fun c => ?_) (fun c => ?_)
  · have h := h.1 c
    refine j_iload_n (i := 1) rfl (show decode cX12_tell 14 = .ok (.iload_n 1, 1) by decide +kernel) ?_
    refine j_iconst (show decode cX12_tell 15 = .ok (.iconst 1, 1) by decide +kernel) ?_
    refine j_sipush (n := 9999) (by decide +kernel) (show decode cX12_tell 16 = .ok (.sipush 9999, 3) by decide +kernel) ?_
    refine j_ctS (m' := mX12_isIn) (As := [iv p1, iv 1, iv 9999]) (tag := 0) (cw_X12_85 rfl) (show decode cX12_tell 19 = .ok (.invokestatic 85, 3) by decide +kernel) rfl (Nat.le_of_ble_eq_true rfl) (by decide) (Nat.le_refl _) h (fun r2 σ2 h => ?_)
    have hr2 := h.1
    have h := h.2
    refine j_if_eq (tgt := 36) hr2 (show decode cX12_tell 22 = .ok (.ifCond .eq 14, 3) by decide +kernel) (by decide) (fun c => ?_) (fun c => ?_)
    · have h := h.1 c
      refine j_bipush (n := -2) (by decide +kernel) (show decode cX12_tell 36 = .ok (.bipush (-2), 2) by decide +kernel) ?_
      exact j_ret (rokI (show decode cX12_tell 38 = .ok (.ireturn, 1) by decide +kernel) rfl) ⟨rfl, rfl, h⟩
    · have h := h.2 c
      refine s_aload_n (i := 0) rfl (show decode cX12_tell 25 = .ok (.aload_n 0, 1) by decide +kernel) ?_
      refine gf_X12_7 (x := 322) rfl (show decode cX12_tell 26 = .ok (.getfield 7, 3) by decide +kernel) okl_321 rfl ?_
      refine j_iconst (show decode cX12_tell 29 = .ok (.iconst 4, 1) by decide +kernel) ?_
      refine s_iald (show decode cX12_tell 30 = .ok (.iaload, 1) by decide +kernel) okl_322 h.1 ?_
      have h := h.2
      refine j_bipush (n := 12) (by decide +kernel) (show decode cX12_tell 31 = .ok (.bipush 12, 2) by decide +kernel) ?_
      have hr3 := h.1
      have h := h.2
      refine j_icmp_ne (tgt := 39) hr3 (inl (by decide)) (show decode cX12_tell 33 = .ok (.if_icmp .ne 6, 3) by decide +kernel) (by decide) (fun c => ?_) (fun c => ?_)
      · have h := h.1 c
        refine s_aload_n (i := 0) rfl (show decode cX12_tell 39 = .ok (.aload_n 0, 1) by decide +kernel) ?_
        refine gf_X12_7 (x := 322) rfl (show decode cX12_tell 40 = .ok (.getfield 7, 3) by decide +kernel) okl_321 rfl ?_
        refine j_bipush (n := 30) (by decide +kernel) (show decode cX12_tell 43 = .ok (.bipush 30, 2) by decide +kernel) ?_
        refine s_aload_n (i := 0) rfl (show decode cX12_tell 45 = .ok (.aload_n 0, 1) by decide +kernel) ?_
        refine gf_X12_7 (x := 322) rfl (show decode cX12_tell 46 = .ok (.getfield 7, 3) by decide +kernel) okl_321 rfl ?_
        refine j_iconst (show decode cX12_tell 49 = .ok (.iconst 4, 1) by decide +kernel) ?_
        refine s_iald (show decode cX12_tell 50 = .ok (.iaload, 1) by decide +kernel) okl_322 h.1 ?_
        have h := h.2
        refine j_iadd (show decode cX12_tell 51 = .ok (.iadd, 1) by decide +kernel) ?_
        refine j_iload_n (i := 1) rfl (show decode cX12_tell 52 = .ok (.iload_n 1, 1) by decide +kernel) ?_
        have hb4 := h.1
        have h := h.2
        refine s_iast (show decode cX12_tell 53 = .ok (.iastore, 1) by decide +kernel) okl_322 hb4 ?_
        obtain ⟨σ6, eσ6⟩ : ∃ z : jM, z = up σ2 322 (30 + (σ2 322 4)) p1 := ⟨_, rfl⟩
        refine j_sig eσ6 ?_
        have h := h σ6 eσ6
        refine s_aload_n (i := 0) rfl (show decode cX12_tell 54 = .ok (.aload_n 0, 1) by decide +kernel) ?_
        refine gf_X12_7 (x := 322) rfl (show decode cX12_tell 55 = .ok (.getfield 7, 3) by decide +kernel) okl_321 rfl ?_
        refine j_iconst (show decode cX12_tell 58 = .ok (.iconst 4, 1) by decide +kernel) ?_
        refine j_dup2 (show (0 : Nat) ≠ 1 by decide) (show (2 : Nat) ≠ 1 by decide) (show decode cX12_tell 59 = .ok (.dup2, 1) by decide +kernel) ?_
        refine s_iald (show decode cX12_tell 60 = .ok (.iaload, 1) by decide +kernel) okl_322 h.1 ?_
        have h := h.2
        refine j_iconst (show decode cX12_tell 61 = .ok (.iconst 1, 1) by decide +kernel) ?_
        refine j_iadd (show decode cX12_tell 62 = .ok (.iadd, 1) by decide +kernel) ?_
        have hb6 := h.1
        have h := h.2
        refine s_iast (show decode cX12_tell 63 = .ok (.iastore, 1) by decide +kernel) okl_322 hb6 ?_
        obtain ⟨σ8, eσ8⟩ : ∃ z : jM, z = up σ6 322 4 ((σ6 322 4) + 1) := ⟨_, rfl⟩
        refine j_sig eσ8 ?_
        have h := h σ8 eσ8
        refine s_aload_n (i := 0) rfl (show decode cX12_tell 64 = .ok (.aload_n 0, 1) by decide +kernel) ?_
        refine gf_X12_7 (x := 322) rfl (show decode cX12_tell 65 = .ok (.getfield 7, 3) by decide +kernel) okl_321 rfl ?_
        refine j_iconst (show decode cX12_tell 68 = .ok (.iconst 4, 1) by decide +kernel) ?_
        refine s_iald (show decode cX12_tell 69 = .ok (.iaload, 1) by decide +kernel) okl_322 h.1 ?_
        have h := h.2
        exact j_ret (rokI (show decode cX12_tell 70 = .ok (.ireturn, 1) by decide +kernel) rfl) ⟨rfl, rfl, h⟩
      · have h := h.2 c
        refine j_bipush (n := -2) (by decide +kernel) (show decode cX12_tell 36 = .ok (.bipush (-2), 2) by decide +kernel) ?_
        exact j_ret (rokI (show decode cX12_tell 38 = .ok (.ireturn, 1) by decide +kernel) rfl) ⟨rfl, rfl, h⟩
  · have h := h.2 c
    refine s_aload_n (i := 0) rfl (show decode cX12_tell 5 = .ok (.aload_n 0, 1) by decide +kernel) ?_
    refine gf_X12_7 (x := 322) rfl (show decode cX12_tell 6 = .ok (.getfield 7, 3) by decide +kernel) okl_321 rfl ?_
    refine j_iconst (show decode cX12_tell 9 = .ok (.iconst 4, 1) by decide +kernel) ?_
    refine j_iconst (show decode cX12_tell 10 = .ok (.iconst 1, 1) by decide +kernel) ?_
    have hb8 := h.1
    have h := h.2
    refine s_iast (show decode cX12_tell 11 = .ok (.iastore, 1) by decide +kernel) okl_322 hb8 ?_
    obtain ⟨σ10, eσ10⟩ : ∃ z : jM, z = up σ 322 4 1 := ⟨_, rfl⟩
    refine j_sig eσ10 ?_
    have h := h σ10 eσ10
    refine j_iconst (show decode cX12_tell 12 = .ok (.iconst 1, 1) by decide +kernel) ?_
    exact j_ret (rokI (show decode cX12_tell 13 = .ok (.ireturn, 1) by decide +kernel) rfl) ⟨rfl, rfl, h⟩
theorem c_X12_tell {d : Nat} {t : Int} {Q : Int → jM → Prop} {σ : jM} {p1 : Int} (h : (inR p1) ∧ ((¬ p1 = (-1) → (Ct mX12_isIn d 0 t [iv p1, iv 1, iv 9999] σ (fun r2 σ2 => ((inR r2) ∧ ((r2 = 0 → (Q (-2) σ2)) ∧ (¬ r2 = 0 → (((0 : Int) ≤ 4 ∧ (4 : Int) < 2208) ∧ ((inR (σ2 322 4)) ∧ ((¬ (σ2 322 4) = 12 → (((0 : Int) ≤ 4 ∧ (4 : Int) < 2208) ∧ (((0 : Int) ≤ (30 + (σ2 322 4)) ∧ (30 + (σ2 322 4)) < 2208) ∧ (∀ σ6 : jM, σ6 = up σ2 322 (30 + (σ2 322 4)) p1 → (((0 : Int) ≤ 4 ∧ (4 : Int) < 2208) ∧ (((0 : Int) ≤ 4 ∧ (4 : Int) < 2208) ∧ (∀ σ8 : jM, σ8 = up σ6 322 4 ((σ6 322 4) + 1) → (((0 : Int) ≤ 4 ∧ (4 : Int) < 2208) ∧ (Q (σ8 322 4) σ8))))))))) ∧ ((σ2 322 4) = 12 → (Q (-2) σ2))))))))))) ∧ (p1 = (-1) → (((0 : Int) ≤ 4 ∧ (4 : Int) < 2208) ∧ (∀ σ10 : jM, σ10 = up σ 322 4 1 → (Q 1 σ10)))))) : Ct mX12_tell (d + 1) 0 t [rv 321, iv p1] σ Q := Ct_of (by decide +kernel) (Nat.le_of_ble_eq_true rfl) (b_X12_tell_0 h)
set_option maxRecDepth 4000 in
theorem b_X12_layTold_4 {d : Nat} {t : Int} {Q : Int → jM → Prop} {σ : jM} {p1 v2 v3 : Int} (h : ((0 : Int) ≤ 4 ∧ (4 : Int) < 2208) ∧ ((inR v3) ∧ ((inR (σ 322 4)) ∧ (((σ 322 4) ≤ v3 → (Q v2 σ)) ∧ (v3 < (σ 322 4) → ((inR v3) ∧ ((inR p1) ∧ ((¬ v3 = p1 → (((0 : Int) ≤ (30 + v3) ∧ (30 + v3) < 2208) ∧ (((0 : Int) ≤ v2 ∧ v2 < 44) ∧ (∀ σ6 : jM, σ6 = up σ 331 v2 (σ 322 (30 + v3)) → (Jt mX12_layTold (d) 0 t Q 4 [rv 321, iv p1, iv (v2 + 1), iv (v3 + 1)] [] σ6))))) ∧ (v3 = p1 → (Jt mX12_layTold (d) 0 t Q 4 [rv 321, iv p1, iv v2, iv (v3 + 1)] [] σ)))))))))) : Jt mX12_layTold (d) 0 t Q 4 [rv 321, iv p1, iv v2, iv v3] [] σ := by
  refine j_iload_n (i := 3) rfl (show decode cX12_layTold 4 = .ok (.iload_n 3, 1) by decide +kernel) ?_
  refine s_aload_n (i := 0) rfl (show decode cX12_layTold 5 = .ok (.aload_n 0, 1) by decide +kernel) ?_
  refine gf_X12_7 (x := 322) rfl (show decode cX12_layTold 6 = .ok (.getfield 7, 3) by decide +kernel) okl_321 rfl ?_
  refine j_iconst (show decode cX12_layTold 9 = .ok (.iconst 4, 1) by decide +kernel) ?_
  refine s_iald (show decode cX12_layTold 10 = .ok (.iaload, 1) by decide +kernel) okl_322 h.1 ?_
  have h := h.2
  have hr0 := h.1
  have h := h.2
  have hr1 := h.1
  have h := h.2
  refine j_icmp_ge (tgt := 46) hr0 hr1 (show decode cX12_layTold 11 = .ok (.if_icmp .ge 35, 3) by decide +kernel) (by decide) (fun c => ?_) (fun c => ?_)
  · have h := h.1 c
    refine j_iload_n (i := 2) rfl (show decode cX12_layTold 46 = .ok (.iload_n 2, 1) by decide +kernel) ?_
    exact j_ret (rokI (show decode cX12_layTold 47 = .ok (.ireturn, 1) by decide +kernel) rfl) ⟨rfl, rfl, h⟩
  · have h := h.2 c
    refine j_iload_n (i := 3) rfl (show decode cX12_layTold 14 = .ok (.iload_n 3, 1) by decide +kernel) ?_
    refine j_iload_n (i := 1) rfl (show decode cX12_layTold 15 = .ok (.iload_n 1, 1) by decide +kernel) ?_
    have hr2 := h.1
    have h := h.2
    have hr3 := h.1
    have h := h.2
    refine j_icmp_ne (tgt := 22) hr2 hr3 (show decode cX12_layTold 16 = .ok (.if_icmp .ne 6, 3) by decide +kernel) (by decide) (fun c => ?_) (fun c => ?_)
    · have h := h.1 c
      refine s_aload_n (i := 0) rfl (show decode cX12_layTold 22 = .ok (.aload_n 0, 1) by decide +kernel) ?_
      refine gf_X12_50 (x := 331) rfl (show decode cX12_layTold 23 = .ok (.getfield 50, 3) by decide +kernel) okl_321 rfl ?_
      refine j_iload_n (i := 2) rfl (show decode cX12_layTold 26 = .ok (.iload_n 2, 1) by decide +kernel) ?_
      refine s_aload_n (i := 0) rfl (show decode cX12_layTold 27 = .ok (.aload_n 0, 1) by decide +kernel) ?_
      refine gf_X12_7 (x := 322) rfl (show decode cX12_layTold 28 = .ok (.getfield 7, 3) by decide +kernel) okl_321 rfl ?_
      refine j_bipush (n := 30) (by decide +kernel) (show decode cX12_layTold 31 = .ok (.bipush 30, 2) by decide +kernel) ?_
      refine j_iload_n (i := 3) rfl (show decode cX12_layTold 33 = .ok (.iload_n 3, 1) by decide +kernel) ?_
      refine j_iadd (show decode cX12_layTold 34 = .ok (.iadd, 1) by decide +kernel) ?_
      refine s_iald (show decode cX12_layTold 35 = .ok (.iaload, 1) by decide +kernel) okl_322 h.1 ?_
      have h := h.2
      have hb4 := h.1
      have h := h.2
      refine s_iast (show decode cX12_layTold 36 = .ok (.iastore, 1) by decide +kernel) okl_331 hb4 ?_
      obtain ⟨σ6, eσ6⟩ : ∃ z : jM, z = up σ 331 v2 (σ 322 (30 + v3)) := ⟨_, rfl⟩
      refine j_sig eσ6 ?_
      have h := h σ6 eσ6
      refine s_iinc (i := 2) rfl (L' := [rv 321, iv p1, iv (v2 + 1), iv v3]) rfl (show decode cX12_layTold 37 = .ok (.iinc 2 1, 3) by decide +kernel) ?_
      refine s_iinc (i := 3) rfl (L' := [rv 321, iv p1, iv (v2 + 1), iv (v3 + 1)]) rfl (show decode cX12_layTold 40 = .ok (.iinc 3 1, 3) by decide +kernel) ?_
      refine j_goto (tgt := 4) (show decode cX12_layTold 43 = .ok (.goto (-39), 3) by decide +kernel) (by decide) ?_
      exact h
    · have h := h.2 c
      refine j_goto (tgt := 40) (show decode cX12_layTold 19 = .ok (.goto 21, 3) by decide +kernel) (by decide) ?_
      refine s_iinc (i := 3) rfl (L' := [rv 321, iv p1, iv v2, iv (v3 + 1)]) rfl (show decode cX12_layTold 40 = .ok (.iinc 3 1, 3) by decide +kernel) ?_
      refine j_goto (tgt := 4) (show decode cX12_layTold 43 = .ok (.goto (-39), 3) by decide +kernel) (by decide) ?_
      exact h
set_option maxRecDepth 4000 in
theorem b_X12_layTold_0 {d : Nat} {t : Int} {Q : Int → jM → Prop} {σ : jM} {p1 : Int} (h : Jt mX12_layTold (d) 0 t Q 4 [rv 321, iv p1, iv 0, iv 0] [] σ) : Jt mX12_layTold (d) 0 t Q 0 [rv 321, iv p1, uv, uv] [] σ := by
  refine j_iconst (show decode cX12_layTold 0 = .ok (.iconst 0, 1) by decide +kernel) ?_
  refine s_ist_n (i := 2) (L' := [rv 321, iv p1, iv 0, uv]) rfl (by decide) (show decode cX12_layTold 1 = .ok (.istore_n 2, 1) by decide +kernel) ?_
  refine j_iconst (show decode cX12_layTold 2 = .ok (.iconst 0, 1) by decide +kernel) ?_
  refine s_ist_n (i := 3) (L' := [rv 321, iv p1, iv 0, iv 0]) rfl (by decide) (show decode cX12_layTold 3 = .ok (.istore_n 3, 1) by decide +kernel) ?_
  exact h
theorem c_X12_layTold {d : Nat} {t : Int} {Q : Int → jM → Prop} {σ : jM} {p1 : Int} (h : Jt mX12_layTold (d) 0 t Q 4 [rv 321, iv p1, iv 0, iv 0] [] σ) : Ct mX12_layTold (d) 0 t [rv 321, iv p1] σ Q := Ct_of (by decide +kernel) (Nat.le_of_ble_eq_true rfl) (b_X12_layTold_0 h)
set_option maxRecDepth 4000 in
theorem b_X12_wrongOf_2 {d : Nat} {t : Int} {Q : Int → jM → Prop} {σ : jM} {p1 v2 : Int} (h : (inR v2) ∧ ((inR p1) ∧ ((p1 ≤ v2 → (Q (-1) σ)) ∧ (v2 < p1 → (((0 : Int) ≤ v2 ∧ v2 < 44) ∧ (((0 : Int) ≤ (v2 - 1) ∧ (v2 - 1) < 44) ∧ ((inR (σ 331 v2)) ∧ ((inR (σ 331 (v2 - 1))) ∧ (((σ 331 v2) ≤ (σ 331 (v2 - 1)) → (Q v2 σ)) ∧ ((σ 331 (v2 - 1)) < (σ 331 v2) → (((0 : Int) ≤ v2 ∧ v2 < 44) ∧ (Ct mX12_isSum d 0 t [rv 321, iv (σ 331 v2), iv v2] σ (fun r5 σ5 => ((inR r5) ∧ ((¬ r5 = 0 → (Jt mX12_wrongOf (d + 1) 0 t Q 2 [rv 321, iv p1, iv (v2 + 1)] [] σ5)) ∧ (r5 = 0 → (Q v2 σ5))))))))))))))))) : Jt mX12_wrongOf (d + 1) 0 t Q 2 [rv 321, iv p1, iv v2] [] σ := by
  refine j_iload_n (i := 2) rfl (show decode cX12_wrongOf 2 = .ok (.iload_n 2, 1) by decide +kernel) ?_
  refine j_iload_n (i := 1) rfl (show decode cX12_wrongOf 3 = .ok (.iload_n 1, 1) by decide +kernel) ?_
  have hr0 := h.1
  have h := h.2
  have hr1 := h.1
  have h := h.2
  refine j_icmp_ge (tgt := 46) hr0 hr1 (show decode cX12_wrongOf 4 = .ok (.if_icmp .ge 42, 3) by decide +kernel) (by decide) (fun c => ?_) (fun c => ?_)
  · have h := h.1 c
    refine j_iconst (show decode cX12_wrongOf 46 = .ok (.iconst (-1), 1) by decide +kernel) ?_
    exact j_ret (rokI (show decode cX12_wrongOf 47 = .ok (.ireturn, 1) by decide +kernel) rfl) ⟨rfl, rfl, h⟩
  · have h := h.2 c
    refine s_aload_n (i := 0) rfl (show decode cX12_wrongOf 7 = .ok (.aload_n 0, 1) by decide +kernel) ?_
    refine gf_X12_50 (x := 331) rfl (show decode cX12_wrongOf 8 = .ok (.getfield 50, 3) by decide +kernel) okl_321 rfl ?_
    refine j_iload_n (i := 2) rfl (show decode cX12_wrongOf 11 = .ok (.iload_n 2, 1) by decide +kernel) ?_
    refine s_iald (show decode cX12_wrongOf 12 = .ok (.iaload, 1) by decide +kernel) okl_331 h.1 ?_
    have h := h.2
    refine s_aload_n (i := 0) rfl (show decode cX12_wrongOf 13 = .ok (.aload_n 0, 1) by decide +kernel) ?_
    refine gf_X12_50 (x := 331) rfl (show decode cX12_wrongOf 14 = .ok (.getfield 50, 3) by decide +kernel) okl_321 rfl ?_
    refine j_iload_n (i := 2) rfl (show decode cX12_wrongOf 17 = .ok (.iload_n 2, 1) by decide +kernel) ?_
    refine j_iconst (show decode cX12_wrongOf 18 = .ok (.iconst 1, 1) by decide +kernel) ?_
    refine j_isub (show decode cX12_wrongOf 19 = .ok (.isub, 1) by decide +kernel) ?_
    refine s_iald (show decode cX12_wrongOf 20 = .ok (.iaload, 1) by decide +kernel) okl_331 h.1 ?_
    have h := h.2
    have hr2 := h.1
    have h := h.2
    have hr3 := h.1
    have h := h.2
    refine j_icmp_le (tgt := 38) hr2 hr3 (show decode cX12_wrongOf 21 = .ok (.if_icmp .le 17, 3) by decide +kernel) (by decide) (fun c => ?_) (fun c => ?_)
    · have h := h.1 c
      refine j_iload_n (i := 2) rfl (show decode cX12_wrongOf 38 = .ok (.iload_n 2, 1) by decide +kernel) ?_
      exact j_ret (rokI (show decode cX12_wrongOf 39 = .ok (.ireturn, 1) by decide +kernel) rfl) ⟨rfl, rfl, h⟩
    · have h := h.2 c
      refine s_aload_n (i := 0) rfl (show decode cX12_wrongOf 24 = .ok (.aload_n 0, 1) by decide +kernel) ?_
      refine s_aload_n (i := 0) rfl (show decode cX12_wrongOf 25 = .ok (.aload_n 0, 1) by decide +kernel) ?_
      refine gf_X12_50 (x := 331) rfl (show decode cX12_wrongOf 26 = .ok (.getfield 50, 3) by decide +kernel) okl_321 rfl ?_
      refine j_iload_n (i := 2) rfl (show decode cX12_wrongOf 29 = .ok (.iload_n 2, 1) by decide +kernel) ?_
      refine s_iald (show decode cX12_wrongOf 30 = .ok (.iaload, 1) by decide +kernel) okl_331 h.1 ?_
      have h := h.2
      refine j_iload_n (i := 2) rfl (show decode cX12_wrongOf 31 = .ok (.iload_n 2, 1) by decide +kernel) ?_
      refine j_ctV (m' := mX12_isSum) (As := [iv (σ 331 v2), iv v2]) (ci := 12) (tag := 0) (N := 0) (cw_X12_391 rfl) (show decode cX12_wrongOf 32 = .ok (.invokevirtual 391, 3) by decide +kernel) rfl (Nat.le_of_ble_eq_true rfl) (by decide) okl_321 rfl rfl (Nat.le_refl _) h (fun r5 σ5 h => ?_)
      have hr5 := h.1
      have h := h.2
      refine j_if_ne (tgt := 40) hr5 (show decode cX12_wrongOf 35 = .ok (.ifCond .ne 5, 3) by decide +kernel) (by decide) (fun c => ?_) (fun c => ?_)
      · have h := h.1 c
        refine s_iinc (i := 2) rfl (L' := [rv 321, iv p1, iv (v2 + 1)]) rfl (show decode cX12_wrongOf 40 = .ok (.iinc 2 1, 3) by decide +kernel) ?_
        refine j_goto (tgt := 2) (show decode cX12_wrongOf 43 = .ok (.goto (-41), 3) by decide +kernel) (by decide) ?_
        exact h
      · have h := h.2 c
        refine j_iload_n (i := 2) rfl (show decode cX12_wrongOf 38 = .ok (.iload_n 2, 1) by decide +kernel) ?_
        exact j_ret (rokI (show decode cX12_wrongOf 39 = .ok (.ireturn, 1) by decide +kernel) rfl) ⟨rfl, rfl, h⟩
set_option maxRecDepth 4000 in
theorem b_X12_wrongOf_0 {d : Nat} {t : Int} {Q : Int → jM → Prop} {σ : jM} {p1 : Int} (h : Jt mX12_wrongOf (d + 1) 0 t Q 2 [rv 321, iv p1, iv 1] [] σ) : Jt mX12_wrongOf (d + 1) 0 t Q 0 [rv 321, iv p1, uv] [] σ := by
  refine j_iconst (show decode cX12_wrongOf 0 = .ok (.iconst 1, 1) by decide +kernel) ?_
  refine s_ist_n (i := 2) (L' := [rv 321, iv p1, iv 1]) rfl (by decide) (show decode cX12_wrongOf 1 = .ok (.istore_n 2, 1) by decide +kernel) ?_
  exact h
theorem c_X12_wrongOf {d : Nat} {t : Int} {Q : Int → jM → Prop} {σ : jM} {p1 : Int} (h : Jt mX12_wrongOf (d + 1) 0 t Q 2 [rv 321, iv p1, iv 1] [] σ) : Ct mX12_wrongOf (d + 1) 0 t [rv 321, iv p1] σ Q := Ct_of (by decide +kernel) (Nat.le_of_ble_eq_true rfl) (b_X12_wrongOf_0 h)
set_option maxRecDepth 4000 in
theorem b_X12_wrong_0 {d : Nat} {t : Int} {Q : Int → jM → Prop} {σ : jM} (h : Ct mX12_layTold d 0 t [rv 321, iv (-1)] σ (fun r1 σ1 => (Ct mX12_wrongOf d 0 t [rv 321, iv r1] σ1 (fun r2 σ2 => (Q r2 σ2))))) : Jt mX12_wrong (d + 1) 0 t Q 0 [rv 321] [] σ := by
  refine s_aload_n (i := 0) rfl (show decode cX12_wrong 0 = .ok (.aload_n 0, 1) by decide +kernel) ?_
  refine s_aload_n (i := 0) rfl (show decode cX12_wrong 1 = .ok (.aload_n 0, 1) by decide +kernel) ?_
  refine j_iconst (show decode cX12_wrong 2 = .ok (.iconst (-1), 1) by decide +kernel) ?_
  refine j_ctV (m' := mX12_layTold) (As := [iv (-1)]) (ci := 12) (tag := 0) (N := 0) (cw_X12_465 rfl) (show decode cX12_wrong 3 = .ok (.invokevirtual 465, 3) by decide +kernel) rfl (Nat.le_of_ble_eq_true rfl) (by decide) okl_321 rfl rfl (Nat.le_refl _) h (fun r1 σ1 h => ?_)
  refine j_ctV (m' := mX12_wrongOf) (As := [iv r1]) (ci := 12) (tag := 0) (N := 0) (cw_X12_468 rfl) (show decode cX12_wrong 6 = .ok (.invokevirtual 468, 3) by decide +kernel) rfl (Nat.le_of_ble_eq_true rfl) (by decide) okl_321 rfl rfl (Nat.le_refl _) h (fun r2 σ2 h => ?_)
  exact j_ret (rokI (show decode cX12_wrong 9 = .ok (.ireturn, 1) by decide +kernel) rfl) ⟨rfl, rfl, h⟩
theorem c_X12_wrong {d : Nat} {t : Int} {Q : Int → jM → Prop} {σ : jM} (h : Ct mX12_layTold d 0 t [rv 321, iv (-1)] σ (fun r1 σ1 => (Ct mX12_wrongOf d 0 t [rv 321, iv r1] σ1 (fun r2 σ2 => (Q r2 σ2))))) : Ct mX12_wrong (d + 1) 0 t [rv 321] σ Q := Ct_of (by decide +kernel) (Nat.le_of_ble_eq_true rfl) (b_X12_wrong_0 h)
set_option maxRecDepth 4000 in
theorem b_X12_needless_14 {d : Nat} {t : Int} {Q : Int → jM → Prop} {σ : jM} {v1 v2 : Int} (h : ((0 : Int) ≤ 4 ∧ (4 : Int) < 2208) ∧ ((inR v2) ∧ ((inR ((σ 322 4) - 1)) ∧ ((((σ 322 4) - 1) ≤ v2 → (Q v1 σ)) ∧ (v2 < ((σ 322 4) - 1) → (Ct mX12_layTold d 0 t [rv 321, iv v2] σ (fun r3 σ3 => (Ct mX12_wrongOf d 0 t [rv 321, iv r3] σ3 (fun r4 σ4 => ((inR r4) ∧ ((¬ r4 = (-1) → (Jt mX12_needless (d + 1) 0 t Q 14 [rv 321, iv (i_or v1 0), iv (v2 + 1)] [] σ4)) ∧ (r4 = (-1) → (Jt mX12_needless (d + 1) 0 t Q 14 [rv 321, iv (i_or v1 (i_shl 1 v2)), iv (v2 + 1)] [] σ4))))))))))))) : Jt mX12_needless (d + 1) 0 t Q 14 [rv 321, iv v1, iv v2] [] σ := by
  refine j_iload_n (i := 2) rfl (show decode cX12_needless 14 = .ok (.iload_n 2, 1) by decide +kernel) ?_
  refine s_aload_n (i := 0) rfl (show decode cX12_needless 15 = .ok (.aload_n 0, 1) by decide +kernel) ?_
  refine gf_X12_7 (x := 322) rfl (show decode cX12_needless 16 = .ok (.getfield 7, 3) by decide +kernel) okl_321 rfl ?_
  refine j_iconst (show decode cX12_needless 19 = .ok (.iconst 4, 1) by decide +kernel) ?_
  refine s_iald (show decode cX12_needless 20 = .ok (.iaload, 1) by decide +kernel) okl_322 h.1 ?_
  have h := h.2
  refine j_iconst (show decode cX12_needless 21 = .ok (.iconst 1, 1) by decide +kernel) ?_
  refine j_isub (show decode cX12_needless 22 = .ok (.isub, 1) by decide +kernel) ?_
  have hr0 := h.1
  have h := h.2
  have hr1 := h.1
  have h := h.2
  refine j_icmp_ge (tgt := 55) hr0 hr1 (show decode cX12_needless 23 = .ok (.if_icmp .ge 32, 3) by decide +kernel) (by decide) (fun c => ?_) (fun c => ?_)
  · have h := h.1 c
    refine j_iload_n (i := 1) rfl (show decode cX12_needless 55 = .ok (.iload_n 1, 1) by decide +kernel) ?_
    exact j_ret (rokI (show decode cX12_needless 56 = .ok (.ireturn, 1) by decide +kernel) rfl) ⟨rfl, rfl, h⟩
  · have h := h.2 c
    refine j_iload_n (i := 1) rfl (show decode cX12_needless 26 = .ok (.iload_n 1, 1) by decide +kernel) ?_
    refine s_aload_n (i := 0) rfl (show decode cX12_needless 27 = .ok (.aload_n 0, 1) by decide +kernel) ?_
    refine s_aload_n (i := 0) rfl (show decode cX12_needless 28 = .ok (.aload_n 0, 1) by decide +kernel) ?_
    refine j_iload_n (i := 2) rfl (show decode cX12_needless 29 = .ok (.iload_n 2, 1) by decide +kernel) ?_
    refine j_ctV (m' := mX12_layTold) (As := [iv v2]) (ci := 12) (tag := 0) (N := 0) (cw_X12_465 rfl) (show decode cX12_needless 30 = .ok (.invokevirtual 465, 3) by decide +kernel) rfl (Nat.le_of_ble_eq_true rfl) (by decide) okl_321 rfl rfl (Nat.le_refl _) h (fun r3 σ3 h => ?_)
    refine j_ctV (m' := mX12_wrongOf) (As := [iv r3]) (ci := 12) (tag := 0) (N := 0) (cw_X12_468 rfl) (show decode cX12_needless 33 = .ok (.invokevirtual 468, 3) by decide +kernel) rfl (Nat.le_of_ble_eq_true rfl) (by decide) okl_321 rfl rfl (Nat.le_refl _) h (fun r4 σ4 h => ?_)
    refine j_iconst (show decode cX12_needless 36 = .ok (.iconst (-1), 1) by decide +kernel) ?_
    have hr4 := h.1
    have h := h.2
    refine j_icmp_ne (tgt := 46) hr4 (inl (by decide)) (show decode cX12_needless 37 = .ok (.if_icmp .ne 9, 3) by decide +kernel) (by decide) (fun c => ?_) (fun c => ?_)
    · have h := h.1 c
      refine j_iconst (show decode cX12_needless 46 = .ok (.iconst 0, 1) by decide +kernel) ?_
      refine j_ior (show decode cX12_needless 47 = .ok (.ior, 1) by decide +kernel) ?_
      refine s_ist_n (i := 1) (L' := [rv 321, iv (i_or v1 0), iv v2]) rfl (by decide) (show decode cX12_needless 48 = .ok (.istore_n 1, 1) by decide +kernel) ?_
      refine s_iinc (i := 2) rfl (L' := [rv 321, iv (i_or v1 0), iv (v2 + 1)]) rfl (show decode cX12_needless 49 = .ok (.iinc 2 1, 3) by decide +kernel) ?_
      refine j_goto (tgt := 14) (show decode cX12_needless 52 = .ok (.goto (-38), 3) by decide +kernel) (by decide) ?_
      exact h
    · have h := h.2 c
      refine j_iconst (show decode cX12_needless 40 = .ok (.iconst 1, 1) by decide +kernel) ?_
      refine j_iload_n (i := 2) rfl (show decode cX12_needless 41 = .ok (.iload_n 2, 1) by decide +kernel) ?_
      refine j_ishl (show decode cX12_needless 42 = .ok (.ishl, 1) by decide +kernel) ?_
      refine j_goto (tgt := 47) (show decode cX12_needless 43 = .ok (.goto 4, 3) by decide +kernel) (by decide) ?_
      refine j_ior (show decode cX12_needless 47 = .ok (.ior, 1) by decide +kernel) ?_
      refine s_ist_n (i := 1) (L' := [rv 321, iv (i_or v1 (i_shl 1 v2)), iv v2]) rfl (by decide) (show decode cX12_needless 48 = .ok (.istore_n 1, 1) by decide +kernel) ?_
      refine s_iinc (i := 2) rfl (L' := [rv 321, iv (i_or v1 (i_shl 1 v2)), iv (v2 + 1)]) rfl (show decode cX12_needless 49 = .ok (.iinc 2 1, 3) by decide +kernel) ?_
      refine j_goto (tgt := 14) (show decode cX12_needless 52 = .ok (.goto (-38), 3) by decide +kernel) (by decide) ?_
      exact h
set_option maxRecDepth 4000 in
theorem b_X12_needless_0 {d : Nat} {t : Int} {Q : Int → jM → Prop} {σ : jM} (h : Ct mX12_wrong d 0 t [rv 321] σ (fun r1 σ1 => ((inR r1) ∧ ((r1 = (-1) → (Jt mX12_needless (d + 1) 0 t Q 14 [rv 321, iv 0, iv 1] [] σ1)) ∧ (¬ r1 = (-1) → (Q (-1) σ1)))))) : Jt mX12_needless (d + 1) 0 t Q 0 [rv 321, uv, uv] [] σ := by
  refine s_aload_n (i := 0) rfl (show decode cX12_needless 0 = .ok (.aload_n 0, 1) by decide +kernel) ?_
  refine j_ctV (m' := mX12_wrong) (As := []) (ci := 12) (tag := 0) (N := 0) (cw_X12_471 rfl) (show decode cX12_needless 1 = .ok (.invokevirtual 471, 3) by decide +kernel) rfl (Nat.le_of_ble_eq_true rfl) (by decide) okl_321 rfl rfl (Nat.le_refl _) h (fun r1 σ1 h => ?_)
  refine j_iconst (show decode cX12_needless 4 = .ok (.iconst (-1), 1) by decide +kernel) ?_
  have hr1 := h.1
  have h := h.2
  refine j_icmp_eq (tgt := 10) hr1 (inl (by decide)) (show decode cX12_needless 5 = .ok (.if_icmp .eq 5, 3) by decide +kernel) (by decide) (fun c => ?_) (fun c => ?_)
  · have h := h.1 c
    refine j_iconst (show decode cX12_needless 10 = .ok (.iconst 0, 1) by decide +kernel) ?_
    refine s_ist_n (i := 1) (L' := [rv 321, iv 0, uv]) rfl (by decide) (show decode cX12_needless 11 = .ok (.istore_n 1, 1) by decide +kernel) ?_
    refine j_iconst (show decode cX12_needless 12 = .ok (.iconst 1, 1) by decide +kernel) ?_
    refine s_ist_n (i := 2) (L' := [rv 321, iv 0, iv 1]) rfl (by decide) (show decode cX12_needless 13 = .ok (.istore_n 2, 1) by decide +kernel) ?_
    exact h
  · have h := h.2 c
    refine j_iconst (show decode cX12_needless 8 = .ok (.iconst (-1), 1) by decide +kernel) ?_
    exact j_ret (rokI (show decode cX12_needless 9 = .ok (.ireturn, 1) by decide +kernel) rfl) ⟨rfl, rfl, h⟩
theorem c_X12_needless {d : Nat} {t : Int} {Q : Int → jM → Prop} {σ : jM} (h : Ct mX12_wrong d 0 t [rv 321] σ (fun r1 σ1 => ((inR r1) ∧ ((r1 = (-1) → (Jt mX12_needless (d + 1) 0 t Q 14 [rv 321, iv 0, iv 1] [] σ1)) ∧ (¬ r1 = (-1) → (Q (-1) σ1)))))) : Ct mX12_needless (d + 1) 0 t [rv 321] σ Q := Ct_of (by decide +kernel) (Nat.le_of_ble_eq_true rfl) (b_X12_needless_0 h)
set_option maxRecDepth 4000 in
theorem b_X12_isThere_2 {d : Nat} {t : Int} {Q : Int → jM → Prop} {σ : jM} {p1 p2 v3 : Int} (h : (inR v3) ∧ ((inR p2) ∧ ((p2 ≤ v3 → (Q 0 σ)) ∧ (v3 < p2 → (((0 : Int) ≤ v3 ∧ v3 < 44) ∧ ((inR (σ 331 v3)) ∧ ((inR p1) ∧ ((¬ (σ 331 v3) = p1 → (Jt mX12_isThere (d) 0 t Q 2 [rv 321, iv p1, iv p2, iv (v3 + 1)] [] σ)) ∧ ((σ 331 v3) = p1 → (Q 1 σ)))))))))) : Jt mX12_isThere (d) 0 t Q 2 [rv 321, iv p1, iv p2, iv v3] [] σ := by
  refine j_iload_n (i := 3) rfl (show decode cX12_isThere 2 = .ok (.iload_n 3, 1) by decide +kernel) ?_
  refine j_iload_n (i := 2) rfl (show decode cX12_isThere 3 = .ok (.iload_n 2, 1) by decide +kernel) ?_
  have hr0 := h.1
  have h := h.2
  have hr1 := h.1
  have h := h.2
  refine j_icmp_ge (tgt := 25) hr0 hr1 (show decode cX12_isThere 4 = .ok (.if_icmp .ge 21, 3) by decide +kernel) (by decide) (fun c => ?_) (fun c => ?_)
  · have h := h.1 c
    refine j_iconst (show decode cX12_isThere 25 = .ok (.iconst 0, 1) by decide +kernel) ?_
    exact j_ret (rokZ (show decode cX12_isThere 26 = .ok (.ireturn, 1) by decide +kernel) rfl (Or.inl rfl)) ⟨rfl, rfl, h⟩
  · have h := h.2 c
    refine s_aload_n (i := 0) rfl (show decode cX12_isThere 7 = .ok (.aload_n 0, 1) by decide +kernel) ?_
    refine gf_X12_50 (x := 331) rfl (show decode cX12_isThere 8 = .ok (.getfield 50, 3) by decide +kernel) okl_321 rfl ?_
    refine j_iload_n (i := 3) rfl (show decode cX12_isThere 11 = .ok (.iload_n 3, 1) by decide +kernel) ?_
    refine s_iald (show decode cX12_isThere 12 = .ok (.iaload, 1) by decide +kernel) okl_331 h.1 ?_
    have h := h.2
    refine j_iload_n (i := 1) rfl (show decode cX12_isThere 13 = .ok (.iload_n 1, 1) by decide +kernel) ?_
    have hr2 := h.1
    have h := h.2
    have hr3 := h.1
    have h := h.2
    refine j_icmp_ne (tgt := 19) hr2 hr3 (show decode cX12_isThere 14 = .ok (.if_icmp .ne 5, 3) by decide +kernel) (by decide) (fun c => ?_) (fun c => ?_)
    · have h := h.1 c
      refine s_iinc (i := 3) rfl (L' := [rv 321, iv p1, iv p2, iv (v3 + 1)]) rfl (show decode cX12_isThere 19 = .ok (.iinc 3 1, 3) by decide +kernel) ?_
      refine j_goto (tgt := 2) (show decode cX12_isThere 22 = .ok (.goto (-20), 3) by decide +kernel) (by decide) ?_
      exact h
    · have h := h.2 c
      refine j_iconst (show decode cX12_isThere 17 = .ok (.iconst 1, 1) by decide +kernel) ?_
      exact j_ret (rokZ (show decode cX12_isThere 18 = .ok (.ireturn, 1) by decide +kernel) rfl (Or.inr rfl)) ⟨rfl, rfl, h⟩
set_option maxRecDepth 4000 in
theorem b_X12_isThere_0 {d : Nat} {t : Int} {Q : Int → jM → Prop} {σ : jM} {p1 p2 : Int} (h : Jt mX12_isThere (d) 0 t Q 2 [rv 321, iv p1, iv p2, iv 0] [] σ) : Jt mX12_isThere (d) 0 t Q 0 [rv 321, iv p1, iv p2, uv] [] σ := by
  refine j_iconst (show decode cX12_isThere 0 = .ok (.iconst 0, 1) by decide +kernel) ?_
  refine s_ist_n (i := 3) (L' := [rv 321, iv p1, iv p2, iv 0]) rfl (by decide) (show decode cX12_isThere 1 = .ok (.istore_n 3, 1) by decide +kernel) ?_
  exact h
theorem c_X12_isThere {d : Nat} {t : Int} {Q : Int → jM → Prop} {σ : jM} {p1 p2 : Int} (h : Jt mX12_isThere (d) 0 t Q 2 [rv 321, iv p1, iv p2, iv 0] [] σ) : Ct mX12_isThere (d) 0 t [rv 321, iv p1, iv p2] σ Q := Ct_of (by decide +kernel) (Nat.le_of_ble_eq_true rfl) (b_X12_isThere_0 h)
set_option maxRecDepth 4000 in
theorem b_X12_star_12 {d : Nat} {t : Int} {Q : Int → jM → Prop} {σ : jM} {v1 : Int} (h : ((0 : Int) ≤ 4 ∧ (4 : Int) < 2208) ∧ ((inR v1) ∧ ((inR (σ 322 4)) ∧ (((σ 322 4) ≤ v1 → (Q 1 σ)) ∧ (v1 < (σ 322 4) → (((0 : Int) ≤ v1 ∧ v1 < 44) ∧ (((0 : Int) ≤ (v1 - 1) ∧ (v1 - 1) < 44) ∧ (Ct mX12_isThere d 0 t [rv 321, iv ((σ 331 v1) - (σ 331 (v1 - 1))), iv v1] σ (fun r3 σ3 => ((inR r3) ∧ ((¬ r3 = 0 → (Jt mX12_star (d + 1) 0 t Q 12 [rv 321, iv (v1 + 1)] [] σ3)) ∧ (r3 = 0 → (Q 0 σ3))))))))))))) : Jt mX12_star (d + 1) 0 t Q 12 [rv 321, iv v1] [] σ := by
  refine j_iload_n (i := 1) rfl (show decode cX12_star 12 = .ok (.iload_n 1, 1) by decide +kernel) ?_
  refine s_aload_n (i := 0) rfl (show decode cX12_star 13 = .ok (.aload_n 0, 1) by decide +kernel) ?_
  refine gf_X12_7 (x := 322) rfl (show decode cX12_star 14 = .ok (.getfield 7, 3) by decide +kernel) okl_321 rfl ?_
  refine j_iconst (show decode cX12_star 17 = .ok (.iconst 4, 1) by decide +kernel) ?_
  refine s_iald (show decode cX12_star 18 = .ok (.iaload, 1) by decide +kernel) okl_322 h.1 ?_
  have h := h.2
  have hr0 := h.1
  have h := h.2
  have hr1 := h.1
  have h := h.2
  refine j_icmp_ge (tgt := 53) hr0 hr1 (show decode cX12_star 19 = .ok (.if_icmp .ge 34, 3) by decide +kernel) (by decide) (fun c => ?_) (fun c => ?_)
  · have h := h.1 c
    refine j_iconst (show decode cX12_star 53 = .ok (.iconst 1, 1) by decide +kernel) ?_
    exact j_ret (rokZ (show decode cX12_star 54 = .ok (.ireturn, 1) by decide +kernel) rfl (Or.inr rfl)) ⟨rfl, rfl, h⟩
  · have h := h.2 c
    refine s_aload_n (i := 0) rfl (show decode cX12_star 22 = .ok (.aload_n 0, 1) by decide +kernel) ?_
    refine s_aload_n (i := 0) rfl (show decode cX12_star 23 = .ok (.aload_n 0, 1) by decide +kernel) ?_
    refine gf_X12_50 (x := 331) rfl (show decode cX12_star 24 = .ok (.getfield 50, 3) by decide +kernel) okl_321 rfl ?_
    refine j_iload_n (i := 1) rfl (show decode cX12_star 27 = .ok (.iload_n 1, 1) by decide +kernel) ?_
    refine s_iald (show decode cX12_star 28 = .ok (.iaload, 1) by decide +kernel) okl_331 h.1 ?_
    have h := h.2
    refine s_aload_n (i := 0) rfl (show decode cX12_star 29 = .ok (.aload_n 0, 1) by decide +kernel) ?_
    refine gf_X12_50 (x := 331) rfl (show decode cX12_star 30 = .ok (.getfield 50, 3) by decide +kernel) okl_321 rfl ?_
    refine j_iload_n (i := 1) rfl (show decode cX12_star 33 = .ok (.iload_n 1, 1) by decide +kernel) ?_
    refine j_iconst (show decode cX12_star 34 = .ok (.iconst 1, 1) by decide +kernel) ?_
    refine j_isub (show decode cX12_star 35 = .ok (.isub, 1) by decide +kernel) ?_
    refine s_iald (show decode cX12_star 36 = .ok (.iaload, 1) by decide +kernel) okl_331 h.1 ?_
    have h := h.2
    refine j_isub (show decode cX12_star 37 = .ok (.isub, 1) by decide +kernel) ?_
    refine j_iload_n (i := 1) rfl (show decode cX12_star 38 = .ok (.iload_n 1, 1) by decide +kernel) ?_
    refine j_ctV (m' := mX12_isThere) (As := [iv ((σ 331 v1) - (σ 331 (v1 - 1))), iv v1]) (ci := 12) (tag := 0) (N := 0) (cw_X12_474 rfl) (show decode cX12_star 39 = .ok (.invokevirtual 474, 3) by decide +kernel) rfl (Nat.le_of_ble_eq_true rfl) (by decide) okl_321 rfl rfl (Nat.le_refl _) h (fun r3 σ3 h => ?_)
    have hr3 := h.1
    have h := h.2
    refine j_if_ne (tgt := 47) hr3 (show decode cX12_star 42 = .ok (.ifCond .ne 5, 3) by decide +kernel) (by decide) (fun c => ?_) (fun c => ?_)
    · have h := h.1 c
      refine s_iinc (i := 1) rfl (L' := [rv 321, iv (v1 + 1)]) rfl (show decode cX12_star 47 = .ok (.iinc 1 1, 3) by decide +kernel) ?_
      refine j_goto (tgt := 12) (show decode cX12_star 50 = .ok (.goto (-38), 3) by decide +kernel) (by decide) ?_
      exact h
    · have h := h.2 c
      refine j_iconst (show decode cX12_star 45 = .ok (.iconst 0, 1) by decide +kernel) ?_
      exact j_ret (rokZ (show decode cX12_star 46 = .ok (.ireturn, 1) by decide +kernel) rfl (Or.inl rfl)) ⟨rfl, rfl, h⟩
set_option maxRecDepth 4000 in
theorem b_X12_star_0 {d : Nat} {t : Int} {Q : Int → jM → Prop} {σ : jM} (h : Ct mX12_wrong d 0 t [rv 321] σ (fun r1 σ1 => ((inR r1) ∧ ((r1 = (-1) → (Jt mX12_star (d + 1) 0 t Q 12 [rv 321, iv 1] [] σ1)) ∧ (¬ r1 = (-1) → (Q 0 σ1)))))) : Jt mX12_star (d + 1) 0 t Q 0 [rv 321, uv] [] σ := by
  refine s_aload_n (i := 0) rfl (show decode cX12_star 0 = .ok (.aload_n 0, 1) by decide +kernel) ?_
  refine j_ctV (m' := mX12_wrong) (As := []) (ci := 12) (tag := 0) (N := 0) (cw_X12_471 rfl) (show decode cX12_star 1 = .ok (.invokevirtual 471, 3) by decide +kernel) rfl (Nat.le_of_ble_eq_true rfl) (by decide) okl_321 rfl rfl (Nat.le_refl _) h (fun r1 σ1 h => ?_)
  refine j_iconst (show decode cX12_star 4 = .ok (.iconst (-1), 1) by decide +kernel) ?_
  have hr1 := h.1
  have h := h.2
  refine j_icmp_eq (tgt := 10) hr1 (inl (by decide)) (show decode cX12_star 5 = .ok (.if_icmp .eq 5, 3) by decide +kernel) (by decide) (fun c => ?_) (fun c => ?_)
  · have h := h.1 c
    refine j_iconst (show decode cX12_star 10 = .ok (.iconst 1, 1) by decide +kernel) ?_
    refine s_ist_n (i := 1) (L' := [rv 321, iv 1]) rfl (by decide) (show decode cX12_star 11 = .ok (.istore_n 1, 1) by decide +kernel) ?_
    exact h
  · have h := h.2 c
    refine j_iconst (show decode cX12_star 8 = .ok (.iconst 0, 1) by decide +kernel) ?_
    exact j_ret (rokZ (show decode cX12_star 9 = .ok (.ireturn, 1) by decide +kernel) rfl (Or.inl rfl)) ⟨rfl, rfl, h⟩
theorem c_X12_star {d : Nat} {t : Int} {Q : Int → jM → Prop} {σ : jM} (h : Ct mX12_wrong d 0 t [rv 321] σ (fun r1 σ1 => ((inR r1) ∧ ((r1 = (-1) → (Jt mX12_star (d + 1) 0 t Q 12 [rv 321, iv 1] [] σ1)) ∧ (¬ r1 = (-1) → (Q 0 σ1)))))) : Ct mX12_star (d + 1) 0 t [rv 321] σ Q := Ct_of (by decide +kernel) (Nat.le_of_ble_eq_true rfl) (b_X12_star_0 h)
set_option maxRecDepth 4000 in
theorem b_X12_steps_14 {d : Nat} {t : Int} {Q : Int → jM → Prop} {σ : jM} {p1 v2 v3 : Int} (h : ((0 : Int) ≤ 4 ∧ (4 : Int) < 2208) ∧ ((inR v3) ∧ ((inR (σ 322 4)) ∧ (((σ 322 4) ≤ v3 → (Q v2 σ)) ∧ (v3 < (σ 322 4) → (((0 : Int) ≤ v3 ∧ v3 < 44) ∧ ((inR (σ 331 v3)) ∧ ((inR (Int.tmod (σ 331 v3) 2)) ∧ ((¬ (Int.tmod (σ 331 v3) 2) = 0 → ((inR p1) ∧ ((¬ (0 : Int) = p1 → (Jt mX12_steps (d + 1) 0 t Q 14 [rv 321, iv p1, iv (v2 + 0), iv (v3 + 1)] [] σ)) ∧ ((0 : Int) = p1 → (Jt mX12_steps (d + 1) 0 t Q 14 [rv 321, iv p1, iv (v2 + 1), iv (v3 + 1)] [] σ))))) ∧ ((Int.tmod (σ 331 v3) 2) = 0 → (((0 : Int) ≤ v3 ∧ v3 < 44) ∧ ((inR (σ 331 v3)) ∧ (Ct mX12_isThere d 0 t [rv 321, iv (Int.tdiv (σ 331 v3) 2), iv v3] σ (fun r7 σ7 => ((inR r7) ∧ ((r7 = 0 → ((inR p1) ∧ ((¬ (0 : Int) = p1 → (Jt mX12_steps (d + 1) 0 t Q 14 [rv 321, iv p1, iv (v2 + 0), iv (v3 + 1)] [] σ7)) ∧ ((0 : Int) = p1 → (Jt mX12_steps (d + 1) 0 t Q 14 [rv 321, iv p1, iv (v2 + 1), iv (v3 + 1)] [] σ7))))) ∧ (¬ r7 = 0 → ((inR p1) ∧ ((¬ (1 : Int) = p1 → (Jt mX12_steps (d + 1) 0 t Q 14 [rv 321, iv p1, iv (v2 + 0), iv (v3 + 1)] [] σ7)) ∧ ((1 : Int) = p1 → (Jt mX12_steps (d + 1) 0 t Q 14 [rv 321, iv p1, iv (v2 + 1), iv (v3 + 1)] [] σ7))))))))))))))))))))) : Jt mX12_steps (d + 1) 0 t Q 14 [rv 321, iv p1, iv v2, iv v3] [] σ := by
  refine j_iload_n (i := 3) rfl (show decode cX12_steps 14 = .ok (.iload_n 3, 1) by decide +kernel) ?_
  refine s_aload_n (i := 0) rfl (show decode cX12_steps 15 = .ok (.aload_n 0, 1) by decide +kernel) ?_
  refine gf_X12_7 (x := 322) rfl (show decode cX12_steps 16 = .ok (.getfield 7, 3) by decide +kernel) okl_321 rfl ?_
  refine j_iconst (show decode cX12_steps 19 = .ok (.iconst 4, 1) by decide +kernel) ?_
  refine s_iald (show decode cX12_steps 20 = .ok (.iaload, 1) by decide +kernel) okl_322 h.1 ?_
  have h := h.2
  have hr0 := h.1
  have h := h.2
  have hr1 := h.1
  have h := h.2
  refine j_icmp_ge (tgt := 74) hr0 hr1 (show decode cX12_steps 21 = .ok (.if_icmp .ge 53, 3) by decide +kernel) (by decide) (fun c => ?_) (fun c => ?_)
  · have h := h.1 c
    refine j_iload_n (i := 2) rfl (show decode cX12_steps 74 = .ok (.iload_n 2, 1) by decide +kernel) ?_
    exact j_ret (rokI (show decode cX12_steps 75 = .ok (.ireturn, 1) by decide +kernel) rfl) ⟨rfl, rfl, h⟩
  · have h := h.2 c
    refine j_iload_n (i := 2) rfl (show decode cX12_steps 24 = .ok (.iload_n 2, 1) by decide +kernel) ?_
    refine s_aload_n (i := 0) rfl (show decode cX12_steps 25 = .ok (.aload_n 0, 1) by decide +kernel) ?_
    refine gf_X12_50 (x := 331) rfl (show decode cX12_steps 26 = .ok (.getfield 50, 3) by decide +kernel) okl_321 rfl ?_
    refine j_iload_n (i := 3) rfl (show decode cX12_steps 29 = .ok (.iload_n 3, 1) by decide +kernel) ?_
    refine s_iald (show decode cX12_steps 30 = .ok (.iaload, 1) by decide +kernel) okl_331 h.1 ?_
    have h := h.2
    refine j_iconst (show decode cX12_steps 31 = .ok (.iconst 2, 1) by decide +kernel) ?_
    have hr2 := h.1
    have h := h.2
    refine j_irem hr2 (inl (by decide)) (by decide) (show decode cX12_steps 32 = .ok (.irem, 1) by decide +kernel) ?_
    have hr3 := h.1
    have h := h.2
    refine j_if_ne (tgt := 56) hr3 (show decode cX12_steps 33 = .ok (.ifCond .ne 23, 3) by decide +kernel) (by decide) (fun c => ?_) (fun c => ?_)
    · have h := h.1 c
      refine j_iconst (show decode cX12_steps 56 = .ok (.iconst 0, 1) by decide +kernel) ?_
      refine j_iload_n (i := 1) rfl (show decode cX12_steps 57 = .ok (.iload_n 1, 1) by decide +kernel) ?_
      have hr4 := h.1
      have h := h.2
      refine j_icmp_ne (tgt := 65) (inl (by decide)) hr4 (show decode cX12_steps 58 = .ok (.if_icmp .ne 7, 3) by decide +kernel) (by decide) (fun c => ?_) (fun c => ?_)
      · have h := h.1 c
        refine j_iconst (show decode cX12_steps 65 = .ok (.iconst 0, 1) by decide +kernel) ?_
        refine j_iadd (show decode cX12_steps 66 = .ok (.iadd, 1) by decide +kernel) ?_
        refine s_ist_n (i := 2) (L' := [rv 321, iv p1, iv (v2 + 0), iv v3]) rfl (by decide) (show decode cX12_steps 67 = .ok (.istore_n 2, 1) by decide +kernel) ?_
        refine s_iinc (i := 3) rfl (L' := [rv 321, iv p1, iv (v2 + 0), iv (v3 + 1)]) rfl (show decode cX12_steps 68 = .ok (.iinc 3 1, 3) by decide +kernel) ?_
        refine j_goto (tgt := 14) (show decode cX12_steps 71 = .ok (.goto (-57), 3) by decide +kernel) (by decide) ?_
        exact h
      · have h := h.2 c
        refine j_iconst (show decode cX12_steps 61 = .ok (.iconst 1, 1) by decide +kernel) ?_
        refine j_goto (tgt := 66) (show decode cX12_steps 62 = .ok (.goto 4, 3) by decide +kernel) (by decide) ?_
        refine j_iadd (show decode cX12_steps 66 = .ok (.iadd, 1) by decide +kernel) ?_
        refine s_ist_n (i := 2) (L' := [rv 321, iv p1, iv (v2 + 1), iv v3]) rfl (by decide) (show decode cX12_steps 67 = .ok (.istore_n 2, 1) by decide +kernel) ?_
        refine s_iinc (i := 3) rfl (L' := [rv 321, iv p1, iv (v2 + 1), iv (v3 + 1)]) rfl (show decode cX12_steps 68 = .ok (.iinc 3 1, 3) by decide +kernel) ?_
        refine j_goto (tgt := 14) (show decode cX12_steps 71 = .ok (.goto (-57), 3) by decide +kernel) (by decide) ?_
        exact h
    · have h := h.2 c
      refine s_aload_n (i := 0) rfl (show decode cX12_steps 36 = .ok (.aload_n 0, 1) by decide +kernel) ?_
      refine s_aload_n (i := 0) rfl (show decode cX12_steps 37 = .ok (.aload_n 0, 1) by decide +kernel) ?_
      refine gf_X12_50 (x := 331) rfl (show decode cX12_steps 38 = .ok (.getfield 50, 3) by decide +kernel) okl_321 rfl ?_
      refine j_iload_n (i := 3) rfl (show decode cX12_steps 41 = .ok (.iload_n 3, 1) by decide +kernel) ?_
      refine s_iald (show decode cX12_steps 42 = .ok (.iaload, 1) by decide +kernel) okl_331 h.1 ?_
      have h := h.2
      refine j_iconst (show decode cX12_steps 43 = .ok (.iconst 2, 1) by decide +kernel) ?_
      have hr5 := h.1
      have h := h.2
      refine j_idiv hr5 (inl (by decide)) (by decide) (show decode cX12_steps 44 = .ok (.idiv, 1) by decide +kernel) ?_
      refine j_iload_n (i := 3) rfl (show decode cX12_steps 45 = .ok (.iload_n 3, 1) by decide +kernel) ?_
      refine j_ctV (m' := mX12_isThere) (As := [iv (Int.tdiv (σ 331 v3) 2), iv v3]) (ci := 12) (tag := 0) (N := 0) (cw_X12_474 rfl) (show decode cX12_steps 46 = .ok (.invokevirtual 474, 3) by decide +kernel) rfl (Nat.le_of_ble_eq_true rfl) (by decide) okl_321 rfl rfl (Nat.le_refl _) h (fun r7 σ7 h => ?_)
      have hr7 := h.1
      have h := h.2
      refine j_if_eq (tgt := 56) hr7 (show decode cX12_steps 49 = .ok (.ifCond .eq 7, 3) by decide +kernel) (by decide) (fun c => ?_) (fun c => ?_)
      · have h := h.1 c
        refine j_iconst (show decode cX12_steps 56 = .ok (.iconst 0, 1) by decide +kernel) ?_
        refine j_iload_n (i := 1) rfl (show decode cX12_steps 57 = .ok (.iload_n 1, 1) by decide +kernel) ?_
        have hr8 := h.1
        have h := h.2
        refine j_icmp_ne (tgt := 65) (inl (by decide)) hr8 (show decode cX12_steps 58 = .ok (.if_icmp .ne 7, 3) by decide +kernel) (by decide) (fun c => ?_) (fun c => ?_)
        · have h := h.1 c
          refine j_iconst (show decode cX12_steps 65 = .ok (.iconst 0, 1) by decide +kernel) ?_
          refine j_iadd (show decode cX12_steps 66 = .ok (.iadd, 1) by decide +kernel) ?_
          refine s_ist_n (i := 2) (L' := [rv 321, iv p1, iv (v2 + 0), iv v3]) rfl (by decide) (show decode cX12_steps 67 = .ok (.istore_n 2, 1) by decide +kernel) ?_
          refine s_iinc (i := 3) rfl (L' := [rv 321, iv p1, iv (v2 + 0), iv (v3 + 1)]) rfl (show decode cX12_steps 68 = .ok (.iinc 3 1, 3) by decide +kernel) ?_
          refine j_goto (tgt := 14) (show decode cX12_steps 71 = .ok (.goto (-57), 3) by decide +kernel) (by decide) ?_
          exact h
        · have h := h.2 c
          refine j_iconst (show decode cX12_steps 61 = .ok (.iconst 1, 1) by decide +kernel) ?_
          refine j_goto (tgt := 66) (show decode cX12_steps 62 = .ok (.goto 4, 3) by decide +kernel) (by decide) ?_
          refine j_iadd (show decode cX12_steps 66 = .ok (.iadd, 1) by decide +kernel) ?_
          refine s_ist_n (i := 2) (L' := [rv 321, iv p1, iv (v2 + 1), iv v3]) rfl (by decide) (show decode cX12_steps 67 = .ok (.istore_n 2, 1) by decide +kernel) ?_
          refine s_iinc (i := 3) rfl (L' := [rv 321, iv p1, iv (v2 + 1), iv (v3 + 1)]) rfl (show decode cX12_steps 68 = .ok (.iinc 3 1, 3) by decide +kernel) ?_
          refine j_goto (tgt := 14) (show decode cX12_steps 71 = .ok (.goto (-57), 3) by decide +kernel) (by decide) ?_
          exact h
      · have h := h.2 c
        refine j_iconst (show decode cX12_steps 52 = .ok (.iconst 1, 1) by decide +kernel) ?_
        refine j_goto (tgt := 57) (show decode cX12_steps 53 = .ok (.goto 4, 3) by decide +kernel) (by decide) ?_
        refine j_iload_n (i := 1) rfl (show decode cX12_steps 57 = .ok (.iload_n 1, 1) by decide +kernel) ?_
        have hr9 := h.1
        have h := h.2
        refine j_icmp_ne (tgt := 65) (inl (by decide)) hr9 (show decode cX12_steps 58 = .ok (.if_icmp .ne 7, 3) by decide +kernel) (by decide) (fun c => ?_) (fun c => ?_)
        · have h := h.1 c
          refine j_iconst (show decode cX12_steps 65 = .ok (.iconst 0, 1) by decide +kernel) ?_
          refine j_iadd (show decode cX12_steps 66 = .ok (.iadd, 1) by decide +kernel) ?_
          refine s_ist_n (i := 2) (L' := [rv 321, iv p1, iv (v2 + 0), iv v3]) rfl (by decide) (show decode cX12_steps 67 = .ok (.istore_n 2, 1) by decide +kernel) ?_
          refine s_iinc (i := 3) rfl (L' := [rv 321, iv p1, iv (v2 + 0), iv (v3 + 1)]) rfl (show decode cX12_steps 68 = .ok (.iinc 3 1, 3) by decide +kernel) ?_
          refine j_goto (tgt := 14) (show decode cX12_steps 71 = .ok (.goto (-57), 3) by decide +kernel) (by decide) ?_
          exact h
        · have h := h.2 c
          refine j_iconst (show decode cX12_steps 61 = .ok (.iconst 1, 1) by decide +kernel) ?_
          refine j_goto (tgt := 66) (show decode cX12_steps 62 = .ok (.goto 4, 3) by decide +kernel) (by decide) ?_
          refine j_iadd (show decode cX12_steps 66 = .ok (.iadd, 1) by decide +kernel) ?_
          refine s_ist_n (i := 2) (L' := [rv 321, iv p1, iv (v2 + 1), iv v3]) rfl (by decide) (show decode cX12_steps 67 = .ok (.istore_n 2, 1) by decide +kernel) ?_
          refine s_iinc (i := 3) rfl (L' := [rv 321, iv p1, iv (v2 + 1), iv (v3 + 1)]) rfl (show decode cX12_steps 68 = .ok (.iinc 3 1, 3) by decide +kernel) ?_
          refine j_goto (tgt := 14) (show decode cX12_steps 71 = .ok (.goto (-57), 3) by decide +kernel) (by decide) ?_
          exact h
set_option maxRecDepth 4000 in
theorem b_X12_steps_0 {d : Nat} {t : Int} {Q : Int → jM → Prop} {σ : jM} {p1 : Int} (h : Ct mX12_wrong d 0 t [rv 321] σ (fun r1 σ1 => ((inR r1) ∧ ((r1 = (-1) → (Jt mX12_steps (d + 1) 0 t Q 14 [rv 321, iv p1, iv 0, iv 1] [] σ1)) ∧ (¬ r1 = (-1) → (Q (-1) σ1)))))) : Jt mX12_steps (d + 1) 0 t Q 0 [rv 321, iv p1, uv, uv] [] σ := by
  refine s_aload_n (i := 0) rfl (show decode cX12_steps 0 = .ok (.aload_n 0, 1) by decide +kernel) ?_
  refine j_ctV (m' := mX12_wrong) (As := []) (ci := 12) (tag := 0) (N := 0) (cw_X12_471 rfl) (show decode cX12_steps 1 = .ok (.invokevirtual 471, 3) by decide +kernel) rfl (Nat.le_of_ble_eq_true rfl) (by decide) okl_321 rfl rfl (Nat.le_refl _) h (fun r1 σ1 h => ?_)
  refine j_iconst (show decode cX12_steps 4 = .ok (.iconst (-1), 1) by decide +kernel) ?_
  have hr1 := h.1
  have h := h.2
  refine j_icmp_eq (tgt := 10) hr1 (inl (by decide)) (show decode cX12_steps 5 = .ok (.if_icmp .eq 5, 3) by decide +kernel) (by decide) (fun c => ?_) (fun c => ?_)
  · have h := h.1 c
    refine j_iconst (show decode cX12_steps 10 = .ok (.iconst 0, 1) by decide +kernel) ?_
    refine s_ist_n (i := 2) (L' := [rv 321, iv p1, iv 0, uv]) rfl (by decide) (show decode cX12_steps 11 = .ok (.istore_n 2, 1) by decide +kernel) ?_
    refine j_iconst (show decode cX12_steps 12 = .ok (.iconst 1, 1) by decide +kernel) ?_
    refine s_ist_n (i := 3) (L' := [rv 321, iv p1, iv 0, iv 1]) rfl (by decide) (show decode cX12_steps 13 = .ok (.istore_n 3, 1) by decide +kernel) ?_
    exact h
  · have h := h.2 c
    refine j_iconst (show decode cX12_steps 8 = .ok (.iconst (-1), 1) by decide +kernel) ?_
    exact j_ret (rokI (show decode cX12_steps 9 = .ok (.ireturn, 1) by decide +kernel) rfl) ⟨rfl, rfl, h⟩
theorem c_X12_steps {d : Nat} {t : Int} {Q : Int → jM → Prop} {σ : jM} {p1 : Int} (h : Ct mX12_wrong d 0 t [rv 321] σ (fun r1 σ1 => ((inR r1) ∧ ((r1 = (-1) → (Jt mX12_steps (d + 1) 0 t Q 14 [rv 321, iv p1, iv 0, iv 1] [] σ1)) ∧ (¬ r1 = (-1) → (Q (-1) σ1)))))) : Ct mX12_steps (d + 1) 0 t [rv 321, iv p1] σ Q := Ct_of (by decide +kernel) (Nat.le_of_ble_eq_true rfl) (b_X12_steps_0 h)
set_option maxRecDepth 4000 in
theorem b_X12_isSumIn_2 {d : Nat} {t : Int} {Q : Int → jM → Prop} {σ : jM} {p0 p1 v2 : Int} (h : (inR (2 * v2)) ∧ ((inR p1) ∧ ((p1 < (2 * v2) → (Q 0 σ)) ∧ ((2 * v2) ≤ p1 → (Ct mX12_has d 0 t [iv p0, iv (v2 - 1)] σ (fun r3 σ3 => ((inR r3) ∧ ((r3 = 0 → (Jt mX12_isSumIn (d + 1) 0 t Q 2 [iv p0, iv p1, iv (v2 + 1)] [] σ3)) ∧ (¬ r3 = 0 → (Ct mX12_has d 0 t [iv p0, iv ((p1 - v2) - 1)] σ3 (fun r5 σ5 => ((inR r5) ∧ ((r5 = 0 → (Jt mX12_isSumIn (d + 1) 0 t Q 2 [iv p0, iv p1, iv (v2 + 1)] [] σ5)) ∧ (¬ r5 = 0 → (Q 1 σ5))))))))))))))) : Jt mX12_isSumIn (d + 1) 0 t Q 2 [iv p0, iv p1, iv v2] [] σ := by
  refine j_iconst (show decode cX12_isSumIn 2 = .ok (.iconst 2, 1) by decide +kernel) ?_
  refine j_iload_n (i := 2) rfl (show decode cX12_isSumIn 3 = .ok (.iload_n 2, 1) by decide +kernel) ?_
  refine j_imul (show decode cX12_isSumIn 4 = .ok (.imul, 1) by decide +kernel) ?_
  refine j_iload_n (i := 1) rfl (show decode cX12_isSumIn 5 = .ok (.iload_n 1, 1) by decide +kernel) ?_
  have hr0 := h.1
  have h := h.2
  have hr1 := h.1
  have h := h.2
  refine j_icmp_gt (tgt := 39) hr0 hr1 (show decode cX12_isSumIn 6 = .ok (.if_icmp .gt 33, 3) by decide +kernel) (by decide) (fun c => ?_) (fun c => ?_)
  · have h := h.1 c
    refine j_iconst (show decode cX12_isSumIn 39 = .ok (.iconst 0, 1) by decide +kernel) ?_
    exact j_ret (rokZ (show decode cX12_isSumIn 40 = .ok (.ireturn, 1) by decide +kernel) rfl (Or.inl rfl)) ⟨rfl, rfl, h⟩
  · have h := h.2 c
    refine j_iload_n (i := 0) rfl (show decode cX12_isSumIn 9 = .ok (.iload_n 0, 1) by decide +kernel) ?_
    refine j_iload_n (i := 2) rfl (show decode cX12_isSumIn 10 = .ok (.iload_n 2, 1) by decide +kernel) ?_
    refine j_iconst (show decode cX12_isSumIn 11 = .ok (.iconst 1, 1) by decide +kernel) ?_
    refine j_isub (show decode cX12_isSumIn 12 = .ok (.isub, 1) by decide +kernel) ?_
    refine j_ctS (m' := mX12_has) (As := [iv p0, iv (v2 - 1)]) (tag := 0) (cw_X12_247 rfl) (show decode cX12_isSumIn 13 = .ok (.invokestatic 247, 3) by decide +kernel) rfl (Nat.le_of_ble_eq_true rfl) (by decide) (Nat.le_refl _) h (fun r3 σ3 h => ?_)
    have hr3 := h.1
    have h := h.2
    refine j_if_eq (tgt := 33) hr3 (show decode cX12_isSumIn 16 = .ok (.ifCond .eq 17, 3) by decide +kernel) (by decide) (fun c => ?_) (fun c => ?_)
    · have h := h.1 c
      refine s_iinc (i := 2) rfl (L' := [iv p0, iv p1, iv (v2 + 1)]) rfl (show decode cX12_isSumIn 33 = .ok (.iinc 2 1, 3) by decide +kernel) ?_
      refine j_goto (tgt := 2) (show decode cX12_isSumIn 36 = .ok (.goto (-34), 3) by decide +kernel) (by decide) ?_
      exact h
    · have h := h.2 c
      refine j_iload_n (i := 0) rfl (show decode cX12_isSumIn 19 = .ok (.iload_n 0, 1) by decide +kernel) ?_
      refine j_iload_n (i := 1) rfl (show decode cX12_isSumIn 20 = .ok (.iload_n 1, 1) by decide +kernel) ?_
      refine j_iload_n (i := 2) rfl (show decode cX12_isSumIn 21 = .ok (.iload_n 2, 1) by decide +kernel) ?_
      refine j_isub (show decode cX12_isSumIn 22 = .ok (.isub, 1) by decide +kernel) ?_
      refine j_iconst (show decode cX12_isSumIn 23 = .ok (.iconst 1, 1) by decide +kernel) ?_
      refine j_isub (show decode cX12_isSumIn 24 = .ok (.isub, 1) by decide +kernel) ?_
      refine j_ctS (m' := mX12_has) (As := [iv p0, iv ((p1 - v2) - 1)]) (tag := 0) (cw_X12_247 rfl) (show decode cX12_isSumIn 25 = .ok (.invokestatic 247, 3) by decide +kernel) rfl (Nat.le_of_ble_eq_true rfl) (by decide) (Nat.le_refl _) h (fun r5 σ5 h => ?_)
      have hr5 := h.1
      have h := h.2
      refine j_if_eq (tgt := 33) hr5 (show decode cX12_isSumIn 28 = .ok (.ifCond .eq 5, 3) by decide +kernel) (by decide) (fun c => ?_) (fun c => ?_)
      · have h := h.1 c
        refine s_iinc (i := 2) rfl (L' := [iv p0, iv p1, iv (v2 + 1)]) rfl (show decode cX12_isSumIn 33 = .ok (.iinc 2 1, 3) by decide +kernel) ?_
        refine j_goto (tgt := 2) (show decode cX12_isSumIn 36 = .ok (.goto (-34), 3) by decide +kernel) (by decide) ?_
        exact h
      · have h := h.2 c
        refine j_iconst (show decode cX12_isSumIn 31 = .ok (.iconst 1, 1) by decide +kernel) ?_
        exact j_ret (rokZ (show decode cX12_isSumIn 32 = .ok (.ireturn, 1) by decide +kernel) rfl (Or.inr rfl)) ⟨rfl, rfl, h⟩
set_option maxRecDepth 4000 in
theorem b_X12_isSumIn_0 {d : Nat} {t : Int} {Q : Int → jM → Prop} {σ : jM} {p0 p1 : Int} (h : Jt mX12_isSumIn (d + 1) 0 t Q 2 [iv p0, iv p1, iv 1] [] σ) : Jt mX12_isSumIn (d + 1) 0 t Q 0 [iv p0, iv p1, uv] [] σ := by
  refine j_iconst (show decode cX12_isSumIn 0 = .ok (.iconst 1, 1) by decide +kernel) ?_
  refine s_ist_n (i := 2) (L' := [iv p0, iv p1, iv 1]) rfl (by decide) (show decode cX12_isSumIn 1 = .ok (.istore_n 2, 1) by decide +kernel) ?_
  exact h
theorem c_X12_isSumIn {d : Nat} {t : Int} {Q : Int → jM → Prop} {σ : jM} {p0 p1 : Int} (h : Jt mX12_isSumIn (d + 1) 0 t Q 2 [iv p0, iv p1, iv 1] [] σ) : Ct mX12_isSumIn (d + 1) 0 t [iv p0, iv p1] σ Q := Ct_of (by decide +kernel) (Nat.le_of_ble_eq_true rfl) (b_X12_isSumIn_0 h)
set_option maxRecDepth 4000 in
theorem b_X12_playOf_36 {d : Nat} {t : Int} {Q : Int → jM → Prop} {σ : jM} {p1 p2 v3 v4 : Int} (h : (inR v4) ∧ ((inR p2) ∧ ((p2 < v4 → (Q (-1) σ)) ∧ (v4 ≤ p2 → (Ct mX12_isSumIn d 0 t [iv p1, iv v4] σ (fun r3 σ3 => ((inR r3) ∧ ((r3 = 0 → (Jt mX12_playOf (d + 1) 0 t Q 36 [rv 321, iv p1, iv p2, iv v3, iv (v4 + 1)] [] σ3)) ∧ (¬ r3 = 0 → ((inR v4) ∧ ((inR p2) ∧ ((v4 = p2 → (Q v4 σ3)) ∧ (¬ v4 = p2 → (((0 : Int) ≤ (i_or p1 (i_shl 1 (v4 - 1))) ∧ (i_or p1 (i_shl 1 (v4 - 1))) < 4096) ∧ ((inR (σ3 340 (i_or p1 (i_shl 1 (v4 - 1))))) ∧ ((¬ (σ3 340 (i_or p1 (i_shl 1 (v4 - 1)))) = 0 → (Jt mX12_playOf (d + 1) 0 t Q 36 [rv 321, iv p1, iv p2, iv v3, iv (v4 + 1)] [] σ3)) ∧ ((σ3 340 (i_or p1 (i_shl 1 (v4 - 1)))) = 0 → (Q v4 σ3)))))))))))))))))) : Jt mX12_playOf (d + 1) 0 t Q 36 [rv 321, iv p1, iv p2, iv v3, iv v4] [] σ := by
  refine j_iload (i := 4) rfl (show decode cX12_playOf 36 = .ok (.iload 4, 2) by decide +kernel) ?_
  refine j_iload_n (i := 2) rfl (show decode cX12_playOf 38 = .ok (.iload_n 2, 1) by decide +kernel) ?_
  have hr0 := h.1
  have h := h.2
  have hr1 := h.1
  have h := h.2
  refine j_icmp_gt (tgt := 82) hr0 hr1 (show decode cX12_playOf 39 = .ok (.if_icmp .gt 43, 3) by decide +kernel) (by decide) (fun c => ?_) (fun c => ?_)
  · have h := h.1 c
    refine j_iconst (show decode cX12_playOf 82 = .ok (.iconst (-1), 1) by decide +kernel) ?_
    exact j_ret (rokI (show decode cX12_playOf 83 = .ok (.ireturn, 1) by decide +kernel) rfl) ⟨rfl, rfl, h⟩
  · have h := h.2 c
    refine j_iload_n (i := 1) rfl (show decode cX12_playOf 42 = .ok (.iload_n 1, 1) by decide +kernel) ?_
    refine j_iload (i := 4) rfl (show decode cX12_playOf 43 = .ok (.iload 4, 2) by decide +kernel) ?_
    refine j_ctS (m' := mX12_isSumIn) (As := [iv p1, iv v4]) (tag := 0) (cw_X12_477 rfl) (show decode cX12_playOf 45 = .ok (.invokestatic 477, 3) by decide +kernel) rfl (Nat.le_of_ble_eq_true rfl) (by decide) (Nat.le_refl _) h (fun r3 σ3 h => ?_)
    have hr3 := h.1
    have h := h.2
    refine j_if_eq (tgt := 76) hr3 (show decode cX12_playOf 48 = .ok (.ifCond .eq 28, 3) by decide +kernel) (by decide) (fun c => ?_) (fun c => ?_)
    · have h := h.1 c
      refine s_iinc (i := 4) rfl (L' := [rv 321, iv p1, iv p2, iv v3, iv (v4 + 1)]) rfl (show decode cX12_playOf 76 = .ok (.iinc 4 1, 3) by decide +kernel) ?_
      refine j_goto (tgt := 36) (show decode cX12_playOf 79 = .ok (.goto (-43), 3) by decide +kernel) (by decide) ?_
      exact h
    · have h := h.2 c
      refine j_iload (i := 4) rfl (show decode cX12_playOf 51 = .ok (.iload 4, 2) by decide +kernel) ?_
      refine j_iload_n (i := 2) rfl (show decode cX12_playOf 53 = .ok (.iload_n 2, 1) by decide +kernel) ?_
      have hr4 := h.1
      have h := h.2
      have hr5 := h.1
      have h := h.2
      refine j_icmp_eq (tgt := 73) hr4 hr5 (show decode cX12_playOf 54 = .ok (.if_icmp .eq 19, 3) by decide +kernel) (by decide) (fun c => ?_) (fun c => ?_)
      · have h := h.1 c
        refine j_iload (i := 4) rfl (show decode cX12_playOf 73 = .ok (.iload 4, 2) by decide +kernel) ?_
        exact j_ret (rokI (show decode cX12_playOf 75 = .ok (.ireturn, 1) by decide +kernel) rfl) ⟨rfl, rfl, h⟩
      · have h := h.2 c
        refine s_aload_n (i := 0) rfl (show decode cX12_playOf 57 = .ok (.aload_n 0, 1) by decide +kernel) ?_
        refine gf_X12_78 (x := 340) rfl (show decode cX12_playOf 58 = .ok (.getfield 78, 3) by decide +kernel) okl_321 rfl ?_
        refine j_iload_n (i := 1) rfl (show decode cX12_playOf 61 = .ok (.iload_n 1, 1) by decide +kernel) ?_
        refine j_iconst (show decode cX12_playOf 62 = .ok (.iconst 1, 1) by decide +kernel) ?_
        refine j_iload (i := 4) rfl (show decode cX12_playOf 63 = .ok (.iload 4, 2) by decide +kernel) ?_
        refine j_iconst (show decode cX12_playOf 65 = .ok (.iconst 1, 1) by decide +kernel) ?_
        refine j_isub (show decode cX12_playOf 66 = .ok (.isub, 1) by decide +kernel) ?_
        refine j_ishl (show decode cX12_playOf 67 = .ok (.ishl, 1) by decide +kernel) ?_
        refine j_ior (show decode cX12_playOf 68 = .ok (.ior, 1) by decide +kernel) ?_
        refine s_zald (show decode cX12_playOf 69 = .ok (.baload, 1) by decide +kernel) okl_340 h.1 ?_
        have h := h.2
        have hr6 := h.1
        have h := h.2
        refine j_if_ne (tgt := 76) hr6 (show decode cX12_playOf 70 = .ok (.ifCond .ne 6, 3) by decide +kernel) (by decide) (fun c => ?_) (fun c => ?_)
        · have h := h.1 c
          refine s_iinc (i := 4) rfl (L' := [rv 321, iv p1, iv p2, iv v3, iv (v4 + 1)]) rfl (show decode cX12_playOf 76 = .ok (.iinc 4 1, 3) by decide +kernel) ?_
          refine j_goto (tgt := 36) (show decode cX12_playOf 79 = .ok (.goto (-43), 3) by decide +kernel) (by decide) ?_
          exact h
        · have h := h.2 c
          refine j_iload (i := 4) rfl (show decode cX12_playOf 73 = .ok (.iload 4, 2) by decide +kernel) ?_
          exact j_ret (rokI (show decode cX12_playOf 75 = .ok (.ireturn, 1) by decide +kernel) rfl) ⟨rfl, rfl, h⟩
set_option maxRecDepth 4000 in
theorem b_X12_playOf_5 {d : Nat} {t : Int} {Q : Int → jM → Prop} {σ : jM} {p1 p2 v3 v4 : Int} (h : (inR v4) ∧ ((inR p2) ∧ ((p2 ≤ v4 → (Jt mX12_playOf (d + 1) 0 t Q 36 [rv 321, iv p1, iv p2, iv v3, iv (v3 + 1)] [] σ)) ∧ (v4 < p2 → (Ct mX12_has d 0 t [iv p1, iv (v4 - 1)] σ (fun r3 σ3 => ((inR r3) ∧ ((r3 = 0 → (Jt mX12_playOf (d + 1) 0 t Q 5 [rv 321, iv p1, iv p2, iv v3, iv (v4 + 1)] [] σ3)) ∧ (¬ r3 = 0 → (Jt mX12_playOf (d + 1) 0 t Q 5 [rv 321, iv p1, iv p2, iv v4, iv (v4 + 1)] [] σ3)))))))))) : Jt mX12_playOf (d + 1) 0 t Q 5 [rv 321, iv p1, iv p2, iv v3, iv v4] [] σ := by
  refine j_iload (i := 4) rfl (show decode cX12_playOf 5 = .ok (.iload 4, 2) by decide +kernel) ?_
  refine j_iload_n (i := 2) rfl (show decode cX12_playOf 7 = .ok (.iload_n 2, 1) by decide +kernel) ?_
  have hr0 := h.1
  have h := h.2
  have hr1 := h.1
  have h := h.2
  refine j_icmp_ge (tgt := 31) hr0 hr1 (show decode cX12_playOf 8 = .ok (.if_icmp .ge 23, 3) by decide +kernel) (by decide) (fun c => ?_) (fun c => ?_)
  · have h := h.1 c
    refine j_iload_n (i := 3) rfl (show decode cX12_playOf 31 = .ok (.iload_n 3, 1) by decide +kernel) ?_
    refine j_iconst (show decode cX12_playOf 32 = .ok (.iconst 1, 1) by decide +kernel) ?_
    refine j_iadd (show decode cX12_playOf 33 = .ok (.iadd, 1) by decide +kernel) ?_
    refine s_ist (i := 4) (L' := [rv 321, iv p1, iv p2, iv v3, iv (v3 + 1)]) rfl (by decide) (show decode cX12_playOf 34 = .ok (.istore 4, 2) by decide +kernel) ?_
    exact h
  · have h := h.2 c
    refine j_iload_n (i := 1) rfl (show decode cX12_playOf 11 = .ok (.iload_n 1, 1) by decide +kernel) ?_
    refine j_iload (i := 4) rfl (show decode cX12_playOf 12 = .ok (.iload 4, 2) by decide +kernel) ?_
    refine j_iconst (show decode cX12_playOf 14 = .ok (.iconst 1, 1) by decide +kernel) ?_
    refine j_isub (show decode cX12_playOf 15 = .ok (.isub, 1) by decide +kernel) ?_
    refine j_ctS (m' := mX12_has) (As := [iv p1, iv (v4 - 1)]) (tag := 0) (cw_X12_247 rfl) (show decode cX12_playOf 16 = .ok (.invokestatic 247, 3) by decide +kernel) rfl (Nat.le_of_ble_eq_true rfl) (by decide) (Nat.le_refl _) h (fun r3 σ3 h => ?_)
    have hr3 := h.1
    have h := h.2
    refine j_if_eq (tgt := 25) hr3 (show decode cX12_playOf 19 = .ok (.ifCond .eq 6, 3) by decide +kernel) (by decide) (fun c => ?_) (fun c => ?_)
    · have h := h.1 c
      refine s_iinc (i := 4) rfl (L' := [rv 321, iv p1, iv p2, iv v3, iv (v4 + 1)]) rfl (show decode cX12_playOf 25 = .ok (.iinc 4 1, 3) by decide +kernel) ?_
      refine j_goto (tgt := 5) (show decode cX12_playOf 28 = .ok (.goto (-23), 3) by decide +kernel) (by decide) ?_
      exact h
    · have h := h.2 c
      refine j_iload (i := 4) rfl (show decode cX12_playOf 22 = .ok (.iload 4, 2) by decide +kernel) ?_
      refine s_ist_n (i := 3) (L' := [rv 321, iv p1, iv p2, iv v4, iv v4]) rfl (by decide) (show decode cX12_playOf 24 = .ok (.istore_n 3, 1) by decide +kernel) ?_
      refine s_iinc (i := 4) rfl (L' := [rv 321, iv p1, iv p2, iv v4, iv (v4 + 1)]) rfl (show decode cX12_playOf 25 = .ok (.iinc 4 1, 3) by decide +kernel) ?_
      refine j_goto (tgt := 5) (show decode cX12_playOf 28 = .ok (.goto (-23), 3) by decide +kernel) (by decide) ?_
      exact h
set_option maxRecDepth 4000 in
theorem b_X12_playOf_0 {d : Nat} {t : Int} {Q : Int → jM → Prop} {σ : jM} {p1 p2 : Int} (h : Jt mX12_playOf (d + 1) 0 t Q 5 [rv 321, iv p1, iv p2, iv 1, iv 1] [] σ) : Jt mX12_playOf (d + 1) 0 t Q 0 [rv 321, iv p1, iv p2, uv, uv] [] σ := by
  refine j_iconst (show decode cX12_playOf 0 = .ok (.iconst 1, 1) by decide +kernel) ?_
  refine s_ist_n (i := 3) (L' := [rv 321, iv p1, iv p2, iv 1, uv]) rfl (by decide) (show decode cX12_playOf 1 = .ok (.istore_n 3, 1) by decide +kernel) ?_
  refine j_iconst (show decode cX12_playOf 2 = .ok (.iconst 1, 1) by decide +kernel) ?_
  refine s_ist (i := 4) (L' := [rv 321, iv p1, iv p2, iv 1, iv 1]) rfl (by decide) (show decode cX12_playOf 3 = .ok (.istore 4, 2) by decide +kernel) ?_
  exact h
theorem c_X12_playOf {d : Nat} {t : Int} {Q : Int → jM → Prop} {σ : jM} {p1 p2 : Int} (h : Jt mX12_playOf (d + 1) 0 t Q 5 [rv 321, iv p1, iv p2, iv 1, iv 1] [] σ) : Ct mX12_playOf (d + 1) 0 t [rv 321, iv p1, iv p2] σ Q := Ct_of (by decide +kernel) (Nat.le_of_ble_eq_true rfl) (b_X12_playOf_0 h)
set_option maxRecDepth 4000 in
theorem b_X12_isGame_0 {d : Nat} {t : Int} {Q : Int → jM → Prop} {σ : jM} {p0 : Int} (h : Ct mX12_isIn d 0 t [iv p0, iv 2, iv 12] σ (fun r1 σ1 => ((r1 = 0 ∨ r1 = 1) ∧ (Q r1 σ1)))) : Jt mX12_isGame (d + 1) 0 t Q 0 [iv p0] [] σ := by
  refine j_iload_n (i := 0) rfl (show decode cX12_isGame 0 = .ok (.iload_n 0, 1) by decide +kernel) ?_
  refine j_iconst (show decode cX12_isGame 1 = .ok (.iconst 2, 1) by decide +kernel) ?_
  refine j_bipush (n := 12) (by decide +kernel) (show decode cX12_isGame 2 = .ok (.bipush 12, 2) by decide +kernel) ?_
  refine j_ctS (m' := mX12_isIn) (As := [iv p0, iv 2, iv 12]) (tag := 0) (cw_X12_85 rfl) (show decode cX12_isGame 4 = .ok (.invokestatic 85, 3) by decide +kernel) rfl (Nat.le_of_ble_eq_true rfl) (by decide) (Nat.le_refl _) h (fun r1 σ1 h => ?_)
  have hz1 := h.1
  have h := h.2
  exact j_ret (rokZ (show decode cX12_isGame 7 = .ok (.ireturn, 1) by decide +kernel) rfl hz1) ⟨rfl, rfl, h⟩
theorem c_X12_isGame {d : Nat} {t : Int} {Q : Int → jM → Prop} {σ : jM} {p0 : Int} (h : Ct mX12_isIn d 0 t [iv p0, iv 2, iv 12] σ (fun r1 σ1 => ((r1 = 0 ∨ r1 = 1) ∧ (Q r1 σ1)))) : Ct mX12_isGame (d + 1) 0 t [iv p0] σ Q := Ct_of (by decide +kernel) (Nat.le_of_ble_eq_true rfl) (b_X12_isGame_0 h)
set_option maxRecDepth 4000 in
theorem b_X12_playFirst_8 {d : Nat} {t : Int} {Q : Int → jM → Prop} {σ : jM} {p1 v2 : Int} (h : (inR v2) ∧ ((v2 ≤ 1 → (Ct mX12_playOf d 0 t [rv 321, iv 1, iv p1] σ (fun r2 σ2 => (Q r2 σ2)))) ∧ (1 < v2 → (Ct mX12_has d 0 t [iv v2, iv 0] σ (fun r3 σ3 => ((inR r3) ∧ ((r3 = 0 → (((0 : Int) ≤ v2 ∧ v2 < 4096) ∧ (∀ σ6 : jM, σ6 = up σ3 340 v2 0 → (Jt mX12_playFirst (d + 1) 0 t Q 8 [rv 321, iv p1, iv (v2 + (-1))] [] σ6)))) ∧ (¬ r3 = 0 → (Ct mX12_playOf d 0 t [rv 321, iv v2, iv p1] σ3 (fun r7 σ7 => ((inR r7) ∧ ((r7 = (-1) → (((0 : Int) ≤ v2 ∧ v2 < 4096) ∧ (∀ σ10 : jM, σ10 = up σ7 340 v2 0 → (Jt mX12_playFirst (d + 1) 0 t Q 8 [rv 321, iv p1, iv (v2 + (-1))] [] σ10)))) ∧ (¬ r7 = (-1) → (((0 : Int) ≤ v2 ∧ v2 < 4096) ∧ (∀ σ12 : jM, σ12 = up σ7 340 v2 1 → (Jt mX12_playFirst (d + 1) 0 t Q 8 [rv 321, iv p1, iv (v2 + (-1))] [] σ12)))))))))))))))) : Jt mX12_playFirst (d + 1) 0 t Q 8 [rv 321, iv p1, iv v2] [] σ := by
  refine j_iload_n (i := 2) rfl (show decode cX12_playFirst 8 = .ok (.iload_n 2, 1) by decide +kernel) ?_
  refine j_iconst (show decode cX12_playFirst 9 = .ok (.iconst 1, 1) by decide +kernel) ?_
  have hr0 := h.1
  have h := h.2
  refine j_icmp_le (tgt := 48) hr0 (inl (by decide)) (show decode cX12_playFirst 10 = .ok (.if_icmp .le 38, 3) by decide +kernel) (by decide) (fun c => ?_) (fun c => ?_)
  · have h := h.1 c
    refine s_aload_n (i := 0) rfl (show decode cX12_playFirst 48 = .ok (.aload_n 0, 1) by decide +kernel) ?_
    refine j_iconst (show decode cX12_playFirst 49 = .ok (.iconst 1, 1) by decide +kernel) ?_
    refine j_iload_n (i := 1) rfl (show decode cX12_playFirst 50 = .ok (.iload_n 1, 1) by decide +kernel) ?_
    refine j_ctV (m' := mX12_playOf) (As := [iv 1, iv p1]) (ci := 12) (tag := 0) (N := 0) (cw_X12_480 rfl) (show decode cX12_playFirst 51 = .ok (.invokevirtual 480, 3) by decide +kernel) rfl (Nat.le_of_ble_eq_true rfl) (by decide) okl_321 rfl rfl (Nat.le_refl _) h (fun r2 σ2 h => ?_)
    exact j_ret (rokI (show decode cX12_playFirst 54 = .ok (.ireturn, 1) by decide +kernel) rfl) ⟨rfl, rfl, h⟩
  · have h := h.2 c
    refine s_aload_n (i := 0) rfl (show decode cX12_playFirst 13 = .ok (.aload_n 0, 1) by decide +kernel) ?_
    refine gf_X12_78 (x := 340) rfl (show decode cX12_playFirst 14 = .ok (.getfield 78, 3) by decide +kernel) okl_321 rfl ?_
    refine j_iload_n (i := 2) rfl (show decode cX12_playFirst 17 = .ok (.iload_n 2, 1) by decide +kernel) ?_
    refine j_iload_n (i := 2) rfl (show decode cX12_playFirst 18 = .ok (.iload_n 2, 1) by decide +kernel) ?_
    refine j_iconst (show decode cX12_playFirst 19 = .ok (.iconst 0, 1) by decide +kernel) ?_
    refine j_ctS (m' := mX12_has) (As := [iv v2, iv 0]) (tag := 0) (cw_X12_247 rfl) (show decode cX12_playFirst 20 = .ok (.invokestatic 247, 3) by decide +kernel) rfl (Nat.le_of_ble_eq_true rfl) (by decide) (Nat.le_refl _) h (fun r3 σ3 h => ?_)
    have hr3 := h.1
    have h := h.2
    refine j_if_eq (tgt := 40) hr3 (show decode cX12_playFirst 23 = .ok (.ifCond .eq 17, 3) by decide +kernel) (by decide) (fun c => ?_) (fun c => ?_)
    · have h := h.1 c
      refine j_iconst (show decode cX12_playFirst 40 = .ok (.iconst 0, 1) by decide +kernel) ?_
      have hb4 := h.1
      have h := h.2
      refine s_zast (show decode cX12_playFirst 41 = .ok (.bastore, 1) by decide +kernel) okl_340 hb4 (by decide) ?_
      obtain ⟨σ6, eσ6⟩ : ∃ z : jM, z = up σ3 340 v2 0 := ⟨_, rfl⟩
      refine j_sig eσ6 ?_
      have h := h σ6 eσ6
      refine s_iinc (i := 2) rfl (L' := [rv 321, iv p1, iv (v2 + (-1))]) rfl (show decode cX12_playFirst 42 = .ok (.iinc 2 (-1), 3) by decide +kernel) ?_
      refine j_goto (tgt := 8) (show decode cX12_playFirst 45 = .ok (.goto (-37), 3) by decide +kernel) (by decide) ?_
      exact h
    · have h := h.2 c
      refine s_aload_n (i := 0) rfl (show decode cX12_playFirst 26 = .ok (.aload_n 0, 1) by decide +kernel) ?_
      refine j_iload_n (i := 2) rfl (show decode cX12_playFirst 27 = .ok (.iload_n 2, 1) by decide +kernel) ?_
      refine j_iload_n (i := 1) rfl (show decode cX12_playFirst 28 = .ok (.iload_n 1, 1) by decide +kernel) ?_
      refine j_ctV (m' := mX12_playOf) (As := [iv v2, iv p1]) (ci := 12) (tag := 0) (N := 0) (cw_X12_480 rfl) (show decode cX12_playFirst 29 = .ok (.invokevirtual 480, 3) by decide +kernel) rfl (Nat.le_of_ble_eq_true rfl) (by decide) okl_321 rfl rfl (Nat.le_refl _) h (fun r7 σ7 h => ?_)
      refine j_iconst (show decode cX12_playFirst 32 = .ok (.iconst (-1), 1) by decide +kernel) ?_
      have hr7 := h.1
      have h := h.2
      refine j_icmp_eq (tgt := 40) hr7 (inl (by decide)) (show decode cX12_playFirst 33 = .ok (.if_icmp .eq 7, 3) by decide +kernel) (by decide) (fun c => ?_) (fun c => ?_)
      · have h := h.1 c
        refine j_iconst (show decode cX12_playFirst 40 = .ok (.iconst 0, 1) by decide +kernel) ?_
        have hb8 := h.1
        have h := h.2
        refine s_zast (show decode cX12_playFirst 41 = .ok (.bastore, 1) by decide +kernel) okl_340 hb8 (by decide) ?_
        obtain ⟨σ10, eσ10⟩ : ∃ z : jM, z = up σ7 340 v2 0 := ⟨_, rfl⟩
        refine j_sig eσ10 ?_
        have h := h σ10 eσ10
        refine s_iinc (i := 2) rfl (L' := [rv 321, iv p1, iv (v2 + (-1))]) rfl (show decode cX12_playFirst 42 = .ok (.iinc 2 (-1), 3) by decide +kernel) ?_
        refine j_goto (tgt := 8) (show decode cX12_playFirst 45 = .ok (.goto (-37), 3) by decide +kernel) (by decide) ?_
        exact h
      · have h := h.2 c
        refine j_iconst (show decode cX12_playFirst 36 = .ok (.iconst 1, 1) by decide +kernel) ?_
        refine j_goto (tgt := 41) (show decode cX12_playFirst 37 = .ok (.goto 4, 3) by decide +kernel) (by decide) ?_
        have hb10 := h.1
        have h := h.2
        refine s_zast (show decode cX12_playFirst 41 = .ok (.bastore, 1) by decide +kernel) okl_340 hb10 (by decide) ?_
        obtain ⟨σ12, eσ12⟩ : ∃ z : jM, z = up σ7 340 v2 1 := ⟨_, rfl⟩
        refine j_sig eσ12 ?_
        have h := h σ12 eσ12
        refine s_iinc (i := 2) rfl (L' := [rv 321, iv p1, iv (v2 + (-1))]) rfl (show decode cX12_playFirst 42 = .ok (.iinc 2 (-1), 3) by decide +kernel) ?_
        refine j_goto (tgt := 8) (show decode cX12_playFirst 45 = .ok (.goto (-37), 3) by decide +kernel) (by decide) ?_
        exact h
set_option maxRecDepth 4000 in
theorem b_X12_playFirst_0 {d : Nat} {t : Int} {Q : Int → jM → Prop} {σ : jM} {p1 : Int} (h : Jt mX12_playFirst (d + 1) 0 t Q 8 [rv 321, iv p1, iv ((i_shl 1 (p1 - 1)) - 1)] [] σ) : Jt mX12_playFirst (d + 1) 0 t Q 0 [rv 321, iv p1, uv] [] σ := by
  refine j_iconst (show decode cX12_playFirst 0 = .ok (.iconst 1, 1) by decide +kernel) ?_
  refine j_iload_n (i := 1) rfl (show decode cX12_playFirst 1 = .ok (.iload_n 1, 1) by decide +kernel) ?_
  refine j_iconst (show decode cX12_playFirst 2 = .ok (.iconst 1, 1) by decide +kernel) ?_
  refine j_isub (show decode cX12_playFirst 3 = .ok (.isub, 1) by decide +kernel) ?_
  refine j_ishl (show decode cX12_playFirst 4 = .ok (.ishl, 1) by decide +kernel) ?_
  refine j_iconst (show decode cX12_playFirst 5 = .ok (.iconst 1, 1) by decide +kernel) ?_
  refine j_isub (show decode cX12_playFirst 6 = .ok (.isub, 1) by decide +kernel) ?_
  refine s_ist_n (i := 2) (L' := [rv 321, iv p1, iv ((i_shl 1 (p1 - 1)) - 1)]) rfl (by decide) (show decode cX12_playFirst 7 = .ok (.istore_n 2, 1) by decide +kernel) ?_
  exact h
theorem c_X12_playFirst {d : Nat} {t : Int} {Q : Int → jM → Prop} {σ : jM} {p1 : Int} (h : Jt mX12_playFirst (d + 1) 0 t Q 8 [rv 321, iv p1, iv ((i_shl 1 (p1 - 1)) - 1)] [] σ) : Ct mX12_playFirst (d + 1) 0 t [rv 321, iv p1] σ Q := Ct_of (by decide +kernel) (Nat.le_of_ble_eq_true rfl) (b_X12_playFirst_0 h)
set_option maxRecDepth 4000 in
theorem b_X12_game_0 {d : Nat} {t : Int} {Q : Int → jM → Prop} {σ : jM} {p1 : Int} (h : Ct mX12_isGame d 0 t [iv p1] σ (fun r1 σ1 => ((inR r1) ∧ ((¬ r1 = 0 → (Ct mX12_playFirst d 0 t [rv 321, iv p1] σ1 (fun r3 σ3 => ((inR r3) ∧ ((¬ r3 = (-1) → (Q 1 σ3)) ∧ (r3 = (-1) → (Q 0 σ3))))))) ∧ (r1 = 0 → (Q (-1) σ1)))))) : Jt mX12_game (d + 1) 0 t Q 0 [rv 321, iv p1] [] σ := by
  refine j_iload_n (i := 1) rfl (show decode cX12_game 0 = .ok (.iload_n 1, 1) by decide +kernel) ?_
  refine j_ctS (m' := mX12_isGame) (As := [iv p1]) (tag := 0) (cw_X12_483 rfl) (show decode cX12_game 1 = .ok (.invokestatic 483, 3) by decide +kernel) rfl (Nat.le_of_ble_eq_true rfl) (by decide) (Nat.le_refl _) h (fun r1 σ1 h => ?_)
  have hr1 := h.1
  have h := h.2
  refine j_if_ne (tgt := 11) hr1 (show decode cX12_game 4 = .ok (.ifCond .ne 7, 3) by decide +kernel) (by decide) (fun c => ?_) (fun c => ?_)
  · have h := h.1 c
    refine s_aload_n (i := 0) rfl (show decode cX12_game 11 = .ok (.aload_n 0, 1) by decide +kernel) ?_
    refine j_iload_n (i := 1) rfl (show decode cX12_game 12 = .ok (.iload_n 1, 1) by decide +kernel) ?_
    refine j_ctV (m' := mX12_playFirst) (As := [iv p1]) (ci := 12) (tag := 0) (N := 0) (cw_X12_486 rfl) (show decode cX12_game 13 = .ok (.invokevirtual 486, 3) by decide +kernel) rfl (Nat.le_of_ble_eq_true rfl) (by decide) okl_321 rfl rfl (Nat.le_refl _) h (fun r3 σ3 h => ?_)
    refine j_iconst (show decode cX12_game 16 = .ok (.iconst (-1), 1) by decide +kernel) ?_
    have hr3 := h.1
    have h := h.2
    refine j_icmp_ne (tgt := 24) hr3 (inl (by decide)) (show decode cX12_game 17 = .ok (.if_icmp .ne 7, 3) by decide +kernel) (by decide) (fun c => ?_) (fun c => ?_)
    · have h := h.1 c
      refine j_iconst (show decode cX12_game 24 = .ok (.iconst 1, 1) by decide +kernel) ?_
      exact j_ret (rokI (show decode cX12_game 25 = .ok (.ireturn, 1) by decide +kernel) rfl) ⟨rfl, rfl, h⟩
    · have h := h.2 c
      refine j_iconst (show decode cX12_game 20 = .ok (.iconst 0, 1) by decide +kernel) ?_
      refine j_goto (tgt := 25) (show decode cX12_game 21 = .ok (.goto 4, 3) by decide +kernel) (by decide) ?_
      exact j_ret (rokI (show decode cX12_game 25 = .ok (.ireturn, 1) by decide +kernel) rfl) ⟨rfl, rfl, h⟩
  · have h := h.2 c
    refine j_iconst (show decode cX12_game 7 = .ok (.iconst (-1), 1) by decide +kernel) ?_
    refine j_goto (tgt := 25) (show decode cX12_game 8 = .ok (.goto 17, 3) by decide +kernel) (by decide) ?_
    exact j_ret (rokI (show decode cX12_game 25 = .ok (.ireturn, 1) by decide +kernel) rfl) ⟨rfl, rfl, h⟩
theorem c_X12_game {d : Nat} {t : Int} {Q : Int → jM → Prop} {σ : jM} {p1 : Int} (h : Ct mX12_isGame d 0 t [iv p1] σ (fun r1 σ1 => ((inR r1) ∧ ((¬ r1 = 0 → (Ct mX12_playFirst d 0 t [rv 321, iv p1] σ1 (fun r3 σ3 => ((inR r3) ∧ ((¬ r3 = (-1) → (Q 1 σ3)) ∧ (r3 = (-1) → (Q 0 σ3))))))) ∧ (r1 = 0 → (Q (-1) σ1)))))) : Ct mX12_game (d + 1) 0 t [rv 321, iv p1] σ Q := Ct_of (by decide +kernel) (Nat.le_of_ble_eq_true rfl) (b_X12_game_0 h)
set_option maxRecDepth 4000 in
theorem b_X12_play_0 {d : Nat} {t : Int} {Q : Int → jM → Prop} {σ : jM} {p1 : Int} (h : Ct mX12_isGame d 0 t [iv p1] σ (fun r1 σ1 => ((inR r1) ∧ ((r1 = 0 → (Q (-1) σ1)) ∧ (¬ r1 = 0 → (Ct mX12_playFirst d 0 t [rv 321, iv p1] σ1 (fun r3 σ3 => (Q r3 σ3)))))))) : Jt mX12_play (d + 1) 0 t Q 0 [rv 321, iv p1] [] σ := by
  refine j_iload_n (i := 1) rfl (show decode cX12_play 0 = .ok (.iload_n 1, 1) by decide +kernel) ?_
  refine j_ctS (m' := mX12_isGame) (As := [iv p1]) (tag := 0) (cw_X12_483 rfl) (show decode cX12_play 1 = .ok (.invokestatic 483, 3) by decide +kernel) rfl (Nat.le_of_ble_eq_true rfl) (by decide) (Nat.le_refl _) h (fun r1 σ1 h => ?_)
  have hr1 := h.1
  have h := h.2
  refine j_if_eq (tgt := 15) hr1 (show decode cX12_play 4 = .ok (.ifCond .eq 11, 3) by decide +kernel) (by decide) (fun c => ?_) (fun c => ?_)
  · have h := h.1 c
    refine j_iconst (show decode cX12_play 15 = .ok (.iconst (-1), 1) by decide +kernel) ?_
    exact j_ret (rokI (show decode cX12_play 16 = .ok (.ireturn, 1) by decide +kernel) rfl) ⟨rfl, rfl, h⟩
  · have h := h.2 c
    refine s_aload_n (i := 0) rfl (show decode cX12_play 7 = .ok (.aload_n 0, 1) by decide +kernel) ?_
    refine j_iload_n (i := 1) rfl (show decode cX12_play 8 = .ok (.iload_n 1, 1) by decide +kernel) ?_
    refine j_ctV (m' := mX12_playFirst) (As := [iv p1]) (ci := 12) (tag := 0) (N := 0) (cw_X12_486 rfl) (show decode cX12_play 9 = .ok (.invokevirtual 486, 3) by decide +kernel) rfl (Nat.le_of_ble_eq_true rfl) (by decide) okl_321 rfl rfl (Nat.le_refl _) h (fun r3 σ3 h => ?_)
    refine j_goto (tgt := 16) (show decode cX12_play 12 = .ok (.goto 4, 3) by decide +kernel) (by decide) ?_
    exact j_ret (rokI (show decode cX12_play 16 = .ok (.ireturn, 1) by decide +kernel) rfl) ⟨rfl, rfl, h⟩
theorem c_X12_play {d : Nat} {t : Int} {Q : Int → jM → Prop} {σ : jM} {p1 : Int} (h : Ct mX12_isGame d 0 t [iv p1] σ (fun r1 σ1 => ((inR r1) ∧ ((r1 = 0 → (Q (-1) σ1)) ∧ (¬ r1 = 0 → (Ct mX12_playFirst d 0 t [rv 321, iv p1] σ1 (fun r3 σ3 => (Q r3 σ3)))))))) : Ct mX12_play (d + 1) 0 t [rv 321, iv p1] σ Q := Ct_of (by decide +kernel) (Nat.le_of_ble_eq_true rfl) (b_X12_play_0 h)
set_option maxRecDepth 4000 in
theorem b_X12_said_0 {d : Nat} {t : Int} {Q : Int → jM → Prop} {σ : jM} {p1 p2 : Int} (h : (inR p1) ∧ ((¬ p1 = (-1) → (Ct mX12_isCrock d 0 t [iv p1] σ (fun r2 σ2 => ((inR r2) ∧ ((r2 = 0 → (Q (-2) σ2)) ∧ (¬ r2 = 0 → (Ct mX12_isIn d 0 t [iv p2, iv 0, iv 10] σ2 (fun r4 σ4 => ((inR r4) ∧ ((r4 = 0 → (Q (-2) σ4)) ∧ (¬ r4 = 0 → (((0 : Int) ≤ 5 ∧ (5 : Int) < 2208) ∧ ((inR (σ4 322 5)) ∧ ((¬ (σ4 322 5) = 8 → (((0 : Int) ≤ 5 ∧ (5 : Int) < 2208) ∧ (((0 : Int) ≤ (42 + (2 * (σ4 322 5))) ∧ (42 + (2 * (σ4 322 5))) < 2208) ∧ (∀ σ8 : jM, σ8 = up σ4 322 (42 + (2 * (σ4 322 5))) p1 → (((0 : Int) ≤ 5 ∧ (5 : Int) < 2208) ∧ (((0 : Int) ≤ ((42 + (2 * (σ8 322 5))) + 1) ∧ ((42 + (2 * (σ8 322 5))) + 1) < 2208) ∧ (∀ σ10 : jM, σ10 = up σ8 322 ((42 + (2 * (σ8 322 5))) + 1) p2 → (((0 : Int) ≤ 5 ∧ (5 : Int) < 2208) ∧ (((0 : Int) ≤ 5 ∧ (5 : Int) < 2208) ∧ (∀ σ12 : jM, σ12 = up σ10 322 5 ((σ10 322 5) + 1) → (((0 : Int) ≤ 5 ∧ (5 : Int) < 2208) ∧ (Q (σ12 322 5) σ12)))))))))))) ∧ ((σ4 322 5) = 8 → (Q (-2) σ4)))))))))))))))) ∧ (p1 = (-1) → (((0 : Int) ≤ 5 ∧ (5 : Int) < 2208) ∧ (∀ σ14 : jM, σ14 = up σ 322 5 0 → (Q 0 σ14)))))) : Jt mX12_said (d + 1) 0 t Q 0 [rv 321, iv p1, iv p2] [] σ := by
  refine j_iload_n (i := 1) rfl (show decode cX12_said 0 = .ok (.iload_n 1, 1) by decide +kernel) ?_
  refine j_iconst (show decode cX12_said 1 = .ok (.iconst (-1), 1) by decide +kernel) ?_
  have hr0 := h.1
  have h := h.2
  refine j_icmp_ne (tgt := 14) hr0 (inl (by decide)) (show decode cX12_said 2 = .ok (.if_icmp .ne 12, 3) by decide +kernel) (by decide) (fun c => ?_) (fun c => ?_)
  · have h := h.1 c
    refine j_iload_n (i := 1) rfl (show decode cX12_said 14 = .ok (.iload_n 1, 1) by decide +kernel) ?_
    refine j_ctS (m' := mX12_isCrock) (As := [iv p1]) (tag := 0) (cw_X12_89 rfl) (show decode cX12_said 15 = .ok (.invokestatic 89, 3) by decide +kernel) rfl (Nat.le_of_ble_eq_true rfl) (by decide) (Nat.le_refl _) h (fun r2 σ2 h => ?_)
    have hr2 := h.1
    have h := h.2
    refine j_if_eq (tgt := 42) hr2 (show decode cX12_said 18 = .ok (.ifCond .eq 24, 3) by decide +kernel) (by decide) (fun c => ?_) (fun c => ?_)
    · have h := h.1 c
      refine j_bipush (n := -2) (by decide +kernel) (show decode cX12_said 42 = .ok (.bipush (-2), 2) by decide +kernel) ?_
      exact j_ret (rokI (show decode cX12_said 44 = .ok (.ireturn, 1) by decide +kernel) rfl) ⟨rfl, rfl, h⟩
    · have h := h.2 c
      refine j_iload_n (i := 2) rfl (show decode cX12_said 21 = .ok (.iload_n 2, 1) by decide +kernel) ?_
      refine j_iconst (show decode cX12_said 22 = .ok (.iconst 0, 1) by decide +kernel) ?_
      refine j_bipush (n := 10) (by decide +kernel) (show decode cX12_said 23 = .ok (.bipush 10, 2) by decide +kernel) ?_
      refine j_ctS (m' := mX12_isIn) (As := [iv p2, iv 0, iv 10]) (tag := 0) (cw_X12_85 rfl) (show decode cX12_said 25 = .ok (.invokestatic 85, 3) by decide +kernel) rfl (Nat.le_of_ble_eq_true rfl) (by decide) (Nat.le_refl _) h (fun r4 σ4 h => ?_)
      have hr4 := h.1
      have h := h.2
      refine j_if_eq (tgt := 42) hr4 (show decode cX12_said 28 = .ok (.ifCond .eq 14, 3) by decide +kernel) (by decide) (fun c => ?_) (fun c => ?_)
      · have h := h.1 c
        refine j_bipush (n := -2) (by decide +kernel) (show decode cX12_said 42 = .ok (.bipush (-2), 2) by decide +kernel) ?_
        exact j_ret (rokI (show decode cX12_said 44 = .ok (.ireturn, 1) by decide +kernel) rfl) ⟨rfl, rfl, h⟩
      · have h := h.2 c
        refine s_aload_n (i := 0) rfl (show decode cX12_said 31 = .ok (.aload_n 0, 1) by decide +kernel) ?_
        refine gf_X12_7 (x := 322) rfl (show decode cX12_said 32 = .ok (.getfield 7, 3) by decide +kernel) okl_321 rfl ?_
        refine j_iconst (show decode cX12_said 35 = .ok (.iconst 5, 1) by decide +kernel) ?_
        refine s_iald (show decode cX12_said 36 = .ok (.iaload, 1) by decide +kernel) okl_322 h.1 ?_
        have h := h.2
        refine j_bipush (n := 8) (by decide +kernel) (show decode cX12_said 37 = .ok (.bipush 8, 2) by decide +kernel) ?_
        have hr5 := h.1
        have h := h.2
        refine j_icmp_ne (tgt := 45) hr5 (inl (by decide)) (show decode cX12_said 39 = .ok (.if_icmp .ne 6, 3) by decide +kernel) (by decide) (fun c => ?_) (fun c => ?_)
        · have h := h.1 c
          refine s_aload_n (i := 0) rfl (show decode cX12_said 45 = .ok (.aload_n 0, 1) by decide +kernel) ?_
          refine gf_X12_7 (x := 322) rfl (show decode cX12_said 46 = .ok (.getfield 7, 3) by decide +kernel) okl_321 rfl ?_
          refine j_bipush (n := 42) (by decide +kernel) (show decode cX12_said 49 = .ok (.bipush 42, 2) by decide +kernel) ?_
          refine j_iconst (show decode cX12_said 51 = .ok (.iconst 2, 1) by decide +kernel) ?_
          refine s_aload_n (i := 0) rfl (show decode cX12_said 52 = .ok (.aload_n 0, 1) by decide +kernel) ?_
          refine gf_X12_7 (x := 322) rfl (show decode cX12_said 53 = .ok (.getfield 7, 3) by decide +kernel) okl_321 rfl ?_
          refine j_iconst (show decode cX12_said 56 = .ok (.iconst 5, 1) by decide +kernel) ?_
          refine s_iald (show decode cX12_said 57 = .ok (.iaload, 1) by decide +kernel) okl_322 h.1 ?_
          have h := h.2
          refine j_imul (show decode cX12_said 58 = .ok (.imul, 1) by decide +kernel) ?_
          refine j_iadd (show decode cX12_said 59 = .ok (.iadd, 1) by decide +kernel) ?_
          refine j_iload_n (i := 1) rfl (show decode cX12_said 60 = .ok (.iload_n 1, 1) by decide +kernel) ?_
          have hb6 := h.1
          have h := h.2
          refine s_iast (show decode cX12_said 61 = .ok (.iastore, 1) by decide +kernel) okl_322 hb6 ?_
          obtain ⟨σ8, eσ8⟩ : ∃ z : jM, z = up σ4 322 (42 + (2 * (σ4 322 5))) p1 := ⟨_, rfl⟩
          refine j_sig eσ8 ?_
          have h := h σ8 eσ8
          refine s_aload_n (i := 0) rfl (show decode cX12_said 62 = .ok (.aload_n 0, 1) by decide +kernel) ?_
          refine gf_X12_7 (x := 322) rfl (show decode cX12_said 63 = .ok (.getfield 7, 3) by decide +kernel) okl_321 rfl ?_
          refine j_bipush (n := 42) (by decide +kernel) (show decode cX12_said 66 = .ok (.bipush 42, 2) by decide +kernel) ?_
          refine j_iconst (show decode cX12_said 68 = .ok (.iconst 2, 1) by decide +kernel) ?_
          refine s_aload_n (i := 0) rfl (show decode cX12_said 69 = .ok (.aload_n 0, 1) by decide +kernel) ?_
          refine gf_X12_7 (x := 322) rfl (show decode cX12_said 70 = .ok (.getfield 7, 3) by decide +kernel) okl_321 rfl ?_
          refine j_iconst (show decode cX12_said 73 = .ok (.iconst 5, 1) by decide +kernel) ?_
          refine s_iald (show decode cX12_said 74 = .ok (.iaload, 1) by decide +kernel) okl_322 h.1 ?_
          have h := h.2
          refine j_imul (show decode cX12_said 75 = .ok (.imul, 1) by decide +kernel) ?_
          refine j_iadd (show decode cX12_said 76 = .ok (.iadd, 1) by decide +kernel) ?_
          refine j_iconst (show decode cX12_said 77 = .ok (.iconst 1, 1) by decide +kernel) ?_
          refine j_iadd (show decode cX12_said 78 = .ok (.iadd, 1) by decide +kernel) ?_
          refine j_iload_n (i := 2) rfl (show decode cX12_said 79 = .ok (.iload_n 2, 1) by decide +kernel) ?_
          have hb8 := h.1
          have h := h.2
          refine s_iast (show decode cX12_said 80 = .ok (.iastore, 1) by decide +kernel) okl_322 hb8 ?_
          obtain ⟨σ10, eσ10⟩ : ∃ z : jM, z = up σ8 322 ((42 + (2 * (σ8 322 5))) + 1) p2 := ⟨_, rfl⟩
          refine j_sig eσ10 ?_
          have h := h σ10 eσ10
          refine s_aload_n (i := 0) rfl (show decode cX12_said 81 = .ok (.aload_n 0, 1) by decide +kernel) ?_
          refine gf_X12_7 (x := 322) rfl (show decode cX12_said 82 = .ok (.getfield 7, 3) by decide +kernel) okl_321 rfl ?_
          refine j_iconst (show decode cX12_said 85 = .ok (.iconst 5, 1) by decide +kernel) ?_
          refine j_dup2 (show (0 : Nat) ≠ 1 by decide) (show (2 : Nat) ≠ 1 by decide) (show decode cX12_said 86 = .ok (.dup2, 1) by decide +kernel) ?_
          refine s_iald (show decode cX12_said 87 = .ok (.iaload, 1) by decide +kernel) okl_322 h.1 ?_
          have h := h.2
          refine j_iconst (show decode cX12_said 88 = .ok (.iconst 1, 1) by decide +kernel) ?_
          refine j_iadd (show decode cX12_said 89 = .ok (.iadd, 1) by decide +kernel) ?_
          have hb10 := h.1
          have h := h.2
          refine s_iast (show decode cX12_said 90 = .ok (.iastore, 1) by decide +kernel) okl_322 hb10 ?_
          obtain ⟨σ12, eσ12⟩ : ∃ z : jM, z = up σ10 322 5 ((σ10 322 5) + 1) := ⟨_, rfl⟩
          refine j_sig eσ12 ?_
          have h := h σ12 eσ12
          refine s_aload_n (i := 0) rfl (show decode cX12_said 91 = .ok (.aload_n 0, 1) by decide +kernel) ?_
          refine gf_X12_7 (x := 322) rfl (show decode cX12_said 92 = .ok (.getfield 7, 3) by decide +kernel) okl_321 rfl ?_
          refine j_iconst (show decode cX12_said 95 = .ok (.iconst 5, 1) by decide +kernel) ?_
          refine s_iald (show decode cX12_said 96 = .ok (.iaload, 1) by decide +kernel) okl_322 h.1 ?_
          have h := h.2
          exact j_ret (rokI (show decode cX12_said 97 = .ok (.ireturn, 1) by decide +kernel) rfl) ⟨rfl, rfl, h⟩
        · have h := h.2 c
          refine j_bipush (n := -2) (by decide +kernel) (show decode cX12_said 42 = .ok (.bipush (-2), 2) by decide +kernel) ?_
          exact j_ret (rokI (show decode cX12_said 44 = .ok (.ireturn, 1) by decide +kernel) rfl) ⟨rfl, rfl, h⟩
  · have h := h.2 c
    refine s_aload_n (i := 0) rfl (show decode cX12_said 5 = .ok (.aload_n 0, 1) by decide +kernel) ?_
    refine gf_X12_7 (x := 322) rfl (show decode cX12_said 6 = .ok (.getfield 7, 3) by decide +kernel) okl_321 rfl ?_
    refine j_iconst (show decode cX12_said 9 = .ok (.iconst 5, 1) by decide +kernel) ?_
    refine j_iconst (show decode cX12_said 10 = .ok (.iconst 0, 1) by decide +kernel) ?_
    have hb12 := h.1
    have h := h.2
    refine s_iast (show decode cX12_said 11 = .ok (.iastore, 1) by decide +kernel) okl_322 hb12 ?_
    obtain ⟨σ14, eσ14⟩ : ∃ z : jM, z = up σ 322 5 0 := ⟨_, rfl⟩
    refine j_sig eσ14 ?_
    have h := h σ14 eσ14
    refine j_iconst (show decode cX12_said 12 = .ok (.iconst 0, 1) by decide +kernel) ?_
    exact j_ret (rokI (show decode cX12_said 13 = .ok (.ireturn, 1) by decide +kernel) rfl) ⟨rfl, rfl, h⟩
theorem c_X12_said {d : Nat} {t : Int} {Q : Int → jM → Prop} {σ : jM} {p1 p2 : Int} (h : (inR p1) ∧ ((¬ p1 = (-1) → (Ct mX12_isCrock d 0 t [iv p1] σ (fun r2 σ2 => ((inR r2) ∧ ((r2 = 0 → (Q (-2) σ2)) ∧ (¬ r2 = 0 → (Ct mX12_isIn d 0 t [iv p2, iv 0, iv 10] σ2 (fun r4 σ4 => ((inR r4) ∧ ((r4 = 0 → (Q (-2) σ4)) ∧ (¬ r4 = 0 → (((0 : Int) ≤ 5 ∧ (5 : Int) < 2208) ∧ ((inR (σ4 322 5)) ∧ ((¬ (σ4 322 5) = 8 → (((0 : Int) ≤ 5 ∧ (5 : Int) < 2208) ∧ (((0 : Int) ≤ (42 + (2 * (σ4 322 5))) ∧ (42 + (2 * (σ4 322 5))) < 2208) ∧ (∀ σ8 : jM, σ8 = up σ4 322 (42 + (2 * (σ4 322 5))) p1 → (((0 : Int) ≤ 5 ∧ (5 : Int) < 2208) ∧ (((0 : Int) ≤ ((42 + (2 * (σ8 322 5))) + 1) ∧ ((42 + (2 * (σ8 322 5))) + 1) < 2208) ∧ (∀ σ10 : jM, σ10 = up σ8 322 ((42 + (2 * (σ8 322 5))) + 1) p2 → (((0 : Int) ≤ 5 ∧ (5 : Int) < 2208) ∧ (((0 : Int) ≤ 5 ∧ (5 : Int) < 2208) ∧ (∀ σ12 : jM, σ12 = up σ10 322 5 ((σ10 322 5) + 1) → (((0 : Int) ≤ 5 ∧ (5 : Int) < 2208) ∧ (Q (σ12 322 5) σ12)))))))))))) ∧ ((σ4 322 5) = 8 → (Q (-2) σ4)))))))))))))))) ∧ (p1 = (-1) → (((0 : Int) ≤ 5 ∧ (5 : Int) < 2208) ∧ (∀ σ14 : jM, σ14 = up σ 322 5 0 → (Q 0 σ14)))))) : Ct mX12_said (d + 1) 0 t [rv 321, iv p1, iv p2] σ Q := Ct_of (by decide +kernel) (Nat.le_of_ble_eq_true rfl) (b_X12_said_0 h)
set_option maxRecDepth 4000 in
theorem b_X12_whose_20 {d : Nat} {t : Int} {Q : Int → jM → Prop} {σ : jM} {v1 v2 v3 v4 : Int} (h : ((0 : Int) ≤ 5 ∧ (5 : Int) < 2208) ∧ ((inR v4) ∧ ((inR (42 + (2 * (σ 322 5)))) ∧ (((42 + (2 * (σ 322 5))) ≤ v4 → ((inR v3) ∧ ((v3 = 0 → (Jt mX12_whose (d + 1) 0 t Q 4 [rv 321, iv (i_or v1 0), iv (v2 + 1), uv, uv] [] σ)) ∧ (¬ v3 = 0 → (Jt mX12_whose (d + 1) 0 t Q 4 [rv 321, iv (i_or v1 (i_shl 1 v2)), iv (v2 + 1), uv, uv] [] σ))))) ∧ (v4 < (42 + (2 * (σ 322 5))) → ((inR v3) ∧ ((v3 = 0 → (Jt mX12_whose (d + 1) 0 t Q 20 [rv 321, iv v1, iv v2, iv 0, iv (v4 + 2)] [] σ)) ∧ (¬ v3 = 0 → (((0 : Int) ≤ v4 ∧ v4 < 2208) ∧ (Ct mX12_tiresOf d 0 t [rv 321, iv v2, iv (σ 322 v4)] σ (fun r5 σ5 => (((0 : Int) ≤ (v4 + 1) ∧ (v4 + 1) < 2208) ∧ ((inR r5) ∧ ((inR (σ5 322 (v4 + 1))) ∧ ((¬ r5 = (σ5 322 (v4 + 1)) → (Jt mX12_whose (d + 1) 0 t Q 20 [rv 321, iv v1, iv v2, iv 0, iv (v4 + 2)] [] σ5)) ∧ (r5 = (σ5 322 (v4 + 1)) → (Jt mX12_whose (d + 1) 0 t Q 20 [rv 321, iv v1, iv v2, iv 1, iv (v4 + 2)] [] σ5))))))))))))))))) : Jt mX12_whose (d + 1) 0 t Q 20 [rv 321, iv v1, iv v2, iv v3, iv v4] [] σ := by
  refine j_iload (i := 4) rfl (show decode cX12_whose 20 = .ok (.iload 4, 2) by decide +kernel) ?_
  refine j_bipush (n := 42) (by decide +kernel) (show decode cX12_whose 22 = .ok (.bipush 42, 2) by decide +kernel) ?_
  refine j_iconst (show decode cX12_whose 24 = .ok (.iconst 2, 1) by decide +kernel) ?_
  refine s_aload_n (i := 0) rfl (show decode cX12_whose 25 = .ok (.aload_n 0, 1) by decide +kernel) ?_
  refine gf_X12_7 (x := 322) rfl (show decode cX12_whose 26 = .ok (.getfield 7, 3) by decide +kernel) okl_321 rfl ?_
  refine j_iconst (show decode cX12_whose 29 = .ok (.iconst 5, 1) by decide +kernel) ?_
  refine s_iald (show decode cX12_whose 30 = .ok (.iaload, 1) by decide +kernel) okl_322 h.1 ?_
  have h := h.2
  refine j_imul (show decode cX12_whose 31 = .ok (.imul, 1) by decide +kernel) ?_
  refine j_iadd (show decode cX12_whose 32 = .ok (.iadd, 1) by decide +kernel) ?_
  have hr0 := h.1
  have h := h.2
  have hr1 := h.1
  have h := h.2
  refine j_icmp_ge (tgt := 76) hr0 hr1 (show decode cX12_whose 33 = .ok (.if_icmp .ge 43, 3) by decide +kernel) (by decide) (fun c => ?_) (fun c => ?_)
  · have h := h.1 c
    refine j_iload_n (i := 1) rfl (show decode cX12_whose 76 = .ok (.iload_n 1, 1) by decide +kernel) ?_
    refine j_iload_n (i := 3) rfl (show decode cX12_whose 77 = .ok (.iload_n 3, 1) by decide +kernel) ?_
    have hr2 := h.1
    have h := h.2
    refine j_if_eq (tgt := 87) hr2 (show decode cX12_whose 78 = .ok (.ifCond .eq 9, 3) by decide +kernel) (by decide) (fun c => ?_) (fun c => ?_)
    · have h := h.1 c
      refine j_iconst (show decode cX12_whose 87 = .ok (.iconst 0, 1) by decide +kernel) ?_
      refine j_ior (show decode cX12_whose 88 = .ok (.ior, 1) by decide +kernel) ?_
      refine s_ist_n (i := 1) (L' := [rv 321, iv (i_or v1 0), iv v2, iv v3, iv v4]) rfl (by decide) (show decode cX12_whose 89 = .ok (.istore_n 1, 1) by decide +kernel) ?_
      refine s_iinc (i := 2) rfl (L' := [rv 321, iv (i_or v1 0), iv (v2 + 1), iv v3, iv v4]) rfl (show decode cX12_whose 90 = .ok (.iinc 2 1, 3) by decide +kernel) ?_
      refine j_goto (tgt := 4) (show decode cX12_whose 93 = .ok (.goto (-89), 3) by decide +kernel) (by decide) ?_
      refine j_drop 3 ?_
      refine j_drop 4 ?_
      exact h
    · have h := h.2 c
      refine j_iconst (show decode cX12_whose 81 = .ok (.iconst 1, 1) by decide +kernel) ?_
      refine j_iload_n (i := 2) rfl (show decode cX12_whose 82 = .ok (.iload_n 2, 1) by decide +kernel) ?_
      refine j_ishl (show decode cX12_whose 83 = .ok (.ishl, 1) by decide +kernel) ?_
      refine j_goto (tgt := 88) (show decode cX12_whose 84 = .ok (.goto 4, 3) by decide +kernel) (by decide) ?_
      refine j_ior (show decode cX12_whose 88 = .ok (.ior, 1) by decide +kernel) ?_
      refine s_ist_n (i := 1) (L' := [rv 321, iv (i_or v1 (i_shl 1 v2)), iv v2, iv v3, iv v4]) rfl (by decide) (show decode cX12_whose 89 = .ok (.istore_n 1, 1) by decide +kernel) ?_
      refine s_iinc (i := 2) rfl (L' := [rv 321, iv (i_or v1 (i_shl 1 v2)), iv (v2 + 1), iv v3, iv v4]) rfl (show decode cX12_whose 90 = .ok (.iinc 2 1, 3) by decide +kernel) ?_
      refine j_goto (tgt := 4) (show decode cX12_whose 93 = .ok (.goto (-89), 3) by decide +kernel) (by decide) ?_
      refine j_drop 3 ?_
      refine j_drop 4 ?_
      exact h
  · have h := h.2 c
    refine j_iload_n (i := 3) rfl (show decode cX12_whose 36 = .ok (.iload_n 3, 1) by decide +kernel) ?_
    have hr3 := h.1
    have h := h.2
    refine j_if_eq (tgt := 68) hr3 (show decode cX12_whose 37 = .ok (.ifCond .eq 31, 3) by decide +kernel) (by decide) (fun c => ?_) (fun c => ?_)
    · have h := h.1 c
      refine j_iconst (show decode cX12_whose 68 = .ok (.iconst 0, 1) by decide +kernel) ?_
      refine s_ist_n (i := 3) (L' := [rv 321, iv v1, iv v2, iv 0, iv v4]) rfl (by decide) (show decode cX12_whose 69 = .ok (.istore_n 3, 1) by decide +kernel) ?_
      refine s_iinc (i := 4) rfl (L' := [rv 321, iv v1, iv v2, iv 0, iv (v4 + 2)]) rfl (show decode cX12_whose 70 = .ok (.iinc 4 2, 3) by decide +kernel) ?_
      refine j_goto (tgt := 20) (show decode cX12_whose 73 = .ok (.goto (-53), 3) by decide +kernel) (by decide) ?_
      exact h
    · have h := h.2 c
      refine s_aload_n (i := 0) rfl (show decode cX12_whose 40 = .ok (.aload_n 0, 1) by decide +kernel) ?_
      refine j_iload_n (i := 2) rfl (show decode cX12_whose 41 = .ok (.iload_n 2, 1) by decide +kernel) ?_
      refine s_aload_n (i := 0) rfl (show decode cX12_whose 42 = .ok (.aload_n 0, 1) by decide +kernel) ?_
      refine gf_X12_7 (x := 322) rfl (show decode cX12_whose 43 = .ok (.getfield 7, 3) by decide +kernel) okl_321 rfl ?_
      refine j_iload (i := 4) rfl (show decode cX12_whose 46 = .ok (.iload 4, 2) by decide +kernel) ?_
      refine s_iald (show decode cX12_whose 48 = .ok (.iaload, 1) by decide +kernel) okl_322 h.1 ?_
      have h := h.2
      refine j_ctV (m' := mX12_tiresOf) (As := [iv v2, iv (σ 322 v4)]) (ci := 12) (tag := 0) (N := 0) (cw_X12_334 rfl) (show decode cX12_whose 49 = .ok (.invokevirtual 334, 3) by decide +kernel) rfl (Nat.le_of_ble_eq_true rfl) (by decide) okl_321 rfl rfl (Nat.le_refl _) h (fun r5 σ5 h => ?_)
      refine s_aload_n (i := 0) rfl (show decode cX12_whose 52 = .ok (.aload_n 0, 1) by decide +kernel) ?_
      refine gf_X12_7 (x := 322) rfl (show decode cX12_whose 53 = .ok (.getfield 7, 3) by decide +kernel) okl_321 rfl ?_
      refine j_iload (i := 4) rfl (show decode cX12_whose 56 = .ok (.iload 4, 2) by decide +kernel) ?_
      refine j_iconst (show decode cX12_whose 58 = .ok (.iconst 1, 1) by decide +kernel) ?_
      refine j_iadd (show decode cX12_whose 59 = .ok (.iadd, 1) by decide +kernel) ?_
      refine s_iald (show decode cX12_whose 60 = .ok (.iaload, 1) by decide +kernel) okl_322 h.1 ?_
      have h := h.2
      have hr5 := h.1
      have h := h.2
      have hr6 := h.1
      have h := h.2
      refine j_icmp_ne (tgt := 68) hr5 hr6 (show decode cX12_whose 61 = .ok (.if_icmp .ne 7, 3) by decide +kernel) (by decide) (fun c => ?_) (fun c => ?_)
      · have h := h.1 c
        refine j_iconst (show decode cX12_whose 68 = .ok (.iconst 0, 1) by decide +kernel) ?_
        refine s_ist_n (i := 3) (L' := [rv 321, iv v1, iv v2, iv 0, iv v4]) rfl (by decide) (show decode cX12_whose 69 = .ok (.istore_n 3, 1) by decide +kernel) ?_
        refine s_iinc (i := 4) rfl (L' := [rv 321, iv v1, iv v2, iv 0, iv (v4 + 2)]) rfl (show decode cX12_whose 70 = .ok (.iinc 4 2, 3) by decide +kernel) ?_
        refine j_goto (tgt := 20) (show decode cX12_whose 73 = .ok (.goto (-53), 3) by decide +kernel) (by decide) ?_
        exact h
      · have h := h.2 c
        refine j_iconst (show decode cX12_whose 64 = .ok (.iconst 1, 1) by decide +kernel) ?_
        refine j_goto (tgt := 69) (show decode cX12_whose 65 = .ok (.goto 4, 3) by decide +kernel) (by decide) ?_
        refine s_ist_n (i := 3) (L' := [rv 321, iv v1, iv v2, iv 1, iv v4]) rfl (by decide) (show decode cX12_whose 69 = .ok (.istore_n 3, 1) by decide +kernel) ?_
        refine s_iinc (i := 4) rfl (L' := [rv 321, iv v1, iv v2, iv 1, iv (v4 + 2)]) rfl (show decode cX12_whose 70 = .ok (.iinc 4 2, 3) by decide +kernel) ?_
        refine j_goto (tgt := 20) (show decode cX12_whose 73 = .ok (.goto (-53), 3) by decide +kernel) (by decide) ?_
        exact h
set_option maxRecDepth 4000 in
theorem b_X12_whose_4 {d : Nat} {t : Int} {Q : Int → jM → Prop} {σ : jM} {v1 v2 : Int} (h : ((0 : Int) ≤ 0 ∧ (0 : Int) < 2208) ∧ ((inR v2) ∧ ((inR (σ 322 0)) ∧ (((σ 322 0) ≤ v2 → (Q v1 σ)) ∧ (v2 < (σ 322 0) → (Jt mX12_whose (d + 1) 0 t Q 20 [rv 321, iv v1, iv v2, iv 1, iv 42] [] σ)))))) : Jt mX12_whose (d + 1) 0 t Q 4 [rv 321, iv v1, iv v2, uv, uv] [] σ := by
  refine j_iload_n (i := 2) rfl (show decode cX12_whose 4 = .ok (.iload_n 2, 1) by decide +kernel) ?_
  refine s_aload_n (i := 0) rfl (show decode cX12_whose 5 = .ok (.aload_n 0, 1) by decide +kernel) ?_
  refine gf_X12_7 (x := 322) rfl (show decode cX12_whose 6 = .ok (.getfield 7, 3) by decide +kernel) okl_321 rfl ?_
  refine j_iconst (show decode cX12_whose 9 = .ok (.iconst 0, 1) by decide +kernel) ?_
  refine s_iald (show decode cX12_whose 10 = .ok (.iaload, 1) by decide +kernel) okl_322 h.1 ?_
  have h := h.2
  have hr0 := h.1
  have h := h.2
  have hr1 := h.1
  have h := h.2
  refine j_icmp_ge (tgt := 96) hr0 hr1 (show decode cX12_whose 11 = .ok (.if_icmp .ge 85, 3) by decide +kernel) (by decide) (fun c => ?_) (fun c => ?_)
  · have h := h.1 c
    refine j_iload_n (i := 1) rfl (show decode cX12_whose 96 = .ok (.iload_n 1, 1) by decide +kernel) ?_
    exact j_ret (rokI (show decode cX12_whose 97 = .ok (.ireturn, 1) by decide +kernel) rfl) ⟨rfl, rfl, h⟩
  · have h := h.2 c
    refine j_iconst (show decode cX12_whose 14 = .ok (.iconst 1, 1) by decide +kernel) ?_
    refine s_ist_n (i := 3) (L' := [rv 321, iv v1, iv v2, iv 1, uv]) rfl (by decide) (show decode cX12_whose 15 = .ok (.istore_n 3, 1) by decide +kernel) ?_
    refine j_bipush (n := 42) (by decide +kernel) (show decode cX12_whose 16 = .ok (.bipush 42, 2) by decide +kernel) ?_
    refine s_ist (i := 4) (L' := [rv 321, iv v1, iv v2, iv 1, iv 42]) rfl (by decide) (show decode cX12_whose 18 = .ok (.istore 4, 2) by decide +kernel) ?_
    exact h
set_option maxRecDepth 4000 in
theorem b_X12_whose_0 {d : Nat} {t : Int} {Q : Int → jM → Prop} {σ : jM} (h : Jt mX12_whose (d + 1) 0 t Q 4 [rv 321, iv 0, iv 0, uv, uv] [] σ) : Jt mX12_whose (d + 1) 0 t Q 0 [rv 321, uv, uv, uv, uv] [] σ := by
  refine j_iconst (show decode cX12_whose 0 = .ok (.iconst 0, 1) by decide +kernel) ?_
  refine s_ist_n (i := 1) (L' := [rv 321, iv 0, uv, uv, uv]) rfl (by decide) (show decode cX12_whose 1 = .ok (.istore_n 1, 1) by decide +kernel) ?_
  refine j_iconst (show decode cX12_whose 2 = .ok (.iconst 0, 1) by decide +kernel) ?_
  refine s_ist_n (i := 2) (L' := [rv 321, iv 0, iv 0, uv, uv]) rfl (by decide) (show decode cX12_whose 3 = .ok (.istore_n 2, 1) by decide +kernel) ?_
  exact h
theorem c_X12_whose {d : Nat} {t : Int} {Q : Int → jM → Prop} {σ : jM} (h : Jt mX12_whose (d + 1) 0 t Q 4 [rv 321, iv 0, iv 0, uv, uv] [] σ) : Ct mX12_whose (d + 1) 0 t [rv 321] σ Q := Ct_of (by decide +kernel) (Nat.le_of_ble_eq_true rfl) (b_X12_whose_0 h)
set_option maxRecDepth 4000 in
theorem b_X12_image_0 {d : Nat} {t : Int} {Q : Int → jM → Prop} {σ : jM} (h : Ct mX12_copy d 9 t [rv 322, rv 323] σ (fun r1 σ1 => (((0 : Int) ≤ 6 ∧ (6 : Int) < 2208) ∧ (Q (σ1 322 6) σ1)))) : Jt mX12_image (d + 1) 0 t Q 0 [rv 321] [] σ := by
  refine s_aload_n (i := 0) rfl (show decode cX12_image 0 = .ok (.aload_n 0, 1) by decide +kernel) ?_
  refine gf_X12_7 (x := 322) rfl (show decode cX12_image 1 = .ok (.getfield 7, 3) by decide +kernel) okl_321 rfl ?_
  refine s_aload_n (i := 0) rfl (show decode cX12_image 4 = .ok (.aload_n 0, 1) by decide +kernel) ?_
  refine gf_X12_13 (x := 323) rfl (show decode cX12_image 5 = .ok (.getfield 13, 3) by decide +kernel) okl_321 rfl ?_
  refine j_ctSv (m' := mX12_copy) (As := [rv 322, rv 323]) (cw_X12_81 rfl) (show decode cX12_image 8 = .ok (.invokestatic 81, 3) by decide +kernel) rfl (Nat.le_of_ble_eq_true rfl) (Nat.le_refl _) h (fun r1 σ1 h => ?_)
  refine s_aload_n (i := 0) rfl (show decode cX12_image 11 = .ok (.aload_n 0, 1) by decide +kernel) ?_
  refine gf_X12_7 (x := 322) rfl (show decode cX12_image 12 = .ok (.getfield 7, 3) by decide +kernel) okl_321 rfl ?_
  refine j_bipush (n := 6) (by decide +kernel) (show decode cX12_image 15 = .ok (.bipush 6, 2) by decide +kernel) ?_
  refine s_iald (show decode cX12_image 17 = .ok (.iaload, 1) by decide +kernel) okl_322 h.1 ?_
  have h := h.2
  exact j_ret (rokI (show decode cX12_image 18 = .ok (.ireturn, 1) by decide +kernel) rfl) ⟨rfl, rfl, h⟩
theorem c_X12_image {d : Nat} {t : Int} {Q : Int → jM → Prop} {σ : jM} (h : Ct mX12_copy d 9 t [rv 322, rv 323] σ (fun r1 σ1 => (((0 : Int) ≤ 6 ∧ (6 : Int) < 2208) ∧ (Q (σ1 322 6) σ1)))) : Ct mX12_image (d + 1) 0 t [rv 321] σ Q := Ct_of (by decide +kernel) (Nat.le_of_ble_eq_true rfl) (b_X12_image_0 h)
set_option maxRecDepth 4000 in
theorem b_X12_back_0 {d : Nat} {t : Int} {Q : Int → jM → Prop} {σ : jM} (h : Ct mX12_copy d 9 t [rv 323, rv 322] σ (fun r1 σ1 => (((0 : Int) ≤ 6 ∧ (6 : Int) < 2208) ∧ (Q (σ1 322 6) σ1)))) : Jt mX12_back (d + 1) 0 t Q 0 [rv 321] [] σ := by
  refine s_aload_n (i := 0) rfl (show decode cX12_back 0 = .ok (.aload_n 0, 1) by decide +kernel) ?_
  refine gf_X12_13 (x := 323) rfl (show decode cX12_back 1 = .ok (.getfield 13, 3) by decide +kernel) okl_321 rfl ?_
  refine s_aload_n (i := 0) rfl (show decode cX12_back 4 = .ok (.aload_n 0, 1) by decide +kernel) ?_
  refine gf_X12_7 (x := 322) rfl (show decode cX12_back 5 = .ok (.getfield 7, 3) by decide +kernel) okl_321 rfl ?_
  refine j_ctSv (m' := mX12_copy) (As := [rv 323, rv 322]) (cw_X12_81 rfl) (show decode cX12_back 8 = .ok (.invokestatic 81, 3) by decide +kernel) rfl (Nat.le_of_ble_eq_true rfl) (Nat.le_refl _) h (fun r1 σ1 h => ?_)
  refine s_aload_n (i := 0) rfl (show decode cX12_back 11 = .ok (.aload_n 0, 1) by decide +kernel) ?_
  refine gf_X12_7 (x := 322) rfl (show decode cX12_back 12 = .ok (.getfield 7, 3) by decide +kernel) okl_321 rfl ?_
  refine j_bipush (n := 6) (by decide +kernel) (show decode cX12_back 15 = .ok (.bipush 6, 2) by decide +kernel) ?_
  refine s_iald (show decode cX12_back 17 = .ok (.iaload, 1) by decide +kernel) okl_322 h.1 ?_
  have h := h.2
  exact j_ret (rokI (show decode cX12_back 18 = .ok (.ireturn, 1) by decide +kernel) rfl) ⟨rfl, rfl, h⟩
theorem c_X12_back {d : Nat} {t : Int} {Q : Int → jM → Prop} {σ : jM} (h : Ct mX12_copy d 9 t [rv 323, rv 322] σ (fun r1 σ1 => (((0 : Int) ≤ 6 ∧ (6 : Int) < 2208) ∧ (Q (σ1 322 6) σ1)))) : Ct mX12_back (d + 1) 0 t [rv 321] σ Q := Ct_of (by decide +kernel) (Nat.le_of_ble_eq_true rfl) (b_X12_back_0 h)
set_option maxRecDepth 4000 in
theorem b_X12_about_0 {d : Nat} {t : Int} {Q : Int → jM → Prop} {σ : jM} {p1 : Int} (h : Ct mX12_isIn d 0 t [iv p1, iv 0, iv 5] σ (fun r1 σ1 => ((inR r1) ∧ ((r1 = 0 → ((inR p1) ∧ ((¬ p1 = 6 → (Q (-2) σ1)) ∧ (p1 = 6 → (Q (σ1 321 4) σ1))))) ∧ (¬ r1 = 0 → (((0 : Int) ≤ p1 ∧ p1 < 2208) ∧ (Q (σ1 322 p1) σ1))))))) : Jt mX12_about (d + 1) 0 t Q 0 [rv 321, iv p1] [] σ := by
  refine j_iload_n (i := 1) rfl (show decode cX12_about 0 = .ok (.iload_n 1, 1) by decide +kernel) ?_
  refine j_iconst (show decode cX12_about 1 = .ok (.iconst 0, 1) by decide +kernel) ?_
  refine j_iconst (show decode cX12_about 2 = .ok (.iconst 5, 1) by decide +kernel) ?_
  refine j_ctS (m' := mX12_isIn) (As := [iv p1, iv 0, iv 5]) (tag := 0) (cw_X12_85 rfl) (show decode cX12_about 3 = .ok (.invokestatic 85, 3) by decide +kernel) rfl (Nat.le_of_ble_eq_true rfl) (by decide) (Nat.le_refl _) h (fun r1 σ1 h => ?_)
  have hr1 := h.1
  have h := h.2
  refine j_if_eq (tgt := 18) hr1 (show decode cX12_about 6 = .ok (.ifCond .eq 12, 3) by decide +kernel) (by decide) (fun c => ?_) (fun c => ?_)
  · have h := h.1 c
    refine j_iload_n (i := 1) rfl (show decode cX12_about 18 = .ok (.iload_n 1, 1) by decide +kernel) ?_
    refine j_bipush (n := 6) (by decide +kernel) (show decode cX12_about 19 = .ok (.bipush 6, 2) by decide +kernel) ?_
    have hr2 := h.1
    have h := h.2
    refine j_icmp_ne (tgt := 31) hr2 (inl (by decide)) (show decode cX12_about 21 = .ok (.if_icmp .ne 10, 3) by decide +kernel) (by decide) (fun c => ?_) (fun c => ?_)
    · have h := h.1 c
      refine j_bipush (n := -2) (by decide +kernel) (show decode cX12_about 31 = .ok (.bipush (-2), 2) by decide +kernel) ?_
      exact j_ret (rokI (show decode cX12_about 33 = .ok (.ireturn, 1) by decide +kernel) rfl) ⟨rfl, rfl, h⟩
    · have h := h.2 c
      refine s_aload_n (i := 0) rfl (show decode cX12_about 24 = .ok (.aload_n 0, 1) by decide +kernel) ?_
      refine gf_X12_96 rfl (show decode cX12_about 25 = .ok (.getfield 96, 3) by decide +kernel) okl_321 ?_
      refine j_goto (tgt := 33) (show decode cX12_about 28 = .ok (.goto 5, 3) by decide +kernel) (by decide) ?_
      exact j_ret (rokI (show decode cX12_about 33 = .ok (.ireturn, 1) by decide +kernel) rfl) ⟨rfl, rfl, h⟩
  · have h := h.2 c
    refine s_aload_n (i := 0) rfl (show decode cX12_about 9 = .ok (.aload_n 0, 1) by decide +kernel) ?_
    refine gf_X12_7 (x := 322) rfl (show decode cX12_about 10 = .ok (.getfield 7, 3) by decide +kernel) okl_321 rfl ?_
    refine j_iload_n (i := 1) rfl (show decode cX12_about 13 = .ok (.iload_n 1, 1) by decide +kernel) ?_
    refine s_iald (show decode cX12_about 14 = .ok (.iaload, 1) by decide +kernel) okl_322 h.1 ?_
    have h := h.2
    refine j_goto (tgt := 33) (show decode cX12_about 15 = .ok (.goto 18, 3) by decide +kernel) (by decide) ?_
    exact j_ret (rokI (show decode cX12_about 33 = .ok (.ireturn, 1) by decide +kernel) rfl) ⟨rfl, rfl, h⟩
theorem c_X12_about {d : Nat} {t : Int} {Q : Int → jM → Prop} {σ : jM} {p1 : Int} (h : Ct mX12_isIn d 0 t [iv p1, iv 0, iv 5] σ (fun r1 σ1 => ((inR r1) ∧ ((r1 = 0 → ((inR p1) ∧ ((¬ p1 = 6 → (Q (-2) σ1)) ∧ (p1 = 6 → (Q (σ1 321 4) σ1))))) ∧ (¬ r1 = 0 → (((0 : Int) ≤ p1 ∧ p1 < 2208) ∧ (Q (σ1 322 p1) σ1))))))) : Ct mX12_about (d + 1) 0 t [rv 321, iv p1] σ Q := Ct_of (by decide +kernel) (Nat.le_of_ble_eq_true rfl) (b_X12_about_0 h)
