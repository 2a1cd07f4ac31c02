/-! ===== the class's text: the Reader's target becomes another ===== -/
theorem kd_3 {a : Int} (h : kd a = (0, 3)) : a = 271 := by
  rcases Int.lt_or_le a 1 with h0 | h0
  · unfold kd at h
    rw [if_pos h0] at h
    exact absurd h (by decide)
  · rcases Int.lt_or_le 340 a with h1 | h1
    · unfold kd at h
      rw [if_neg (by omega), if_neg (by omega), if_neg (by omega), if_neg (by omega), if_neg (by omega), if_neg (by omega), if_neg (by omega), List.getD_eq_getElem?_getD, List.getElem?_eq_none (by simp; omega)] at h
      exact absurd h (by decide)
    · have q := lay_at (f := fun j => !(decide (kd (j : Int) = (0, 3))) || decide (j = 271)) (by decide +kernel) (a := a) (by omega) h1
      rw [show ((a.toNat : Nat) : Int) = a by omega, h] at q
      simp only [decide_true, Bool.not_true, Bool.false_or, decide_eq_true_eq] at q
      omega
theorem gr_up {t x : Int} : up (gr t) 271 4 x = gr x := by
  funext a k
  unfold up
  by_cases h : a = 271 ∧ k = 4
  · rw [if_pos h, h.1, h.2]
    rfl
  · rw [if_neg h]
    by_cases h3 : (kd a).2 = 3
    · by_cases h0 : (kd a).1 ≠ 0
      · simp only [gr, if_pos h0]
      · have e : kd a = (0, 3) := Prod.ext (by simpa using h0) h3
        have ea := kd_3 e
        have hk : k ≠ 4 := fun z => h ⟨ea, z⟩
        simp only [gr, if_neg hk]
    · simp only [gr, if_neg h3]
set_option maxRecDepth 4000 in
theorem b_X3_readsInto_33 {d : Nat} {t : Int} {Q : Int → jM → Prop} {σ : jM} {p1 v2 : Int} (h : (inR v2) ∧ ((24 < v2 → (Q 1 σ)) ∧ (v2 ≤ 24 → ((inR (σ 271 6)) ∧ (((σ 271 6) = 0 → (Q 1 σ)) ∧ (¬ (σ 271 6) = 0 → (Ct mX3_readClause d 0 t [rv 271] σ (fun r3 σ3 => ((inR r3) ∧ ((¬ r3 = 0 → (Jt mX3_readsInto (d + 1) 0 t Q 33 [rv 271, rv p1, iv (v2 + 1)] [] σ3)) ∧ (r3 = 0 → (Q 0 σ3)))))))))))) : Jt mX3_readsInto (d + 1) 0 t Q 33 [rv 271, rv p1, iv v2] [] σ := by
  refine j_iload_n (i := 2) rfl (show decode cX3_readsInto 33 = .ok (.iload_n 2, 1) by decide +kernel) ?_
  refine j_bipush (n := 24) (by decide +kernel) (show decode cX3_readsInto 34 = .ok (.bipush 24, 2) by decide +kernel) ?_
  have hr0 := h.1
  have h := h.2
  refine j_icmp_gt (tgt := 61) hr0 (inl (by decide)) (show decode cX3_readsInto 36 = .ok (.if_icmp .gt 25, 3) by decide +kernel) (by decide) (fun c => ?_) (fun c => ?_)
  · have h := h.1 c
    refine j_iconst (show decode cX3_readsInto 61 = .ok (.iconst 1, 1) by decide +kernel) ?_
    exact j_ret (rokZ (show decode cX3_readsInto 62 = .ok (.ireturn, 1) by decide +kernel) rfl (Or.inr rfl)) ⟨rfl, rfl, h⟩
  · have h := h.2 c
    refine s_aload_n (i := 0) rfl (show decode cX3_readsInto 39 = .ok (.aload_n 0, 1) by decide +kernel) ?_
    refine gf_X3_40 rfl (show decode cX3_readsInto 40 = .ok (.getfield 40, 3) by decide +kernel) okl_271 ?_
    have hr1 := h.1
    have h := h.2
    refine j_if_eq (tgt := 61) hr1 (show decode cX3_readsInto 43 = .ok (.ifCond .eq 18, 3) by decide +kernel) (by decide) (fun c => ?_) (fun c => ?_)
    · have h := h.1 c
      refine j_iconst (show decode cX3_readsInto 61 = .ok (.iconst 1, 1) by decide +kernel) ?_
      exact j_ret (rokZ (show decode cX3_readsInto 62 = .ok (.ireturn, 1) by decide +kernel) rfl (Or.inr rfl)) ⟨rfl, rfl, h⟩
    · have h := h.2 c
      refine s_aload_n (i := 0) rfl (show decode cX3_readsInto 46 = .ok (.aload_n 0, 1) by decide +kernel) ?_
      refine j_ctV (m' := mX3_readClause) (As := []) (ci := 3) (tag := 0) (N := 0) (cw_X3_43 rfl) (show decode cX3_readsInto 47 = .ok (.invokevirtual 43, 3) by decide +kernel) rfl (Nat.le_of_ble_eq_true rfl) (by decide) okl_271 rfl rfl (Nat.le_refl _) h (fun r3 σ3 h => ?_)
      have hr3 := h.1
      have h := h.2
      refine j_if_ne (tgt := 55) hr3 (show decode cX3_readsInto 50 = .ok (.ifCond .ne 5, 3) by decide +kernel) (by decide) (fun c => ?_) (fun c => ?_)
      · have h := h.1 c
        refine s_iinc (i := 2) rfl (L' := [rv 271, rv p1, iv (v2 + 1)]) rfl (show decode cX3_readsInto 55 = .ok (.iinc 2 1, 3) by decide +kernel) ?_
        refine j_goto (tgt := 33) (show decode cX3_readsInto 58 = .ok (.goto (-25), 3) by decide +kernel) (by decide) ?_
        exact h
      · have h := h.2 c
        refine j_iconst (show decode cX3_readsInto 53 = .ok (.iconst 0, 1) by decide +kernel) ?_
        exact j_ret (rokZ (show decode cX3_readsInto 54 = .ok (.ireturn, 1) by decide +kernel) rfl (Or.inl rfl)) ⟨rfl, rfl, h⟩
set_option maxRecDepth 4000 in
theorem b_X3_readsInto_5 {d : Nat} {t : Int} {Q : Int → jM → Prop} {σ : jM} {p1 : Int} (h : (ob (GG t) t 8) ∧ (Ct mX8_forget d 9 t [rv t] σ (fun r1 σ1 => (∀ σ3 : jM, σ3 = up σ1 271 2 0 → (∀ σ4 : jM, σ4 = up σ3 271 3 (-1) → (∀ σ5 : jM, σ5 = up σ4 271 8 0 → (Ct mX3_advance d 9 t [rv 271] σ5 (fun r6 σ6 => (Jt mX3_readsInto (d + 1) 0 t Q 33 [rv 271, rv p1, iv 0] [] σ6))))))))) : Jt mX3_readsInto (d + 1) 0 t Q 5 [rv 271, rv p1, uv] [] σ := by
  refine s_aload_n (i := 0) rfl (show decode cX3_readsInto 5 = .ok (.aload_n 0, 1) by decide +kernel) ?_
  refine gf_X3_25 (x := t) rfl (show decode cX3_readsInto 6 = .ok (.getfield 25, 3) by decide +kernel) okl_271 rfl ?_
  have hb1 := h.1
  have h := h.2
  refine j_ctVv (m' := mX8_forget) (As := []) (ci := 8) (N := 0) (cw_X3_29 rfl) (show decode cX3_readsInto 9 = .ok (.invokevirtual 29, 3) by decide +kernel) rfl (Nat.le_of_ble_eq_true rfl) hb1 rfl rfl (Nat.le_refl _) h (fun r1 σ1 h => ?_)
  refine s_aload_n (i := 0) rfl (show decode cX3_readsInto 12 = .ok (.aload_n 0, 1) by decide +kernel) ?_
  refine j_iconst (show decode cX3_readsInto 13 = .ok (.iconst 0, 1) by decide +kernel) ?_
  refine pf_X3_15 rfl (show decode cX3_readsInto 14 = .ok (.putfield 15, 3) by decide +kernel) okl_271 ?_
  obtain ⟨σ3, eσ3⟩ : ∃ z : jM, z = up σ1 271 2 0 := ⟨_, rfl⟩
  refine j_sig eσ3 ?_
  have h := h σ3 eσ3
  refine s_aload_n (i := 0) rfl (show decode cX3_readsInto 17 = .ok (.aload_n 0, 1) by decide +kernel) ?_
  refine j_iconst (show decode cX3_readsInto 18 = .ok (.iconst (-1), 1) by decide +kernel) ?_
  refine pf_X3_19 rfl (show decode cX3_readsInto 19 = .ok (.putfield 19, 3) by decide +kernel) okl_271 ?_
  obtain ⟨σ4, eσ4⟩ : ∃ z : jM, z = up σ3 271 3 (-1) := ⟨_, rfl⟩
  refine j_sig eσ4 ?_
  have h := h σ4 eσ4
  refine s_aload_n (i := 0) rfl (show decode cX3_readsInto 22 = .ok (.aload_n 0, 1) by decide +kernel) ?_
  refine j_iconst (show decode cX3_readsInto 23 = .ok (.iconst 0, 1) by decide +kernel) ?_
  refine pf_X3_34 rfl (show decode cX3_readsInto 24 = .ok (.putfield 34, 3) by decide +kernel) okl_271 ?_
  obtain ⟨σ5, eσ5⟩ : ∃ z : jM, z = up σ4 271 8 0 := ⟨_, rfl⟩
  refine j_sig eσ5 ?_
  have h := h σ5 eσ5
  refine s_aload_n (i := 0) rfl (show decode cX3_readsInto 27 = .ok (.aload_n 0, 1) by decide +kernel) ?_
  refine j_ctVv (m' := mX3_advance) (As := []) (ci := 3) (N := 0) (cw_X3_37 rfl) (show decode cX3_readsInto 28 = .ok (.invokevirtual 37, 3) by decide +kernel) rfl (Nat.le_of_ble_eq_true rfl) okl_271 rfl rfl (Nat.le_refl _) h (fun r6 σ6 h => ?_)
  refine j_iconst (show decode cX3_readsInto 31 = .ok (.iconst 0, 1) by decide +kernel) ?_
  refine s_ist_n (i := 2) (L' := [rv 271, rv p1, iv 0]) rfl (by decide) (show decode cX3_readsInto 32 = .ok (.istore_n 2, 1) by decide +kernel) ?_
  exact h
theorem w_readsInto {d : Nat} {t x : Int} {Q : Int → jM → Prop} {σ : jM} (x0 : 1 ≤ x) (h : Jt mX3_readsInto (d + 1) 0 x Q 5 [rv 271, rv x, uv] [] σ) : Cn mX3_readsInto (d + 1) 0 [rv 271, rv x] (GG t) σ (fun r G' σ' => r.1 = 0 ∧ G' = GG x ∧ Q r.2 σ') := by
  refine Cn_of (by decide +kernel) (Nat.le_of_ble_eq_true rfl) ?_
  refine s_aload_n (i := 0) (x := 271) rfl (show decode cX3_readsInto 0 = .ok (.aload_n 0, 1) by decide +kernel) ?_
  refine s_aload_n (i := 1) (x := x) rfl (show decode cX3_readsInto 1 = .ok (.aload_n 1, 1) by decide +kernel) ?_
  refine pf_X3_25 rfl (show decode cX3_readsInto 2 = .ok (.putfield 25, 3) by decide +kernel) okl_271 x0 ?_
  rw [show up (GG t).1 271 4 x = gr x from gr_up]
  exact h
set_option maxRecDepth 4000 in
theorem w_text {d : Nat} {t : Int} {Q : Int → Int → jM → Prop} {σ : jM} (h : (inR (σ 2 6)) ∧ (((σ 2 6) < 0 → (Q t (-1) σ)) ∧ (0 ≤ (σ 2 6) → ((inR (σ 2 6)) ∧ (((σ 2 6) < 4 → (((0 : Int) ≤ (σ 2 6) ∧ (σ 2 6) < 4) ∧ (Cn mX3_readsInto d 0 [rv 271, rv (293 + 7 * (σ 2 6))] (GG t) σ (fun v4 G4 σ4 => v4.1 = 0 ∧ G4 = GG (293 + 7 * (σ 2 6)) ∧ ((∀ σ5 : jM, σ5 = up σ4 271 1 0 → ((inR v4.2) ∧ ((¬ v4.2 = 0 → (∀ σ7 : jM, σ7 = up σ5 2 6 ((σ5 2 6) + 1) → (Q (293 + 7 * (σ 2 6)) ((σ7 2 6) - 1) σ7))) ∧ (v4.2 = 0 → (Q (293 + 7 * (σ 2 6)) (-1) σ5)))))))))) ∧ (4 ≤ (σ 2 6) → (Q t (-1) σ))))))) : Cn mX11_text (d + 1) 0 [rv 1] (GG t) σ (fun r G' σ' => r.1 = 0 ∧ ∃ t', G' = GG t' ∧ Q t' r.2 σ') := by
  refine Cn_of (by decide +kernel) (Nat.le_of_ble_eq_true rfl) ?_
  refine s_aload_n (i := 0) rfl (show decode cX11_text 0 = .ok (.aload_n 0, 1) by decide +kernel) ?_
  refine gf_X11_10 (x := 2) rfl (show decode cX11_text 1 = .ok (.getfield 10, 3) by decide +kernel) okl_1 rfl ?_
  refine gf_X11_98 rfl (show decode cX11_text 4 = .ok (.getfield 98, 3) by decide +kernel) okl_2 ?_
  have hr0 := h.1
  have h := h.2
  refine j_if_lt (tgt := 21) hr0 (show decode cX11_text 7 = .ok (.ifCond .lt 14, 3) by decide +kernel) (by decide) (fun c => ?_) (fun c => ?_)
  · have h := h.1 c
    refine j_iconst (show decode cX11_text 21 = .ok (.iconst (-1), 1) by decide +kernel) ?_
    exact j_ret (rokI (show decode cX11_text 22 = .ok (.ireturn, 1) by decide +kernel) rfl) ⟨rfl, _, rfl, h⟩
  · have h := h.2 c
    refine s_aload_n (i := 0) rfl (show decode cX11_text 10 = .ok (.aload_n 0, 1) by decide +kernel) ?_
    refine gf_X11_10 (x := 2) rfl (show decode cX11_text 11 = .ok (.getfield 10, 3) by decide +kernel) okl_1 rfl ?_
    refine gf_X11_98 rfl (show decode cX11_text 14 = .ok (.getfield 98, 3) by decide +kernel) okl_2 ?_
    refine j_iconst (show decode cX11_text 17 = .ok (.iconst 4, 1) by decide +kernel) ?_
    have hr1 := h.1
    have h := h.2
    refine j_icmp_lt (tgt := 23) hr1 (inl (by decide)) (show decode cX11_text 18 = .ok (.if_icmp .lt 5, 3) by decide +kernel) (by decide) (fun c => ?_) (fun c => ?_)
    · have h := h.1 c
      refine s_aload_n (i := 0) rfl (show decode cX11_text 23 = .ok (.aload_n 0, 1) by decide +kernel) ?_
      refine gf_X11_35 (x := 271) rfl (show decode cX11_text 24 = .ok (.getfield 35, 3) by decide +kernel) okl_1 rfl ?_
      refine s_aload_n (i := 0) rfl (show decode cX11_text 27 = .ok (.aload_n 0, 1) by decide +kernel) ?_
      refine gf_X11_28 (x := 270) rfl (show decode cX11_text 28 = .ok (.getfield 28, 3) by decide +kernel) okl_1 rfl ?_
      refine s_aload_n (i := 0) rfl (show decode cX11_text 31 = .ok (.aload_n 0, 1) by decide +kernel) ?_
      refine gf_X11_10 (x := 2) rfl (show decode cX11_text 32 = .ok (.getfield 10, 3) by decide +kernel) okl_1 rfl ?_
      refine gf_X11_98 rfl (show decode cX11_text 35 = .ok (.getfield 98, 3) by decide +kernel) okl_2 ?_
      have hb2 := h.1
      have h := h.2
      refine s_aald5 (x := (293 + 7 * (σ 2 6))) (show decode cX11_text 38 = .ok (.aaload, 1) by decide +kernel) okl_270 hb2 rfl ?_
      refine j_callV (m' := mX3_readsInto) (As := [rv (293 + 7 * (σ 2 6))]) (ci := 3) (cw_X11_100 rfl) (show decode cX11_text 39 = .ok (.invokevirtual 100, 3) by decide +kernel) rfl (Nat.le_of_ble_eq_true rfl) (Nat.le_refl _) (k := 0) (Nat.le_refl _) okl_271 rfl rfl (Cn_mono h ?_)
      rintro ⟨r1, r4⟩ G' σ4 ⟨h1, h2, h⟩
      have h1 : r1 = 0 := h1
      subst h1
      subst h2
      unfold jpush
      rw [if_neg (show ¬ (0 : Nat) = 9 by decide)]
      refine s_ist_n (i := 1) (L' := [rv 1, iv r4]) rfl (by decide) (show decode cX11_text 42 = .ok (.istore_n 1, 1) by decide +kernel) ?_
      refine s_aload_n (i := 0) rfl (show decode cX11_text 43 = .ok (.aload_n 0, 1) by decide +kernel) ?_
      refine gf_X11_35 (x := 271) rfl (show decode cX11_text 44 = .ok (.getfield 35, 3) by decide +kernel) okl_1 rfl ?_
      refine j_iconst (show decode cX11_text 47 = .ok (.iconst 0, 1) by decide +kernel) ?_
      refine pf_X11_94 rfl (show decode cX11_text 48 = .ok (.putfield 94, 3) by decide +kernel) okl_271 ?_
      obtain ⟨σ5, eσ5⟩ : ∃ z : jM, z = up σ4 271 1 0 := ⟨_, rfl⟩
      refine j_sig eσ5 ?_
      have h := h σ5 eσ5
      refine j_iload_n (i := 1) rfl (show decode cX11_text 51 = .ok (.iload_n 1, 1) by decide +kernel) ?_
      have hr5 := h.1
      have h := h.2
      refine j_if_ne (tgt := 57) hr5 (show decode cX11_text 52 = .ok (.ifCond .ne 5, 3) by decide +kernel) (by decide) (fun c => ?_) (fun c => ?_)
      · have h := h.1 c
        refine s_aload_n (i := 0) rfl (show decode cX11_text 57 = .ok (.aload_n 0, 1) by decide +kernel) ?_
        refine gf_X11_10 (x := 2) rfl (show decode cX11_text 58 = .ok (.getfield 10, 3) by decide +kernel) okl_1 rfl ?_
        refine j_dup (show (2 : Nat) ≠ 1 by decide) (show decode cX11_text 61 = .ok (.dup, 1) by decide +kernel) ?_
        refine gf_X11_98 rfl (show decode cX11_text 62 = .ok (.getfield 98, 3) by decide +kernel) okl_2 ?_
        refine j_iconst (show decode cX11_text 65 = .ok (.iconst 1, 1) by decide +kernel) ?_
        refine j_iadd (show decode cX11_text 66 = .ok (.iadd, 1) by decide +kernel) ?_
        refine pf_X11_98 rfl (show decode cX11_text 67 = .ok (.putfield 98, 3) by decide +kernel) okl_2 ?_
        obtain ⟨σ7, eσ7⟩ : ∃ z : jM, z = up σ5 2 6 ((σ5 2 6) + 1) := ⟨_, rfl⟩
        refine j_sig eσ7 ?_
        have h := h σ7 eσ7
        refine s_aload_n (i := 0) rfl (show decode cX11_text 70 = .ok (.aload_n 0, 1) by decide +kernel) ?_
        refine gf_X11_10 (x := 2) rfl (show decode cX11_text 71 = .ok (.getfield 10, 3) by decide +kernel) okl_1 rfl ?_
        refine gf_X11_98 rfl (show decode cX11_text 74 = .ok (.getfield 98, 3) by decide +kernel) okl_2 ?_
        refine j_iconst (show decode cX11_text 77 = .ok (.iconst 1, 1) by decide +kernel) ?_
        refine j_isub (show decode cX11_text 78 = .ok (.isub, 1) by decide +kernel) ?_
        exact j_ret (rokI (show decode cX11_text 79 = .ok (.ireturn, 1) by decide +kernel) rfl) ⟨rfl, _, rfl, h⟩
      · have h := h.2 c
        refine j_iconst (show decode cX11_text 55 = .ok (.iconst (-1), 1) by decide +kernel) ?_
        exact j_ret (rokI (show decode cX11_text 56 = .ok (.ireturn, 1) by decide +kernel) rfl) ⟨rfl, _, rfl, h⟩
    · have h := h.2 c
      refine j_iconst (show decode cX11_text 21 = .ok (.iconst (-1), 1) by decide +kernel) ?_
      exact j_ret (rokI (show decode cX11_text 22 = .ok (.ireturn, 1) by decide +kernel) rfl) ⟨rfl, _, rfl, h⟩
