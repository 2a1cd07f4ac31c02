/-! ===== copyFrom in the world of 320 cells; the constructors of LeavenHouse and of the reference ===== -/
abbrev Jh (m : jT) (d tag : Nat) (Q : Int → jM → Prop) (pc : Nat) (L S : List jV) (σ : jM) : Prop := J m d 320 320 (fun r G' σ' => r.1 = tag ∧ G' = (gr 0, 320) ∧ Q r.2 σ') pc L S (gr 0, 320) σ
abbrev Ch (m : jT) (d tag : Nat) (As : List jV) (σ : jM) (Q : Int → jM → Prop) : Prop := Cn m d 0 As (gr 0, 320) σ (fun r G' σ' => r.1 = tag ∧ G' = (gr 0, 320) ∧ Q r.2 σ')
theorem Ch_of {m : jT} {d tag : Nat} {As : List jV} {σ : jM} {Q : Int → jM → Prop} (hp : plainName m.1.cls = true) (hlen : (lent As).length ≤ m.2.2.1) (h : Jh m d tag Q 0 (lpad As m.2.2.1) [] σ) : Ch m d tag As σ Q := Cn_of hp hlen h
theorem jh_ctVv {m m' : jT} {d n0 hi pc idx ci n : Nat} {Post : jV → jG → jM → Prop} {L S : List jV} {σ : jM} {a : Int} {As : List jV} {q : vw_C} {F : Int → jM → Prop} {N : Nat} (hw : jcV m m' idx n) (hd : decode m.2.1 pc = .ok (.invokevirtual idx, 3)) (hlen : As.length = n) (hcat : scat S ≤ 8) (ha : ob (gr 0, 320) a ci) (hc : jcl[ci]? = some q) (hq : q.1 = m'.1.cls) (hN : 320 ≤ hi) (h : Ch m' d 9 (rv a :: As) σ F)
    (k : ∀ (r : Int) (σ' : jM), F r σ' → J m (d + 1) n0 hi Post (pc + 3) L S (gr 0, 320) σ') : J m (d + 1) n0 hi Post pc L (As.reverse ++ rv a :: S) (gr 0, 320) σ := by
  refine j_callV hw hd hlen hcat (Nat.le_refl _) (k := 0) hN ha hc hq (Cn_mono h ?_)
  rintro ⟨r1, r2⟩ G' σ' ⟨h1, h2, h3⟩
  have h1 : r1 = 9 := h1
  subst h1
  subst h2
  exact k r2 σ' h3
set_option maxRecDepth 4000 in
theorem hh_X1_copyFrom_0 {d : Nat} {Q : Int → jM → Prop} {σ : jM} (h : ∀ σ1 : jM, σ1 = cpy σ 4 0 136 0 8 → (∀ σ2 : jM, σ2 = cpy σ1 5 0 137 0 8 → (∀ σ3 : jM, σ3 = cpy σ2 6 0 138 0 25 → (∀ σ4 : jM, σ4 = up σ3 135 3 (σ3 3 3) → (∀ σ5 : jM, σ5 = up σ4 135 4 (σ4 3 4) → (∀ σ6 : jM, σ6 = up σ5 135 5 (σ5 3 5) → (∀ σ7 : jM, σ7 = up σ6 135 6 (σ6 3 6) → (∀ σ8 : jM, σ8 = up σ7 135 7 (σ7 3 7) → (Q 0 σ8))))))))) : Jh mX1_copyFrom (d + 2) 9 Q 0 [rv 135, rv 3] [] σ := by
  refine s_aload_n (i := 1) rfl (show decode cX1_copyFrom 0 = .ok (.aload_n 1, 1) by decide +kernel) ?_
  refine gf_X1_9 (x := 4) rfl (show decode cX1_copyFrom 1 = .ok (.getfield 9, 3) by decide +kernel) (okb (n := 320) rfl (by decide) (by decide)) rfl ?_
  refine j_iconst (show decode cX1_copyFrom 4 = .ok (.iconst 0, 1) by decide +kernel) ?_
  refine s_aload_n (i := 0) rfl (show decode cX1_copyFrom 5 = .ok (.aload_n 0, 1) by decide +kernel) ?_
  refine gf_X1_9 (x := 136) rfl (show decode cX1_copyFrom 6 = .ok (.getfield 9, 3) by decide +kernel) (okb (n := 320) rfl (by decide) (by decide)) rfl ?_
  refine j_iconst (show decode cX1_copyFrom 9 = .ok (.iconst 0, 1) by decide +kernel) ?_
  refine j_bipush (n := 8) (by decide +kernel) (show decode cX1_copyFrom 10 = .ok (.bipush 8, 2) by decide +kernel) ?_
  refine j_copy1 (tt_in 494 (by decide +kernel) rfl) (by omega) (Nat.le_of_ble_eq_true rfl) (okr (n := 320) rfl (by decide) (by decide)) (okr (n := 320) rfl (by decide) (by decide)) (by decide) (by decide) (by decide) (show decode cX1_copyFrom 12 = .ok (.invokestatic 26, 3) by decide +kernel) ?_
  obtain ⟨σ1, eσ1⟩ : ∃ z : jM, z = cpy σ 4 0 136 0 8 := ⟨_, rfl⟩
  refine j_sig eσ1 ?_
  have h := h σ1 eσ1
  refine s_aload_n (i := 1) rfl (show decode cX1_copyFrom 15 = .ok (.aload_n 1, 1) by decide +kernel) ?_
  refine gf_X1_15 (x := 5) rfl (show decode cX1_copyFrom 16 = .ok (.getfield 15, 3) by decide +kernel) (okb (n := 320) rfl (by decide) (by decide)) rfl ?_
  refine j_iconst (show decode cX1_copyFrom 19 = .ok (.iconst 0, 1) by decide +kernel) ?_
  refine s_aload_n (i := 0) rfl (show decode cX1_copyFrom 20 = .ok (.aload_n 0, 1) by decide +kernel) ?_
  refine gf_X1_15 (x := 137) rfl (show decode cX1_copyFrom 21 = .ok (.getfield 15, 3) by decide +kernel) (okb (n := 320) rfl (by decide) (by decide)) rfl ?_
  refine j_iconst (show decode cX1_copyFrom 24 = .ok (.iconst 0, 1) by decide +kernel) ?_
  refine j_bipush (n := 8) (by decide +kernel) (show decode cX1_copyFrom 25 = .ok (.bipush 8, 2) by decide +kernel) ?_
  refine j_copy1 (tt_in 494 (by decide +kernel) rfl) (by omega) (Nat.le_of_ble_eq_true rfl) (okr (n := 320) rfl (by decide) (by decide)) (okr (n := 320) rfl (by decide) (by decide)) (by decide) (by decide) (by decide) (show decode cX1_copyFrom 27 = .ok (.invokestatic 26, 3) by decide +kernel) ?_
  obtain ⟨σ2, eσ2⟩ : ∃ z : jM, z = cpy σ1 5 0 137 0 8 := ⟨_, rfl⟩
  refine j_sig eσ2 ?_
  have h := h σ2 eσ2
  refine s_aload_n (i := 1) rfl (show decode cX1_copyFrom 30 = .ok (.aload_n 1, 1) by decide +kernel) ?_
  refine gf_X1_18 (x := 6) rfl (show decode cX1_copyFrom 31 = .ok (.getfield 18, 3) by decide +kernel) (okb (n := 320) rfl (by decide) (by decide)) rfl ?_
  refine j_iconst (show decode cX1_copyFrom 34 = .ok (.iconst 0, 1) by decide +kernel) ?_
  refine s_aload_n (i := 0) rfl (show decode cX1_copyFrom 35 = .ok (.aload_n 0, 1) by decide +kernel) ?_
  refine gf_X1_18 (x := 138) rfl (show decode cX1_copyFrom 36 = .ok (.getfield 18, 3) by decide +kernel) (okb (n := 320) rfl (by decide) (by decide)) rfl ?_
  refine j_iconst (show decode cX1_copyFrom 39 = .ok (.iconst 0, 1) by decide +kernel) ?_
  refine j_bipush (n := 25) (by decide +kernel) (show decode cX1_copyFrom 40 = .ok (.bipush 25, 2) by decide +kernel) ?_
  refine j_copy2 (tt_in 494 (by decide +kernel) rfl) (by omega) (Nat.le_of_ble_eq_true rfl) (okr (n := 320) rfl (by decide) (by decide)) (okr (n := 320) rfl (by decide) (by decide)) (by decide) (by decide) (by decide) (show decode cX1_copyFrom 42 = .ok (.invokestatic 26, 3) by decide +kernel) ?_
  obtain ⟨σ3, eσ3⟩ : ∃ z : jM, z = cpy σ2 6 0 138 0 25 := ⟨_, rfl⟩
  refine j_sig eσ3 ?_
  have h := h σ3 eσ3
  refine s_aload_n (i := 0) rfl (show decode cX1_copyFrom 45 = .ok (.aload_n 0, 1) by decide +kernel) ?_
  refine s_aload_n (i := 1) rfl (show decode cX1_copyFrom 46 = .ok (.aload_n 1, 1) by decide +kernel) ?_
  refine gf_X1_32 rfl (show decode cX1_copyFrom 47 = .ok (.getfield 32, 3) by decide +kernel) (okb (n := 320) rfl (by decide) (by decide)) ?_
  refine pf_X1_32 rfl (show decode cX1_copyFrom 50 = .ok (.putfield 32, 3) by decide +kernel) (okb (n := 320) rfl (by decide) (by decide)) ?_
  obtain ⟨σ4, eσ4⟩ : ∃ z : jM, z = up σ3 135 3 (σ3 3 3) := ⟨_, rfl⟩
  refine j_sig eσ4 ?_
  have h := h σ4 eσ4
  refine s_aload_n (i := 0) rfl (show decode cX1_copyFrom 53 = .ok (.aload_n 0, 1) by decide +kernel) ?_
  refine s_aload_n (i := 1) rfl (show decode cX1_copyFrom 54 = .ok (.aload_n 1, 1) by decide +kernel) ?_
  refine gf_X1_35 rfl (show decode cX1_copyFrom 55 = .ok (.getfield 35, 3) by decide +kernel) (okb (n := 320) rfl (by decide) (by decide)) ?_
  refine pf_X1_35 rfl (show decode cX1_copyFrom 58 = .ok (.putfield 35, 3) by decide +kernel) (okb (n := 320) rfl (by decide) (by decide)) ?_
  obtain ⟨σ5, eσ5⟩ : ∃ z : jM, z = up σ4 135 4 (σ4 3 4) := ⟨_, rfl⟩
  refine j_sig eσ5 ?_
  have h := h σ5 eσ5
  refine s_aload_n (i := 0) rfl (show decode cX1_copyFrom 61 = .ok (.aload_n 0, 1) by decide +kernel) ?_
  refine s_aload_n (i := 1) rfl (show decode cX1_copyFrom 62 = .ok (.aload_n 1, 1) by decide +kernel) ?_
  refine gf_X1_38 rfl (show decode cX1_copyFrom 63 = .ok (.getfield 38, 3) by decide +kernel) (okb (n := 320) rfl (by decide) (by decide)) ?_
  refine pf_X1_38 rfl (show decode cX1_copyFrom 66 = .ok (.putfield 38, 3) by decide +kernel) (okb (n := 320) rfl (by decide) (by decide)) ?_
  obtain ⟨σ6, eσ6⟩ : ∃ z : jM, z = up σ5 135 5 (σ5 3 5) := ⟨_, rfl⟩
  refine j_sig eσ6 ?_
  have h := h σ6 eσ6
  refine s_aload_n (i := 0) rfl (show decode cX1_copyFrom 69 = .ok (.aload_n 0, 1) by decide +kernel) ?_
  refine s_aload_n (i := 1) rfl (show decode cX1_copyFrom 70 = .ok (.aload_n 1, 1) by decide +kernel) ?_
  refine gf_X1_41 rfl (show decode cX1_copyFrom 71 = .ok (.getfield 41, 3) by decide +kernel) (okb (n := 320) rfl (by decide) (by decide)) ?_
  refine pf_X1_41 rfl (show decode cX1_copyFrom 74 = .ok (.putfield 41, 3) by decide +kernel) (okb (n := 320) rfl (by decide) (by decide)) ?_
  obtain ⟨σ7, eσ7⟩ : ∃ z : jM, z = up σ6 135 6 (σ6 3 6) := ⟨_, rfl⟩
  refine j_sig eσ7 ?_
  have h := h σ7 eσ7
  refine s_aload_n (i := 0) rfl (show decode cX1_copyFrom 77 = .ok (.aload_n 0, 1) by decide +kernel) ?_
  refine s_aload_n (i := 1) rfl (show decode cX1_copyFrom 78 = .ok (.aload_n 1, 1) by decide +kernel) ?_
  refine gf_X1_22 rfl (show decode cX1_copyFrom 79 = .ok (.getfield 22, 3) by decide +kernel) (okb (n := 320) rfl (by decide) (by decide)) ?_
  refine pf_X1_22 rfl (show decode cX1_copyFrom 82 = .ok (.putfield 22, 3) by decide +kernel) (okb (n := 320) rfl (by decide) (by decide)) ?_
  obtain ⟨σ8, eσ8⟩ : ∃ z : jM, z = up σ7 135 7 (σ7 3 7) := ⟨_, rfl⟩
  refine j_sig eσ8 ?_
  have h := h σ8 eσ8
  exact j_ret (rokV (show decode cX1_copyFrom 85 = .ok (.return_, 1) by decide +kernel) rfl) ⟨rfl, rfl, h⟩
set_option maxRecDepth 4000 in
theorem hh_X9_copyFrom_0 {d : Nat} {Q : Int → jM → Prop} {σ : jM} (h : ∀ σ1 : jM, σ1 = cpy σ 130 0 262 0 12 → (∀ σ2 : jM, σ2 = up σ1 261 1 (σ1 129 1) → (Q 0 σ2))) : Jh mX9_copyFrom (d + 2) 9 Q 0 [rv 261, rv 129] [] σ := by
  refine s_aload_n (i := 1) rfl (show decode cX9_copyFrom 0 = .ok (.aload_n 1, 1) by decide +kernel) ?_
  refine gf_X9_11 (x := 130) rfl (show decode cX9_copyFrom 1 = .ok (.getfield 11, 3) by decide +kernel) (okb (n := 320) rfl (by decide) (by decide)) rfl ?_
  refine j_iconst (show decode cX9_copyFrom 4 = .ok (.iconst 0, 1) by decide +kernel) ?_
  refine s_aload_n (i := 0) rfl (show decode cX9_copyFrom 5 = .ok (.aload_n 0, 1) by decide +kernel) ?_
  refine gf_X9_11 (x := 262) rfl (show decode cX9_copyFrom 6 = .ok (.getfield 11, 3) by decide +kernel) (okb (n := 320) rfl (by decide) (by decide)) rfl ?_
  refine j_iconst (show decode cX9_copyFrom 9 = .ok (.iconst 0, 1) by decide +kernel) ?_
  refine j_bipush (n := 12) (by decide +kernel) (show decode cX9_copyFrom 10 = .ok (.bipush 12, 2) by decide +kernel) ?_
  refine j_copy1 (tt_in 506 (by decide +kernel) rfl) (by omega) (Nat.le_of_ble_eq_true rfl) (okr (n := 320) rfl (by decide) (by decide)) (okr (n := 320) rfl (by decide) (by decide)) (by decide) (by decide) (by decide) (show decode cX9_copyFrom 12 = .ok (.invokestatic 19, 3) by decide +kernel) ?_
  obtain ⟨σ1, eσ1⟩ : ∃ z : jM, z = cpy σ 130 0 262 0 12 := ⟨_, rfl⟩
  refine j_sig eσ1 ?_
  have h := h σ1 eσ1
  refine s_aload_n (i := 0) rfl (show decode cX9_copyFrom 15 = .ok (.aload_n 0, 1) by decide +kernel) ?_
  refine s_aload_n (i := 1) rfl (show decode cX9_copyFrom 16 = .ok (.aload_n 1, 1) by decide +kernel) ?_
  refine gf_X9_15 rfl (show decode cX9_copyFrom 17 = .ok (.getfield 15, 3) by decide +kernel) (okb (n := 320) rfl (by decide) (by decide)) ?_
  refine pf_X9_15 rfl (show decode cX9_copyFrom 20 = .ok (.putfield 15, 3) by decide +kernel) (okb (n := 320) rfl (by decide) (by decide)) ?_
  obtain ⟨σ2, eσ2⟩ : ∃ z : jM, z = up σ1 261 1 (σ1 129 1) := ⟨_, rfl⟩
  refine j_sig eσ2 ?_
  have h := h σ2 eσ2
  exact j_ret (rokV (show decode cX9_copyFrom 23 = .ok (.return_, 1) by decide +kernel) rfl) ⟨rfl, rfl, h⟩
set_option maxRecDepth 4000 in
theorem hh_X10_copyFrom_0 {d : Nat} {Q : Int → jM → Prop} {σ : jM} (h : Ch mX1_copyFrom (d + 1) 9 [rv 135, rv 3] σ (fun r1 σ1 => (Ch mX7_copyFrom (d + 1) 9 [rv 139, rv 7] σ1 (fun r2 σ2 => (Ch mX9_copyFrom (d + 1) 9 [rv 261, rv 129] σ2 (fun r3 σ3 => (∀ σ4 : jM, σ4 = cpy σ3 131 0 263 0 4 → (∀ σ5 : jM, σ5 = cpy σ4 132 0 264 0 8 → (∀ σ6 : jM, σ6 = cpy σ5 133 0 265 0 8 → (∀ σ7 : jM, σ7 = up σ6 134 6 (σ6 2 6) → (∀ σ8 : jM, σ8 = up σ7 134 7 (σ7 2 7) → (∀ σ9 : jM, σ9 = up σ8 134 8 (σ8 2 8) → (∀ σ10 : jM, σ10 = up σ9 134 9 (σ9 2 9) → (Q 0 σ10)))))))))))))) : Jh mX10_copyFrom (d + 2) 9 Q 0 [rv 134, rv 2] [] σ := by
  refine s_aload_n (i := 0) rfl (show decode cX10_copyFrom 0 = .ok (.aload_n 0, 1) by decide +kernel) ?_
  refine gf_X10_12 (x := 135) rfl (show decode cX10_copyFrom 1 = .ok (.getfield 12, 3) by decide +kernel) (okb (n := 320) rfl (by decide) (by decide)) rfl ?_
  refine s_aload_n (i := 1) rfl (show decode cX10_copyFrom 4 = .ok (.aload_n 1, 1) by decide +kernel) ?_
  refine gf_X10_12 (x := 3) rfl (show decode cX10_copyFrom 5 = .ok (.getfield 12, 3) by decide +kernel) (okb (n := 320) rfl (by decide) (by decide)) rfl ?_
  refine jh_ctVv (m' := mX1_copyFrom) (As := [rv 3]) (ci := 1) (N := 0) (cw_X10_46 rfl) (show decode cX10_copyFrom 8 = .ok (.invokevirtual 46, 3) by decide +kernel) rfl (Nat.le_of_ble_eq_true rfl) (okb (n := 320) rfl (by decide) (by decide)) rfl rfl (Nat.le_refl _) h (fun r1 σ1 h => ?_)
  refine s_aload_n (i := 0) rfl (show decode cX10_copyFrom 11 = .ok (.aload_n 0, 1) by decide +kernel) ?_
  refine gf_X10_21 (x := 139) rfl (show decode cX10_copyFrom 12 = .ok (.getfield 21, 3) by decide +kernel) (okb (n := 320) rfl (by decide) (by decide)) rfl ?_
  refine s_aload_n (i := 1) rfl (show decode cX10_copyFrom 15 = .ok (.aload_n 1, 1) by decide +kernel) ?_
  refine gf_X10_21 (x := 7) rfl (show decode cX10_copyFrom 16 = .ok (.getfield 21, 3) by decide +kernel) (okb (n := 320) rfl (by decide) (by decide)) rfl ?_
  refine jh_ctVv (m' := mX7_copyFrom) (As := [rv 7]) (ci := 7) (N := 0) (cw_X10_50 rfl) (show decode cX10_copyFrom 19 = .ok (.invokevirtual 50, 3) by decide +kernel) rfl (Nat.le_of_ble_eq_true rfl) (okb (n := 320) rfl (by decide) (by decide)) rfl rfl (Nat.le_refl _) h (fun r2 σ2 h => ?_)
  refine s_aload_n (i := 0) rfl (show decode cX10_copyFrom 22 = .ok (.aload_n 0, 1) by decide +kernel) ?_
  refine gf_X10_28 (x := 261) rfl (show decode cX10_copyFrom 23 = .ok (.getfield 28, 3) by decide +kernel) (okb (n := 320) rfl (by decide) (by decide)) rfl ?_
  refine s_aload_n (i := 1) rfl (show decode cX10_copyFrom 26 = .ok (.aload_n 1, 1) by decide +kernel) ?_
  refine gf_X10_28 (x := 129) rfl (show decode cX10_copyFrom 27 = .ok (.getfield 28, 3) by decide +kernel) (okb (n := 320) rfl (by decide) (by decide)) rfl ?_
  refine jh_ctVv (m' := mX9_copyFrom) (As := [rv 129]) (ci := 9) (N := 0) (cw_X10_53 rfl) (show decode cX10_copyFrom 30 = .ok (.invokevirtual 53, 3) by decide +kernel) rfl (Nat.le_of_ble_eq_true rfl) (okb (n := 320) rfl (by decide) (by decide)) rfl rfl (Nat.le_refl _) h (fun r3 σ3 h => ?_)
  refine s_aload_n (i := 1) rfl (show decode cX10_copyFrom 33 = .ok (.aload_n 1, 1) by decide +kernel) ?_
  refine gf_X10_32 (x := 131) rfl (show decode cX10_copyFrom 34 = .ok (.getfield 32, 3) by decide +kernel) (okb (n := 320) rfl (by decide) (by decide)) rfl ?_
  refine j_iconst (show decode cX10_copyFrom 37 = .ok (.iconst 0, 1) by decide +kernel) ?_
  refine s_aload_n (i := 0) rfl (show decode cX10_copyFrom 38 = .ok (.aload_n 0, 1) by decide +kernel) ?_
  refine gf_X10_32 (x := 263) rfl (show decode cX10_copyFrom 39 = .ok (.getfield 32, 3) by decide +kernel) (okb (n := 320) rfl (by decide) (by decide)) rfl ?_
  refine j_iconst (show decode cX10_copyFrom 42 = .ok (.iconst 0, 1) by decide +kernel) ?_
  refine j_iconst (show decode cX10_copyFrom 43 = .ok (.iconst 4, 1) by decide +kernel) ?_
  refine j_copy1 (tt_in 507 (by decide +kernel) rfl) (by omega) (Nat.le_of_ble_eq_true rfl) (okr (n := 320) rfl (by decide) (by decide)) (okr (n := 320) rfl (by decide) (by decide)) (by decide) (by decide) (by decide) (show decode cX10_copyFrom 44 = .ok (.invokestatic 56, 3) by decide +kernel) ?_
  obtain ⟨σ4, eσ4⟩ : ∃ z : jM, z = cpy σ3 131 0 263 0 4 := ⟨_, rfl⟩
  refine j_sig eσ4 ?_
  have h := h σ4 eσ4
  refine s_aload_n (i := 1) rfl (show decode cX10_copyFrom 47 = .ok (.aload_n 1, 1) by decide +kernel) ?_
  refine gf_X10_36 (x := 132) rfl (show decode cX10_copyFrom 48 = .ok (.getfield 36, 3) by decide +kernel) (okb (n := 320) rfl (by decide) (by decide)) rfl ?_
  refine j_iconst (show decode cX10_copyFrom 51 = .ok (.iconst 0, 1) by decide +kernel) ?_
  refine s_aload_n (i := 0) rfl (show decode cX10_copyFrom 52 = .ok (.aload_n 0, 1) by decide +kernel) ?_
  refine gf_X10_36 (x := 264) rfl (show decode cX10_copyFrom 53 = .ok (.getfield 36, 3) by decide +kernel) (okb (n := 320) rfl (by decide) (by decide)) rfl ?_
  refine j_iconst (show decode cX10_copyFrom 56 = .ok (.iconst 0, 1) by decide +kernel) ?_
  refine j_bipush (n := 8) (by decide +kernel) (show decode cX10_copyFrom 57 = .ok (.bipush 8, 2) by decide +kernel) ?_
  refine j_copy1 (tt_in 507 (by decide +kernel) rfl) (by omega) (Nat.le_of_ble_eq_true rfl) (okr (n := 320) rfl (by decide) (by decide)) (okr (n := 320) rfl (by decide) (by decide)) (by decide) (by decide) (by decide) (show decode cX10_copyFrom 59 = .ok (.invokestatic 56, 3) by decide +kernel) ?_
  obtain ⟨σ5, eσ5⟩ : ∃ z : jM, z = cpy σ4 132 0 264 0 8 := ⟨_, rfl⟩
  refine j_sig eσ5 ?_
  have h := h σ5 eσ5
  refine s_aload_n (i := 1) rfl (show decode cX10_copyFrom 62 = .ok (.aload_n 1, 1) by decide +kernel) ?_
  refine gf_X10_39 (x := 133) rfl (show decode cX10_copyFrom 63 = .ok (.getfield 39, 3) by decide +kernel) (okb (n := 320) rfl (by decide) (by decide)) rfl ?_
  refine j_iconst (show decode cX10_copyFrom 66 = .ok (.iconst 0, 1) by decide +kernel) ?_
  refine s_aload_n (i := 0) rfl (show decode cX10_copyFrom 67 = .ok (.aload_n 0, 1) by decide +kernel) ?_
  refine gf_X10_39 (x := 265) rfl (show decode cX10_copyFrom 68 = .ok (.getfield 39, 3) by decide +kernel) (okb (n := 320) rfl (by decide) (by decide)) rfl ?_
  refine j_iconst (show decode cX10_copyFrom 71 = .ok (.iconst 0, 1) by decide +kernel) ?_
  refine j_bipush (n := 8) (by decide +kernel) (show decode cX10_copyFrom 72 = .ok (.bipush 8, 2) by decide +kernel) ?_
  refine j_copy1 (tt_in 507 (by decide +kernel) rfl) (by omega) (Nat.le_of_ble_eq_true rfl) (okr (n := 320) rfl (by decide) (by decide)) (okr (n := 320) rfl (by decide) (by decide)) (by decide) (by decide) (by decide) (show decode cX10_copyFrom 74 = .ok (.invokestatic 56, 3) by decide +kernel) ?_
  obtain ⟨σ6, eσ6⟩ : ∃ z : jM, z = cpy σ5 133 0 265 0 8 := ⟨_, rfl⟩
  refine j_sig eσ6 ?_
  have h := h σ6 eσ6
  refine s_aload_n (i := 0) rfl (show decode cX10_copyFrom 77 = .ok (.aload_n 0, 1) by decide +kernel) ?_
  refine s_aload_n (i := 1) rfl (show decode cX10_copyFrom 78 = .ok (.aload_n 1, 1) by decide +kernel) ?_
  refine gf_X10_62 rfl (show decode cX10_copyFrom 79 = .ok (.getfield 62, 3) by decide +kernel) (okb (n := 320) rfl (by decide) (by decide)) ?_
  refine pf_X10_62 rfl (show decode cX10_copyFrom 82 = .ok (.putfield 62, 3) by decide +kernel) (okb (n := 320) rfl (by decide) (by decide)) ?_
  obtain ⟨σ7, eσ7⟩ : ∃ z : jM, z = up σ6 134 6 (σ6 2 6) := ⟨_, rfl⟩
  refine j_sig eσ7 ?_
  have h := h σ7 eσ7
  refine s_aload_n (i := 0) rfl (show decode cX10_copyFrom 85 = .ok (.aload_n 0, 1) by decide +kernel) ?_
  refine s_aload_n (i := 1) rfl (show decode cX10_copyFrom 86 = .ok (.aload_n 1, 1) by decide +kernel) ?_
  refine gf_X10_42 rfl (show decode cX10_copyFrom 87 = .ok (.getfield 42, 3) by decide +kernel) (okb (n := 320) rfl (by decide) (by decide)) ?_
  refine pf_X10_42 rfl (show decode cX10_copyFrom 90 = .ok (.putfield 42, 3) by decide +kernel) (okb (n := 320) rfl (by decide) (by decide)) ?_
  obtain ⟨σ8, eσ8⟩ : ∃ z : jM, z = up σ7 134 7 (σ7 2 7) := ⟨_, rfl⟩
  refine j_sig eσ8 ?_
  have h := h σ8 eσ8
  refine s_aload_n (i := 0) rfl (show decode cX10_copyFrom 93 = .ok (.aload_n 0, 1) by decide +kernel) ?_
  refine s_aload_n (i := 1) rfl (show decode cX10_copyFrom 94 = .ok (.aload_n 1, 1) by decide +kernel) ?_
  refine gf_X10_65 rfl (show decode cX10_copyFrom 95 = .ok (.getfield 65, 3) by decide +kernel) (okb (n := 320) rfl (by decide) (by decide)) ?_
  refine pf_X10_65 rfl (show decode cX10_copyFrom 98 = .ok (.putfield 65, 3) by decide +kernel) (okb (n := 320) rfl (by decide) (by decide)) ?_
  obtain ⟨σ9, eσ9⟩ : ∃ z : jM, z = up σ8 134 8 (σ8 2 8) := ⟨_, rfl⟩
  refine j_sig eσ9 ?_
  have h := h σ9 eσ9
  refine s_aload_n (i := 0) rfl (show decode cX10_copyFrom 101 = .ok (.aload_n 0, 1) by decide +kernel) ?_
  refine s_aload_n (i := 1) rfl (show decode cX10_copyFrom 102 = .ok (.aload_n 1, 1) by decide +kernel) ?_
  refine gf_X10_68 rfl (show decode cX10_copyFrom 103 = .ok (.getfield 68, 3) by decide +kernel) (okb (n := 320) rfl (by decide) (by decide)) ?_
  refine pf_X10_68 rfl (show decode cX10_copyFrom 106 = .ok (.putfield 68, 3) by decide +kernel) (okb (n := 320) rfl (by decide) (by decide)) ?_
  obtain ⟨σ10, eσ10⟩ : ∃ z : jM, z = up σ9 134 9 (σ9 2 9) := ⟨_, rfl⟩
  refine j_sig eσ10 ?_
  have h := h σ10 eσ10
  exact j_ret (rokV (show decode cX10_copyFrom 109 = .ok (.return_, 1) by decide +kernel) rfl) ⟨rfl, rfl, h⟩
theorem hh_X7_copyFrom_18 {d : Nat} {Q : Int → jM → Prop} {σ : jM} (e : σ 139 2 = 0) (h : Q 0 σ) : Jh mX7_copyFrom (d + 1) 9 Q 18 [rv 139, rv 7, iv 0, uv] [] σ := by
  refine j_iload_n (i := 2) rfl (show decode cX7_copyFrom 18 = .ok (.iload_n 2, 1) by decide +kernel) ?_
  refine s_aload_n (i := 0) rfl (show decode cX7_copyFrom 19 = .ok (.aload_n 0, 1) by decide +kernel) ?_
  refine gf_X7_20 rfl (show decode cX7_copyFrom 20 = .ok (.getfield 20, 3) by decide +kernel) (okb (n := 320) rfl (by decide) (by decide)) ?_
  rw [e]
  refine j_icmp_ge (tgt := 57) (inl (by decide)) (inl (by decide)) (show decode cX7_copyFrom 23 = .ok (.if_icmp .ge 34, 3) by decide +kernel) (by decide) (fun c => ?_) (fun c => absurd c (by decide))
  exact j_ret (rokV (show decode cX7_copyFrom 57 = .ok (.return_, 1) by decide +kernel) rfl) ⟨rfl, rfl, h⟩
set_option maxRecDepth 4000 in
theorem hh_X7_copyFrom_0 {d : Nat} {Q : Int → jM → Prop} {σ : jM} (h : ∀ σ1 : jM, σ1 = up σ 139 1 (σ 7 1) → (∀ σ2 : jM, σ2 = up σ1 139 2 (σ1 7 2) → (Jh mX7_copyFrom (d + 1) 9 Q 18 [rv 139, rv 7, iv 0, uv] [] σ2))) : Jh mX7_copyFrom (d + 1) 9 Q 0 [rv 139, rv 7, uv, uv] [] σ := by
  refine s_aload_n (i := 0) rfl (show decode cX7_copyFrom 0 = .ok (.aload_n 0, 1) by decide +kernel) ?_
  refine s_aload_n (i := 1) rfl (show decode cX7_copyFrom 1 = .ok (.aload_n 1, 1) by decide +kernel) ?_
  refine gf_X7_16 rfl (show decode cX7_copyFrom 2 = .ok (.getfield 16, 3) by decide +kernel) (okb (n := 320) rfl (by decide) (by decide)) ?_
  refine pf_X7_16 rfl (show decode cX7_copyFrom 5 = .ok (.putfield 16, 3) by decide +kernel) (okb (n := 320) rfl (by decide) (by decide)) ?_
  obtain ⟨σ1, eσ1⟩ : ∃ z : jM, z = up σ 139 1 (σ 7 1) := ⟨_, rfl⟩
  refine j_sig eσ1 ?_
  have h := h σ1 eσ1
  refine s_aload_n (i := 0) rfl (show decode cX7_copyFrom 8 = .ok (.aload_n 0, 1) by decide +kernel) ?_
  refine s_aload_n (i := 1) rfl (show decode cX7_copyFrom 9 = .ok (.aload_n 1, 1) by decide +kernel) ?_
  refine gf_X7_20 rfl (show decode cX7_copyFrom 10 = .ok (.getfield 20, 3) by decide +kernel) (okb (n := 320) rfl (by decide) (by decide)) ?_
  refine pf_X7_20 rfl (show decode cX7_copyFrom 13 = .ok (.putfield 20, 3) by decide +kernel) (okb (n := 320) rfl (by decide) (by decide)) ?_
  obtain ⟨σ2, eσ2⟩ : ∃ z : jM, z = up σ1 139 2 (σ1 7 2) := ⟨_, rfl⟩
  refine j_sig eσ2 ?_
  have h := h σ2 eσ2
  refine j_iconst (show decode cX7_copyFrom 16 = .ok (.iconst 0, 1) by decide +kernel) ?_
  refine s_ist_n (i := 2) (L' := [rv 139, rv 7, iv 0, uv]) rfl (by decide) (show decode cX7_copyFrom 17 = .ok (.istore_n 2, 1) by decide +kernel) ?_
  exact h
/-- what the class holds when it is made -/
def tj : jM := up (up ti 4 0 1) 136 0 1
set_option maxRecDepth 8000 in
theorem n_X11 {d : Nat} {g σ : jM} {R : jV → jG → jM → Prop} (zg : ∀ j, g 1 j = 0) (zs : ∀ j, σ 1 j = 0) (k : ∀ r : jV, r.1 = 9 → R r (gr 0, 320) tj) : Cn mX11_init (d + 4) 319 [rv 1] (g, 1) σ R := by
  refine Cn_of (by decide +kernel) (Nat.le_of_ble_eq_true rfl) ?_
  refine J_cong (G' := zr g 1) (σ' := zr σ 1) (zr_ag zg zs) ?_
  refine s_aload_n (i := 0) (x := 1) rfl (show decode cX11_init 0 = .ok (.aload_n 0, 1) by decide +kernel) ?_
  refine j_objI (a := 1) (by decide) (tt_in 155 (by decide +kernel) rfl) (by omega) (Nat.le_of_ble_eq_true rfl) (show decode cX11_init 1 = .ok (.invokespecial 1, 3) by decide +kernel) ?_
  refine s_aload_n (i := 0) (x := 1) rfl (show decode cX11_init 4 = .ok (.aload_n 0, 1) by decide +kernel) ?_
  refine nw_X10 (c := 2) (n' := 2) (tt_in 158 (by decide +kernel) rfl) rfl rfl (by decide +kernel) (Nat.le_of_ble_eq_true rfl) (show decode cX11_init 5 = .ok (.new 7, 3) by decide +kernel) ?_
  refine j_dup (show (2 : Nat) ≠ 1 by decide) (show decode cX11_init 8 = .ok (.dup, 1) by decide +kernel) ?_
  refine j_callN (m' := mX10_init) (k := 131) (n := 0) (a := 2) (As := []) (host := RX11) ⟨⟨List.mem_of_getElem? (i := 0) rfl, tt_in 161 (by decide +kernel) rfl, tt_in 130 (by decide +kernel) rfl, tt_in 162 (by decide +kernel) rfl⟩, ⟨by decide +kernel, by decide +kernel, by decide +kernel⟩, by decide +kernel, rfl, rfl⟩ (show decode cX11_init 9 = .ok (.invokespecial 9, 3) by decide +kernel) rfl (Nat.le_of_ble_eq_true rfl) (Nat.le_refl _) (Nat.le_of_ble_eq_true rfl) (by decide) ?_
  refine n_X10_2 (fun j => zr_at) (fun j => zr_at) (fun r hr => ?_)
  rw [jp9 hr]
  refine pf_X11_10 rfl rfl (show decode cX11_init 12 = .ok (.putfield 10, 3) by decide +kernel) (okb (n := 133) rfl (by decide) (by decide)) (by decide) ?_
  refine s_aload_n (i := 0) (x := 1) rfl (show decode cX11_init 15 = .ok (.aload_n 0, 1) by decide +kernel) ?_
  refine nw_X10 (c := 134) (n' := 134) (tt_in 158 (by decide +kernel) rfl) rfl rfl (by decide +kernel) (Nat.le_of_ble_eq_true rfl) (show decode cX11_init 16 = .ok (.new 7, 3) by decide +kernel) ?_
  refine j_dup (show (2 : Nat) ≠ 1 by decide) (show decode cX11_init 19 = .ok (.dup, 1) by decide +kernel) ?_
  refine j_callN (m' := mX10_init) (k := 131) (n := 0) (a := 134) (As := []) (host := RX11) ⟨⟨List.mem_of_getElem? (i := 0) rfl, tt_in 161 (by decide +kernel) rfl, tt_in 130 (by decide +kernel) rfl, tt_in 162 (by decide +kernel) rfl⟩, ⟨by decide +kernel, by decide +kernel, by decide +kernel⟩, by decide +kernel, rfl, rfl⟩ (show decode cX11_init 20 = .ok (.invokespecial 9, 3) by decide +kernel) rfl (Nat.le_of_ble_eq_true rfl) (Nat.le_refl _) (Nat.le_of_ble_eq_true rfl) (by decide) ?_
  refine n_X10_134 (fun j => zr_at) (fun j => zr_at) (fun r hr => ?_)
  rw [jp9 hr]
  refine pf_X11_16 rfl rfl (show decode cX11_init 23 = .ok (.putfield 16, 3) by decide +kernel) (okb (n := 265) rfl (by decide) (by decide)) (by decide) ?_
  refine s_aload_n (i := 0) (x := 1) rfl (show decode cX11_init 26 = .ok (.aload_n 0, 1) by decide +kernel) ?_
  refine nw_X1 (c := 266) (n' := 266) (tt_in 283 (by decide +kernel) rfl) rfl rfl (by decide +kernel) (Nat.le_of_ble_eq_true rfl) (show decode cX11_init 27 = .ok (.new 19, 3) by decide +kernel) ?_
  refine j_dup (show (2 : Nat) ≠ 1 by decide) (show decode cX11_init 30 = .ok (.dup, 1) by decide +kernel) ?_
  refine j_callN (m' := mX1_init) (k := 3) (n := 0) (a := 266) (As := []) (host := RX11) ⟨⟨List.mem_of_getElem? (i := 1) rfl, tt_in 167 (by decide +kernel) rfl, tt_in 131 (by decide +kernel) rfl, tt_in 168 (by decide +kernel) rfl⟩, ⟨by decide +kernel, by decide +kernel, by decide +kernel⟩, by decide +kernel, rfl, rfl⟩ (show decode cX11_init 31 = .ok (.invokespecial 21, 3) by decide +kernel) rfl (Nat.le_of_ble_eq_true rfl) (Nat.le_refl _) (Nat.le_of_ble_eq_true rfl) (by decide) ?_
  refine n_X1 (n := 266) (n' := 269) (a := 266) rfl rfl (by decide) (by decide) rfl rfl rfl rfl (fun j => zr_at) (fun j => zr_at) (fun r hr => ?_)
  rw [jp9 hr]
  refine pf_X11_22 rfl rfl (show decode cX11_init 34 = .ok (.putfield 22, 3) by decide +kernel) (okb (n := 269) rfl (by decide) (by decide)) (by decide) ?_
  refine s_aload_n (i := 0) (x := 1) rfl (show decode cX11_init 37 = .ok (.aload_n 0, 1) by decide +kernel) ?_
  refine j_iconst (show decode cX11_init 38 = .ok (.iconst 4, 1) by decide +kernel) ?_
  refine s_newr (t := 5) (N := 4) (C := RX8) (c := 270) (n' := 270) (Or.inr ⟨rfl, rfl⟩) rfl (by decide) (tt_in 285 (by decide +kernel) rfl) rfl rfl (by decide +kernel) (Nat.le_of_ble_eq_true rfl) (show decode cX11_init 39 = .ok (.anewarray 26, 3) by decide +kernel) ?_
  refine pf_X11_28 rfl rfl (show decode cX11_init 42 = .ok (.putfield 28, 3) by decide +kernel) (okb (n := 270) rfl (by decide) (by decide)) (by decide) ?_
  refine s_aload_n (i := 0) (x := 1) rfl (show decode cX11_init 45 = .ok (.aload_n 0, 1) by decide +kernel) ?_
  refine nw_X3 (c := 271) (n' := 271) (tt_in 287 (by decide +kernel) rfl) rfl rfl (by decide +kernel) (Nat.le_of_ble_eq_true rfl) (show decode cX11_init 46 = .ok (.new 32, 3) by decide +kernel) ?_
  refine j_dup (show (2 : Nat) ≠ 1 by decide) (show decode cX11_init 49 = .ok (.dup, 1) by decide +kernel) ?_
  refine j_callN (m' := mX3_init) (k := 1) (n := 0) (a := 271) (As := []) (host := RX11) ⟨⟨List.mem_of_getElem? (i := 2) rfl, tt_in 290 (by decide +kernel) rfl, tt_in 134 (by decide +kernel) rfl, tt_in 291 (by decide +kernel) rfl⟩, ⟨by decide +kernel, by decide +kernel, by decide +kernel⟩, by decide +kernel, rfl, rfl⟩ (show decode cX11_init 50 = .ok (.invokespecial 34, 3) by decide +kernel) rfl (Nat.le_of_ble_eq_true rfl) (Nat.le_refl _) (Nat.le_of_ble_eq_true rfl) (by decide) ?_
  refine n_X3_271 (fun j => zr_at) (fun j => zr_at) (fun r hr => ?_)
  rw [jp9 hr]
  refine pf_X11_35 rfl rfl (show decode cX11_init 53 = .ok (.putfield 35, 3) by decide +kernel) (okb (n := 272) rfl (by decide) (by decide)) (by decide) ?_
  refine s_aload_n (i := 0) (x := 1) rfl (show decode cX11_init 56 = .ok (.aload_n 0, 1) by decide +kernel) ?_
  refine nw_X2 (c := 273) (n' := 273) (tt_in 327 (by decide +kernel) rfl) rfl rfl (by decide +kernel) (Nat.le_of_ble_eq_true rfl) (show decode cX11_init 57 = .ok (.new 39, 3) by decide +kernel) ?_
  refine j_dup (show (2 : Nat) ≠ 1 by decide) (show decode cX11_init 60 = .ok (.dup, 1) by decide +kernel) ?_
  refine j_callN (m' := mX2_init) (k := 1) (n := 0) (a := 273) (As := []) (host := RX11) ⟨⟨List.mem_of_getElem? (i := 3) rfl, tt_in 330 (by decide +kernel) rfl, tt_in 135 (by decide +kernel) rfl, tt_in 331 (by decide +kernel) rfl⟩, ⟨by decide +kernel, by decide +kernel, by decide +kernel⟩, by decide +kernel, rfl, rfl⟩ (show decode cX11_init 61 = .ok (.invokespecial 41, 3) by decide +kernel) rfl (Nat.le_of_ble_eq_true rfl) (Nat.le_refl _) (Nat.le_of_ble_eq_true rfl) (by decide) ?_
  refine n_X2_273 (fun j => zr_at) (fun j => zr_at) (fun r hr => ?_)
  rw [jp9 hr]
  refine pf_X11_42 rfl rfl (show decode cX11_init 64 = .ok (.putfield 42, 3) by decide +kernel) (okb (n := 274) rfl (by decide) (by decide)) (by decide) ?_
  refine s_aload_n (i := 0) (x := 1) rfl (show decode cX11_init 67 = .ok (.aload_n 0, 1) by decide +kernel) ?_
  refine nw_X0 (c := 275) (n' := 275) (tt_in 340 (by decide +kernel) rfl) rfl rfl (by decide +kernel) (Nat.le_of_ble_eq_true rfl) (show decode cX11_init 68 = .ok (.new 46, 3) by decide +kernel) ?_
  refine j_dup (show (2 : Nat) ≠ 1 by decide) (show decode cX11_init 71 = .ok (.dup, 1) by decide +kernel) ?_
  refine j_callN (m' := mX0_init) (k := 10) (n := 0) (a := 275) (As := []) (host := RX11) ⟨⟨List.mem_of_getElem? (i := 4) rfl, tt_in 343 (by decide +kernel) rfl, tt_in 136 (by decide +kernel) rfl, tt_in 344 (by decide +kernel) rfl⟩, ⟨by decide +kernel, by decide +kernel, by decide +kernel⟩, by decide +kernel, rfl, rfl⟩ (show decode cX11_init 72 = .ok (.invokespecial 48, 3) by decide +kernel) rfl (Nat.le_of_ble_eq_true rfl) (Nat.le_refl _) (Nat.le_of_ble_eq_true rfl) (by decide) ?_
  refine n_X0_275 (fun j => zr_at) (fun j => zr_at) (fun r hr => ?_)
  rw [jp9 hr]
  refine pf_X11_49 rfl rfl (show decode cX11_init 75 = .ok (.putfield 49, 3) by decide +kernel) (okb (n := 285) rfl (by decide) (by decide)) (by decide) ?_
  refine s_aload_n (i := 0) (x := 1) rfl (show decode cX11_init 78 = .ok (.aload_n 0, 1) by decide +kernel) ?_
  refine nw_X5 (c := 286) (n' := 286) (tt_in 391 (by decide +kernel) rfl) rfl rfl (by decide +kernel) (Nat.le_of_ble_eq_true rfl) (show decode cX11_init 79 = .ok (.new 53, 3) by decide +kernel) ?_
  refine j_dup (show (2 : Nat) ≠ 1 by decide) (show decode cX11_init 82 = .ok (.dup, 1) by decide +kernel) ?_
  refine j_callN (m' := mX5_init) (k := 0) (n := 0) (a := 286) (As := []) (host := RX11) ⟨⟨List.mem_of_getElem? (i := 5) rfl, tt_in 394 (by decide +kernel) rfl, tt_in 137 (by decide +kernel) rfl, tt_in 395 (by decide +kernel) rfl⟩, ⟨by decide +kernel, by decide +kernel, by decide +kernel⟩, by decide +kernel, rfl, rfl⟩ (show decode cX11_init 83 = .ok (.invokespecial 55, 3) by decide +kernel) rfl (Nat.le_of_ble_eq_true rfl) (Nat.le_refl _) (Nat.le_of_ble_eq_true rfl) (by decide) ?_
  refine n_X5_286 (fun j => zr_at) (fun j => zr_at) (fun r hr => ?_)
  rw [jp9 hr]
  refine pf_X11_56 rfl rfl (show decode cX11_init 86 = .ok (.putfield 56, 3) by decide +kernel) (okb (n := 286) rfl (by decide) (by decide)) (by decide) ?_
  refine s_aload_n (i := 0) (x := 1) rfl (show decode cX11_init 89 = .ok (.aload_n 0, 1) by decide +kernel) ?_
  refine nw_X4 (c := 287) (n' := 287) (tt_in 410 (by decide +kernel) rfl) rfl rfl (by decide +kernel) (Nat.le_of_ble_eq_true rfl) (show decode cX11_init 90 = .ok (.new 60, 3) by decide +kernel) ?_
  refine j_dup (show (2 : Nat) ≠ 1 by decide) (show decode cX11_init 93 = .ok (.dup, 1) by decide +kernel) ?_
  refine j_callI (m' := mX4_init) (k := 2) (n := 0) (a := 287) (As := []) (cw_X11_62 rfl) (show decode cX11_init 94 = .ok (.invokespecial 62, 3) by decide +kernel) rfl (Nat.le_of_ble_eq_true rfl) (Nat.le_refl _) (Nat.le_of_ble_eq_true rfl) (by decide) ?_
  refine n_X4_287 (fun j => zr_at) (fun j => zr_at) (fun r hr => ?_)
  rw [jp9 hr]
  refine pf_X11_63 rfl rfl (show decode cX11_init 97 = .ok (.putfield 63, 3) by decide +kernel) (okb (n := 289) rfl (by decide) (by decide)) (by decide) ?_
  refine s_aload_n (i := 0) (x := 1) rfl (show decode cX11_init 100 = .ok (.aload_n 0, 1) by decide +kernel) ?_
  refine nw_X6 (c := 290) (n' := 290) (tt_in 429 (by decide +kernel) rfl) rfl rfl (by decide +kernel) (Nat.le_of_ble_eq_true rfl) (show decode cX11_init 101 = .ok (.new 67, 3) by decide +kernel) ?_
  refine j_dup (show (2 : Nat) ≠ 1 by decide) (show decode cX11_init 104 = .ok (.dup, 1) by decide +kernel) ?_
  refine j_callN (m' := mX6_init) (k := 2) (n := 0) (a := 290) (As := []) (host := RX11) ⟨⟨List.mem_of_getElem? (i := 6) rfl, tt_in 432 (by decide +kernel) rfl, tt_in 139 (by decide +kernel) rfl, tt_in 433 (by decide +kernel) rfl⟩, ⟨by decide +kernel, by decide +kernel, by decide +kernel⟩, by decide +kernel, rfl, rfl⟩ (show decode cX11_init 105 = .ok (.invokespecial 69, 3) by decide +kernel) rfl (Nat.le_of_ble_eq_true rfl) (Nat.le_refl _) (Nat.le_of_ble_eq_true rfl) (by decide) ?_
  refine n_X6_290 (fun j => zr_at) (fun j => zr_at) (fun r hr => ?_)
  rw [jp9 hr]
  refine pf_X11_70 rfl rfl (show decode cX11_init 108 = .ok (.putfield 70, 3) by decide +kernel) (okb (n := 292) rfl (by decide) (by decide)) (by decide) ?_
  refine j_iconst (show decode cX11_init 111 = .ok (.iconst 0, 1) by decide +kernel) ?_
  refine s_ist_n (i := 1) (L' := [rv 1, iv 0]) rfl (by decide) (show decode cX11_init 112 = .ok (.istore_n 1, 1) by decide +kernel) ?_
  refine j_iload_n (i := 1) (x := 0) rfl (show decode cX11_init 113 = .ok (.iload_n 1, 1) by decide +kernel) ?_
  refine j_iconst (show decode cX11_init 114 = .ok (.iconst 4, 1) by decide +kernel) ?_
  refine j_icmp_ge (tgt := 137) (inl (by decide)) (inl (by decide)) (show decode cX11_init 115 = .ok (.if_icmp .ge 22, 3) by decide +kernel) (by decide) (fun z => absurd z (by decide)) (fun _ => ?_)
  refine s_aload_n (i := 0) (x := 1) rfl (show decode cX11_init 118 = .ok (.aload_n 0, 1) by decide +kernel) ?_
  refine gf_X11_28 (x := 270) rfl (show decode cX11_init 119 = .ok (.getfield 28, 3) by decide +kernel) (okb (n := 292) rfl (by decide) (by decide)) rfl ?_
  refine j_iload_n (i := 1) (x := 0) rfl (show decode cX11_init 122 = .ok (.iload_n 1, 1) by decide +kernel) ?_
  refine nw_X8 (c := 293) (n' := 293) (tt_in 285 (by decide +kernel) rfl) rfl rfl (by decide +kernel) (Nat.le_of_ble_eq_true rfl) (show decode cX11_init 123 = .ok (.new 26, 3) by decide +kernel) ?_
  refine j_dup (show (2 : Nat) ≠ 1 by decide) (show decode cX11_init 126 = .ok (.dup, 1) by decide +kernel) ?_
  refine j_callN (m' := mX8_init) (k := 6) (n := 0) (a := 293) (As := []) (host := RX11) ⟨⟨List.mem_of_getElem? (i := 7) rfl, tt_in 447 (by decide +kernel) rfl, tt_in 140 (by decide +kernel) rfl, tt_in 448 (by decide +kernel) rfl⟩, ⟨by decide +kernel, by decide +kernel, by decide +kernel⟩, by decide +kernel, rfl, rfl⟩ (show decode cX11_init 127 = .ok (.invokespecial 74, 3) by decide +kernel) rfl (Nat.le_of_ble_eq_true rfl) (Nat.le_refl _) (Nat.le_of_ble_eq_true rfl) (by decide) ?_
  refine n_X8_293 (fun j => zr_at) (fun j => zr_at) (fun r hr => ?_)
  rw [jp9 hr]
  refine j_aast5 (n := 4) (show decode cX11_init 130 = .ok (.aastore, 1) by decide +kernel) (okr (n := 299) rfl (by decide) (by decide)) (by decide) (by decide) (okb (n := 299) rfl (by decide) (by decide)) ?_
  refine s_iinc (i := 1) rfl (L' := [rv 1, iv 1]) rfl (show decode cX11_init 131 = .ok (.iinc 1 1, 3) by decide +kernel) ?_
  refine j_goto (tgt := 113) (show decode cX11_init 134 = .ok (.goto (-21), 3) by decide +kernel) (by decide) ?_
  refine j_iload_n (i := 1) (x := 1) rfl (show decode cX11_init 113 = .ok (.iload_n 1, 1) by decide +kernel) ?_
  refine j_iconst (show decode cX11_init 114 = .ok (.iconst 4, 1) by decide +kernel) ?_
  refine j_icmp_ge (tgt := 137) (inl (by decide)) (inl (by decide)) (show decode cX11_init 115 = .ok (.if_icmp .ge 22, 3) by decide +kernel) (by decide) (fun z => absurd z (by decide)) (fun _ => ?_)
  refine s_aload_n (i := 0) (x := 1) rfl (show decode cX11_init 118 = .ok (.aload_n 0, 1) by decide +kernel) ?_
  refine gf_X11_28 (x := 270) rfl (show decode cX11_init 119 = .ok (.getfield 28, 3) by decide +kernel) (okb (n := 299) rfl (by decide) (by decide)) rfl ?_
  refine j_iload_n (i := 1) (x := 1) rfl (show decode cX11_init 122 = .ok (.iload_n 1, 1) by decide +kernel) ?_
  refine nw_X8 (c := 300) (n' := 300) (tt_in 285 (by decide +kernel) rfl) rfl rfl (by decide +kernel) (Nat.le_of_ble_eq_true rfl) (show decode cX11_init 123 = .ok (.new 26, 3) by decide +kernel) ?_
  refine j_dup (show (2 : Nat) ≠ 1 by decide) (show decode cX11_init 126 = .ok (.dup, 1) by decide +kernel) ?_
  refine j_callN (m' := mX8_init) (k := 6) (n := 0) (a := 300) (As := []) (host := RX11) ⟨⟨List.mem_of_getElem? (i := 7) rfl, tt_in 447 (by decide +kernel) rfl, tt_in 140 (by decide +kernel) rfl, tt_in 448 (by decide +kernel) rfl⟩, ⟨by decide +kernel, by decide +kernel, by decide +kernel⟩, by decide +kernel, rfl, rfl⟩ (show decode cX11_init 127 = .ok (.invokespecial 74, 3) by decide +kernel) rfl (Nat.le_of_ble_eq_true rfl) (Nat.le_refl _) (Nat.le_of_ble_eq_true rfl) (by decide) ?_
  refine n_X8_300 (fun j => zr_at) (fun j => zr_at) (fun r hr => ?_)
  rw [jp9 hr]
  refine j_aast5 (n := 4) (show decode cX11_init 130 = .ok (.aastore, 1) by decide +kernel) (okr (n := 306) rfl (by decide) (by decide)) (by decide) (by decide) (okb (n := 306) rfl (by decide) (by decide)) ?_
  refine s_iinc (i := 1) rfl (L' := [rv 1, iv 2]) rfl (show decode cX11_init 131 = .ok (.iinc 1 1, 3) by decide +kernel) ?_
  refine j_goto (tgt := 113) (show decode cX11_init 134 = .ok (.goto (-21), 3) by decide +kernel) (by decide) ?_
  refine j_iload_n (i := 1) (x := 2) rfl (show decode cX11_init 113 = .ok (.iload_n 1, 1) by decide +kernel) ?_
  refine j_iconst (show decode cX11_init 114 = .ok (.iconst 4, 1) by decide +kernel) ?_
  refine j_icmp_ge (tgt := 137) (inl (by decide)) (inl (by decide)) (show decode cX11_init 115 = .ok (.if_icmp .ge 22, 3) by decide +kernel) (by decide) (fun z => absurd z (by decide)) (fun _ => ?_)
  refine s_aload_n (i := 0) (x := 1) rfl (show decode cX11_init 118 = .ok (.aload_n 0, 1) by decide +kernel) ?_
  refine gf_X11_28 (x := 270) rfl (show decode cX11_init 119 = .ok (.getfield 28, 3) by decide +kernel) (okb (n := 306) rfl (by decide) (by decide)) rfl ?_
  refine j_iload_n (i := 1) (x := 2) rfl (show decode cX11_init 122 = .ok (.iload_n 1, 1) by decide +kernel) ?_
  refine nw_X8 (c := 307) (n' := 307) (tt_in 285 (by decide +kernel) rfl) rfl rfl (by decide +kernel) (Nat.le_of_ble_eq_true rfl) (show decode cX11_init 123 = .ok (.new 26, 3) by decide +kernel) ?_
  refine j_dup (show (2 : Nat) ≠ 1 by decide) (show decode cX11_init 126 = .ok (.dup, 1) by decide +kernel) ?_
  refine j_callN (m' := mX8_init) (k := 6) (n := 0) (a := 307) (As := []) (host := RX11) ⟨⟨List.mem_of_getElem? (i := 7) rfl, tt_in 447 (by decide +kernel) rfl, tt_in 140 (by decide +kernel) rfl, tt_in 448 (by decide +kernel) rfl⟩, ⟨by decide +kernel, by decide +kernel, by decide +kernel⟩, by decide +kernel, rfl, rfl⟩ (show decode cX11_init 127 = .ok (.invokespecial 74, 3) by decide +kernel) rfl (Nat.le_of_ble_eq_true rfl) (Nat.le_refl _) (Nat.le_of_ble_eq_true rfl) (by decide) ?_
  refine n_X8_307 (fun j => zr_at) (fun j => zr_at) (fun r hr => ?_)
  rw [jp9 hr]
  refine j_aast5 (n := 4) (show decode cX11_init 130 = .ok (.aastore, 1) by decide +kernel) (okr (n := 313) rfl (by decide) (by decide)) (by decide) (by decide) (okb (n := 313) rfl (by decide) (by decide)) ?_
  refine s_iinc (i := 1) rfl (L' := [rv 1, iv 3]) rfl (show decode cX11_init 131 = .ok (.iinc 1 1, 3) by decide +kernel) ?_
  refine j_goto (tgt := 113) (show decode cX11_init 134 = .ok (.goto (-21), 3) by decide +kernel) (by decide) ?_
  refine j_iload_n (i := 1) (x := 3) rfl (show decode cX11_init 113 = .ok (.iload_n 1, 1) by decide +kernel) ?_
  refine j_iconst (show decode cX11_init 114 = .ok (.iconst 4, 1) by decide +kernel) ?_
  refine j_icmp_ge (tgt := 137) (inl (by decide)) (inl (by decide)) (show decode cX11_init 115 = .ok (.if_icmp .ge 22, 3) by decide +kernel) (by decide) (fun z => absurd z (by decide)) (fun _ => ?_)
  refine s_aload_n (i := 0) (x := 1) rfl (show decode cX11_init 118 = .ok (.aload_n 0, 1) by decide +kernel) ?_
  refine gf_X11_28 (x := 270) rfl (show decode cX11_init 119 = .ok (.getfield 28, 3) by decide +kernel) (okb (n := 313) rfl (by decide) (by decide)) rfl ?_
  refine j_iload_n (i := 1) (x := 3) rfl (show decode cX11_init 122 = .ok (.iload_n 1, 1) by decide +kernel) ?_
  refine nw_X8 (c := 314) (n' := 314) (tt_in 285 (by decide +kernel) rfl) rfl rfl (by decide +kernel) (Nat.le_of_ble_eq_true rfl) (show decode cX11_init 123 = .ok (.new 26, 3) by decide +kernel) ?_
  refine j_dup (show (2 : Nat) ≠ 1 by decide) (show decode cX11_init 126 = .ok (.dup, 1) by decide +kernel) ?_
  refine j_callN (m' := mX8_init) (k := 6) (n := 0) (a := 314) (As := []) (host := RX11) ⟨⟨List.mem_of_getElem? (i := 7) rfl, tt_in 447 (by decide +kernel) rfl, tt_in 140 (by decide +kernel) rfl, tt_in 448 (by decide +kernel) rfl⟩, ⟨by decide +kernel, by decide +kernel, by decide +kernel⟩, by decide +kernel, rfl, rfl⟩ (show decode cX11_init 127 = .ok (.invokespecial 74, 3) by decide +kernel) rfl (Nat.le_of_ble_eq_true rfl) (Nat.le_refl _) (Nat.le_of_ble_eq_true rfl) (by decide) ?_
  refine n_X8_314 (fun j => zr_at) (fun j => zr_at) (fun r hr => ?_)
  rw [jp9 hr]
  refine j_aast5 (n := 4) (show decode cX11_init 130 = .ok (.aastore, 1) by decide +kernel) (okr (n := 320) rfl (by decide) (by decide)) (by decide) (by decide) (okb (n := 320) rfl (by decide) (by decide)) ?_
  refine s_iinc (i := 1) rfl (L' := [rv 1, iv 4]) rfl (show decode cX11_init 131 = .ok (.iinc 1 1, 3) by decide +kernel) ?_
  refine j_goto (tgt := 113) (show decode cX11_init 134 = .ok (.goto (-21), 3) by decide +kernel) (by decide) ?_
  refine j_iload_n (i := 1) (x := 4) rfl (show decode cX11_init 113 = .ok (.iload_n 1, 1) by decide +kernel) ?_
  refine j_iconst (show decode cX11_init 114 = .ok (.iconst 4, 1) by decide +kernel) ?_
  refine j_icmp_ge (tgt := 137) (inl (by decide)) (inl (by decide)) (show decode cX11_init 115 = .ok (.if_icmp .ge 22, 3) by decide +kernel) (by decide) (fun _ => ?_) (fun z => absurd z (by decide))
  refine J_cong (G' := gr 0) (σ' := ti) ?_ ?_
  · intro c c0 c1 j hj
    have c1 : c ≤ (320 : Int) := c1
    rcases (show c = 1 ∨ (2 ≤ c ∧ c ≤ 133) ∨ (134 ≤ c ∧ c ≤ 265) ∨ (266 ≤ c ∧ c ≤ 269) ∨ c = 270 ∨ (271 ≤ c ∧ c ≤ 272) ∨ (273 ≤ c ∧ c ≤ 274) ∨ (275 ≤ c ∧ c ≤ 285) ∨ (286 ≤ c ∧ c ≤ 286) ∨ (287 ≤ c ∧ c ≤ 289) ∨ (290 ≤ c ∧ c ≤ 292) ∨ (293 ≤ c ∧ c ≤ 299) ∨ (300 ≤ c ∧ c ≤ 306) ∨ (307 ≤ c ∧ c ≤ 313) ∨ (314 ≤ c ∧ c ≤ 320) by omega) with e | e | e | e | e | e | e | e | e | e | e | e | e | e | e
    · subst e; have hj : j < 10 := hj; rcases (show j = 0 ∨ j = 1 ∨ j = 2 ∨ j = 3 ∨ j = 4 ∨ j = 5 ∨ j = 6 ∨ j = 7 ∨ j = 8 ∨ j = 9 by omega) with rfl | rfl | rfl | rfl | rfl | rfl | rfl | rfl | rfl | rfl <;> exact ⟨rfl, rfl⟩
    · refine ⟨?_, ?_⟩
      · (try dsimp only); rw [up_row (by omega), mix_lo (by omega), zr_row (by omega), up_row (by omega), mix_lo (by omega), zr_row (by omega), up_row (by omega), mix_lo (by omega), zr_row (by omega), up_row (by omega), mix_lo (by omega), zr_row (by omega), up_row (by omega), mix_lo (by omega), zr_row (by omega), up_row (by omega), mix_lo (by omega), zr_row (by omega), up_row (by omega), mix_lo (by omega), zr_row (by omega), up_row (by omega), mix_lo (by omega), zr_row (by omega), up_row (by omega), mix_lo (by omega), zr_row (by omega), up_row (by omega), mix_lo (by omega), zr_row (by omega), up_row (by omega), zr_row (by omega), up_row (by omega), mix_lo (by omega), zr_row (by omega), up_row (by omega), mix_lo (by omega), zr_row (by omega), up_row (by omega), mix_hi (by omega)]
      · (try dsimp only); rw [mix_lo (by omega), zr_row (by omega), mix_lo (by omega), zr_row (by omega), mix_lo (by omega), zr_row (by omega), mix_lo (by omega), zr_row (by omega), mix_lo (by omega), zr_row (by omega), mix_lo (by omega), zr_row (by omega), mix_lo (by omega), zr_row (by omega), mix_lo (by omega), zr_row (by omega), mix_lo (by omega), zr_row (by omega), mix_lo (by omega), zr_row (by omega), zr_row (by omega), mix_lo (by omega), zr_row (by omega), mix_lo (by omega), zr_row (by omega), mix_hi (by omega)]
    · refine ⟨?_, ?_⟩
      · (try dsimp only); rw [up_row (by omega), mix_lo (by omega), zr_row (by omega), up_row (by omega), mix_lo (by omega), zr_row (by omega), up_row (by omega), mix_lo (by omega), zr_row (by omega), up_row (by omega), mix_lo (by omega), zr_row (by omega), up_row (by omega), mix_lo (by omega), zr_row (by omega), up_row (by omega), mix_lo (by omega), zr_row (by omega), up_row (by omega), mix_lo (by omega), zr_row (by omega), up_row (by omega), mix_lo (by omega), zr_row (by omega), up_row (by omega), mix_lo (by omega), zr_row (by omega), up_row (by omega), mix_lo (by omega), zr_row (by omega), up_row (by omega), zr_row (by omega), up_row (by omega), mix_lo (by omega), zr_row (by omega), up_row (by omega), mix_hi (by omega)]
      · (try dsimp only); rw [mix_lo (by omega), zr_row (by omega), mix_lo (by omega), zr_row (by omega), mix_lo (by omega), zr_row (by omega), mix_lo (by omega), zr_row (by omega), mix_lo (by omega), zr_row (by omega), mix_lo (by omega), zr_row (by omega), mix_lo (by omega), zr_row (by omega), mix_lo (by omega), zr_row (by omega), mix_lo (by omega), zr_row (by omega), mix_lo (by omega), zr_row (by omega), zr_row (by omega), mix_lo (by omega), zr_row (by omega), mix_hi (by omega)]
    · refine ⟨?_, ?_⟩
      · (try dsimp only); rw [up_row (by omega), mix_lo (by omega), zr_row (by omega), up_row (by omega), mix_lo (by omega), zr_row (by omega), up_row (by omega), mix_lo (by omega), zr_row (by omega), up_row (by omega), mix_lo (by omega), zr_row (by omega), up_row (by omega), mix_lo (by omega), zr_row (by omega), up_row (by omega), mix_lo (by omega), zr_row (by omega), up_row (by omega), mix_lo (by omega), zr_row (by omega), up_row (by omega), mix_lo (by omega), zr_row (by omega), up_row (by omega), mix_lo (by omega), zr_row (by omega), up_row (by omega), mix_lo (by omega), zr_row (by omega), up_row (by omega), zr_row (by omega), up_row (by omega), mix_hi (by omega)]
      · (try dsimp only); rw [mix_lo (by omega), zr_row (by omega), mix_lo (by omega), zr_row (by omega), mix_lo (by omega), zr_row (by omega), mix_lo (by omega), zr_row (by omega), mix_lo (by omega), zr_row (by omega), mix_lo (by omega), zr_row (by omega), mix_lo (by omega), zr_row (by omega), mix_lo (by omega), zr_row (by omega), mix_lo (by omega), zr_row (by omega), mix_lo (by omega), zr_row (by omega), zr_row (by omega), mix_hi (by omega)]
    · subst e; have hj : j < 4 := hj; rcases (show j = 0 ∨ j = 1 ∨ j = 2 ∨ j = 3 by omega) with rfl | rfl | rfl | rfl <;> exact ⟨rfl, rfl⟩
    · refine ⟨?_, ?_⟩
      · (try dsimp only); rw [up_row (by omega), mix_lo (by omega), zr_row (by omega), up_row (by omega), mix_lo (by omega), zr_row (by omega), up_row (by omega), mix_lo (by omega), zr_row (by omega), up_row (by omega), mix_lo (by omega), zr_row (by omega), up_row (by omega), mix_lo (by omega), zr_row (by omega), up_row (by omega), mix_lo (by omega), zr_row (by omega), up_row (by omega), mix_lo (by omega), zr_row (by omega), up_row (by omega), mix_lo (by omega), zr_row (by omega), up_row (by omega), mix_lo (by omega), zr_row (by omega), up_row (by omega), mix_hi (by omega)]
      · (try dsimp only); rw [mix_lo (by omega), zr_row (by omega), mix_lo (by omega), zr_row (by omega), mix_lo (by omega), zr_row (by omega), mix_lo (by omega), zr_row (by omega), mix_lo (by omega), zr_row (by omega), mix_lo (by omega), zr_row (by omega), mix_lo (by omega), zr_row (by omega), mix_lo (by omega), zr_row (by omega), mix_lo (by omega), zr_row (by omega), mix_hi (by omega)]
    · refine ⟨?_, ?_⟩
      · (try dsimp only); rw [up_row (by omega), mix_lo (by omega), zr_row (by omega), up_row (by omega), mix_lo (by omega), zr_row (by omega), up_row (by omega), mix_lo (by omega), zr_row (by omega), up_row (by omega), mix_lo (by omega), zr_row (by omega), up_row (by omega), mix_lo (by omega), zr_row (by omega), up_row (by omega), mix_lo (by omega), zr_row (by omega), up_row (by omega), mix_lo (by omega), zr_row (by omega), up_row (by omega), mix_lo (by omega), zr_row (by omega), up_row (by omega), mix_hi (by omega)]
      · (try dsimp only); rw [mix_lo (by omega), zr_row (by omega), mix_lo (by omega), zr_row (by omega), mix_lo (by omega), zr_row (by omega), mix_lo (by omega), zr_row (by omega), mix_lo (by omega), zr_row (by omega), mix_lo (by omega), zr_row (by omega), mix_lo (by omega), zr_row (by omega), mix_lo (by omega), zr_row (by omega), mix_hi (by omega)]
    · refine ⟨?_, ?_⟩
      · (try dsimp only); rw [up_row (by omega), mix_lo (by omega), zr_row (by omega), up_row (by omega), mix_lo (by omega), zr_row (by omega), up_row (by omega), mix_lo (by omega), zr_row (by omega), up_row (by omega), mix_lo (by omega), zr_row (by omega), up_row (by omega), mix_lo (by omega), zr_row (by omega), up_row (by omega), mix_lo (by omega), zr_row (by omega), up_row (by omega), mix_lo (by omega), zr_row (by omega), up_row (by omega), mix_hi (by omega)]
      · (try dsimp only); rw [mix_lo (by omega), zr_row (by omega), mix_lo (by omega), zr_row (by omega), mix_lo (by omega), zr_row (by omega), mix_lo (by omega), zr_row (by omega), mix_lo (by omega), zr_row (by omega), mix_lo (by omega), zr_row (by omega), mix_lo (by omega), zr_row (by omega), mix_hi (by omega)]
    · refine ⟨?_, ?_⟩
      · (try dsimp only); rw [up_row (by omega), mix_lo (by omega), zr_row (by omega), up_row (by omega), mix_lo (by omega), zr_row (by omega), up_row (by omega), mix_lo (by omega), zr_row (by omega), up_row (by omega), mix_lo (by omega), zr_row (by omega), up_row (by omega), mix_lo (by omega), zr_row (by omega), up_row (by omega), mix_lo (by omega), zr_row (by omega), up_row (by omega), mix_hi (by omega)]
      · (try dsimp only); rw [mix_lo (by omega), zr_row (by omega), mix_lo (by omega), zr_row (by omega), mix_lo (by omega), zr_row (by omega), mix_lo (by omega), zr_row (by omega), mix_lo (by omega), zr_row (by omega), mix_lo (by omega), zr_row (by omega), mix_hi (by omega)]
    · refine ⟨?_, ?_⟩
      · (try dsimp only); rw [up_row (by omega), mix_lo (by omega), zr_row (by omega), up_row (by omega), mix_lo (by omega), zr_row (by omega), up_row (by omega), mix_lo (by omega), zr_row (by omega), up_row (by omega), mix_lo (by omega), zr_row (by omega), up_row (by omega), mix_lo (by omega), zr_row (by omega), up_row (by omega), mix_hi (by omega)]
      · (try dsimp only); rw [mix_lo (by omega), zr_row (by omega), mix_lo (by omega), zr_row (by omega), mix_lo (by omega), zr_row (by omega), mix_lo (by omega), zr_row (by omega), mix_lo (by omega), zr_row (by omega), mix_hi (by omega)]
    · refine ⟨?_, ?_⟩
      · (try dsimp only); rw [up_row (by omega), mix_lo (by omega), zr_row (by omega), up_row (by omega), mix_lo (by omega), zr_row (by omega), up_row (by omega), mix_lo (by omega), zr_row (by omega), up_row (by omega), mix_lo (by omega), zr_row (by omega), up_row (by omega), mix_hi (by omega)]
      · (try dsimp only); rw [mix_lo (by omega), zr_row (by omega), mix_lo (by omega), zr_row (by omega), mix_lo (by omega), zr_row (by omega), mix_lo (by omega), zr_row (by omega), mix_hi (by omega)]
    · refine ⟨?_, ?_⟩
      · (try dsimp only); rw [up_row (by omega), mix_lo (by omega), zr_row (by omega), up_row (by omega), mix_lo (by omega), zr_row (by omega), up_row (by omega), mix_lo (by omega), zr_row (by omega), up_row (by omega), mix_hi (by omega)]
      · (try dsimp only); rw [mix_lo (by omega), zr_row (by omega), mix_lo (by omega), zr_row (by omega), mix_lo (by omega), zr_row (by omega), mix_hi (by omega)]
    · refine ⟨?_, ?_⟩
      · (try dsimp only); rw [up_row (by omega), mix_lo (by omega), zr_row (by omega), up_row (by omega), mix_lo (by omega), zr_row (by omega), up_row (by omega), mix_hi (by omega)]
      · (try dsimp only); rw [mix_lo (by omega), zr_row (by omega), mix_lo (by omega), zr_row (by omega), mix_hi (by omega)]
    · refine ⟨?_, ?_⟩
      · (try dsimp only); rw [up_row (by omega), mix_lo (by omega), zr_row (by omega), up_row (by omega), mix_hi (by omega)]
      · (try dsimp only); rw [mix_lo (by omega), zr_row (by omega), mix_hi (by omega)]
    · refine ⟨?_, ?_⟩
      · (try dsimp only); rw [up_row (by omega), mix_hi (by omega)]
      · (try dsimp only); rw [mix_hi (by omega)]
  refine s_aload_n (i := 0) (x := 1) rfl (show decode cX11_init 137 = .ok (.aload_n 0, 1) by decide +kernel) ?_
  refine gf_X11_10 (x := 2) rfl (show decode cX11_init 138 = .ok (.getfield 10, 3) by decide +kernel) (okb (n := 320) rfl (by decide) (by decide)) rfl ?_
  refine gf_X11_75 (x := 3) rfl (show decode cX11_init 141 = .ok (.getfield 75, 3) by decide +kernel) (okb (n := 320) rfl (by decide) (by decide)) rfl ?_
  refine gf_X11_78 (x := 4) rfl (show decode cX11_init 144 = .ok (.getfield 78, 3) by decide +kernel) (okb (n := 320) rfl (by decide) (by decide)) rfl ?_
  refine j_iconst (show decode cX11_init 147 = .ok (.iconst 0, 1) by decide +kernel) ?_
  refine j_iconst (show decode cX11_init 148 = .ok (.iconst 1, 1) by decide +kernel) ?_
  refine j_iast (n := 8) (show decode cX11_init 149 = .ok (.iastore, 1) by decide +kernel) (okr (n := 320) rfl (by decide) (by decide)) (by decide) (by decide) ?_
  refine s_aload_n (i := 0) (x := 1) rfl (show decode cX11_init 150 = .ok (.aload_n 0, 1) by decide +kernel) ?_
  refine gf_X11_16 (x := 134) rfl (show decode cX11_init 151 = .ok (.getfield 16, 3) by decide +kernel) (okb (n := 320) rfl (by decide) (by decide)) rfl ?_
  refine s_aload_n (i := 0) (x := 1) rfl (show decode cX11_init 154 = .ok (.aload_n 0, 1) by decide +kernel) ?_
  refine gf_X11_10 (x := 2) rfl (show decode cX11_init 155 = .ok (.getfield 10, 3) by decide +kernel) (okb (n := 320) rfl (by decide) (by decide)) rfl ?_
  refine jh_ctVv (m' := mX10_copyFrom) (As := [rv 2]) (ci := 10) (N := 0) (F := fun _ σ' => agC 320 (gr 0) (gr 0) σ' tj) (cw_X11_82 rfl) (show decode cX11_init 158 = .ok (.invokevirtual 82, 3) by decide +kernel) rfl (Nat.le_of_ble_eq_true rfl) (okb (n := 320) rfl (by decide) (by decide)) rfl rfl (Nat.le_of_ble_eq_true rfl) ?_ ?_
  · refine Ch_of (by decide +kernel) (Nat.le_of_ble_eq_true rfl) (hh_X10_copyFrom_0 ?_)
    refine Ch_of (by decide +kernel) (Nat.le_of_ble_eq_true rfl) (hh_X1_copyFrom_0 (fun s1 e1 s2 e2 s3 e3 s4 e4 s5 e5 s6 e6 s7 e7 s8 e8 => ?_))
    refine Ch_of (by decide +kernel) (Nat.le_of_ble_eq_true rfl) (hh_X7_copyFrom_0 (fun t1 f1 t2 f2 => ?_))
    subst e1 e2 e3 e4 e5 e6 e7 e8 f1 f2
    refine hh_X7_copyFrom_18 rfl ?_
    refine Ch_of (by decide +kernel) (Nat.le_of_ble_eq_true rfl) (hh_X9_copyFrom_0 (fun u1 h1 u2 h2 => ?_))
    subst h1 h2
    intro v4 i4 v5 i5 v6 i6 v7 i7 v8 i8 v9 i9 v10 i10
    subst i4 i5 i6 i7 i8 i9 i10
    intro c c0 c1 j hj
    refine ⟨rfl, ?_⟩
    rcases (show c = 4 ∨ c = 134 ∨ c = 135 ∨ c = 136 ∨ c = 137 ∨ c = 138 ∨ c = 139 ∨ c = 261 ∨ c = 262 ∨ c = 263 ∨ c = 264 ∨ c = 265 ∨ (c ≠ 4 ∧ c ≠ 134 ∧ c ≠ 135 ∧ c ≠ 136 ∧ c ≠ 137 ∧ c ≠ 138 ∧ c ≠ 139 ∧ c ≠ 261 ∧ c ≠ 262 ∧ c ≠ 263 ∧ c ≠ 264 ∧ c ≠ 265) by omega) with e | e | e | e | e | e | e | e | e | e | e | e | e
    · subst e; have hj : j < 8 := hj; rcases (show j = 0 ∨ j = 1 ∨ j = 2 ∨ j = 3 ∨ j = 4 ∨ j = 5 ∨ j = 6 ∨ j = 7 by omega) with rfl | rfl | rfl | rfl | rfl | rfl | rfl | rfl <;> rfl
    · subst e; have hj : j < 10 := hj; rcases (show j = 0 ∨ j = 1 ∨ j = 2 ∨ j = 3 ∨ j = 4 ∨ j = 5 ∨ j = 6 ∨ j = 7 ∨ j = 8 ∨ j = 9 by omega) with rfl | rfl | rfl | rfl | rfl | rfl | rfl | rfl | rfl | rfl <;> rfl
    · subst e; have hj : j < 8 := hj; rcases (show j = 0 ∨ j = 1 ∨ j = 2 ∨ j = 3 ∨ j = 4 ∨ j = 5 ∨ j = 6 ∨ j = 7 by omega) with rfl | rfl | rfl | rfl | rfl | rfl | rfl | rfl <;> rfl
    · subst e; have hj : j < 8 := hj; rcases (show j = 0 ∨ j = 1 ∨ j = 2 ∨ j = 3 ∨ j = 4 ∨ j = 5 ∨ j = 6 ∨ j = 7 by omega) with rfl | rfl | rfl | rfl | rfl | rfl | rfl | rfl <;> rfl
    · subst e; have hj : j < 8 := hj; rcases (show j = 0 ∨ j = 1 ∨ j = 2 ∨ j = 3 ∨ j = 4 ∨ j = 5 ∨ j = 6 ∨ j = 7 by omega) with rfl | rfl | rfl | rfl | rfl | rfl | rfl | rfl <;> rfl
    · subst e; have hj : j < 25 := hj; rcases (show j = 0 ∨ j = 1 ∨ j = 2 ∨ j = 3 ∨ j = 4 ∨ j = 5 ∨ j = 6 ∨ j = 7 ∨ j = 8 ∨ j = 9 ∨ j = 10 ∨ j = 11 ∨ j = 12 ∨ j = 13 ∨ j = 14 ∨ j = 15 ∨ j = 16 ∨ j = 17 ∨ j = 18 ∨ j = 19 ∨ j = 20 ∨ j = 21 ∨ j = 22 ∨ j = 23 ∨ j = 24 by omega) with rfl | rfl | rfl | rfl | rfl | rfl | rfl | rfl | rfl | rfl | rfl | rfl | rfl | rfl | rfl | rfl | rfl | rfl | rfl | rfl | rfl | rfl | rfl | rfl | rfl <;> rfl
    · subst e; have hj : j < 3 := hj; rcases (show j = 0 ∨ j = 1 ∨ j = 2 by omega) with rfl | rfl | rfl <;> rfl
    · subst e; have hj : j < 2 := hj; rcases (show j = 0 ∨ j = 1 by omega) with rfl | rfl <;> rfl
    · subst e; have hj : j < 12 := hj; rcases (show j = 0 ∨ j = 1 ∨ j = 2 ∨ j = 3 ∨ j = 4 ∨ j = 5 ∨ j = 6 ∨ j = 7 ∨ j = 8 ∨ j = 9 ∨ j = 10 ∨ j = 11 by omega) with rfl | rfl | rfl | rfl | rfl | rfl | rfl | rfl | rfl | rfl | rfl | rfl <;> rfl
    · subst e; have hj : j < 4 := hj; rcases (show j = 0 ∨ j = 1 ∨ j = 2 ∨ j = 3 by omega) with rfl | rfl | rfl | rfl <;> rfl
    · subst e; have hj : j < 8 := hj; rcases (show j = 0 ∨ j = 1 ∨ j = 2 ∨ j = 3 ∨ j = 4 ∨ j = 5 ∨ j = 6 ∨ j = 7 by omega) with rfl | rfl | rfl | rfl | rfl | rfl | rfl | rfl <;> rfl
    · subst e; have hj : j < 8 := hj; rcases (show j = 0 ∨ j = 1 ∨ j = 2 ∨ j = 3 ∨ j = 4 ∨ j = 5 ∨ j = 6 ∨ j = 7 by omega) with rfl | rfl | rfl | rfl | rfl | rfl | rfl | rfl <;> rfl
    · unfold tj; rw [up_row (show c ≠ 136 by omega), up_row (show c ≠ 4 by omega), up_row (by omega), up_row (by omega), up_row (by omega), up_row (by omega), cpy_row (by omega), cpy_row (by omega), cpy_row (by omega), up_row (by omega), cpy_row (by omega), up_row (by omega), up_row (by omega), up_row (by omega), up_row (by omega), up_row (by omega), up_row (by omega), up_row (by omega), cpy_row (by omega), cpy_row (by omega), cpy_row (by omega), up_row (by omega)]
  · intro r s' ag
    refine J_cong (G' := gr 0) (σ' := tj) ag ?_
    exact j_retA (rokV (show decode cX11_init 161 = .ok (.return_, 1) by decide +kernel) rfl) rfl (k uv rfl)
