/-! ===== the constructor of the reference ===== -/
def tm0 : jM := up (up (up tj 321 5 (-1)) 321 6 (-1)) 321 23 1
def ta0 : jM := up (up (up (up (up tm0 322 7 433) 322 1 (-1)) 322 4 1) 322 30 1) 322 10 1
/-- what both hold at the start -/
def t0 : jM := sr ta0 323 (ta0 322)
theorem tm0_lo {c : Int} (h : c ≠ 321) : tm0 c = tj c := by unfold tm0; rw [up_row h, up_row h, up_row h]
set_option maxRecDepth 8000 in
theorem n_X12 {d : Nat} {R : jV → jG → jM → Prop} (k : ∀ r : jV, r.1 = 9 → R r (gr 0, 340) t0) : Cn mX12_init (d + 2) 19 [rv 321] (zr (gr 0) 321, 321) (zr tj 321) R := by
  refine Cn_of (by decide +kernel) (Nat.le_of_ble_eq_true rfl) ?_
  refine s_aload_n (i := 0) (x := 321) rfl (show decode cX12_init 0 = .ok (.aload_n 0, 1) by decide +kernel) ?_
  refine j_objI (a := 321) (by decide) (tt_in 1232 (by decide +kernel) rfl) (by omega) (Nat.le_of_ble_eq_true rfl) (show decode cX12_init 1 = .ok (.invokespecial 1, 3) by decide +kernel) ?_
  refine s_aload_n (i := 0) (x := 321) rfl (show decode cX12_init 4 = .ok (.aload_n 0, 1) by decide +kernel) ?_
  refine j_sipush (n := 2208) (by decide +kernel) (show decode cX12_init 5 = .ok (.sipush 2208, 3) by decide +kernel) ?_
  refine s_newa (t := 1) (N := 2208) (c := 322) (n' := 322) (Or.inl ⟨rfl, rfl⟩) rfl (by decide) rfl rfl (by decide +kernel) (Nat.le_of_ble_eq_true rfl) (show decode cX12_init 8 = .ok (.newarray .int, 2) by decide +kernel) ?_
  refine pf_X12_7 rfl rfl (show decode cX12_init 10 = .ok (.putfield 7, 3) by decide +kernel) (okb (n := 322) rfl (by decide) (by decide)) (by decide) ?_
  refine s_aload_n (i := 0) (x := 321) rfl (show decode cX12_init 13 = .ok (.aload_n 0, 1) by decide +kernel) ?_
  refine j_sipush (n := 2208) (by decide +kernel) (show decode cX12_init 14 = .ok (.sipush 2208, 3) by decide +kernel) ?_
  refine s_newa (t := 1) (N := 2208) (c := 323) (n' := 323) (Or.inl ⟨rfl, rfl⟩) rfl (by decide) rfl rfl (by decide +kernel) (Nat.le_of_ble_eq_true rfl) (show decode cX12_init 17 = .ok (.newarray .int, 2) by decide +kernel) ?_
  refine pf_X12_13 rfl rfl (show decode cX12_init 19 = .ok (.putfield 13, 3) by decide +kernel) (okb (n := 323) rfl (by decide) (by decide)) (by decide) ?_
  refine s_aload_n (i := 0) (x := 321) rfl (show decode cX12_init 22 = .ok (.aload_n 0, 1) by decide +kernel) ?_
  refine j_sipush (n := 2724) (by decide +kernel) (show decode cX12_init 23 = .ok (.sipush 2724, 3) by decide +kernel) ?_
  refine s_newa (t := 1) (N := 2724) (c := 324) (n' := 324) (Or.inl ⟨rfl, rfl⟩) rfl (by decide) rfl rfl (by decide +kernel) (Nat.le_of_ble_eq_true rfl) (show decode cX12_init 26 = .ok (.newarray .int, 2) by decide +kernel) ?_
  refine pf_X12_16 rfl rfl (show decode cX12_init 28 = .ok (.putfield 16, 3) by decide +kernel) (okb (n := 324) rfl (by decide) (by decide)) (by decide) ?_
  refine s_aload_n (i := 0) (x := 321) rfl (show decode cX12_init 31 = .ok (.aload_n 0, 1) by decide +kernel) ?_
  refine j_sipush (n := 300) (by decide +kernel) (show decode cX12_init 32 = .ok (.sipush 300, 3) by decide +kernel) ?_
  refine s_newa (t := 1) (N := 300) (c := 325) (n' := 325) (Or.inl ⟨rfl, rfl⟩) rfl (by decide) rfl rfl (by decide +kernel) (Nat.le_of_ble_eq_true rfl) (show decode cX12_init 35 = .ok (.newarray .int, 2) by decide +kernel) ?_
  refine pf_X12_19 rfl rfl (show decode cX12_init 37 = .ok (.putfield 19, 3) by decide +kernel) (okb (n := 325) rfl (by decide) (by decide)) (by decide) ?_
  refine s_aload_n (i := 0) (x := 321) rfl (show decode cX12_init 40 = .ok (.aload_n 0, 1) by decide +kernel) ?_
  refine j_iconst (show decode cX12_init 41 = .ok (.iconst (-1), 1) by decide +kernel) ?_
  refine pf_X12_22 rfl (show decode cX12_init 42 = .ok (.putfield 22, 3) by decide +kernel) (okb (n := 325) rfl (by decide) (by decide)) ?_
  refine s_aload_n (i := 0) (x := 321) rfl (show decode cX12_init 45 = .ok (.aload_n 0, 1) by decide +kernel) ?_
  refine j_iconst (show decode cX12_init 46 = .ok (.iconst (-1), 1) by decide +kernel) ?_
  refine pf_X12_26 rfl (show decode cX12_init 47 = .ok (.putfield 26, 3) by decide +kernel) (okb (n := 325) rfl (by decide) (by decide)) ?_
  refine s_aload_n (i := 0) (x := 321) rfl (show decode cX12_init 50 = .ok (.aload_n 0, 1) by decide +kernel) ?_
  refine j_sipush (n := 160) (by decide +kernel) (show decode cX12_init 51 = .ok (.sipush 160, 3) by decide +kernel) ?_
  refine s_newa (t := 1) (N := 160) (c := 326) (n' := 326) (Or.inl ⟨rfl, rfl⟩) rfl (by decide) rfl rfl (by decide +kernel) (Nat.le_of_ble_eq_true rfl) (show decode cX12_init 54 = .ok (.newarray .int, 2) by decide +kernel) ?_
  refine pf_X12_29 rfl rfl (show decode cX12_init 56 = .ok (.putfield 29, 3) by decide +kernel) (okb (n := 326) rfl (by decide) (by decide)) (by decide) ?_
  refine s_aload_n (i := 0) (x := 321) rfl (show decode cX12_init 59 = .ok (.aload_n 0, 1) by decide +kernel) ?_
  refine j_bipush (n := 7) (by decide +kernel) (show decode cX12_init 60 = .ok (.bipush 7, 2) by decide +kernel) ?_
  refine s_newa (t := 1) (N := 7) (c := 327) (n' := 327) (Or.inl ⟨rfl, rfl⟩) rfl (by decide) rfl rfl (by decide +kernel) (Nat.le_of_ble_eq_true rfl) (show decode cX12_init 62 = .ok (.newarray .int, 2) by decide +kernel) ?_
  refine pf_X12_32 rfl rfl (show decode cX12_init 64 = .ok (.putfield 32, 3) by decide +kernel) (okb (n := 327) rfl (by decide) (by decide)) (by decide) ?_
  refine s_aload_n (i := 0) (x := 321) rfl (show decode cX12_init 67 = .ok (.aload_n 0, 1) by decide +kernel) ?_
  refine j_sipush (n := 330) (by decide +kernel) (show decode cX12_init 68 = .ok (.sipush 330, 3) by decide +kernel) ?_
  refine s_newa (t := 2) (N := 330) (c := 328) (n' := 328) (Or.inr (Or.inl ⟨rfl, rfl⟩)) rfl (by decide) rfl rfl (by decide +kernel) (Nat.le_of_ble_eq_true rfl) (show decode cX12_init 71 = .ok (.newarray .long, 2) by decide +kernel) ?_
  refine pf_X12_35 rfl rfl (show decode cX12_init 73 = .ok (.putfield 35, 3) by decide +kernel) (okb (n := 328) rfl (by decide) (by decide)) (by decide) ?_
  refine s_aload_n (i := 0) (x := 321) rfl (show decode cX12_init 76 = .ok (.aload_n 0, 1) by decide +kernel) ?_
  refine j_sipush (n := 330) (by decide +kernel) (show decode cX12_init 77 = .ok (.sipush 330, 3) by decide +kernel) ?_
  refine s_newa (t := 3) (N := 330) (c := 329) (n' := 329) (Or.inr (Or.inr ⟨rfl, rfl⟩)) rfl (by decide) rfl rfl (by decide +kernel) (Nat.le_of_ble_eq_true rfl) (show decode cX12_init 80 = .ok (.newarray .boolean, 2) by decide +kernel) ?_
  refine pf_X12_39 rfl rfl (show decode cX12_init 82 = .ok (.putfield 39, 3) by decide +kernel) (okb (n := 329) rfl (by decide) (by decide)) (by decide) ?_
  refine s_aload_n (i := 0) (x := 321) rfl (show decode cX12_init 85 = .ok (.aload_n 0, 1) by decide +kernel) ?_
  refine j_iconst (show decode cX12_init 86 = .ok (.iconst 1, 1) by decide +kernel) ?_
  refine pf_X12_43 rfl (by decide) (show decode cX12_init 87 = .ok (.putfield 43, 3) by decide +kernel) (okb (n := 329) rfl (by decide) (by decide)) ?_
  refine s_aload_n (i := 0) (x := 321) rfl (show decode cX12_init 90 = .ok (.aload_n 0, 1) by decide +kernel) ?_
  refine j_bipush (n := 26) (by decide +kernel) (show decode cX12_init 91 = .ok (.bipush 26, 2) by decide +kernel) ?_
  refine s_newa (t := 1) (N := 26) (c := 330) (n' := 330) (Or.inl ⟨rfl, rfl⟩) rfl (by decide) rfl rfl (by decide +kernel) (Nat.le_of_ble_eq_true rfl) (show decode cX12_init 93 = .ok (.newarray .int, 2) by decide +kernel) ?_
  refine pf_X12_47 rfl rfl (show decode cX12_init 95 = .ok (.putfield 47, 3) by decide +kernel) (okb (n := 330) rfl (by decide) (by decide)) (by decide) ?_
  refine s_aload_n (i := 0) (x := 321) rfl (show decode cX12_init 98 = .ok (.aload_n 0, 1) by decide +kernel) ?_
  refine j_bipush (n := 44) (by decide +kernel) (show decode cX12_init 99 = .ok (.bipush 44, 2) by decide +kernel) ?_
  refine s_newa (t := 1) (N := 44) (c := 331) (n' := 331) (Or.inl ⟨rfl, rfl⟩) rfl (by decide) rfl rfl (by decide +kernel) (Nat.le_of_ble_eq_true rfl) (show decode cX12_init 101 = .ok (.newarray .int, 2) by decide +kernel) ?_
  refine pf_X12_50 rfl rfl (show decode cX12_init 103 = .ok (.putfield 50, 3) by decide +kernel) (okb (n := 331) rfl (by decide) (by decide)) (by decide) ?_
  refine s_aload_n (i := 0) (x := 321) rfl (show decode cX12_init 106 = .ok (.aload_n 0, 1) by decide +kernel) ?_
  refine j_bipush (n := 121) (by decide +kernel) (show decode cX12_init 107 = .ok (.bipush 121, 2) by decide +kernel) ?_
  refine s_newa (t := 1) (N := 121) (c := 332) (n' := 332) (Or.inl ⟨rfl, rfl⟩) rfl (by decide) rfl rfl (by decide +kernel) (Nat.le_of_ble_eq_true rfl) (show decode cX12_init 109 = .ok (.newarray .int, 2) by decide +kernel) ?_
  refine pf_X12_53 rfl rfl (show decode cX12_init 111 = .ok (.putfield 53, 3) by decide +kernel) (okb (n := 332) rfl (by decide) (by decide)) (by decide) ?_
  refine s_aload_n (i := 0) (x := 321) rfl (show decode cX12_init 114 = .ok (.aload_n 0, 1) by decide +kernel) ?_
  refine j_bipush (n := 64) (by decide +kernel) (show decode cX12_init 115 = .ok (.bipush 64, 2) by decide +kernel) ?_
  refine s_newa (t := 1) (N := 64) (c := 333) (n' := 333) (Or.inl ⟨rfl, rfl⟩) rfl (by decide) rfl rfl (by decide +kernel) (Nat.le_of_ble_eq_true rfl) (show decode cX12_init 117 = .ok (.newarray .int, 2) by decide +kernel) ?_
  refine pf_X12_56 rfl rfl (show decode cX12_init 119 = .ok (.putfield 56, 3) by decide +kernel) (okb (n := 333) rfl (by decide) (by decide)) (by decide) ?_
  refine s_aload_n (i := 0) (x := 321) rfl (show decode cX12_init 122 = .ok (.aload_n 0, 1) by decide +kernel) ?_
  refine j_bipush (n := 44) (by decide +kernel) (show decode cX12_init 123 = .ok (.bipush 44, 2) by decide +kernel) ?_
  refine s_newa (t := 1) (N := 44) (c := 334) (n' := 334) (Or.inl ⟨rfl, rfl⟩) rfl (by decide) rfl rfl (by decide +kernel) (Nat.le_of_ble_eq_true rfl) (show decode cX12_init 125 = .ok (.newarray .int, 2) by decide +kernel) ?_
  refine pf_X12_59 rfl rfl (show decode cX12_init 127 = .ok (.putfield 59, 3) by decide +kernel) (okb (n := 334) rfl (by decide) (by decide)) (by decide) ?_
  refine s_aload_n (i := 0) (x := 321) rfl (show decode cX12_init 130 = .ok (.aload_n 0, 1) by decide +kernel) ?_
  refine j_ldc (x := 68921) (tt_in 1233 (by decide +kernel) rfl) (show decode cX12_init 131 = .ok (.ldc 62, 2) by decide +kernel) ?_
  refine s_newa (t := 1) (N := 68921) (c := 335) (n' := 335) (Or.inl ⟨rfl, rfl⟩) rfl (by decide) rfl rfl (by decide +kernel) (Nat.le_of_ble_eq_true rfl) (show decode cX12_init 133 = .ok (.newarray .int, 2) by decide +kernel) ?_
  refine pf_X12_63 rfl rfl (show decode cX12_init 135 = .ok (.putfield 63, 3) by decide +kernel) (okb (n := 335) rfl (by decide) (by decide)) (by decide) ?_
  refine s_aload_n (i := 0) (x := 321) rfl (show decode cX12_init 138 = .ok (.aload_n 0, 1) by decide +kernel) ?_
  refine j_ldc (x := 68921) (tt_in 1233 (by decide +kernel) rfl) (show decode cX12_init 139 = .ok (.ldc 62, 2) by decide +kernel) ?_
  refine s_newa (t := 1) (N := 68921) (c := 336) (n' := 336) (Or.inl ⟨rfl, rfl⟩) rfl (by decide) rfl rfl (by decide +kernel) (Nat.le_of_ble_eq_true rfl) (show decode cX12_init 141 = .ok (.newarray .int, 2) by decide +kernel) ?_
  refine pf_X12_66 rfl rfl (show decode cX12_init 143 = .ok (.putfield 66, 3) by decide +kernel) (okb (n := 336) rfl (by decide) (by decide)) (by decide) ?_
  refine s_aload_n (i := 0) (x := 321) rfl (show decode cX12_init 146 = .ok (.aload_n 0, 1) by decide +kernel) ?_
  refine j_sipush (n := 810) (by decide +kernel) (show decode cX12_init 147 = .ok (.sipush 810, 3) by decide +kernel) ?_
  refine s_newa (t := 1) (N := 810) (c := 337) (n' := 337) (Or.inl ⟨rfl, rfl⟩) rfl (by decide) rfl rfl (by decide +kernel) (Nat.le_of_ble_eq_true rfl) (show decode cX12_init 150 = .ok (.newarray .int, 2) by decide +kernel) ?_
  refine pf_X12_69 rfl rfl (show decode cX12_init 152 = .ok (.putfield 69, 3) by decide +kernel) (okb (n := 337) rfl (by decide) (by decide)) (by decide) ?_
  refine s_aload_n (i := 0) (x := 321) rfl (show decode cX12_init 155 = .ok (.aload_n 0, 1) by decide +kernel) ?_
  refine j_bipush (n := 41) (by decide +kernel) (show decode cX12_init 156 = .ok (.bipush 41, 2) by decide +kernel) ?_
  refine s_newa (t := 1) (N := 41) (c := 338) (n' := 338) (Or.inl ⟨rfl, rfl⟩) rfl (by decide) rfl rfl (by decide +kernel) (Nat.le_of_ble_eq_true rfl) (show decode cX12_init 158 = .ok (.newarray .int, 2) by decide +kernel) ?_
  refine pf_X12_72 rfl rfl (show decode cX12_init 160 = .ok (.putfield 72, 3) by decide +kernel) (okb (n := 338) rfl (by decide) (by decide)) (by decide) ?_
  refine s_aload_n (i := 0) (x := 321) rfl (show decode cX12_init 163 = .ok (.aload_n 0, 1) by decide +kernel) ?_
  refine j_bipush (n := 65) (by decide +kernel) (show decode cX12_init 164 = .ok (.bipush 65, 2) by decide +kernel) ?_
  refine s_newa (t := 3) (N := 65) (c := 339) (n' := 339) (Or.inr (Or.inr ⟨rfl, rfl⟩)) rfl (by decide) rfl rfl (by decide +kernel) (Nat.le_of_ble_eq_true rfl) (show decode cX12_init 166 = .ok (.newarray .boolean, 2) by decide +kernel) ?_
  refine pf_X12_75 rfl rfl (show decode cX12_init 168 = .ok (.putfield 75, 3) by decide +kernel) (okb (n := 339) rfl (by decide) (by decide)) (by decide) ?_
  refine s_aload_n (i := 0) (x := 321) rfl (show decode cX12_init 171 = .ok (.aload_n 0, 1) by decide +kernel) ?_
  refine j_sipush (n := 4096) (by decide +kernel) (show decode cX12_init 172 = .ok (.sipush 4096, 3) by decide +kernel) ?_
  refine s_newa (t := 3) (N := 4096) (c := 340) (n' := 340) (Or.inr (Or.inr ⟨rfl, rfl⟩)) rfl (by decide) rfl rfl (by decide +kernel) (Nat.le_of_ble_eq_true rfl) (show decode cX12_init 175 = .ok (.newarray .boolean, 2) by decide +kernel) ?_
  refine pf_X12_78 rfl rfl (show decode cX12_init 177 = .ok (.putfield 78, 3) by decide +kernel) (okb (n := 340) rfl (by decide) (by decide)) (by decide) ?_
  refine J_cong (G' := gr 0) (σ' := tm0) ?_ ?_
  · intro c c0 c1 j hj
    have c1 : c ≤ (340 : Int) := c1
    rcases (show c < 321 ∨ c = 321 ∨ c = 322 ∨ c = 323 ∨ c = 324 ∨ c = 325 ∨ c = 326 ∨ c = 327 ∨ c = 328 ∨ c = 329 ∨ c = 330 ∨ c = 331 ∨ c = 332 ∨ c = 333 ∨ c = 334 ∨ c = 335 ∨ c = 336 ∨ c = 337 ∨ c = 338 ∨ c = 339 ∨ c = 340 by omega) with e | e | e | e | e | e | e | e | e | e | e | e | e | e | e | e | e | e | e | e | e
    · refine ⟨?_, (congrFun (tm0_lo (by omega)) _).trans ?_⟩
      · (try dsimp only); rw [up_row (by omega), zr_row (by omega), up_row (by omega), zr_row (by omega), up_row (by omega), zr_row (by omega), up_row (by omega), zr_row (by omega), up_row (by omega), zr_row (by omega), up_row (by omega), zr_row (by omega), up_row (by omega), zr_row (by omega), up_row (by omega), zr_row (by omega), up_row (by omega), zr_row (by omega), up_row (by omega), zr_row (by omega), up_row (by omega), zr_row (by omega), up_row (by omega), zr_row (by omega), up_row (by omega), zr_row (by omega), up_row (by omega), zr_row (by omega), up_row (by omega), zr_row (by omega), up_row (by omega), zr_row (by omega), up_row (by omega), zr_row (by omega), up_row (by omega), zr_row (by omega), up_row (by omega), zr_row (by omega), zr_row (by omega)]
      · (try dsimp only); rw [zr_row (by omega), zr_row (by omega), zr_row (by omega), zr_row (by omega), zr_row (by omega), zr_row (by omega), zr_row (by omega), zr_row (by omega), zr_row (by omega), zr_row (by omega), zr_row (by omega), up_row (by omega), zr_row (by omega), zr_row (by omega), zr_row (by omega), zr_row (by omega), up_row (by omega), up_row (by omega), zr_row (by omega), zr_row (by omega), zr_row (by omega), zr_row (by omega), zr_row (by omega)]
    · subst e; have hj : j < 37 := hj; rcases (show j = 0 ∨ j = 1 ∨ j = 2 ∨ j = 3 ∨ j = 4 ∨ j = 5 ∨ j = 6 ∨ j = 7 ∨ j = 8 ∨ j = 9 ∨ j = 10 ∨ j = 11 ∨ j = 12 ∨ j = 13 ∨ j = 14 ∨ j = 15 ∨ j = 16 ∨ j = 17 ∨ j = 18 ∨ j = 19 ∨ j = 20 ∨ j = 21 ∨ j = 22 ∨ j = 23 ∨ j = 24 ∨ j = 25 ∨ j = 26 ∨ j = 27 ∨ j = 28 ∨ j = 29 ∨ j = 30 ∨ j = 31 ∨ j = 32 ∨ j = 33 ∨ j = 34 ∨ j = 35 ∨ j = 36 by omega) with rfl | rfl | rfl | rfl | rfl | rfl | rfl | rfl | rfl | rfl | rfl | rfl | rfl | rfl | rfl | rfl | rfl | rfl | rfl | rfl | rfl | rfl | rfl | rfl | rfl | rfl | rfl | rfl | rfl | rfl | rfl | rfl | rfl | rfl | rfl | rfl | rfl <;> exact ⟨rfl, rfl⟩
    · subst e; exact ⟨rfl, rfl⟩
    · subst e; exact ⟨rfl, rfl⟩
    · subst e; exact ⟨rfl, rfl⟩
    · subst e; exact ⟨rfl, rfl⟩
    · subst e; exact ⟨rfl, rfl⟩
    · subst e; exact ⟨rfl, rfl⟩
    · subst e; exact ⟨rfl, rfl⟩
    · subst e; exact ⟨rfl, rfl⟩
    · subst e; exact ⟨rfl, rfl⟩
    · subst e; exact ⟨rfl, rfl⟩
    · subst e; exact ⟨rfl, rfl⟩
    · subst e; exact ⟨rfl, rfl⟩
    · subst e; exact ⟨rfl, rfl⟩
    · subst e; exact ⟨rfl, rfl⟩
    · subst e; exact ⟨rfl, rfl⟩
    · subst e; exact ⟨rfl, rfl⟩
    · subst e; exact ⟨rfl, rfl⟩
    · subst e; exact ⟨rfl, rfl⟩
    · subst e; exact ⟨rfl, rfl⟩
  refine s_aload_n (i := 0) (x := 321) rfl (show decode cX12_init 180 = .ok (.aload_n 0, 1) by decide +kernel) ?_
  refine gf_X12_7 (x := 322) rfl (show decode cX12_init 181 = .ok (.getfield 7, 3) by decide +kernel) (okb (n := 340) rfl (by decide) (by decide)) rfl ?_
  refine j_bipush (n := 7) (by decide +kernel) (show decode cX12_init 184 = .ok (.bipush 7, 2) by decide +kernel) ?_
  refine j_sipush (n := 433) (by decide +kernel) (show decode cX12_init 186 = .ok (.sipush 433, 3) by decide +kernel) ?_
  refine j_iast (n := 2208) (show decode cX12_init 189 = .ok (.iastore, 1) by decide +kernel) (okr (n := 340) rfl (by decide) (by decide)) (by decide) (by decide) ?_
  refine s_aload_n (i := 0) (x := 321) rfl (show decode cX12_init 190 = .ok (.aload_n 0, 1) by decide +kernel) ?_
  refine gf_X12_7 (x := 322) rfl (show decode cX12_init 191 = .ok (.getfield 7, 3) by decide +kernel) (okb (n := 340) rfl (by decide) (by decide)) rfl ?_
  refine j_iconst (show decode cX12_init 194 = .ok (.iconst 1, 1) by decide +kernel) ?_
  refine j_iconst (show decode cX12_init 195 = .ok (.iconst (-1), 1) by decide +kernel) ?_
  refine j_iast (n := 2208) (show decode cX12_init 196 = .ok (.iastore, 1) by decide +kernel) (okr (n := 340) rfl (by decide) (by decide)) (by decide) (by decide) ?_
  refine s_aload_n (i := 0) (x := 321) rfl (show decode cX12_init 197 = .ok (.aload_n 0, 1) by decide +kernel) ?_
  refine gf_X12_7 (x := 322) rfl (show decode cX12_init 198 = .ok (.getfield 7, 3) by decide +kernel) (okb (n := 340) rfl (by decide) (by decide)) rfl ?_
  refine j_iconst (show decode cX12_init 201 = .ok (.iconst 4, 1) by decide +kernel) ?_
  refine j_iconst (show decode cX12_init 202 = .ok (.iconst 1, 1) by decide +kernel) ?_
  refine j_iast (n := 2208) (show decode cX12_init 203 = .ok (.iastore, 1) by decide +kernel) (okr (n := 340) rfl (by decide) (by decide)) (by decide) (by decide) ?_
  refine s_aload_n (i := 0) (x := 321) rfl (show decode cX12_init 204 = .ok (.aload_n 0, 1) by decide +kernel) ?_
  refine gf_X12_7 (x := 322) rfl (show decode cX12_init 205 = .ok (.getfield 7, 3) by decide +kernel) (okb (n := 340) rfl (by decide) (by decide)) rfl ?_
  refine j_bipush (n := 30) (by decide +kernel) (show decode cX12_init 208 = .ok (.bipush 30, 2) by decide +kernel) ?_
  refine j_iconst (show decode cX12_init 210 = .ok (.iconst 1, 1) by decide +kernel) ?_
  refine j_iast (n := 2208) (show decode cX12_init 211 = .ok (.iastore, 1) by decide +kernel) (okr (n := 340) rfl (by decide) (by decide)) (by decide) (by decide) ?_
  refine s_aload_n (i := 0) (x := 321) rfl (show decode cX12_init 212 = .ok (.aload_n 0, 1) by decide +kernel) ?_
  refine gf_X12_7 (x := 322) rfl (show decode cX12_init 213 = .ok (.getfield 7, 3) by decide +kernel) (okb (n := 340) rfl (by decide) (by decide)) rfl ?_
  refine j_bipush (n := 10) (by decide +kernel) (show decode cX12_init 216 = .ok (.bipush 10, 2) by decide +kernel) ?_
  refine j_iconst (show decode cX12_init 218 = .ok (.iconst 1, 1) by decide +kernel) ?_
  refine j_iast (n := 2208) (show decode cX12_init 219 = .ok (.iastore, 1) by decide +kernel) (okr (n := 340) rfl (by decide) (by decide)) (by decide) (by decide) ?_
  refine s_aload_n (i := 0) (x := 321) rfl (show decode cX12_init 220 = .ok (.aload_n 0, 1) by decide +kernel) ?_
  refine gf_X12_7 (x := 322) rfl (show decode cX12_init 221 = .ok (.getfield 7, 3) by decide +kernel) (okb (n := 340) rfl (by decide) (by decide)) rfl ?_
  refine s_aload_n (i := 0) (x := 321) rfl (show decode cX12_init 224 = .ok (.aload_n 0, 1) by decide +kernel) ?_
  refine gf_X12_13 (x := 323) rfl (show decode cX12_init 225 = .ok (.getfield 13, 3) by decide +kernel) (okb (n := 340) rfl (by decide) (by decide)) rfl ?_
  refine j_ctSv (m' := mX12_copy) (t := 0) (As := [rv 322, rv 323]) (F := fun _ σ' => agC 340 (gr 0) (gr 0) σ' t0) (cw_X12_81 rfl) (show decode cX12_init 228 = .ok (.invokestatic 81, 3) by decide +kernel) rfl (Nat.le_of_ble_eq_true rfl) (Nat.le_of_ble_eq_true rfl) ?_ ?_
  · refine m_copy okl_322 okl_323 (by decide) (fun σ' e1 e2 => ?_)
    intro c c0 c1 j hj
    refine ⟨rfl, ?_⟩
    by_cases e : c = 323
    · subst e
      have hj : j < 2208 := hj
      unfold t0
      rw [sr_at]
      exact e2 j (by omega) (by omega)
    · unfold t0
      rw [sr_ne e, e1 c e]
      rfl
  · intro r s' ag
    refine J_cong (G' := gr 0) (σ' := t0) ag ?_
    exact j_retA (rokV (show decode cX12_init 231 = .ok (.return_, 1) by decide +kernel) rfl) rfl (k uv rfl)
