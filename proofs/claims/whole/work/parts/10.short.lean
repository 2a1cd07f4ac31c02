/-! ===== rules in the form that the printed walks use ===== -/
section JW
variable {m : jT} {d n0 hi : Nat} {Post : jV → jG → jM → Prop} {pc : Nat} {L L' S : List jV} {G : jG} {σ : jM} {t : Int}
theorem inl {x : Int} (h : (decide (-2147483648 ≤ x) && decide (x < 2147483648)) = true) : inR x := by
  simp only [Bool.and_eq_true, decide_eq_true_eq] at h
  exact h
theorem inll {x : Int} (h : (decide (-9223372036854775808 ≤ x) && decide (x < 9223372036854775808)) = true) : inL x := by
  simp only [Bool.and_eq_true, decide_eq_true_eq] at h
  exact h
theorem s_ist {i : Nat} {x : Int} (hL : lset L i (iv x) = L') (hi' : i < m.2.2.1) (hd : decode m.2.1 pc = .ok (.istore i, 2)) (k : J m d n0 hi Post (pc + 2) L' S G σ) : J m d n0 hi Post pc L (iv x :: S) G σ := j_istore hi' hd (by rw [hL]; exact k)
theorem s_ist_n {i : Fin 4} {x : Int} (hL : lset L (i : Nat) (iv x) = L') (hi' : (i : Nat) < m.2.2.1) (hd : decode m.2.1 pc = .ok (.istore_n i, 1)) (k : J m d n0 hi Post (pc + 1) L' S G σ) : J m d n0 hi Post pc L (iv x :: S) G σ := j_istore_n hi' hd (by rw [hL]; exact k)
theorem s_lst {i : Nat} {x : Int} (hL : lset2 L i (jv x) = L') (hi' : i + 1 < m.2.2.1) (hd : decode m.2.1 pc = .ok (.lstore i, 2)) (k : J m d n0 hi Post (pc + 2) L' S G σ) : J m d n0 hi Post pc L (jv x :: S) G σ := j_lstore hi' hd (by rw [hL]; exact k)
theorem s_lst_n {i : Fin 4} {x : Int} (hL : lset2 L (i : Nat) (jv x) = L') (hi' : (i : Nat) + 1 < m.2.2.1) (hd : decode m.2.1 pc = .ok (.lstore_n i, 1)) (k : J m d n0 hi Post (pc + 1) L' S G σ) : J m d n0 hi Post pc L (jv x :: S) G σ := j_lstore_n hi' hd (by rw [hL]; exact k)
theorem s_ast_n {i : Fin 4} {x : Int} (hL : lset L (i : Nat) (rv x) = L') (hi' : (i : Nat) < m.2.2.1) (hd : decode m.2.1 pc = .ok (.astore_n i, 1)) (k : J m d n0 hi Post (pc + 1) L' S G σ) : J m d n0 hi Post pc L (rv x :: S) G σ := j_astore_n (Or.inl rfl) hi' hd (by rw [hL]; exact k)
theorem s_iinc {i : Nat} {n x : Int} (hx : L[i]? = some (iv x)) (hL : lset L i (iv (x + n)) = L') (hd : decode m.2.1 pc = .ok (.iinc i n, 3)) (k : J m d n0 hi Post (pc + 3) L' S G σ) : J m d n0 hi Post pc L S G σ := j_iinc hx hd (by rw [hL]; exact k)
theorem s_aload {i : Nat} {x : Int} (hL : L[i]? = some (rv x)) (hd : decode m.2.1 pc = .ok (.aload i, 2)) (k : J m d n0 hi Post (pc + 2) L (rv x :: S) G σ) : J m d n0 hi Post pc L S G σ := j_aload hL (Or.inl rfl) hd k
theorem s_aload_n {i : Fin 4} {x : Int} (hL : L[(i : Nat)]? = some (rv x)) (hd : decode m.2.1 pc = .ok (.aload_n i, 1)) (k : J m d n0 hi Post (pc + 1) L (rv x :: S) G σ) : J m d n0 hi Post pc L S G σ := j_aload_n hL (Or.inl rfl) hd k
theorem j_sig {σ' : jM} (e : σ' = σ) (k : J m d n0 hi Post pc L S G σ') : J m d n0 hi Post pc L S G σ := by rw [← e]; exact k
theorem arN {a : Int} {k n : Nat} (h : ar (GG t) a k n) (hk : k ≠ 0) : (n : Int) < 2147483648 := by
  have q := lay_at (f := fun j => decide ((kd (j : Int)).1 = 0) || decide ((kd (j : Int)).2 ≤ 100000)) (by decide +kernel) (a := a) (by have := h.2.1; omega) h.2.2
  simp only [Bool.or_eq_true, decide_eq_true_eq] at q
  rw [show ((a.toNat : Nat) : Int) = a by have := h.2.1; omega, h.1] at q
  rcases q with q | q
  · exact absurd q hk
  · have q : n ≤ 100000 := q
    omega
theorem s_iald {a i : Int} {n : Nat} (hd : decode m.2.1 pc = .ok (.iaload, 1)) (ha : ar (GG t) a 1 n) (hi' : 0 ≤ i ∧ i < (n : Int)) (kk : J m d n0 hi Post (pc + 1) L (iv (σ a i) :: S) (GG t) σ) : J m d n0 hi Post pc L (iv i :: rv a :: S) (GG t) σ := j_iald hd ha (Int.le_of_lt (arN ha (by decide))) hi' kk
theorem s_lald {a i : Int} {n : Nat} (hd : decode m.2.1 pc = .ok (.laload, 1)) (ha : ar (GG t) a 2 n) (hi' : 0 ≤ i ∧ i < (n : Int)) (kk : J m d n0 hi Post (pc + 1) L (jv (σ a i) :: S) (GG t) σ) : J m d n0 hi Post pc L (iv i :: rv a :: S) (GG t) σ := j_lald hd ha (Int.le_of_lt (arN ha (by decide))) hi' kk
theorem s_zald {a i : Int} {n : Nat} (hd : decode m.2.1 pc = .ok (.baload, 1)) (ha : ar (GG t) a 3 n) (hi' : 0 ≤ i ∧ i < (n : Int)) (kk : J m d n0 hi Post (pc + 1) L (iv (σ a i) :: S) (GG t) σ) : J m d n0 hi Post pc L (iv i :: rv a :: S) (GG t) σ := j_zald hd ha (Int.le_of_lt (arN ha (by decide))) hi' kk
theorem s_iast {a i x : Int} {n : Nat} (hd : decode m.2.1 pc = .ok (.iastore, 1)) (ha : ar (GG t) a 1 n) (hi' : 0 ≤ i ∧ i < (n : Int)) (kk : J m d n0 hi Post (pc + 1) L S (GG t) (up σ a i x)) : J m d n0 hi Post pc L (iv x :: iv i :: rv a :: S) (GG t) σ := j_iast hd ha (Int.le_of_lt (arN ha (by decide))) hi' kk
theorem s_last {a i x : Int} {n : Nat} (hd : decode m.2.1 pc = .ok (.lastore, 1)) (ha : ar (GG t) a 2 n) (hi' : 0 ≤ i ∧ i < (n : Int)) (kk : J m d n0 hi Post (pc + 1) L S (GG t) (up σ a i x)) : J m d n0 hi Post pc L (jv x :: iv i :: rv a :: S) (GG t) σ := j_last hd ha (Int.le_of_lt (arN ha (by decide))) hi' kk
theorem s_zast {a i x : Int} {n : Nat} (hd : decode m.2.1 pc = .ok (.bastore, 1)) (ha : ar (GG t) a 3 n) (hi' : 0 ≤ i ∧ i < (n : Int)) (hx : x = 0 ∨ x = 1) (kk : J m d n0 hi Post (pc + 1) L S (GG t) (up σ a i x)) : J m d n0 hi Post pc L (iv x :: iv i :: rv a :: S) (GG t) σ := j_zast hd ha (Int.le_of_lt (arN ha (by decide))) hi' hx kk
theorem gr_4 {a i : Int} (h : ar (GG t) a 4 30) : (GG t).1 a i = a + 1 + 4 * i := by
  show gr t a i = _
  unfold gr
  rw [h.1]
  rfl
theorem gr_5 {i : Int} : (GG t).1 270 i = 293 + 7 * i := rfl
theorem ok_4 {a i : Int} (h : ar (GG t) a 4 30) (h0 : 0 ≤ i) (h1 : i < 30) : ob (GG t) (a + 1 + 4 * i) 1 := by
  have q := lay_at (f := fun j => !(decide (kd (j : Int) = (4, 30))) || (List.range 30).all (fun k => decide (kd ((j : Int) + 1 + 4 * (k : Int)) = (0, 1)) && decide (j + 1 + 4 * k ≤ 340))) (by decide +kernel) (a := a) (by have := h.2.1; omega) h.2.2
  rw [show ((a.toNat : Nat) : Int) = a by have := h.2.1; omega, h.1] at q
  simp only [decide_true, Bool.not_true, Bool.false_or] at q
  have q2 := List.all_eq_true.mp q i.toNat (List.mem_range.mpr (by omega))
  simp only [Bool.and_eq_true, decide_eq_true_eq] at q2
  rw [show ((i.toNat : Nat) : Int) = i by omega] at q2
  refine ⟨q2.1, by have := h.2.1; omega, ?_⟩
  show _ ≤ (340 : Int)
  omega
theorem ok_5 {i : Int} (h0 : 0 ≤ i) (h1 : i < 4) : ob (GG t) (293 + 7 * i) 8 := by
  rcases (show i = 0 ∨ i = 1 ∨ i = 2 ∨ i = 3 by omega) with rfl | rfl | rfl | rfl <;> exact okob (by decide +kernel)
theorem s_aald4 {a i x : Int} (hd : decode m.2.1 pc = .ok (.aaload, 1)) (ha : ar (GG t) a 4 30) (hi' : 0 ≤ i ∧ i < 30) (hx : a + 1 + 4 * i = x) (kk : J m d n0 hi Post (pc + 1) L (rv x :: S) (GG t) σ) : J m d n0 hi Post pc L (iv i :: rv a :: S) (GG t) σ := j_aald4 hd ha (by decide) hi' (by rw [gr_4 ha, hx]; exact kk)
theorem s_aald5 {i x : Int} (hd : decode m.2.1 pc = .ok (.aaload, 1)) (ha : ar (GG t) 270 5 4) (hi' : 0 ≤ i ∧ i < 4) (hx : 293 + 7 * i = x) (kk : J m d n0 hi Post (pc + 1) L (rv x :: S) (GG t) σ) : J m d n0 hi Post pc L (iv i :: rv 270 :: S) (GG t) σ := j_aald5 hd ha (by decide) hi' (by rw [gr_5, hx]; exact kk)
theorem s_lif_eq {x y off : Int} {tgt : Nat} (hx : inL x) (hy : inL y) (hd : decode m.2.1 pc = .ok (.lcmp, 1)) (hd2 : decode m.2.1 (pc + 1) = .ok (.ifCond .eq off, 3)) (ht : ((pc + 1 : Nat) : Int) + off = (tgt : Int)) (kt : x = y → J m d n0 hi Post tgt L S G σ) (kf : ¬ x = y → J m d n0 hi Post (pc + 1 + 3) L S G σ) : J m d n0 hi Post pc L (jv y :: jv x :: S) G σ :=
  j_lcmp hx hy hd (fun z => j_if_eq (inl (by decide)) hd2 ht (fun q => absurd q (by decide)) (fun _ => kf (by omega))) (fun z => j_if_eq (inl (by decide)) hd2 ht (fun _ => kt (by omega)) (fun q => absurd q (by decide))) (fun z => j_if_eq (inl (by decide)) hd2 ht (fun q => absurd q (by decide)) (fun _ => kf (by omega)))
theorem s_lif_ne {x y off : Int} {tgt : Nat} (hx : inL x) (hy : inL y) (hd : decode m.2.1 pc = .ok (.lcmp, 1)) (hd2 : decode m.2.1 (pc + 1) = .ok (.ifCond .ne off, 3)) (ht : ((pc + 1 : Nat) : Int) + off = (tgt : Int)) (kt : ¬ x = y → J m d n0 hi Post tgt L S G σ) (kf : x = y → J m d n0 hi Post (pc + 1 + 3) L S G σ) : J m d n0 hi Post pc L (jv y :: jv x :: S) G σ :=
  j_lcmp hx hy hd (fun z => j_if_ne (inl (by decide)) hd2 ht (fun _ => kt (by omega)) (fun q => absurd q (by decide))) (fun z => j_if_ne (inl (by decide)) hd2 ht (fun q => absurd q (by decide)) (fun _ => kf (by omega))) (fun z => j_if_ne (inl (by decide)) hd2 ht (fun _ => kt (by omega)) (fun q => absurd q (by decide)))
theorem s_lif_lt {x y off : Int} {tgt : Nat} (hx : inL x) (hy : inL y) (hd : decode m.2.1 pc = .ok (.lcmp, 1)) (hd2 : decode m.2.1 (pc + 1) = .ok (.ifCond .lt off, 3)) (ht : ((pc + 1 : Nat) : Int) + off = (tgt : Int)) (kt : x < y → J m d n0 hi Post tgt L S G σ) (kf : y ≤ x → J m d n0 hi Post (pc + 1 + 3) L S G σ) : J m d n0 hi Post pc L (jv y :: jv x :: S) G σ :=
  j_lcmp hx hy hd (fun z => j_if_lt (inl (by decide)) hd2 ht (fun _ => kt (by omega)) (fun q => absurd q (by decide))) (fun z => j_if_lt (inl (by decide)) hd2 ht (fun q => absurd q (by decide)) (fun _ => kf (by omega))) (fun z => j_if_lt (inl (by decide)) hd2 ht (fun q => absurd q (by decide)) (fun _ => kf (by omega)))
theorem s_lif_ge {x y off : Int} {tgt : Nat} (hx : inL x) (hy : inL y) (hd : decode m.2.1 pc = .ok (.lcmp, 1)) (hd2 : decode m.2.1 (pc + 1) = .ok (.ifCond .ge off, 3)) (ht : ((pc + 1 : Nat) : Int) + off = (tgt : Int)) (kt : y ≤ x → J m d n0 hi Post tgt L S G σ) (kf : x < y → J m d n0 hi Post (pc + 1 + 3) L S G σ) : J m d n0 hi Post pc L (jv y :: jv x :: S) G σ :=
  j_lcmp hx hy hd (fun z => j_if_ge (inl (by decide)) hd2 ht (fun q => absurd q (by decide)) (fun _ => kf (by omega))) (fun z => j_if_ge (inl (by decide)) hd2 ht (fun _ => kt (by omega)) (fun q => absurd q (by decide))) (fun z => j_if_ge (inl (by decide)) hd2 ht (fun _ => kt (by omega)) (fun q => absurd q (by decide)))
theorem s_lif_gt {x y off : Int} {tgt : Nat} (hx : inL x) (hy : inL y) (hd : decode m.2.1 pc = .ok (.lcmp, 1)) (hd2 : decode m.2.1 (pc + 1) = .ok (.ifCond .gt off, 3)) (ht : ((pc + 1 : Nat) : Int) + off = (tgt : Int)) (kt : y < x → J m d n0 hi Post tgt L S G σ) (kf : x ≤ y → J m d n0 hi Post (pc + 1 + 3) L S G σ) : J m d n0 hi Post pc L (jv y :: jv x :: S) G σ :=
  j_lcmp hx hy hd (fun z => j_if_gt (inl (by decide)) hd2 ht (fun q => absurd q (by decide)) (fun _ => kf (by omega))) (fun z => j_if_gt (inl (by decide)) hd2 ht (fun q => absurd q (by decide)) (fun _ => kf (by omega))) (fun z => j_if_gt (inl (by decide)) hd2 ht (fun _ => kt (by omega)) (fun q => absurd q (by decide)))
theorem s_lif_le {x y off : Int} {tgt : Nat} (hx : inL x) (hy : inL y) (hd : decode m.2.1 pc = .ok (.lcmp, 1)) (hd2 : decode m.2.1 (pc + 1) = .ok (.ifCond .le off, 3)) (ht : ((pc + 1 : Nat) : Int) + off = (tgt : Int)) (kt : x ≤ y → J m d n0 hi Post tgt L S G σ) (kf : y < x → J m d n0 hi Post (pc + 1 + 3) L S G σ) : J m d n0 hi Post pc L (jv y :: jv x :: S) G σ :=
  j_lcmp hx hy hd (fun z => j_if_le (inl (by decide)) hd2 ht (fun _ => kt (by omega)) (fun q => absurd q (by decide))) (fun z => j_if_le (inl (by decide)) hd2 ht (fun _ => kt (by omega)) (fun q => absurd q (by decide))) (fun z => j_if_le (inl (by decide)) hd2 ht (fun q => absurd q (by decide)) (fun _ => kf (by omega)))
end JW
theorem okl_1 {t : Int} : ob (GG t) 1 11 := okob (by decide +kernel)
theorem okl_2 {t : Int} : ob (GG t) 2 10 := okob (by decide +kernel)
theorem okl_3 {t : Int} : ob (GG t) 3 1 := okob (by decide +kernel)
theorem okl_4 {t : Int} : ar (GG t) 4 1 8 := okar (by decide +kernel)
theorem okl_5 {t : Int} : ar (GG t) 5 1 8 := okar (by decide +kernel)
theorem okl_6 {t : Int} : ar (GG t) 6 2 25 := okar (by decide +kernel)
theorem okl_7 {t : Int} : ob (GG t) 7 7 := okob (by decide +kernel)
theorem okl_8 {t : Int} : ar (GG t) 8 4 30 := okar (by decide +kernel)
theorem okl_129 {t : Int} : ob (GG t) 129 9 := okob (by decide +kernel)
theorem okl_130 {t : Int} : ar (GG t) 130 1 12 := okar (by decide +kernel)
theorem okl_131 {t : Int} : ar (GG t) 131 1 4 := okar (by decide +kernel)
theorem okl_132 {t : Int} : ar (GG t) 132 1 8 := okar (by decide +kernel)
theorem okl_133 {t : Int} : ar (GG t) 133 1 8 := okar (by decide +kernel)
theorem okl_134 {t : Int} : ob (GG t) 134 10 := okob (by decide +kernel)
theorem okl_135 {t : Int} : ob (GG t) 135 1 := okob (by decide +kernel)
theorem okl_136 {t : Int} : ar (GG t) 136 1 8 := okar (by decide +kernel)
theorem okl_137 {t : Int} : ar (GG t) 137 1 8 := okar (by decide +kernel)
theorem okl_138 {t : Int} : ar (GG t) 138 2 25 := okar (by decide +kernel)
theorem okl_139 {t : Int} : ob (GG t) 139 7 := okob (by decide +kernel)
theorem okl_140 {t : Int} : ar (GG t) 140 4 30 := okar (by decide +kernel)
theorem okl_261 {t : Int} : ob (GG t) 261 9 := okob (by decide +kernel)
theorem okl_262 {t : Int} : ar (GG t) 262 1 12 := okar (by decide +kernel)
theorem okl_263 {t : Int} : ar (GG t) 263 1 4 := okar (by decide +kernel)
theorem okl_264 {t : Int} : ar (GG t) 264 1 8 := okar (by decide +kernel)
theorem okl_265 {t : Int} : ar (GG t) 265 1 8 := okar (by decide +kernel)
theorem okl_266 {t : Int} : ob (GG t) 266 1 := okob (by decide +kernel)
theorem okl_267 {t : Int} : ar (GG t) 267 1 8 := okar (by decide +kernel)
theorem okl_268 {t : Int} : ar (GG t) 268 1 8 := okar (by decide +kernel)
theorem okl_269 {t : Int} : ar (GG t) 269 2 25 := okar (by decide +kernel)
theorem okl_270 {t : Int} : ar (GG t) 270 5 4 := okar (by decide +kernel)
theorem okl_271 {t : Int} : ob (GG t) 271 3 := okob (by decide +kernel)
theorem okl_272 {t : Int} : ar (GG t) 272 1 300 := okar (by decide +kernel)
theorem okl_273 {t : Int} : ob (GG t) 273 2 := okob (by decide +kernel)
theorem okl_274 {t : Int} : ar (GG t) 274 1 64 := okar (by decide +kernel)
theorem okl_275 {t : Int} : ob (GG t) 275 0 := okob (by decide +kernel)
theorem okl_276 {t : Int} : ar (GG t) 276 1 24 := okar (by decide +kernel)
theorem okl_277 {t : Int} : ar (GG t) 277 2 24 := okar (by decide +kernel)
theorem okl_278 {t : Int} : ar (GG t) 278 2 24 := okar (by decide +kernel)
theorem okl_279 {t : Int} : ar (GG t) 279 2 24 := okar (by decide +kernel)
theorem okl_280 {t : Int} : ar (GG t) 280 1 4 := okar (by decide +kernel)
theorem okl_281 {t : Int} : ar (GG t) 281 1 121 := okar (by decide +kernel)
theorem okl_282 {t : Int} : ar (GG t) 282 1 1210 := okar (by decide +kernel)
theorem okl_283 {t : Int} : ar (GG t) 283 2 121 := okar (by decide +kernel)
theorem okl_284 {t : Int} : ar (GG t) 284 1 4 := okar (by decide +kernel)
theorem okl_285 {t : Int} : ar (GG t) 285 1 24 := okar (by decide +kernel)
theorem okl_286 {t : Int} : ob (GG t) 286 5 := okob (by decide +kernel)
theorem okl_287 {t : Int} : ob (GG t) 287 4 := okob (by decide +kernel)
theorem okl_288 {t : Int} : ar (GG t) 288 1 164 := okar (by decide +kernel)
theorem okl_289 {t : Int} : ar (GG t) 289 1 3 := okar (by decide +kernel)
theorem okl_290 {t : Int} : ob (GG t) 290 6 := okob (by decide +kernel)
theorem okl_291 {t : Int} : ar (GG t) 291 1 41 := okar (by decide +kernel)
theorem okl_292 {t : Int} : ar (GG t) 292 1 12 := okar (by decide +kernel)
theorem okl_321 {t : Int} : ob (GG t) 321 12 := okob (by decide +kernel)
theorem okl_322 {t : Int} : ar (GG t) 322 1 2208 := okar (by decide +kernel)
theorem okl_323 {t : Int} : ar (GG t) 323 1 2208 := okar (by decide +kernel)
theorem okl_324 {t : Int} : ar (GG t) 324 1 2724 := okar (by decide +kernel)
theorem okl_325 {t : Int} : ar (GG t) 325 1 300 := okar (by decide +kernel)
theorem okl_326 {t : Int} : ar (GG t) 326 1 160 := okar (by decide +kernel)
theorem okl_327 {t : Int} : ar (GG t) 327 1 7 := okar (by decide +kernel)
theorem okl_328 {t : Int} : ar (GG t) 328 2 330 := okar (by decide +kernel)
theorem okl_329 {t : Int} : ar (GG t) 329 3 330 := okar (by decide +kernel)
theorem okl_330 {t : Int} : ar (GG t) 330 1 26 := okar (by decide +kernel)
theorem okl_331 {t : Int} : ar (GG t) 331 1 44 := okar (by decide +kernel)
theorem okl_332 {t : Int} : ar (GG t) 332 1 121 := okar (by decide +kernel)
theorem okl_333 {t : Int} : ar (GG t) 333 1 64 := okar (by decide +kernel)
theorem okl_334 {t : Int} : ar (GG t) 334 1 44 := okar (by decide +kernel)
theorem okl_335 {t : Int} : ar (GG t) 335 1 68921 := okar (by decide +kernel)
theorem okl_336 {t : Int} : ar (GG t) 336 1 68921 := okar (by decide +kernel)
theorem okl_337 {t : Int} : ar (GG t) 337 1 810 := okar (by decide +kernel)
theorem okl_338 {t : Int} : ar (GG t) 338 1 41 := okar (by decide +kernel)
theorem okl_339 {t : Int} : ar (GG t) 339 3 65 := okar (by decide +kernel)
theorem okl_340 {t : Int} : ar (GG t) 340 3 4096 := okar (by decide +kernel)
