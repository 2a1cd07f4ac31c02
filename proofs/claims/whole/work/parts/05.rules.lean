/-! ===== the rules of J: plain instructions (printed by wip/whole/gen_rules.py) ===== -/
def i_shl (x y : Int) : Int := (Int32.ofInt x <<< (Int32.ofInt y &&& 31)).toInt
def i_shr (x y : Int) : Int := (Int32.ofInt x >>> (Int32.ofInt y &&& 31)).toInt
def i_ushr (x y : Int) : Int := ((Int32.ofInt x).toUInt32 >>> ((Int32.ofInt y).toUInt32 &&& Int32.toUInt32 31)).toInt32.toInt
def i_and (x y : Int) : Int := (Int32.ofInt x &&& Int32.ofInt y).toInt
def i_or (x y : Int) : Int := (Int32.ofInt x ||| Int32.ofInt y).toInt
def i_xor (x y : Int) : Int := (Int32.ofInt x ^^^ Int32.ofInt y).toInt
def l_shl (x y : Int) : Int := (Int64.ofInt x <<< ((Int32.ofInt y).toInt64 &&& 63)).toInt
def l_shr (x y : Int) : Int := (Int64.ofInt x >>> ((Int32.ofInt y).toInt64 &&& 63)).toInt
def l_ushr (x y : Int) : Int := ((Int64.ofInt x).toUInt64 >>> ((Int32.ofInt y).toInt64.toUInt64 &&& Int64.toUInt64 63)).toInt64.toInt
def l_and (x y : Int) : Int := (Int64.ofInt x &&& Int64.ofInt y).toInt
def l_or (x y : Int) : Int := (Int64.ofInt x ||| Int64.ofInt y).toInt
def l_xor (x y : Int) : Int := (Int64.ofInt x ^^^ Int64.ofInt y).toInt
theorem add32 (x y : Int) : Int32.ofInt x + Int32.ofInt y = Int32.ofInt (x + y) := (Int32.ofInt_add x y).symm
theorem sub32 (x y : Int) : Int32.ofInt x - Int32.ofInt y = Int32.ofInt (x - y) := (Int32.ofInt_sub x y).symm
theorem mul32 (x y : Int) : Int32.ofInt x * Int32.ofInt y = Int32.ofInt (x * y) := (Int32.ofInt_mul x y).symm
theorem neg32 (x : Int) : -Int32.ofInt x = Int32.ofInt (-x) := (Int32.ofInt_neg x).symm
theorem add64 (x y : Int) : Int64.ofInt x + Int64.ofInt y = Int64.ofInt (x + y) := (Int64.ofInt_add x y).symm
theorem sub64 (x y : Int) : Int64.ofInt x - Int64.ofInt y = Int64.ofInt (x - y) := (Int64.ofInt_sub x y).symm
theorem mul64 (x y : Int) : Int64.ofInt x * Int64.ofInt y = Int64.ofInt (x * y) := (Int64.ofInt_mul x y).symm
theorem neg64 (x : Int) : -Int64.ofInt x = Int64.ofInt (-x) := (Int64.ofInt_neg x).symm
theorem div32 {x y : Int} (hx : inR x) (hy : inR y) : Int32.ofInt x / Int32.ofInt y = Int32.ofInt (x.tdiv y) := by
  apply Int32.toInt_inj.mp
  rw [Int32.toInt_div, to32 hx, to32 hy, Int32.toInt_ofInt]
theorem div64 {x y : Int} (hx : inL x) (hy : inL y) : Int64.ofInt x / Int64.ofInt y = Int64.ofInt (x.tdiv y) := by
  apply Int64.toInt_inj.mp
  rw [Int64.toInt_div, to64 hx, to64 hy, Int64.toInt_ofInt]
theorem rem32 {x y : Int} (hx : inR x) (hy : inR y) : Int32.ofInt x - Int32.ofInt x / Int32.ofInt y * Int32.ofInt y = Int32.ofInt (x.tmod y) := by
  rw [div32 hx hy, mul32, sub32, Int.tmod_def, Int.mul_comm]
theorem rem64 {x y : Int} (hx : inL x) (hy : inL y) : Int64.ofInt x - Int64.ofInt x / Int64.ofInt y * Int64.ofInt y = Int64.ofInt (x.tmod y) := by
  rw [div64 hx hy, mul64, sub64, Int.tmod_def, Int.mul_comm]
theorem wide {x : Int} (hx : inR x) : (Int32.ofInt x).toInt64 = Int64.ofInt x := by
  apply Int64.toInt_inj.mp
  rw [Int32.toInt_toInt64, to32 hx, to64 ⟨by have := hx.1; omega, by have := hx.2; omega⟩]
theorem narr (x : Int) : (Int64.ofInt x).toInt32 = Int32.ofInt x := Int64.toInt32_ofInt
theorem ne32 {y : Int} (hy : inR y) (h : y ≠ 0) : ¬ Int32.ofInt y = 0 := fun q => h ((eq32 hy in0).mp q)
theorem ne64 {y : Int} (hy : inL y) (h : y ≠ 0) : ¬ Int64.ofInt y = 0 := fun q => h ((eq64 hy ⟨by decide, by decide⟩).mp q)
theorem conc_ref (E : jE) (v : jV) (hv : v.1 = 2 ∨ v.1 = 3 ∨ v.1 = 4 ∨ v.1 = 5 ∨ v.1 = 6) : conc E v = .null ∨ ∃ a, conc E v = .ref a := by
  obtain ⟨t, x⟩ := v
  rcases hv with h | h | h | h | h
  · have h : t = 2 := h
    subst h
    by_cases hx : x = 0
    · subst hx; exact Or.inl rfl
    · exact Or.inr ⟨_, conc_r E hx⟩
  · have h : t = 3 := h
    subst h; exact Or.inr ⟨_, rfl⟩
  · have h : t = 4 := h
    subst h; exact Or.inr ⟨_, rfl⟩
  · have h : t = 5 := h
    subst h; exact Or.inr ⟨_, rfl⟩
  · have h : t = 6 := h
    subst h; exact Or.inr ⟨_, rfl⟩
/-- the locals as the kit lists them -/
def asc (E : jE) (L : List jV) : List (Nat × Value) := (List.range L.length).filterMap (fun j => (L[j]?).bind (fun v => if v.1 = 9 then none else some (j, conc E v)))
theorem asc_mem {E : jE} {L : List jV} {j : Nat} {v : jV} (h : L[j]? = some v) (h9 : v.1 ≠ 9) : (j, conc E v) ∈ asc E L := by
  refine List.mem_filterMap.mpr ⟨j, List.mem_range.mpr (List.getElem?_eq_some_iff.mp h).1, ?_⟩
  rw [h]
  show (if v.1 = 9 then none else some (j, conc E v)) = _
  rw [if_neg h9]
theorem asc_has {E : jE} {ls : Array Slot} {nL : Nat} {L : List jV} (h : hasL E ls nL L) : lv_has ls nL (asc E L) := by
  refine ⟨h.2.1, h.2.2.1, fun q hq => ?_⟩
  obtain ⟨j, -, hj⟩ := List.mem_filterMap.mp hq
  cases hv : L[j]? with
  | none => rw [hv] at hj; cases hj
  | some v =>
    rw [hv] at hj
    have hj : (if v.1 = 9 then none else some (j, conc E v)) = some q := hj
    by_cases h9 : v.1 = 9
    · rw [if_pos h9] at hj; cases hj
    · rw [if_neg h9] at hj
      cases hj
      exact h.2.2.2 j v hv h9
/-- a store: what lies there, and the first half of a long whose second half it was, are gone -/
def lclr (L : List jV) (i : Nat) : List jV := if (L[i - 1]?).any (fun q => q.1 == 1) then L.set (i - 1) uv else L
def lset (L : List jV) (i : Nat) (v : jV) : List jV := (lclr L i).set i v
def lset2 (L : List jV) (i : Nat) (v : jV) : List jV := ((lclr L i).set i v).set (i + 1) uv
theorem lclr_len (L : List jV) (i : Nat) : (lclr L i).length = L.length := by
  unfold lclr
  split
  · exact List.length_set
  · rfl
theorem lclr_at {L : List jV} {i j : Nat} {w : jV} (hj : j ≠ i) (h : (lclr L i)[j]? = some w) (h9 : w.1 ≠ 9) : L[j]? = some w ∧ ¬ (j + 1 = i ∧ w.1 = 1) := by
  unfold lclr at h
  by_cases hc : (L[i - 1]?).any (fun q => q.1 == 1) = true
  · rw [if_pos hc, List.getElem?_set] at h
    by_cases e : i - 1 = j
    · rw [if_pos e] at h
      by_cases hl : i - 1 < L.length
      · rw [if_pos hl] at h
        cases h
        exact absurd rfl h9
      · rw [if_neg hl] at h
        cases h
    · rw [if_neg e] at h
      exact ⟨h, fun q => e (by omega)⟩
  · rw [if_neg hc] at h
    refine ⟨h, fun q => hc ?_⟩
    have e : i - 1 = j := by omega
    rw [e, h]
    show (w.1 == 1) = true
    rw [q.2]
    rfl
theorem cat_b (E : jE) (w : jV) : ((conc E w).category == 2) = true ↔ w.1 = 1 := by
  rw [conc_cat]
  by_cases h : w.1 = 1
  · rw [if_pos h]; simp [h]
  · rw [if_neg h]; simp [h]
theorem hasL_1 {E : jE} {ls ls' : Array Slot} {nL i : Nat} {L : List jV} {v : jV} (h : hasL E ls nL L) (hl : lv_has ls' nL ((i, conc E v) :: (asc E L).filter (fun q => !(q.1 == i) && !(q.1 + 1 == i && q.2.category == 2)))) : hasL E ls' nL (lset L i v) := by
  refine ⟨by unfold lset; rw [List.length_set, lclr_len]; exact h.1, hl.1, hl.2.1, fun j w hj h9 => ?_⟩
  unfold lset at hj
  rw [List.getElem?_set] at hj
  by_cases e : i = j
  · subst e
    rw [if_pos rfl] at hj
    by_cases hlt : i < (lclr L i).length
    · rw [if_pos hlt] at hj
      cases hj
      exact hl.2.2 (i, conc E v) List.mem_cons_self
    · rw [if_neg hlt] at hj
      cases hj
  · rw [if_neg e] at hj
    obtain ⟨g1, g2⟩ := lclr_at (fun q => e q.symm) hj h9
    refine hl.2.2 (j, conc E w) (List.mem_cons_of_mem _ (List.mem_filter.mpr ⟨asc_mem g1 h9, ?_⟩))
    have n1 : (j == i) = false := beq_eq_false_iff_ne.mpr (fun q => e q.symm)
    have n2 : (j + 1 == i && (conc E w).category == 2) = false := by
      apply Bool.eq_false_iff.mpr
      intro q
      rw [Bool.and_eq_true] at q
      exact g2 ⟨beq_iff_eq.mp q.1, (cat_b E w).mp q.2⟩
    show (!(j == i) && !(j + 1 == i && (conc E w).category == 2)) = true
    rw [n1, n2]
    rfl
theorem hasL_2 {E : jE} {ls ls' : Array Slot} {nL i : Nat} {L : List jV} {v : jV} (h : hasL E ls nL L) (hl : lv_has ls' nL ((i, conc E v) :: (asc E L).filter (fun q => !(q.1 == i) && (!(q.1 == i + 1) && !(q.1 + 1 == i && q.2.category == 2))))) : hasL E ls' nL (lset2 L i v) := by
  refine ⟨by unfold lset2; rw [List.length_set, List.length_set, lclr_len]; exact h.1, hl.1, hl.2.1, fun j w hj h9 => ?_⟩
  unfold lset2 at hj
  rw [List.getElem?_set] at hj
  by_cases e2 : i + 1 = j
  · rw [if_pos e2] at hj
    by_cases hlt : i + 1 < ((lclr L i).set i v).length
    · rw [if_pos hlt] at hj
      cases hj
      exact absurd rfl h9
    · rw [if_neg hlt] at hj
      cases hj
  · rw [if_neg e2, List.getElem?_set] at hj
    by_cases e : i = j
    · subst e
      rw [if_pos rfl] at hj
      by_cases hlt : i < (lclr L i).length
      · rw [if_pos hlt] at hj
        cases hj
        exact hl.2.2 (i, conc E v) List.mem_cons_self
      · rw [if_neg hlt] at hj
        cases hj
    · rw [if_neg e] at hj
      obtain ⟨g1, g2⟩ := lclr_at (fun q => e q.symm) hj h9
      refine hl.2.2 (j, conc E w) (List.mem_cons_of_mem _ (List.mem_filter.mpr ⟨asc_mem g1 h9, ?_⟩))
      have n1 : (j == i) = false := beq_eq_false_iff_ne.mpr (fun q => e q.symm)
      have n3 : (j == i + 1) = false := beq_eq_false_iff_ne.mpr (fun q => e2 q.symm)
      have n2 : (j + 1 == i && (conc E w).category == 2) = false := by
        apply Bool.eq_false_iff.mpr
        intro q
        rw [Bool.and_eq_true] at q
        exact g2 ⟨beq_iff_eq.mp q.1, (cat_b E w).mp q.2⟩
      show (!(j == i) && (!(j == i + 1) && !(j + 1 == i && (conc E w).category == 2))) = true
      rw [n1, n2, n3]
      rfl
section JR
variable {m : jT} {d n0 hi : Nat} {Post : jV → jG → jM → Prop} {pc : Nat} {L S : List jV} {G : jG} {σ : jM}
theorem j_iconst {n : Int} (hd : decode m.2.1 pc = .ok (.iconst n, 1)) (k : J m d n0 hi Post (pc + 1) L (iv n :: S) G σ) : J m d n0 hi Post pc L S G σ := by
  intro E p l e R s mi args below meth c Q hC hR ls H locs hl hH hS h1 h2
  exact lv_iconst hC.1 hC.2.1 hd rfl (k E p l e R s mi args below meth c Q hC hR ls H locs hl hH hS h1 h2)
theorem j_bipush {n : Int} (hv : (Int8.ofInt n).toInt32 = Int32.ofInt n) (hd : decode m.2.1 pc = .ok (.bipush n, 2)) (k : J m d n0 hi Post (pc + 2) L (iv n :: S) G σ) : J m d n0 hi Post pc L S G σ := by
  intro E p l e R s mi args below meth c Q hC hR ls H locs hl hH hS h1 h2
  exact lv_bipush hC.1 hC.2.1 hd hv (k E p l e R s mi args below meth c Q hC hR ls H locs hl hH hS h1 h2)
theorem j_sipush {n : Int} (hv : (Int16.ofInt n).toInt32 = Int32.ofInt n) (hd : decode m.2.1 pc = .ok (.sipush n, 3)) (k : J m d n0 hi Post (pc + 3) L (iv n :: S) G σ) : J m d n0 hi Post pc L S G σ := by
  intro E p l e R s mi args below meth c Q hC hR ls H locs hl hH hS h1 h2
  exact lv_sipush hC.1 hC.2.1 hd hv (k E p l e R s mi args below meth c Q hC hR ls H locs hl hH hS h1 h2)
theorem j_lconst {n : Fin 2} {x : Int} (hv : Int64.ofNat (n : Nat) = Int64.ofInt x) (hd : decode m.2.1 pc = .ok (.lconst n, 1)) (k : J m d n0 hi Post (pc + 1) L (jv x :: S) G σ) : J m d n0 hi Post pc L S G σ := by
  intro E p l e R s mi args below meth c Q hC hR ls H locs hl hH hS h1 h2
  exact lv_lconst hC.1 hC.2.1 hd hv (k E p l e R s mi args below meth c Q hC hR ls H locs hl hH hS h1 h2)
theorem j_ldc {x : Int} {idx : Nat} (hw : Cond.constant m.1.cls idx (Int32.ofInt x) ∈ TT) (hd : decode m.2.1 pc = .ok (.ldc idx, 2)) (k : J m d n0 hi Post (pc + 2) L (iv x :: S) G σ) : J m d n0 hi Post pc L S G σ := by
  intro E p l e R s mi args below meth c Q hC hR ls H locs hl hH hS h1 h2
  exact lv_ldc hC.1 hC.2.1 hC.2.2.2.1 (hC.2.2.2.2.1 _ hw) hd (k E p l e R s mi args below meth c Q hC hR ls H locs hl hH hS h1 h2)
theorem j_ldcw {x : Int} {idx : Nat} (hw : Cond.constant m.1.cls idx (Int32.ofInt x) ∈ TT) (hd : decode m.2.1 pc = .ok (.ldc_w idx, 3)) (k : J m d n0 hi Post (pc + 3) L (iv x :: S) G σ) : J m d n0 hi Post pc L S G σ := by
  intro E p l e R s mi args below meth c Q hC hR ls H locs hl hH hS h1 h2
  exact lv_ldcw hC.1 hC.2.1 hC.2.2.2.1 (hC.2.2.2.2.1 _ hw) hd (k E p l e R s mi args below meth c Q hC hR ls H locs hl hH hS h1 h2)
theorem j_ldc2 {x : Int} {idx : Nat} (hw : Cond.constantLong m.1.cls idx (Int64.ofInt x) ∈ TT) (hd : decode m.2.1 pc = .ok (.ldc2_w idx, 3)) (k : J m d n0 hi Post (pc + 3) L (jv x :: S) G σ) : J m d n0 hi Post pc L S G σ := by
  intro E p l e R s mi args below meth c Q hC hR ls H locs hl hH hS h1 h2
  exact lv_ldc2 hC.1 hC.2.1 hC.2.2.2.1 (hC.2.2.2.2.1 _ hw) hd (k E p l e R s mi args below meth c Q hC hR ls H locs hl hH hS h1 h2)
theorem j_null  (hd : decode m.2.1 pc = .ok (.aconst_null, 1)) (k : J m d n0 hi Post (pc + 1) L (rv 0 :: S) G σ) : J m d n0 hi Post pc L S G σ := by
  intro E p l e R s mi args below meth c Q hC hR ls H locs hl hH hS h1 h2
  exact lv_null hC.1 hC.2.1 hd (k E p l e R s mi args below meth c Q hC hR ls H locs hl hH hS h1 h2)
theorem j_iload {i : Nat} {x : Int} (hL : L[i]? = some (iv x)) (hd : decode m.2.1 pc = .ok (.iload i, 2)) (k : J m d n0 hi Post (pc + 2) L (iv x :: S) G σ) : J m d n0 hi Post pc L S G σ := by
  intro E p l e R s mi args below meth c Q hC hR ls H locs hl hH hS h1 h2
  exact lv_iload hC.1 hC.2.1 hd (hl.2.2.2 i _ hL (by simp)) (k E p l e R s mi args below meth c Q hC hR ls H locs hl hH hS h1 h2)
theorem j_iload_n {i : Fin 4} {x : Int} (hL : L[(i : Nat)]? = some (iv x)) (hd : decode m.2.1 pc = .ok (.iload_n i, 1)) (k : J m d n0 hi Post (pc + 1) L (iv x :: S) G σ) : J m d n0 hi Post pc L S G σ := by
  intro E p l e R s mi args below meth c Q hC hR ls H locs hl hH hS h1 h2
  exact lv_iload_n hC.1 hC.2.1 hd rfl (hl.2.2.2 i _ hL (by simp)) (k E p l e R s mi args below meth c Q hC hR ls H locs hl hH hS h1 h2)
theorem j_lload {i : Nat} {x : Int} (hL : L[i]? = some (jv x)) (hd : decode m.2.1 pc = .ok (.lload i, 2)) (k : J m d n0 hi Post (pc + 2) L (jv x :: S) G σ) : J m d n0 hi Post pc L S G σ := by
  intro E p l e R s mi args below meth c Q hC hR ls H locs hl hH hS h1 h2
  exact lv_lload hC.1 hC.2.1 hd (hl.2.2.2 i _ hL (by simp)) (k E p l e R s mi args below meth c Q hC hR ls H locs hl hH hS h1 h2)
theorem j_lload_n {i : Fin 4} {x : Int} (hL : L[(i : Nat)]? = some (jv x)) (hd : decode m.2.1 pc = .ok (.lload_n i, 1)) (k : J m d n0 hi Post (pc + 1) L (jv x :: S) G σ) : J m d n0 hi Post pc L S G σ := by
  intro E p l e R s mi args below meth c Q hC hR ls H locs hl hH hS h1 h2
  exact lv_lload_n hC.1 hC.2.1 hd rfl (hl.2.2.2 i _ hL (by simp)) (k E p l e R s mi args below meth c Q hC hR ls H locs hl hH hS h1 h2)
theorem j_aload {i : Nat} {v : jV} (hL : L[i]? = some v) (hv : v.1 = 2 ∨ v.1 = 3 ∨ v.1 = 4 ∨ v.1 = 5 ∨ v.1 = 6) (hd : decode m.2.1 pc = .ok (.aload i, 2)) (k : J m d n0 hi Post (pc + 2) L (v :: S) G σ) : J m d n0 hi Post pc L S G σ := by
  intro E p l e R s mi args below meth c Q hC hR ls H locs hl hH hS h1 h2
  have kk := k E p l e R s mi args below meth c Q hC hR ls H locs hl hH hS h1 h2
  have h := hl.2.2.2 _ _ hL (by omega)
  rcases conc_ref E v hv with e1 | ⟨a, e1⟩
  · rw [List.map_cons, e1] at kk
    rw [e1] at h
    exact lv_aloadN hC.1 hC.2.1 hd h kk
  · rw [List.map_cons, e1] at kk
    rw [e1] at h
    exact lv_aload hC.1 hC.2.1 hd h kk
theorem j_aload_n {i : Fin 4} {v : jV} (hL : L[(i : Nat)]? = some v) (hv : v.1 = 2 ∨ v.1 = 3 ∨ v.1 = 4 ∨ v.1 = 5 ∨ v.1 = 6) (hd : decode m.2.1 pc = .ok (.aload_n i, 1)) (k : J m d n0 hi Post (pc + 1) L (v :: S) G σ) : J m d n0 hi Post pc L S G σ := by
  intro E p l e R s mi args below meth c Q hC hR ls H locs hl hH hS h1 h2
  have kk := k E p l e R s mi args below meth c Q hC hR ls H locs hl hH hS h1 h2
  have h := hl.2.2.2 _ _ hL (by omega)
  rcases conc_ref E v hv with e1 | ⟨a, e1⟩
  · rw [List.map_cons, e1] at kk
    rw [e1] at h
    exact lv_aload_nN hC.1 hC.2.1 hd rfl h kk
  · rw [List.map_cons, e1] at kk
    rw [e1] at h
    exact lv_aload_n hC.1 hC.2.1 hd rfl h kk
theorem j_istore {i : Nat} {x : Int} (hi' : i < m.2.2.1) (hd : decode m.2.1 pc = .ok (.istore i, 2)) (k : J m d n0 hi Post (pc + 2) (lset L i (iv x)) S G σ) : J m d n0 hi Post pc L (iv x :: S) G σ := by
  intro E p l e R s mi args below meth c Q hC hR ls H locs hl hH hS h1 h2
  exact lv_istore hC.1 hC.2.1 hd (asc_has hl) hi' rfl (fun ls' hl' => k E p l e R s mi args below meth c Q hC hR ls' H locs (hasL_1 hl hl') hH hS h1 h2)
theorem j_istore_n {i : Fin 4} {x : Int} (hi' : (i : Nat) < m.2.2.1) (hd : decode m.2.1 pc = .ok (.istore_n i, 1)) (k : J m d n0 hi Post (pc + 1) (lset L (i : Nat) (iv x)) S G σ) : J m d n0 hi Post pc L (iv x :: S) G σ := by
  intro E p l e R s mi args below meth c Q hC hR ls H locs hl hH hS h1 h2
  exact lv_istore_n hC.1 hC.2.1 hd rfl (asc_has hl) hi' rfl (fun ls' hl' => k E p l e R s mi args below meth c Q hC hR ls' H locs (hasL_1 hl hl') hH hS h1 h2)
theorem j_lstore {i : Nat} {x : Int} (hi' : i + 1 < m.2.2.1) (hd : decode m.2.1 pc = .ok (.lstore i, 2)) (k : J m d n0 hi Post (pc + 2) (lset2 L i (jv x)) S G σ) : J m d n0 hi Post pc L (jv x :: S) G σ := by
  intro E p l e R s mi args below meth c Q hC hR ls H locs hl hH hS h1 h2
  exact lv_lstore hC.1 hC.2.1 hd (asc_has hl) hi' rfl (fun ls' hl' => k E p l e R s mi args below meth c Q hC hR ls' H locs (hasL_2 hl hl') hH hS h1 h2)
theorem j_lstore_n {i : Fin 4} {x : Int} (hi' : (i : Nat) + 1 < m.2.2.1) (hd : decode m.2.1 pc = .ok (.lstore_n i, 1)) (k : J m d n0 hi Post (pc + 1) (lset2 L (i : Nat) (jv x)) S G σ) : J m d n0 hi Post pc L (jv x :: S) G σ := by
  intro E p l e R s mi args below meth c Q hC hR ls H locs hl hH hS h1 h2
  exact lv_lstore_n hC.1 hC.2.1 hd rfl (asc_has hl) hi' rfl (fun ls' hl' => k E p l e R s mi args below meth c Q hC hR ls' H locs (hasL_2 hl hl') hH hS h1 h2)
theorem j_astore_n {i : Fin 4} {v : jV} (hv : v.1 = 2 ∨ v.1 = 3 ∨ v.1 = 4 ∨ v.1 = 5 ∨ v.1 = 6) (hi' : (i : Nat) < m.2.2.1) (hd : decode m.2.1 pc = .ok (.astore_n i, 1)) (k : J m d n0 hi Post (pc + 1) (lset L (i : Nat) v) S G σ) : J m d n0 hi Post pc L (v :: S) G σ := by
  intro E p l e R s mi args below meth c Q hC hR ls H locs hl hH hS h1 h2
  have kk : ∀ ls' : Array Slot, lv_has ls' m.2.2.1 (((i : Nat), conc E v) :: (asc E L).filter (fun q => !(q.1 == (i : Nat)) && !(q.1 + 1 == (i : Nat) && q.2.category == 2))) → W p l e R s mi args below meth c H locs (G.2 - n0) (sl G.2 - sl n0) Q (F0 mi (pc + 1) ls' (S.map (conc E))) := fun ls' hl' => k E p l e R s mi args below meth c Q hC hR ls' H locs (hasL_1 hl hl') hH hS h1 h2
  show W p l e R s mi args below meth c H locs (G.2 - n0) (sl G.2 - sl n0) Q (F0 mi pc ls (conc E v :: S.map (conc E)))
  rcases conc_ref E v hv with e1 | ⟨a, e1⟩
  · rw [e1] at kk ⊢
    exact lv_astore_nN hC.1 hC.2.1 hd rfl (asc_has hl) hi' rfl kk
  · rw [e1] at kk ⊢
    exact lv_astore_n hC.1 hC.2.1 hd rfl (asc_has hl) hi' rfl kk
theorem j_iinc {i : Nat} {n x : Int} (hL : L[i]? = some (iv x)) (hd : decode m.2.1 pc = .ok (.iinc i n, 3)) (k : J m d n0 hi Post (pc + 3) (lset L i (iv (x + n))) S G σ) : J m d n0 hi Post pc L S G σ := by
  intro E p l e R s mi args below meth c Q hC hR ls H locs hl hH hS h1 h2
  obtain ⟨q, hq⟩ := List.getElem?_of_mem (asc_mem (E := E) hL (by simp))
  have hi' : i < m.2.2.1 := by rw [← hl.1]; exact (List.getElem?_eq_some_iff.mp hL).1
  exact lv_iinc hC.1 hC.2.1 hd (asc_has hl) hq (add32 x n) hi' rfl (fun ls' hl' => k E p l e R s mi args below meth c Q hC hR ls' H locs (hasL_1 hl hl') hH hS h1 h2)
theorem j_dup {v : jV} (hv : v.1 ≠ 1) (hd : decode m.2.1 pc = .ok (.dup, 1)) (k : J m d n0 hi Post (pc + 1) L (v :: v :: S) G σ) : J m d n0 hi Post pc L (v :: S) G σ := by
  intro E p l e R s mi args below meth c Q hC hR ls H locs hl hH hS h1 h2
  exact lv_dup hC.1 hC.2.1 hd (by rw [conc_cat, if_neg hv]) (k E p l e R s mi args below meth c Q hC hR ls H locs hl hH hS h1 h2)
theorem j_dup2 {v u : jV} (hv : v.1 ≠ 1) (hu : u.1 ≠ 1) (hd : decode m.2.1 pc = .ok (.dup2, 1)) (k : J m d n0 hi Post (pc + 1) L (v :: u :: v :: u :: S) G σ) : J m d n0 hi Post pc L (v :: u :: S) G σ := by
  intro E p l e R s mi args below meth c Q hC hR ls H locs hl hH hS h1 h2
  exact lv_dup2_11 hC.1 hC.2.1 hd (by rw [conc_cat, if_neg hv]) (by rw [conc_cat, if_neg hu]) (k E p l e R s mi args below meth c Q hC hR ls H locs hl hH hS h1 h2)
theorem j_pop {v : jV} (hv : v.1 ≠ 1) (hd : decode m.2.1 pc = .ok (.pop, 1)) (k : J m d n0 hi Post (pc + 1) L S G σ) : J m d n0 hi Post pc L (v :: S) G σ := by
  intro E p l e R s mi args below meth c Q hC hR ls H locs hl hH hS h1 h2
  exact lv_pop hC.1 hC.2.1 hd (by rw [conc_cat, if_neg hv]) (k E p l e R s mi args below meth c Q hC hR ls H locs hl hH hS h1 h2)
theorem j_goto {off : Int} {tgt : Nat} (hd : decode m.2.1 pc = .ok (.goto off, 3)) (ht : (pc : Int) + off = (tgt : Int)) (k : J m d n0 hi Post tgt L S G σ) : J m d n0 hi Post pc L S G σ := by
  intro E p l e R s mi args below meth c Q hC hR ls H locs hl hH hS h1 h2
  exact lv_goto hC.1 hC.2.1 hd ht (k E p l e R s mi args below meth c Q hC hR ls H locs hl hH hS h1 h2)
theorem j_iadd {x y : Int} (hd : decode m.2.1 pc = .ok (.iadd, 1)) (k : J m d n0 hi Post (pc + 1) L (iv (x + y) :: S) G σ) : J m d n0 hi Post pc L (iv y :: iv x :: S) G σ := by
  intro E p l e R s mi args below meth c Q hC hR ls H locs hl hH hS h1 h2
  have kk := k E p l e R s mi args below meth c Q hC hR ls H locs hl hH hS h1 h2
  rw [List.map_cons, conc_i, ← add32] at kk
  exact lv_iadd hC.1 hC.2.1 hd kk
theorem j_isub {x y : Int} (hd : decode m.2.1 pc = .ok (.isub, 1)) (k : J m d n0 hi Post (pc + 1) L (iv (x - y) :: S) G σ) : J m d n0 hi Post pc L (iv y :: iv x :: S) G σ := by
  intro E p l e R s mi args below meth c Q hC hR ls H locs hl hH hS h1 h2
  have kk := k E p l e R s mi args below meth c Q hC hR ls H locs hl hH hS h1 h2
  rw [List.map_cons, conc_i, ← sub32] at kk
  exact lv_isub hC.1 hC.2.1 hd kk
theorem j_imul {x y : Int} (hd : decode m.2.1 pc = .ok (.imul, 1)) (k : J m d n0 hi Post (pc + 1) L (iv (x * y) :: S) G σ) : J m d n0 hi Post pc L (iv y :: iv x :: S) G σ := by
  intro E p l e R s mi args below meth c Q hC hR ls H locs hl hH hS h1 h2
  have kk := k E p l e R s mi args below meth c Q hC hR ls H locs hl hH hS h1 h2
  rw [List.map_cons, conc_i, ← mul32] at kk
  exact lv_imul hC.1 hC.2.1 hd kk
theorem j_idiv {x y : Int} (hx : inR x) (hy : inR y) (h0 : y ≠ 0) (hd : decode m.2.1 pc = .ok (.idiv, 1)) (k : J m d n0 hi Post (pc + 1) L (iv (x.tdiv y) :: S) G σ) : J m d n0 hi Post pc L (iv y :: iv x :: S) G σ := by
  intro E p l e R s mi args below meth c Q hC hR ls H locs hl hH hS h1 h2
  have kk := k E p l e R s mi args below meth c Q hC hR ls H locs hl hH hS h1 h2
  rw [List.map_cons, conc_i, ← div32 hx hy] at kk
  exact lv_idiv hC.1 hC.2.1 hd (ne32 hy h0) kk
theorem j_irem {x y : Int} (hx : inR x) (hy : inR y) (h0 : y ≠ 0) (hd : decode m.2.1 pc = .ok (.irem, 1)) (k : J m d n0 hi Post (pc + 1) L (iv (x.tmod y) :: S) G σ) : J m d n0 hi Post pc L (iv y :: iv x :: S) G σ := by
  intro E p l e R s mi args below meth c Q hC hR ls H locs hl hH hS h1 h2
  have kk := k E p l e R s mi args below meth c Q hC hR ls H locs hl hH hS h1 h2
  rw [List.map_cons, conc_i, ← rem32 hx hy] at kk
  exact lv_irem hC.1 hC.2.1 hd (ne32 hy h0) kk
theorem j_ishl {x y : Int} (hd : decode m.2.1 pc = .ok (.ishl, 1)) (k : J m d n0 hi Post (pc + 1) L (iv (i_shl x y) :: S) G σ) : J m d n0 hi Post pc L (iv y :: iv x :: S) G σ := by
  intro E p l e R s mi args below meth c Q hC hR ls H locs hl hH hS h1 h2
  have kk := k E p l e R s mi args below meth c Q hC hR ls H locs hl hH hS h1 h2
  rw [List.map_cons, conc_i, i_shl, Int32.ofInt_toInt] at kk
  exact lv_ishl hC.1 hC.2.1 hd kk
theorem j_ishr {x y : Int} (hd : decode m.2.1 pc = .ok (.ishr, 1)) (k : J m d n0 hi Post (pc + 1) L (iv (i_shr x y) :: S) G σ) : J m d n0 hi Post pc L (iv y :: iv x :: S) G σ := by
  intro E p l e R s mi args below meth c Q hC hR ls H locs hl hH hS h1 h2
  have kk := k E p l e R s mi args below meth c Q hC hR ls H locs hl hH hS h1 h2
  rw [List.map_cons, conc_i, i_shr, Int32.ofInt_toInt] at kk
  exact lv_ishr hC.1 hC.2.1 hd kk
theorem j_iand {x y : Int} (hd : decode m.2.1 pc = .ok (.iand, 1)) (k : J m d n0 hi Post (pc + 1) L (iv (i_and x y) :: S) G σ) : J m d n0 hi Post pc L (iv y :: iv x :: S) G σ := by
  intro E p l e R s mi args below meth c Q hC hR ls H locs hl hH hS h1 h2
  have kk := k E p l e R s mi args below meth c Q hC hR ls H locs hl hH hS h1 h2
  rw [List.map_cons, conc_i, i_and, Int32.ofInt_toInt] at kk
  exact lv_iand hC.1 hC.2.1 hd kk
theorem j_ior {x y : Int} (hd : decode m.2.1 pc = .ok (.ior, 1)) (k : J m d n0 hi Post (pc + 1) L (iv (i_or x y) :: S) G σ) : J m d n0 hi Post pc L (iv y :: iv x :: S) G σ := by
  intro E p l e R s mi args below meth c Q hC hR ls H locs hl hH hS h1 h2
  have kk := k E p l e R s mi args below meth c Q hC hR ls H locs hl hH hS h1 h2
  rw [List.map_cons, conc_i, i_or, Int32.ofInt_toInt] at kk
  exact lv_ior hC.1 hC.2.1 hd kk
theorem j_ixor {x y : Int} (hd : decode m.2.1 pc = .ok (.ixor, 1)) (k : J m d n0 hi Post (pc + 1) L (iv (i_xor x y) :: S) G σ) : J m d n0 hi Post pc L (iv y :: iv x :: S) G σ := by
  intro E p l e R s mi args below meth c Q hC hR ls H locs hl hH hS h1 h2
  have kk := k E p l e R s mi args below meth c Q hC hR ls H locs hl hH hS h1 h2
  rw [List.map_cons, conc_i, i_xor, Int32.ofInt_toInt] at kk
  exact lv_ixor hC.1 hC.2.1 hd kk
theorem j_iushr {x y : Int} (hd : decode m.2.1 pc = .ok (.iushr, 1)) (k : J m d n0 hi Post (pc + 1) L (iv (i_ushr x y) :: S) G σ) : J m d n0 hi Post pc L (iv y :: iv x :: S) G σ := by
  intro E p l e R s mi args below meth c Q hC hR ls H locs hl hH hS h1 h2
  have kk := k E p l e R s mi args below meth c Q hC hR ls H locs hl hH hS h1 h2
  rw [List.map_cons, conc_i, i_ushr, Int32.ofInt_toInt] at kk
  exact lv_iushr hC.1 hC.2.1 hd rfl kk
theorem j_ineg {x : Int} (hd : decode m.2.1 pc = .ok (.ineg, 1)) (k : J m d n0 hi Post (pc + 1) L (iv (-x) :: S) G σ) : J m d n0 hi Post pc L (iv x :: S) G σ := by
  intro E p l e R s mi args below meth c Q hC hR ls H locs hl hH hS h1 h2
  have kk := k E p l e R s mi args below meth c Q hC hR ls H locs hl hH hS h1 h2
  rw [List.map_cons, conc_i, ← neg32] at kk
  exact lv_ineg hC.1 hC.2.1 hd kk
theorem j_lneg {x : Int} (hd : decode m.2.1 pc = .ok (.lneg, 1)) (k : J m d n0 hi Post (pc + 1) L (jv (-x) :: S) G σ) : J m d n0 hi Post pc L (jv x :: S) G σ := by
  intro E p l e R s mi args below meth c Q hC hR ls H locs hl hH hS h1 h2
  have kk := k E p l e R s mi args below meth c Q hC hR ls H locs hl hH hS h1 h2
  rw [List.map_cons, conc_j, ← neg64] at kk
  exact lv_lneg hC.1 hC.2.1 hd kk
theorem j_i2l {x : Int} (hx : inR x) (hd : decode m.2.1 pc = .ok (.i2l, 1)) (k : J m d n0 hi Post (pc + 1) L (jv x :: S) G σ) : J m d n0 hi Post pc L (iv x :: S) G σ := by
  intro E p l e R s mi args below meth c Q hC hR ls H locs hl hH hS h1 h2
  exact lv_i2l hC.1 hC.2.1 hd (wide hx) (k E p l e R s mi args below meth c Q hC hR ls H locs hl hH hS h1 h2)
theorem j_l2i {x : Int} (hd : decode m.2.1 pc = .ok (.l2i, 1)) (k : J m d n0 hi Post (pc + 1) L (iv x :: S) G σ) : J m d n0 hi Post pc L (jv x :: S) G σ := by
  intro E p l e R s mi args below meth c Q hC hR ls H locs hl hH hS h1 h2
  exact lv_l2i hC.1 hC.2.1 hd (narr x) (k E p l e R s mi args below meth c Q hC hR ls H locs hl hH hS h1 h2)
theorem j_ladd {x y : Int} (hd : decode m.2.1 pc = .ok (.ladd, 1)) (k : J m d n0 hi Post (pc + 1) L (jv (x + y) :: S) G σ) : J m d n0 hi Post pc L (jv y :: jv x :: S) G σ := by
  intro E p l e R s mi args below meth c Q hC hR ls H locs hl hH hS h1 h2
  have kk := k E p l e R s mi args below meth c Q hC hR ls H locs hl hH hS h1 h2
  rw [List.map_cons, conc_j, ← add64] at kk
  exact lv_ladd hC.1 hC.2.1 hd kk
theorem j_lsub {x y : Int} (hd : decode m.2.1 pc = .ok (.lsub, 1)) (k : J m d n0 hi Post (pc + 1) L (jv (x - y) :: S) G σ) : J m d n0 hi Post pc L (jv y :: jv x :: S) G σ := by
  intro E p l e R s mi args below meth c Q hC hR ls H locs hl hH hS h1 h2
  have kk := k E p l e R s mi args below meth c Q hC hR ls H locs hl hH hS h1 h2
  rw [List.map_cons, conc_j, ← sub64] at kk
  exact lv_lsub hC.1 hC.2.1 hd kk
theorem j_lmul {x y : Int} (hd : decode m.2.1 pc = .ok (.lmul, 1)) (k : J m d n0 hi Post (pc + 1) L (jv (x * y) :: S) G σ) : J m d n0 hi Post pc L (jv y :: jv x :: S) G σ := by
  intro E p l e R s mi args below meth c Q hC hR ls H locs hl hH hS h1 h2
  have kk := k E p l e R s mi args below meth c Q hC hR ls H locs hl hH hS h1 h2
  rw [List.map_cons, conc_j, ← mul64] at kk
  exact lv_lmul hC.1 hC.2.1 hd kk
theorem j_ldiv {x y : Int} (hx : inL x) (hy : inL y) (h0 : y ≠ 0) (hd : decode m.2.1 pc = .ok (.ldiv, 1)) (k : J m d n0 hi Post (pc + 1) L (jv (x.tdiv y) :: S) G σ) : J m d n0 hi Post pc L (jv y :: jv x :: S) G σ := by
  intro E p l e R s mi args below meth c Q hC hR ls H locs hl hH hS h1 h2
  have kk := k E p l e R s mi args below meth c Q hC hR ls H locs hl hH hS h1 h2
  rw [List.map_cons, conc_j, ← div64 hx hy] at kk
  exact lv_ldiv hC.1 hC.2.1 hd (ne64 hy h0) kk
theorem j_lrem {x y : Int} (hx : inL x) (hy : inL y) (h0 : y ≠ 0) (hd : decode m.2.1 pc = .ok (.lrem, 1)) (k : J m d n0 hi Post (pc + 1) L (jv (x.tmod y) :: S) G σ) : J m d n0 hi Post pc L (jv y :: jv x :: S) G σ := by
  intro E p l e R s mi args below meth c Q hC hR ls H locs hl hH hS h1 h2
  have kk := k E p l e R s mi args below meth c Q hC hR ls H locs hl hH hS h1 h2
  rw [List.map_cons, conc_j, ← rem64 hx hy] at kk
  exact lv_lrem hC.1 hC.2.1 hd (ne64 hy h0) kk
theorem j_land {x y : Int} (hd : decode m.2.1 pc = .ok (.land, 1)) (k : J m d n0 hi Post (pc + 1) L (jv (l_and x y) :: S) G σ) : J m d n0 hi Post pc L (jv y :: jv x :: S) G σ := by
  intro E p l e R s mi args below meth c Q hC hR ls H locs hl hH hS h1 h2
  have kk := k E p l e R s mi args below meth c Q hC hR ls H locs hl hH hS h1 h2
  rw [List.map_cons, conc_j, l_and, Int64.ofInt_toInt] at kk
  exact lv_land hC.1 hC.2.1 hd kk
theorem j_lor {x y : Int} (hd : decode m.2.1 pc = .ok (.lor, 1)) (k : J m d n0 hi Post (pc + 1) L (jv (l_or x y) :: S) G σ) : J m d n0 hi Post pc L (jv y :: jv x :: S) G σ := by
  intro E p l e R s mi args below meth c Q hC hR ls H locs hl hH hS h1 h2
  have kk := k E p l e R s mi args below meth c Q hC hR ls H locs hl hH hS h1 h2
  rw [List.map_cons, conc_j, l_or, Int64.ofInt_toInt] at kk
  exact lv_lor hC.1 hC.2.1 hd kk
theorem j_lxor {x y : Int} (hd : decode m.2.1 pc = .ok (.lxor, 1)) (k : J m d n0 hi Post (pc + 1) L (jv (l_xor x y) :: S) G σ) : J m d n0 hi Post pc L (jv y :: jv x :: S) G σ := by
  intro E p l e R s mi args below meth c Q hC hR ls H locs hl hH hS h1 h2
  have kk := k E p l e R s mi args below meth c Q hC hR ls H locs hl hH hS h1 h2
  rw [List.map_cons, conc_j, l_xor, Int64.ofInt_toInt] at kk
  exact lv_lxor hC.1 hC.2.1 hd kk
theorem j_lshl {x y : Int} (hd : decode m.2.1 pc = .ok (.lshl, 1)) (k : J m d n0 hi Post (pc + 1) L (jv (l_shl x y) :: S) G σ) : J m d n0 hi Post pc L (iv y :: jv x :: S) G σ := by
  intro E p l e R s mi args below meth c Q hC hR ls H locs hl hH hS h1 h2
  have kk := k E p l e R s mi args below meth c Q hC hR ls H locs hl hH hS h1 h2
  rw [List.map_cons, conc_j, l_shl, Int64.ofInt_toInt] at kk
  exact lv_lshl hC.1 hC.2.1 hd rfl kk
theorem j_lshr {x y : Int} (hd : decode m.2.1 pc = .ok (.lshr, 1)) (k : J m d n0 hi Post (pc + 1) L (jv (l_shr x y) :: S) G σ) : J m d n0 hi Post pc L (iv y :: jv x :: S) G σ := by
  intro E p l e R s mi args below meth c Q hC hR ls H locs hl hH hS h1 h2
  have kk := k E p l e R s mi args below meth c Q hC hR ls H locs hl hH hS h1 h2
  rw [List.map_cons, conc_j, l_shr, Int64.ofInt_toInt] at kk
  exact lv_lshr hC.1 hC.2.1 hd rfl kk
theorem j_lushr {x y : Int} (hd : decode m.2.1 pc = .ok (.lushr, 1)) (k : J m d n0 hi Post (pc + 1) L (jv (l_ushr x y) :: S) G σ) : J m d n0 hi Post pc L (iv y :: jv x :: S) G σ := by
  intro E p l e R s mi args below meth c Q hC hR ls H locs hl hH hS h1 h2
  have kk := k E p l e R s mi args below meth c Q hC hR ls H locs hl hH hS h1 h2
  rw [List.map_cons, conc_j, l_ushr, Int64.ofInt_toInt] at kk
  exact lv_lushr hC.1 hC.2.1 hd rfl kk
theorem j_icmp_eq {x y off : Int} {tgt : Nat} (hx : inR x) (hy : inR y) (hd : decode m.2.1 pc = .ok (.if_icmp .eq off, 3)) (ht : (pc : Int) + off = (tgt : Int)) (kt : x = y → J m d n0 hi Post tgt L S G σ) (kf : ¬ x = y → J m d n0 hi Post (pc + 3) L S G σ) : J m d n0 hi Post pc L (iv y :: iv x :: S) G σ := by
  intro E p l e R s mi args below meth c Q hC hR ls H locs hl hH hS h1 h2
  exact lv_icmp_eq hC.1 hC.2.1 hd ht (fun z => kt ((eq32 hx hy).mp z) E p l e R s mi args below meth c Q hC hR ls H locs hl hH hS h1 h2) (fun z => kf (fun q => z ((eq32 hx hy).mpr q)) E p l e R s mi args below meth c Q hC hR ls H locs hl hH hS h1 h2)
theorem j_if_eq {x off : Int} {tgt : Nat} (hx : inR x) (hd : decode m.2.1 pc = .ok (.ifCond .eq off, 3)) (ht : (pc : Int) + off = (tgt : Int)) (kt : x = 0 → J m d n0 hi Post tgt L S G σ) (kf : ¬ x = 0 → J m d n0 hi Post (pc + 3) L S G σ) : J m d n0 hi Post pc L (iv x :: S) G σ := by
  intro E p l e R s mi args below meth c Q hC hR ls H locs hl hH hS h1 h2
  exact lv_if_eq hC.1 hC.2.1 hd ht (fun z => kt ((eq32 hx in0).mp z) E p l e R s mi args below meth c Q hC hR ls H locs hl hH hS h1 h2) (fun z => kf (fun q => z ((eq32 hx in0).mpr q)) E p l e R s mi args below meth c Q hC hR ls H locs hl hH hS h1 h2)
theorem j_icmp_ne {x y off : Int} {tgt : Nat} (hx : inR x) (hy : inR y) (hd : decode m.2.1 pc = .ok (.if_icmp .ne off, 3)) (ht : (pc : Int) + off = (tgt : Int)) (kt : ¬ x = y → J m d n0 hi Post tgt L S G σ) (kf : x = y → J m d n0 hi Post (pc + 3) L S G σ) : J m d n0 hi Post pc L (iv y :: iv x :: S) G σ := by
  intro E p l e R s mi args below meth c Q hC hR ls H locs hl hH hS h1 h2
  exact lv_icmp_ne hC.1 hC.2.1 hd ht (fun z => kt (fun q => z ((eq32 hx hy).mpr q)) E p l e R s mi args below meth c Q hC hR ls H locs hl hH hS h1 h2) (fun z => kf ((eq32 hx hy).mp z) E p l e R s mi args below meth c Q hC hR ls H locs hl hH hS h1 h2)
theorem j_if_ne {x off : Int} {tgt : Nat} (hx : inR x) (hd : decode m.2.1 pc = .ok (.ifCond .ne off, 3)) (ht : (pc : Int) + off = (tgt : Int)) (kt : ¬ x = 0 → J m d n0 hi Post tgt L S G σ) (kf : x = 0 → J m d n0 hi Post (pc + 3) L S G σ) : J m d n0 hi Post pc L (iv x :: S) G σ := by
  intro E p l e R s mi args below meth c Q hC hR ls H locs hl hH hS h1 h2
  exact lv_if_ne hC.1 hC.2.1 hd ht (fun z => kt (fun q => z ((eq32 hx in0).mpr q)) E p l e R s mi args below meth c Q hC hR ls H locs hl hH hS h1 h2) (fun z => kf ((eq32 hx in0).mp z) E p l e R s mi args below meth c Q hC hR ls H locs hl hH hS h1 h2)
theorem j_icmp_lt {x y off : Int} {tgt : Nat} (hx : inR x) (hy : inR y) (hd : decode m.2.1 pc = .ok (.if_icmp .lt off, 3)) (ht : (pc : Int) + off = (tgt : Int)) (kt : x < y → J m d n0 hi Post tgt L S G σ) (kf : y ≤ x → J m d n0 hi Post (pc + 3) L S G σ) : J m d n0 hi Post pc L (iv y :: iv x :: S) G σ := by
  intro E p l e R s mi args below meth c Q hC hR ls H locs hl hH hS h1 h2
  exact lv_icmp_lt hC.1 hC.2.1 hd ht (fun z => kt ((lt32 hx hy).mp z) E p l e R s mi args below meth c Q hC hR ls H locs hl hH hS h1 h2) (fun z => kf (Int.not_lt.mp (fun q => z ((lt32 hx hy).mpr q))) E p l e R s mi args below meth c Q hC hR ls H locs hl hH hS h1 h2)
theorem j_if_lt {x off : Int} {tgt : Nat} (hx : inR x) (hd : decode m.2.1 pc = .ok (.ifCond .lt off, 3)) (ht : (pc : Int) + off = (tgt : Int)) (kt : x < 0 → J m d n0 hi Post tgt L S G σ) (kf : 0 ≤ x → J m d n0 hi Post (pc + 3) L S G σ) : J m d n0 hi Post pc L (iv x :: S) G σ := by
  intro E p l e R s mi args below meth c Q hC hR ls H locs hl hH hS h1 h2
  exact lv_if_lt hC.1 hC.2.1 hd ht (fun z => kt ((lt32 hx in0).mp z) E p l e R s mi args below meth c Q hC hR ls H locs hl hH hS h1 h2) (fun z => kf (Int.not_lt.mp (fun q => z ((lt32 hx in0).mpr q))) E p l e R s mi args below meth c Q hC hR ls H locs hl hH hS h1 h2)
theorem j_icmp_ge {x y off : Int} {tgt : Nat} (hx : inR x) (hy : inR y) (hd : decode m.2.1 pc = .ok (.if_icmp .ge off, 3)) (ht : (pc : Int) + off = (tgt : Int)) (kt : y ≤ x → J m d n0 hi Post tgt L S G σ) (kf : x < y → J m d n0 hi Post (pc + 3) L S G σ) : J m d n0 hi Post pc L (iv y :: iv x :: S) G σ := by
  intro E p l e R s mi args below meth c Q hC hR ls H locs hl hH hS h1 h2
  exact lv_icmp_ge hC.1 hC.2.1 hd ht (fun z => kt ((le32 hy hx).mp z) E p l e R s mi args below meth c Q hC hR ls H locs hl hH hS h1 h2) (fun z => kf (Int.not_le.mp (fun q => z ((le32 hy hx).mpr q))) E p l e R s mi args below meth c Q hC hR ls H locs hl hH hS h1 h2)
theorem j_if_ge {x off : Int} {tgt : Nat} (hx : inR x) (hd : decode m.2.1 pc = .ok (.ifCond .ge off, 3)) (ht : (pc : Int) + off = (tgt : Int)) (kt : 0 ≤ x → J m d n0 hi Post tgt L S G σ) (kf : x < 0 → J m d n0 hi Post (pc + 3) L S G σ) : J m d n0 hi Post pc L (iv x :: S) G σ := by
  intro E p l e R s mi args below meth c Q hC hR ls H locs hl hH hS h1 h2
  exact lv_if_ge hC.1 hC.2.1 hd ht (fun z => kt ((le32 in0 hx).mp z) E p l e R s mi args below meth c Q hC hR ls H locs hl hH hS h1 h2) (fun z => kf (Int.not_le.mp (fun q => z ((le32 in0 hx).mpr q))) E p l e R s mi args below meth c Q hC hR ls H locs hl hH hS h1 h2)
theorem j_icmp_gt {x y off : Int} {tgt : Nat} (hx : inR x) (hy : inR y) (hd : decode m.2.1 pc = .ok (.if_icmp .gt off, 3)) (ht : (pc : Int) + off = (tgt : Int)) (kt : y < x → J m d n0 hi Post tgt L S G σ) (kf : x ≤ y → J m d n0 hi Post (pc + 3) L S G σ) : J m d n0 hi Post pc L (iv y :: iv x :: S) G σ := by
  intro E p l e R s mi args below meth c Q hC hR ls H locs hl hH hS h1 h2
  exact lv_icmp_gt hC.1 hC.2.1 hd ht (fun z => kt ((lt32 hy hx).mp z) E p l e R s mi args below meth c Q hC hR ls H locs hl hH hS h1 h2) (fun z => kf (Int.not_lt.mp (fun q => z ((lt32 hy hx).mpr q))) E p l e R s mi args below meth c Q hC hR ls H locs hl hH hS h1 h2)
theorem j_if_gt {x off : Int} {tgt : Nat} (hx : inR x) (hd : decode m.2.1 pc = .ok (.ifCond .gt off, 3)) (ht : (pc : Int) + off = (tgt : Int)) (kt : 0 < x → J m d n0 hi Post tgt L S G σ) (kf : x ≤ 0 → J m d n0 hi Post (pc + 3) L S G σ) : J m d n0 hi Post pc L (iv x :: S) G σ := by
  intro E p l e R s mi args below meth c Q hC hR ls H locs hl hH hS h1 h2
  exact lv_if_gt hC.1 hC.2.1 hd ht (fun z => kt ((lt32 in0 hx).mp z) E p l e R s mi args below meth c Q hC hR ls H locs hl hH hS h1 h2) (fun z => kf (Int.not_lt.mp (fun q => z ((lt32 in0 hx).mpr q))) E p l e R s mi args below meth c Q hC hR ls H locs hl hH hS h1 h2)
theorem j_icmp_le {x y off : Int} {tgt : Nat} (hx : inR x) (hy : inR y) (hd : decode m.2.1 pc = .ok (.if_icmp .le off, 3)) (ht : (pc : Int) + off = (tgt : Int)) (kt : x ≤ y → J m d n0 hi Post tgt L S G σ) (kf : y < x → J m d n0 hi Post (pc + 3) L S G σ) : J m d n0 hi Post pc L (iv y :: iv x :: S) G σ := by
  intro E p l e R s mi args below meth c Q hC hR ls H locs hl hH hS h1 h2
  exact lv_icmp_le hC.1 hC.2.1 hd ht (fun z => kt ((le32 hx hy).mp z) E p l e R s mi args below meth c Q hC hR ls H locs hl hH hS h1 h2) (fun z => kf (Int.not_le.mp (fun q => z ((le32 hx hy).mpr q))) E p l e R s mi args below meth c Q hC hR ls H locs hl hH hS h1 h2)
theorem j_if_le {x off : Int} {tgt : Nat} (hx : inR x) (hd : decode m.2.1 pc = .ok (.ifCond .le off, 3)) (ht : (pc : Int) + off = (tgt : Int)) (kt : x ≤ 0 → J m d n0 hi Post tgt L S G σ) (kf : 0 < x → J m d n0 hi Post (pc + 3) L S G σ) : J m d n0 hi Post pc L (iv x :: S) G σ := by
  intro E p l e R s mi args below meth c Q hC hR ls H locs hl hH hS h1 h2
  exact lv_if_le hC.1 hC.2.1 hd ht (fun z => kt ((le32 hx in0).mp z) E p l e R s mi args below meth c Q hC hR ls H locs hl hH hS h1 h2) (fun z => kf (Int.not_le.mp (fun q => z ((le32 hx in0).mpr q))) E p l e R s mi args below meth c Q hC hR ls H locs hl hH hS h1 h2)
theorem j_ifnull {x off : Int} {tgt : Nat} (hd : decode m.2.1 pc = .ok (.ifnull off, 3)) (ht : (pc : Int) + off = (tgt : Int)) (kt : x = 0 → J m d n0 hi Post tgt L S G σ) (kf : x ≠ 0 → J m d n0 hi Post (pc + 3) L S G σ) : J m d n0 hi Post pc L (rv x :: S) G σ := by
  intro E p l e R s mi args below meth c Q hC hR ls H locs hl hH hS h1 h2
  show W p l e R s mi args below meth c H locs (G.2 - n0) (sl G.2 - sl n0) Q (F0 mi pc ls (conc E (rv x) :: S.map (conc E)))
  by_cases h : x = 0
  · rw [h, conc_n]
    exact lv_ifnullN hC.1 hC.2.1 hd ht (kt h E p l e R s mi args below meth c Q hC hR ls H locs hl hH hS h1 h2)
  · rw [conc_r E h]
    exact lv_ifnull hC.1 hC.2.1 hd (kf h E p l e R s mi args below meth c Q hC hR ls H locs hl hH hS h1 h2)
theorem j_ifnonnull {x off : Int} {tgt : Nat} (hd : decode m.2.1 pc = .ok (.ifnonnull off, 3)) (ht : (pc : Int) + off = (tgt : Int)) (kt : x ≠ 0 → J m d n0 hi Post tgt L S G σ) (kf : x = 0 → J m d n0 hi Post (pc + 3) L S G σ) : J m d n0 hi Post pc L (rv x :: S) G σ := by
  intro E p l e R s mi args below meth c Q hC hR ls H locs hl hH hS h1 h2
  show W p l e R s mi args below meth c H locs (G.2 - n0) (sl G.2 - sl n0) Q (F0 mi pc ls (conc E (rv x) :: S.map (conc E)))
  by_cases h : x = 0
  · rw [h, conc_n]
    exact lv_ifnonnullN hC.1 hC.2.1 hd (kf h E p l e R s mi args below meth c Q hC hR ls H locs hl hH hS h1 h2)
  · rw [conc_r E h]
    exact lv_ifnonnull hC.1 hC.2.1 hd ht (kt h E p l e R s mi args below meth c Q hC hR ls H locs hl hH hS h1 h2)
theorem j_lcmp {x y : Int} (hx : inL x) (hy : inL y) (hd : decode m.2.1 pc = .ok (.lcmp, 1)) (kl : x < y → J m d n0 hi Post (pc + 1) L (iv (-1) :: S) G σ) (ke : x = y → J m d n0 hi Post (pc + 1) L (iv 0 :: S) G σ) (kg : y < x → J m d n0 hi Post (pc + 1) L (iv 1 :: S) G σ) : J m d n0 hi Post pc L (jv y :: jv x :: S) G σ := by
  intro E p l e R s mi args below meth c Q hC hR ls H locs hl hH hS h1 h2
  refine W.lcmp hC.1 hC.2.1 hd ?_
  show W p l e R s mi args below meth c H locs (G.2 - n0) (sl G.2 - sl n0) Q (F0 mi (pc + 1) ls (.int (if Int64.ofInt y < Int64.ofInt x then 1 else if Int64.ofInt x = Int64.ofInt y then 0 else -1) :: S.map (conc E)))
  rcases Int.lt_trichotomy x y with h | h | h
  · rw [if_neg (fun q => by have := (lt64 hy hx).mp q; omega), if_neg (fun q => by have := (eq64 hx hy).mp q; omega)]
    exact kl h E p l e R s mi args below meth c Q hC hR ls H locs hl hH hS h1 h2
  · subst h
    rw [if_neg (fun q => Int.lt_irrefl _ ((lt64 hx hx).mp q)), if_pos rfl]
    exact ke rfl E p l e R s mi args below meth c Q hC hR ls H locs hl hH hS h1 h2
  · rw [if_pos ((lt64 hy hx).mpr h)]
    exact kg h E p l e R s mi args below meth c Q hC hR ls H locs hl hH hS h1 h2
theorem j_tableIn {x dflt lo hiw off : Int} {offs : Array Int} {len tgt : Nat} (hx : inR x) (hd : decode m.2.1 pc = .ok (.tableswitch dflt lo hiw offs, len)) (hl1 : lo ≤ x) (hl2 : x ≤ hiw) (ho : offs[(x - lo).toNat]? = some off) (ht : (pc : Int) + off = (tgt : Int)) (k : J m d n0 hi Post tgt L S G σ) : J m d n0 hi Post pc L (iv x :: S) G σ := by
  intro E p l e R s mi args below meth c Q hC hR ls H locs hl hH hS h1 h2
  exact lv_tableIn hC.1 hC.2.1 hd (by rw [to32 hx]; omega) (by rw [to32 hx]; omega) (by rw [to32 hx]; exact ho) ht (k E p l e R s mi args below meth c Q hC hR ls H locs hl hH hS h1 h2)
theorem j_tableOut {x dflt lo hiw : Int} {offs : Array Int} {len tgt : Nat} (hx : inR x) (hd : decode m.2.1 pc = .ok (.tableswitch dflt lo hiw offs, len)) (h : x < lo ∨ hiw < x) (ht : (pc : Int) + dflt = (tgt : Int)) (k : J m d n0 hi Post tgt L S G σ) : J m d n0 hi Post pc L (iv x :: S) G σ := by
  intro E p l e R s mi args below meth c Q hC hR ls H locs hl hH hS h1 h2
  exact lv_tableOut hC.1 hC.2.1 hd (by rw [to32 hx]; exact h) ht (k E p l e R s mi args below meth c Q hC hR ls H locs hl hH hS h1 h2)
theorem j_lookup {x dflt off : Int} {ps : Array (Int × Int)} {len tgt : Nat} (hx : inR x) (hd : decode m.2.1 pc = .ok (.lookupswitch dflt ps, len)) (hp : (ps.toList.zip (ps.toList.drop 1)).all (fun (a, next) => a.1 < next.1) = true) (ho : Op.lookupswitch.offset ps.toList dflt x = off) (ht : (pc : Int) + off = (tgt : Int)) (k : J m d n0 hi Post tgt L S G σ) : J m d n0 hi Post pc L (iv x :: S) G σ := by
  intro E p l e R s mi args below meth c Q hC hR ls H locs hl hH hS h1 h2
  exact lv_lookup hC.1 hC.2.1 hd hp (by rw [to32 hx]; exact ho) ht (k E p l e R s mi args below meth c Q hC hR ls H locs hl hH hS h1 h2)
theorem j_retA {r : jV} {S' : List jV} (ho : jRok m.2.2.2 m.2.1 pc r S') (hg : G.2 = hi) (hP : Post r G σ) : J m d n0 hi Post pc L S' G σ := by
  intro E p l e R s mi args below meth c Q hC hR ls H locs hl hH hS h1 h2
  have k := hR r G σ pc ls S' H locs hP ho hH hS hg
  rw [hg]
  exact k
theorem j_ret {r : jV} {S' : List jV} {n : Nat} (ho : jRok m.2.2.2 m.2.1 pc r S') (hP : Post r G σ) : J m d n n Post pc L S' G σ := by
  intro E p l e R s mi args below meth c Q hC hR ls H locs hl hH hS h1 h2
  have hg : G.2 = n := Nat.le_antisymm h2 h1
  have k := hR r G σ pc ls S' H locs hP ho hH hS hg
  rw [hg]
  exact k
end JR
