/-! ===== the rules of J: cells (printed by wip/whole/gen_cells.py) ===== -/
def ob (G : jG) (a : Int) (ci : Nat) : Prop := kd a = (0, ci) ∧ 1 ≤ a ∧ a ≤ (G.2 : Int)
def ar (G : jG) (a : Int) (t n : Nat) : Prop := kd a = (t, n) ∧ 1 ≤ a ∧ a ≤ (G.2 : Int)
def jfs (E : jE) (G σ : jM) (a : Int) (ci : Nat) : List Value := (jft ci).zipIdx.map (fun q => conc E (q.1, if q.1 = 2 then G a q.2 else σ a q.2))
theorem enc_ob {E : jE} {G σ : jM} {a : Int} {ci : Nat} (h : kd a = (0, ci)) : enc E G σ a = .inr (ci, jfs E G σ a ci) := by
  unfold enc jfs
  rw [h]
  rfl
theorem enc_1 {E : jE} {G σ : jM} {a : Int} {n : Nat} (h : kd a = (1, n)) : enc E G σ a = .inl (E.2.2.2.2 1, n, .inl (fun j => Int32.ofInt (σ a j))) := by
  unfold enc
  rw [h]
  rfl
theorem enc_2 {E : jE} {G σ : jM} {a : Int} {n : Nat} (h : kd a = (2, n)) : enc E G σ a = .inl (E.2.2.2.2 2, n, .inr (.inl (fun j => Int64.ofInt (σ a j)))) := by
  unfold enc
  rw [h]
  rfl
theorem enc_3 {E : jE} {G σ : jM} {a : Int} {n : Nat} (h : kd a = (3, n)) : enc E G σ a = .inl (E.2.2.2.2 3, n, .inl (fun j => Int32.ofInt (σ a j))) := by
  unfold enc
  rw [h]
  rfl
theorem enc_4 {E : jE} {G σ : jM} {a : Int} {n : Nat} (h : kd a = (4, n)) : enc E G σ a = .inl (E.2.2.2.2 4, n, .inr (.inr (.inr (.inr (fun j => jrf E (G a j)))))) := by
  unfold enc
  rw [h]
  rfl
theorem enc_5 {E : jE} {G σ : jM} {a : Int} {n : Nat} (h : kd a = (5, n)) : enc E G σ a = .inl (E.2.2.2.2 5, n, .inr (.inr (.inr (.inr (fun j => jrf E (G a j)))))) := by
  unfold enc
  rw [h]
  rfl
theorem jfs_at {E : jE} {G σ : jM} {a : Int} {ci k t : Nat} (h : (jft ci)[k]? = some t) : (jfs E G σ a ci)[k]? = some (conc E (t, if t = 2 then G a k else σ a k)) := by
  unfold jfs
  rw [List.getElem?_map, List.getElem?_zipIdx, h]
  simp
theorem jfs_len {E : jE} {G σ : jM} {a : Int} {ci : Nat} : (jfs E G σ a ci).length = (jft ci).length := by simp [jfs]
theorem jfs_put {E : jE} {G σ : jM} {a x : Int} {ci k t : Nat} (h : (jft ci)[k]? = some t) (ht : t ≠ 2) : jfs E G (up σ a k x) a ci = (jfs E G σ a ci).set k (conc E (t, x)) := by
  apply List.ext_getElem?
  intro j
  rw [List.getElem?_set, jfs_len]
  have hlt : k < (jft ci).length := (List.getElem?_eq_some_iff.mp h).1
  by_cases e : k = j
  · subst e
    rw [if_pos rfl, if_pos hlt, jfs_at h, if_neg ht, up_at]
  · rw [if_neg e]
    cases hj : (jft ci)[j]? with
    | none =>
      have hz : (jft ci).length ≤ j := List.getElem?_eq_none_iff.mp hj
      rw [List.getElem?_eq_none (by rw [jfs_len]; exact hz), List.getElem?_eq_none (by rw [jfs_len]; exact hz)]
    | some t2 => rw [jfs_at hj, jfs_at hj, up_ne (Or.inr (fun q => e (by omega)))]
theorem jfs_putR {E : jE} {G σ : jM} {a x : Int} {ci k : Nat} (h : (jft ci)[k]? = some 2) : jfs E (up G a k x) σ a ci = (jfs E G σ a ci).set k (conc E (rv x)) := by
  apply List.ext_getElem?
  intro j
  rw [List.getElem?_set, jfs_len]
  have hlt : k < (jft ci).length := (List.getElem?_eq_some_iff.mp h).1
  by_cases e : k = j
  · subst e
    rw [if_pos rfl, if_pos hlt, jfs_at h, if_pos rfl, up_at]
  · rw [if_neg e]
    cases hj : (jft ci)[j]? with
    | none =>
      have hz : (jft ci).length ≤ j := List.getElem?_eq_none_iff.mp hj
      rw [List.getElem?_eq_none (by rw [jfs_len]; exact hz), List.getElem?_eq_none (by rw [jfs_len]; exact hz)]
    | some t2 => rw [jfs_at hj, jfs_at hj, up_ne (Or.inr (fun q => e (by omega)))]
theorem enc_upS {E : jE} {G σ : jM} {c i v : Int} : ∀ a : Int, a ≠ c → enc E G (up σ c i v) a = enc E G σ a := fun _ h => enc_row rfl (up_row h)
theorem enc_upG {E : jE} {G σ : jM} {c i v : Int} : ∀ a : Int, a ≠ c → enc E (up G c i v) σ a = enc E G σ a := fun _ h => enc_row (up_row h) rfl
/-- a store of a cell: the world behind it -/
theorem HW_set {E : jE} {n : Nat} {G σ G' σ' : jM} {H : Heap} {a : Int} (h0 : 1 ≤ a) (h1 : a ≤ n) (he : ∀ b : Int, b ≠ a → enc E G' σ' b = enc E G σ b) {e : va_E} (e1 : enc E G' σ' a = e) (h : va_P E.2.2.2.1 jcl ((jP E n G σ).set (a.toNat - 1) (E.1 + a.toNat, e)) H) : HW E n G' σ' H := by
  subst e1
  rw [jP_set h0 h1 he] at h
  exact h
theorem jat {E : jE} {n : Nat} {G σ : jM} {a : Int} {e : va_E} (h0 : 1 ≤ a) (h1 : a ≤ n) (he : enc E G σ a = e) : (jP E n G σ)[a.toNat - 1]? = some (E.1 + a.toNat, e) := by
  rw [jP_at h0 h1, he]
/-- the heap has just the cells that are counted -/
theorem w_size {E : jE} {p : Program} {l : Launch} {e : Env} {R : Room} {s : State} {mi : MethodId} {args : Array Value} {below : List Frame} {meth : Method} {c : Code} {H : Heap} {locs : List Loc} {n n0 k : Nat} {G σ : jM} {Q : State → Prop} {g : JFrame} (h0 : s.heap.size = E.1 + n0 + 1) (h1 : n0 ≤ n) (hH : HW E n G σ H) (hS : va_S (jA E) s.heap H locs) (kk : H.size = E.1 + n + 1 → W p l e R s mi args below meth c H locs (n - n0) k Q g) : W p l e R s mi args below meth c H locs (n - n0) k Q g := by
  intro T hT X
  have u1 : (T.setVm s.vm).heap.size ≤ s.heap.size + (n - n0) := X.same.2.2.1
  have u2 : (T.setVm s.vm).heap = H := hT
  rw [u2] at u1
  have u3 : E.1 + n + 1 ≤ H.size := by
    rcases Nat.eq_zero_or_pos n with z | z
    · have := hS.1
      omega
    · have q := (hH (((n : Int)).toNat - 1) _ (jP_at (c := (n : Int)) (by omega) (by omega))).lt
      have q : E.1 + ((n : Int)).toNat < H.size := q
      omega
  exact kk (by omega) T hT X
section JC
variable {m : jT} {d n0 hi : Nat} {Post : jV → jG → jM → Prop} {pc : Nat} {L S : List jV} {G : jG} {σ : jM}
theorem j_getI {C ref : String} {T : u_T} {N ci idx k : Nat} {a : Int} (hin : ∀ w ∈ u_ws C T N, w ∈ TT) (hc : jcl[ci]? = some (C, T, N)) (hk : k < N) (hw : Cond.fieldLink m.1.cls idx ref (T k).2.1 (T k).2.2.1 ∈ TT) (hrf : (T k).1 = ref) (hft : (jft ci)[k]? = some 0) (hd : decode m.2.1 pc = .ok (.getfield idx, 3)) (ha : ob G a ci) (kk : J m d n0 hi Post (pc + 3) L (iv (σ a k) :: S) G σ) : J m d n0 hi Post pc L (rv a :: S) G σ := by
  intro E p l e R s mi args below meth c Q hC hR ls H locs hl hH hS h1 h2
  show W p l e R s mi args below meth c H locs (G.2 - n0) (sl G.2 - sl n0) Q (F0 mi pc ls (conc E (rv a) :: S.map (conc E)))
  obtain ⟨e0, e1, e2⟩ := ha
  rw [conc_r E (by omega)]
  exact va_get hC.1 hC.2.1 hC.2.2.2.2.1 hin hC.2.2.2.1 hC.2.2.2.2.2.1.1 hH (a.toNat - 1) (jat e1 e2 (enc_ob e0)) hc k hk (hC.2.2.2.2.1 _ hw) (fun _ h9 => by rw [← hrf]; exact h9) (jfs_at hft) hd (kk E p l e R s mi args below meth c Q hC hR ls H locs hl hH hS h1 h2)
theorem j_getL {C ref : String} {T : u_T} {N ci idx k : Nat} {a : Int} (hin : ∀ w ∈ u_ws C T N, w ∈ TT) (hc : jcl[ci]? = some (C, T, N)) (hk : k < N) (hw : Cond.fieldLink m.1.cls idx ref (T k).2.1 (T k).2.2.1 ∈ TT) (hrf : (T k).1 = ref) (hft : (jft ci)[k]? = some 1) (hd : decode m.2.1 pc = .ok (.getfield idx, 3)) (ha : ob G a ci) (kk : J m d n0 hi Post (pc + 3) L (jv (σ a k) :: S) G σ) : J m d n0 hi Post pc L (rv a :: S) G σ := by
  intro E p l e R s mi args below meth c Q hC hR ls H locs hl hH hS h1 h2
  show W p l e R s mi args below meth c H locs (G.2 - n0) (sl G.2 - sl n0) Q (F0 mi pc ls (conc E (rv a) :: S.map (conc E)))
  obtain ⟨e0, e1, e2⟩ := ha
  rw [conc_r E (by omega)]
  exact va_get hC.1 hC.2.1 hC.2.2.2.2.1 hin hC.2.2.2.1 hC.2.2.2.2.2.1.1 hH (a.toNat - 1) (jat e1 e2 (enc_ob e0)) hc k hk (hC.2.2.2.2.1 _ hw) (fun _ h9 => by rw [← hrf]; exact h9) (jfs_at hft) hd (kk E p l e R s mi args below meth c Q hC hR ls H locs hl hH hS h1 h2)
theorem j_getR {C ref : String} {T : u_T} {N ci idx k : Nat} {a : Int} (hin : ∀ w ∈ u_ws C T N, w ∈ TT) (hc : jcl[ci]? = some (C, T, N)) (hk : k < N) (hw : Cond.fieldLink m.1.cls idx ref (T k).2.1 (T k).2.2.1 ∈ TT) (hrf : (T k).1 = ref) (hft : (jft ci)[k]? = some 2) (hd : decode m.2.1 pc = .ok (.getfield idx, 3)) (ha : ob G a ci) (kk : J m d n0 hi Post (pc + 3) L (rv (G.1 a k) :: S) G σ) : J m d n0 hi Post pc L (rv a :: S) G σ := by
  intro E p l e R s mi args below meth c Q hC hR ls H locs hl hH hS h1 h2
  show W p l e R s mi args below meth c H locs (G.2 - n0) (sl G.2 - sl n0) Q (F0 mi pc ls (conc E (rv a) :: S.map (conc E)))
  obtain ⟨e0, e1, e2⟩ := ha
  rw [conc_r E (by omega)]
  exact va_get hC.1 hC.2.1 hC.2.2.2.2.1 hin hC.2.2.2.1 hC.2.2.2.2.2.1.1 hH (a.toNat - 1) (jat e1 e2 (enc_ob e0)) hc k hk (hC.2.2.2.2.1 _ hw) (fun _ h9 => by rw [← hrf]; exact h9) (jfs_at hft) hd (kk E p l e R s mi args below meth c Q hC hR ls H locs hl hH hS h1 h2)
theorem j_putI {C ref : String} {T : u_T} {N ci idx k : Nat} {a x : Int} {ty : FieldType} (hin : ∀ w ∈ u_ws C T N, w ∈ TT) (ty0 : Nat → FieldType) (hty : ∀ k, k < N → parseFieldDescriptor (T k).2.2.1 = some (ty0 k)) (hnm : ∀ a, a < N → ∀ b, b < N → a ≠ b → (T a).2.1 ≠ (T b).2.1) (hc : jcl[ci]? = some (C, T, N)) (hk : k < N) (hw : Cond.fieldLink m.1.cls idx ref (T k).2.1 (T k).2.2.1 ∈ TT) (hrf : (T k).1 = ref) (hfin : (T k).2.2.2 = false) (hft : (jft ci)[k]? = some 0) (hdt : parseFieldDescriptor (T k).2.2.1 = some ty) (hn : narrow ty (.int (Int32.ofInt x)) = .int (Int32.ofInt x)) (hf : fits ty (.int (Int32.ofInt x)) = true) (hd : decode m.2.1 pc = .ok (.putfield idx, 3)) (ha : ob G a ci) (kk : J m d n0 hi Post (pc + 3) L S G (up σ a k x)) : J m d n0 hi Post pc L (iv x :: rv a :: S) G σ := by
  intro E p l e R s mi args below meth c Q hC hR ls H locs hl hH hS h1 h2
  show W p l e R s mi args below meth c H locs (G.2 - n0) (sl G.2 - sl n0) Q (F0 mi pc ls (conc E (iv x) :: conc E (rv a) :: S.map (conc E)))
  obtain ⟨e0, e1, e2⟩ := ha
  rw [conc_r E (by omega)]
  refine va_put hC.1 hC.2.1 hC.2.2.2.2.1 hin ty0 hty hnm hC.2.2.2.1 hC.2.2.2.2.2.1.1 hH jP_D hS (a.toNat - 1) (jat e1 e2 (enc_ob e0)) hc k hk (hC.2.2.2.2.1 _ hw) (fun _ h9 => by rw [← hrf]; exact h9) hfin hdt hn hf (by rw [jfs_len]; exact (List.getElem?_eq_some_iff.mp hft).1) hd (fun H1 locs1 hP1 _ hS1 => ?_)
  exact kk E p l e R s mi args below meth c Q hC hR ls H1 locs1 hl (HW_set e1 e2 enc_upS (by rw [enc_ob e0, jfs_put hft (by decide)]) hP1) hS1 h1 h2
theorem j_putL {C ref : String} {T : u_T} {N ci idx k : Nat} {a x : Int} {ty : FieldType} (hin : ∀ w ∈ u_ws C T N, w ∈ TT) (ty0 : Nat → FieldType) (hty : ∀ k, k < N → parseFieldDescriptor (T k).2.2.1 = some (ty0 k)) (hnm : ∀ a, a < N → ∀ b, b < N → a ≠ b → (T a).2.1 ≠ (T b).2.1) (hc : jcl[ci]? = some (C, T, N)) (hk : k < N) (hw : Cond.fieldLink m.1.cls idx ref (T k).2.1 (T k).2.2.1 ∈ TT) (hrf : (T k).1 = ref) (hfin : (T k).2.2.2 = false) (hft : (jft ci)[k]? = some 1) (hdt : parseFieldDescriptor (T k).2.2.1 = some ty) (hn : narrow ty (.long (Int64.ofInt x)) = .long (Int64.ofInt x)) (hf : fits ty (.long (Int64.ofInt x)) = true) (hd : decode m.2.1 pc = .ok (.putfield idx, 3)) (ha : ob G a ci) (kk : J m d n0 hi Post (pc + 3) L S G (up σ a k x)) : J m d n0 hi Post pc L (jv x :: rv a :: S) G σ := by
  intro E p l e R s mi args below meth c Q hC hR ls H locs hl hH hS h1 h2
  show W p l e R s mi args below meth c H locs (G.2 - n0) (sl G.2 - sl n0) Q (F0 mi pc ls (conc E (jv x) :: conc E (rv a) :: S.map (conc E)))
  obtain ⟨e0, e1, e2⟩ := ha
  rw [conc_r E (by omega)]
  refine va_put hC.1 hC.2.1 hC.2.2.2.2.1 hin ty0 hty hnm hC.2.2.2.1 hC.2.2.2.2.2.1.1 hH jP_D hS (a.toNat - 1) (jat e1 e2 (enc_ob e0)) hc k hk (hC.2.2.2.2.1 _ hw) (fun _ h9 => by rw [← hrf]; exact h9) hfin hdt hn hf (by rw [jfs_len]; exact (List.getElem?_eq_some_iff.mp hft).1) hd (fun H1 locs1 hP1 _ hS1 => ?_)
  exact kk E p l e R s mi args below meth c Q hC hR ls H1 locs1 hl (HW_set e1 e2 enc_upS (by rw [enc_ob e0, jfs_put hft (by decide)]) hP1) hS1 h1 h2
theorem j_putR {C ref : String} {T : u_T} {N ci idx k : Nat} {a x : Int} {ty : FieldType} (hin : ∀ w ∈ u_ws C T N, w ∈ TT) (ty0 : Nat → FieldType) (hty : ∀ k, k < N → parseFieldDescriptor (T k).2.2.1 = some (ty0 k)) (hnm : ∀ a, a < N → ∀ b, b < N → a ≠ b → (T a).2.1 ≠ (T b).2.1) (hc : jcl[ci]? = some (C, T, N)) (hk : k < N) (hw : Cond.fieldLink m.1.cls idx ref (T k).2.1 (T k).2.2.1 ∈ TT) (hrf : (T k).1 = ref) (hfin : (T k).2.2.2 = false) (hft : (jft ci)[k]? = some 2) (hdt : parseFieldDescriptor (T k).2.2.1 = some ty) (hn : ∀ q : Nat, narrow ty (.ref q) = .ref q ∧ fits ty (.ref q) = true) (hx : 1 ≤ x) (hd : decode m.2.1 pc = .ok (.putfield idx, 3)) (ha : ob G a ci) (kk : J m d n0 hi Post (pc + 3) L S (up G.1 a k x, G.2) σ) : J m d n0 hi Post pc L (rv x :: rv a :: S) G σ := by
  intro E p l e R s mi args below meth c Q hC hR ls H locs hl hH hS h1 h2
  show W p l e R s mi args below meth c H locs (G.2 - n0) (sl G.2 - sl n0) Q (F0 mi pc ls (conc E (rv x) :: conc E (rv a) :: S.map (conc E)))
  obtain ⟨e0, e1, e2⟩ := ha
  rw [conc_r E (x := a) (by omega), conc_r E (x := x) (by omega)]
  refine va_put hC.1 hC.2.1 hC.2.2.2.2.1 hin ty0 hty hnm hC.2.2.2.1 hC.2.2.2.2.2.1.1 hH jP_D hS (a.toNat - 1) (jat e1 e2 (enc_ob e0)) hc k hk (hC.2.2.2.2.1 _ hw) (fun _ h9 => by rw [← hrf]; exact h9) hfin hdt (hn _).1 (hn _).2 (by rw [jfs_len]; exact (List.getElem?_eq_some_iff.mp hft).1) hd (fun H1 locs1 hP1 _ hS1 => ?_)
  exact kk E p l e R s mi args below meth c Q hC hR ls H1 locs1 hl (HW_set e1 e2 enc_upG (by rw [enc_ob e0, jfs_putR hft, conc_r E (by omega)]) hP1) hS1 h1 h2
theorem j_putRF {C ref : String} {T : u_T} {N ci idx k : Nat} {a x : Int} {ty : FieldType} (hin : ∀ w ∈ u_ws C T N, w ∈ TT) (ty0 : Nat → FieldType) (hty : ∀ k, k < N → parseFieldDescriptor (T k).2.2.1 = some (ty0 k)) (hnm : ∀ a, a < N → ∀ b, b < N → a ≠ b → (T a).2.1 ≠ (T b).2.1) (hc : jcl[ci]? = some (C, T, N)) (hk : k < N) (hw : Cond.fieldLink m.1.cls idx ref (T k).2.1 (T k).2.2.1 ∈ TT) (hrf : (T k).1 = ref) (hfin : (T k).2.2.2 = true) (hct : m.1.name = "<init>") (hdecl : (T k).1 = m.1.cls) (hft : (jft ci)[k]? = some 2) (hdt : parseFieldDescriptor (T k).2.2.1 = some ty) (hn : ∀ q : Nat, narrow ty (.ref q) = .ref q ∧ fits ty (.ref q) = true) (hx : 1 ≤ x) (hd : decode m.2.1 pc = .ok (.putfield idx, 3)) (ha : ob G a ci) (kk : J m d n0 hi Post (pc + 3) L S (up G.1 a k x, G.2) σ) : J m d n0 hi Post pc L (rv x :: rv a :: S) G σ := by
  intro E p l e R s mi args below meth c Q hC hR ls H locs hl hH hS h1 h2
  show W p l e R s mi args below meth c H locs (G.2 - n0) (sl G.2 - sl n0) Q (F0 mi pc ls (conc E (rv x) :: conc E (rv a) :: S.map (conc E)))
  obtain ⟨e0, e1, e2⟩ := ha
  rw [conc_r E (x := a) (by omega), conc_r E (x := x) (by omega)]
  refine va_putF hC.1 hC.2.1 hC.2.2.2.2.1 hin ty0 hty hnm hC.2.2.2.1 hC.2.2.2.2.2.1.1 hH jP_D hS (a.toNat - 1) (jat e1 e2 (enc_ob e0)) hc k hk (hC.2.2.2.2.1 _ hw) (fun _ h9 => by rw [← hrf]; exact h9) hfin (hC.2.2.2.2.2.2.2.2.2.trans hct) hdecl hdt (hn _).1 (hn _).2 (by rw [jfs_len]; exact (List.getElem?_eq_some_iff.mp hft).1) hd (fun H1 locs1 hP1 _ hS1 => ?_)
  exact kk E p l e R s mi args below meth c Q hC hR ls H1 locs1 hl (HW_set e1 e2 enc_upG (by rw [enc_ob e0, jfs_putR hft, conc_r E (by omega)]) hP1) hS1 h1 h2
theorem j_iald {a i : Int} {n : Nat} (hd : decode m.2.1 pc = .ok (.iaload, 1)) (ha : ar G a 1 n) (hn : (n : Int) ≤ 2147483648) (hi' : 0 ≤ i ∧ i < (n : Int)) (kk : J m d n0 hi Post (pc + 1) L (iv (σ a i) :: S) G σ) : J m d n0 hi Post pc L (iv i :: rv a :: S) G σ := by
  intro E p l e R s mi args below meth c Q hC hR ls H locs hl hH hS h1 h2
  show W p l e R s mi args below meth c H locs (G.2 - n0) (sl G.2 - sl n0) Q (F0 mi pc ls (.int (Int32.ofInt i) :: conc E (rv a) :: S.map (conc E)))
  obtain ⟨e0, e1, e2⟩ := ha
  obtain ⟨g1, g2⟩ := nat32 hi'.1 hi'.2 hn
  rw [conc_r E (by omega)]
  refine va_iald hC.1 hC.2.1 hC.2.2.2.2.2.1.1 hH (a.toNat - 1) 0 (jat e1 e2 (enc_1 e0)) rfl g1 hd ?_
  rw [g2, show ((i.toNat : Nat) : Int) = i by omega]
  exact kk E p l e R s mi args below meth c Q hC hR ls H locs hl hH hS h1 h2
theorem j_lald {a i : Int} {n : Nat} (hd : decode m.2.1 pc = .ok (.laload, 1)) (ha : ar G a 2 n) (hn : (n : Int) ≤ 2147483648) (hi' : 0 ≤ i ∧ i < (n : Int)) (kk : J m d n0 hi Post (pc + 1) L (jv (σ a i) :: S) G σ) : J m d n0 hi Post pc L (iv i :: rv a :: S) G σ := by
  intro E p l e R s mi args below meth c Q hC hR ls H locs hl hH hS h1 h2
  show W p l e R s mi args below meth c H locs (G.2 - n0) (sl G.2 - sl n0) Q (F0 mi pc ls (.int (Int32.ofInt i) :: conc E (rv a) :: S.map (conc E)))
  obtain ⟨e0, e1, e2⟩ := ha
  obtain ⟨g1, g2⟩ := nat32 hi'.1 hi'.2 hn
  rw [conc_r E (by omega)]
  refine va_lald hC.1 hC.2.1 hC.2.2.2.2.2.1.1 hH (a.toNat - 1) 1 (jat e1 e2 (enc_2 e0)) rfl g1 hd ?_
  rw [g2, show ((i.toNat : Nat) : Int) = i by omega]
  exact kk E p l e R s mi args below meth c Q hC hR ls H locs hl hH hS h1 h2
theorem j_zald {a i : Int} {n : Nat} (hd : decode m.2.1 pc = .ok (.baload, 1)) (ha : ar G a 3 n) (hn : (n : Int) ≤ 2147483648) (hi' : 0 ≤ i ∧ i < (n : Int)) (kk : J m d n0 hi Post (pc + 1) L (iv (σ a i) :: S) G σ) : J m d n0 hi Post pc L (iv i :: rv a :: S) G σ := by
  intro E p l e R s mi args below meth c Q hC hR ls H locs hl hH hS h1 h2
  show W p l e R s mi args below meth c H locs (G.2 - n0) (sl G.2 - sl n0) Q (F0 mi pc ls (.int (Int32.ofInt i) :: conc E (rv a) :: S.map (conc E)))
  obtain ⟨e0, e1, e2⟩ := ha
  obtain ⟨g1, g2⟩ := nat32 hi'.1 hi'.2 hn
  rw [conc_r E (by omega)]
  refine va_zald hC.1 hC.2.1 hC.2.2.2.2.2.1.1 hH (a.toNat - 1) 2 (jat e1 e2 (enc_3 e0)) rfl g1 hd ?_
  rw [g2, show ((i.toNat : Nat) : Int) = i by omega]
  exact kk E p l e R s mi args below meth c Q hC hR ls H locs hl hH hS h1 h2
theorem j_aald4 {a i : Int} {n : Nat} (hd : decode m.2.1 pc = .ok (.aaload, 1)) (ha : ar G a 4 n) (hn : (n : Int) ≤ 2147483648) (hi' : 0 ≤ i ∧ i < (n : Int)) (kk : J m d n0 hi Post (pc + 1) L (rv (G.1 a i) :: S) G σ) : J m d n0 hi Post pc L (iv i :: rv a :: S) G σ := by
  intro E p l e R s mi args below meth c Q hC hR ls H locs hl hH hS h1 h2
  have kk := kk E p l e R s mi args below meth c Q hC hR ls H locs hl hH hS h1 h2
  show W p l e R s mi args below meth c H locs (G.2 - n0) (sl G.2 - sl n0) Q (F0 mi pc ls (.int (Int32.ofInt i) :: conc E (rv a) :: S.map (conc E)))
  obtain ⟨e0, e1, e2⟩ := ha
  obtain ⟨g1, g2⟩ := nat32 hi'.1 hi'.2 hn
  rw [conc_r E (by omega)]
  refine va_aldq hC.1 hC.2.1 hC.2.2.2.2.2.1.1 hH (a.toNat - 1) 3 (jat e1 e2 (enc_4 e0)) rfl g1 hd ?_
  rw [g2, show ((i.toNat : Nat) : Int) = i by omega, ← conc_rf]
  exact kk
theorem j_aald5 {a i : Int} {n : Nat} (hd : decode m.2.1 pc = .ok (.aaload, 1)) (ha : ar G a 5 n) (hn : (n : Int) ≤ 2147483648) (hi' : 0 ≤ i ∧ i < (n : Int)) (kk : J m d n0 hi Post (pc + 1) L (rv (G.1 a i) :: S) G σ) : J m d n0 hi Post pc L (iv i :: rv a :: S) G σ := by
  intro E p l e R s mi args below meth c Q hC hR ls H locs hl hH hS h1 h2
  have kk := kk E p l e R s mi args below meth c Q hC hR ls H locs hl hH hS h1 h2
  show W p l e R s mi args below meth c H locs (G.2 - n0) (sl G.2 - sl n0) Q (F0 mi pc ls (.int (Int32.ofInt i) :: conc E (rv a) :: S.map (conc E)))
  obtain ⟨e0, e1, e2⟩ := ha
  obtain ⟨g1, g2⟩ := nat32 hi'.1 hi'.2 hn
  rw [conc_r E (by omega)]
  refine va_aldq hC.1 hC.2.1 hC.2.2.2.2.2.1.1 hH (a.toNat - 1) 4 (jat e1 e2 (enc_5 e0)) rfl g1 hd ?_
  rw [g2, show ((i.toNat : Nat) : Int) = i by omega, ← conc_rf]
  exact kk
theorem upd_up {σ : jM} {a i x : Int} (h0 : 0 ≤ i) : (fun j : Nat => Int32.ofInt (up σ a i x a j)) = upd (fun j : Nat => Int32.ofInt (σ a j)) i.toNat (Int32.ofInt x) := by
  funext j
  unfold upd
  by_cases e : j = i.toNat
  · rw [if_pos e, e, show ((i.toNat : Nat) : Int) = i by omega, up_at]
  · rw [if_neg e, up_ne (Or.inr (by omega))]
theorem updL_up {σ : jM} {a i x : Int} (h0 : 0 ≤ i) : (fun j : Nat => Int64.ofInt (up σ a i x a j)) = vp_updL (fun j : Nat => Int64.ofInt (σ a j)) i.toNat (Int64.ofInt x) := by
  funext j
  unfold vp_updL
  by_cases e : j = i.toNat
  · rw [if_pos e, e, show ((i.toNat : Nat) : Int) = i by omega, up_at]
  · rw [if_neg e, up_ne (Or.inr (by omega))]
theorem updQ_up {E : jE} {σ : jM} {a i x : Int} (h0 : 0 ≤ i) : (fun j : Nat => jrf E (up σ a i x a j)) = va_up (fun j : Nat => jrf E (σ a j)) i.toNat (jrf E x) := by
  funext j
  unfold va_up
  by_cases e : j = i.toNat
  · rw [if_pos e, e, show ((i.toNat : Nat) : Int) = i by omega, up_at]
  · rw [if_neg e, up_ne (Or.inr (by omega))]
theorem j_iast {a i x : Int} {n : Nat} (hd : decode m.2.1 pc = .ok (.iastore, 1)) (ha : ar G a 1 n) (hn : (n : Int) ≤ 2147483648) (hi' : 0 ≤ i ∧ i < (n : Int)) (kk : J m d n0 hi Post (pc + 1) L S G (up σ a i x)) : J m d n0 hi Post pc L (iv x :: iv i :: rv a :: S) G σ := by
  intro E p l e R s mi args below meth c Q hC hR ls H locs hl hH hS h1 h2
  show W p l e R s mi args below meth c H locs (G.2 - n0) (sl G.2 - sl n0) Q (F0 mi pc ls (.int (Int32.ofInt x) :: .int (Int32.ofInt i) :: conc E (rv a) :: S.map (conc E)))
  obtain ⟨e0, e1, e2⟩ := ha
  obtain ⟨g1, g2⟩ := nat32 hi'.1 hi'.2 hn
  rw [conc_r E (by omega)]
  refine va_iast hC.1 hC.2.1 hC.2.2.2.2.2.1.1 hH jP_D hS (a.toNat - 1) 0 (jat e1 e2 (enc_1 e0)) rfl g1 hd (fun H1 locs1 hP1 _ hS1 => ?_)
  exact kk E p l e R s mi args below meth c Q hC hR ls H1 locs1 hl (HW_set e1 e2 enc_upS (by rw [enc_1 e0, upd_up hi'.1, g2]) hP1) hS1 h1 h2
theorem j_last {a i x : Int} {n : Nat} (hd : decode m.2.1 pc = .ok (.lastore, 1)) (ha : ar G a 2 n) (hn : (n : Int) ≤ 2147483648) (hi' : 0 ≤ i ∧ i < (n : Int)) (kk : J m d n0 hi Post (pc + 1) L S G (up σ a i x)) : J m d n0 hi Post pc L (jv x :: iv i :: rv a :: S) G σ := by
  intro E p l e R s mi args below meth c Q hC hR ls H locs hl hH hS h1 h2
  show W p l e R s mi args below meth c H locs (G.2 - n0) (sl G.2 - sl n0) Q (F0 mi pc ls (.long (Int64.ofInt x) :: .int (Int32.ofInt i) :: conc E (rv a) :: S.map (conc E)))
  obtain ⟨e0, e1, e2⟩ := ha
  obtain ⟨g1, g2⟩ := nat32 hi'.1 hi'.2 hn
  rw [conc_r E (by omega)]
  refine va_last hC.1 hC.2.1 hC.2.2.2.2.2.1.1 hH jP_D hS (a.toNat - 1) 1 (jat e1 e2 (enc_2 e0)) rfl g1 hd (fun H1 locs1 hP1 _ hS1 => ?_)
  exact kk E p l e R s mi args below meth c Q hC hR ls H1 locs1 hl (HW_set e1 e2 enc_upS (by rw [enc_2 e0, updL_up hi'.1, g2]) hP1) hS1 h1 h2
theorem nar_b {x : Int} (h : x = 0 ∨ x = 1) : vp_nar .boolean (Int32.ofInt x) = Int32.ofInt x := by
  rcases h with h | h <;> subst h <;> decide +kernel
theorem j_zast {a i x : Int} {n : Nat} (hd : decode m.2.1 pc = .ok (.bastore, 1)) (ha : ar G a 3 n) (hn : (n : Int) ≤ 2147483648) (hi' : 0 ≤ i ∧ i < (n : Int)) (hx : x = 0 ∨ x = 1) (kk : J m d n0 hi Post (pc + 1) L S G (up σ a i x)) : J m d n0 hi Post pc L (iv x :: iv i :: rv a :: S) G σ := by
  intro E p l e R s mi args below meth c Q hC hR ls H locs hl hH hS h1 h2
  show W p l e R s mi args below meth c H locs (G.2 - n0) (sl G.2 - sl n0) Q (F0 mi pc ls (.int (Int32.ofInt x) :: .int (Int32.ofInt i) :: conc E (rv a) :: S.map (conc E)))
  obtain ⟨e0, e1, e2⟩ := ha
  obtain ⟨g1, g2⟩ := nat32 hi'.1 hi'.2 hn
  rw [conc_r E (by omega)]
  refine va_zast hC.1 hC.2.1 hC.2.2.2.2.2.1.1 hH jP_D hS (a.toNat - 1) 2 (jat e1 e2 (enc_3 e0)) rfl g1 hd (fun H1 locs1 hP1 _ hS1 => ?_)
  exact kk E p l e R s mi args below meth c Q hC hR ls H1 locs1 hl (HW_set e1 e2 enc_upS (by rw [enc_3 e0, upd_up hi'.1, g2, nar_b hx]) hP1) hS1 h1 h2
theorem j_aast4 {a i x : Int} {n : Nat} (hd : decode m.2.1 pc = .ok (.aastore, 1)) (ha : ar G a 4 n) (hn : (n : Int) ≤ 2147483648) (hi' : 0 ≤ i ∧ i < (n : Int)) (hx : ob G x 1) (kk : J m d n0 hi Post (pc + 1) L S (up G.1 a i x, G.2) σ) : J m d n0 hi Post pc L (rv x :: iv i :: rv a :: S) G σ := by
  intro E p l e R s mi args below meth c Q hC hR ls H locs hl hH hS h1 h2
  show W p l e R s mi args below meth c H locs (G.2 - n0) (sl G.2 - sl n0) Q (F0 mi pc ls (conc E (rv x) :: .int (Int32.ofInt i) :: conc E (rv a) :: S.map (conc E)))
  obtain ⟨e0, e1, e2⟩ := ha
  obtain ⟨f0, f1, f2⟩ := hx
  obtain ⟨g1, g2⟩ := nat32 hi'.1 hi'.2 hn
  rw [conc_r E (x := a) (by omega), conc_r E (x := x) (by omega)]
  refine va_astq hC.1 hC.2.1 hC.2.2.2.2.2.1.1 hH jP_D hS (a.toNat - 1) 3 (x.toNat - 1) 1 (r := (RX1, TX1, _)) (jat e1 e2 (enc_4 e0)) rfl (jat f1 f2 (enc_ob f0)) rfl g1 hd (fun H1 locs1 hP1 _ hS1 => ?_)
  exact kk E p l e R s mi args below meth c Q hC hR ls H1 locs1 hl (HW_set e1 e2 enc_upG (by rw [enc_4 e0, updQ_up hi'.1, g2]; unfold jrf; rw [if_neg (show x ≠ 0 by omega)]) hP1) hS1 h1 h2
theorem j_aast5 {a i x : Int} {n : Nat} (hd : decode m.2.1 pc = .ok (.aastore, 1)) (ha : ar G a 5 n) (hn : (n : Int) ≤ 2147483648) (hi' : 0 ≤ i ∧ i < (n : Int)) (hx : ob G x 8) (kk : J m d n0 hi Post (pc + 1) L S (up G.1 a i x, G.2) σ) : J m d n0 hi Post pc L (rv x :: iv i :: rv a :: S) G σ := by
  intro E p l e R s mi args below meth c Q hC hR ls H locs hl hH hS h1 h2
  show W p l e R s mi args below meth c H locs (G.2 - n0) (sl G.2 - sl n0) Q (F0 mi pc ls (conc E (rv x) :: .int (Int32.ofInt i) :: conc E (rv a) :: S.map (conc E)))
  obtain ⟨e0, e1, e2⟩ := ha
  obtain ⟨f0, f1, f2⟩ := hx
  obtain ⟨g1, g2⟩ := nat32 hi'.1 hi'.2 hn
  rw [conc_r E (x := a) (by omega), conc_r E (x := x) (by omega)]
  refine va_astq hC.1 hC.2.1 hC.2.2.2.2.2.1.1 hH jP_D hS (a.toNat - 1) 4 (x.toNat - 1) 8 (r := (RX8, TX8, _)) (jat e1 e2 (enc_5 e0)) rfl (jat f1 f2 (enc_ob f0)) rfl g1 hd (fun H1 locs1 hP1 _ hS1 => ?_)
  exact kk E p l e R s mi args below meth c Q hC hR ls H1 locs1 hl (HW_set e1 e2 enc_upG (by rw [enc_5 e0, updQ_up hi'.1, g2]; unfold jrf; rw [if_neg (show x ≠ 0 by omega)]) hP1) hS1 h1 h2
theorem j_alen1 {a : Int} {n : Nat} (hd : decode m.2.1 pc = .ok (.arraylength, 1)) (ha : ar G a 1 n) (kk : J m d n0 hi Post (pc + 1) L (iv (n : Int) :: S) G σ) : J m d n0 hi Post pc L (rv a :: S) G σ := by
  intro E p l e R s mi args below meth c Q hC hR ls H locs hl hH hS h1 h2
  show W p l e R s mi args below meth c H locs (G.2 - n0) (sl G.2 - sl n0) Q (F0 mi pc ls (conc E (rv a) :: S.map (conc E)))
  obtain ⟨e0, e1, e2⟩ := ha
  rw [conc_r E (by omega)]
  exact va_alen hC.1 hC.2.1 hC.2.2.2.2.2.1.1 hH (a.toNat - 1) 0 (jat e1 e2 (enc_1 e0)) rfl (show Int32.ofNat n = Int32.ofInt (n : Int) from (Int32.ofInt_eq_ofNat).symm) hd (kk E p l e R s mi args below meth c Q hC hR ls H locs hl hH hS h1 h2)
theorem j_alen2 {a : Int} {n : Nat} (hd : decode m.2.1 pc = .ok (.arraylength, 1)) (ha : ar G a 2 n) (kk : J m d n0 hi Post (pc + 1) L (iv (n : Int) :: S) G σ) : J m d n0 hi Post pc L (rv a :: S) G σ := by
  intro E p l e R s mi args below meth c Q hC hR ls H locs hl hH hS h1 h2
  show W p l e R s mi args below meth c H locs (G.2 - n0) (sl G.2 - sl n0) Q (F0 mi pc ls (conc E (rv a) :: S.map (conc E)))
  obtain ⟨e0, e1, e2⟩ := ha
  rw [conc_r E (by omega)]
  exact va_alen hC.1 hC.2.1 hC.2.2.2.2.2.1.1 hH (a.toNat - 1) 1 (jat e1 e2 (enc_2 e0)) rfl (show Int32.ofNat n = Int32.ofInt (n : Int) from (Int32.ofInt_eq_ofNat).symm) hd (kk E p l e R s mi args below meth c Q hC hR ls H locs hl hH hS h1 h2)
theorem j_alen3 {a : Int} {n : Nat} (hd : decode m.2.1 pc = .ok (.arraylength, 1)) (ha : ar G a 3 n) (kk : J m d n0 hi Post (pc + 1) L (iv (n : Int) :: S) G σ) : J m d n0 hi Post pc L (rv a :: S) G σ := by
  intro E p l e R s mi args below meth c Q hC hR ls H locs hl hH hS h1 h2
  show W p l e R s mi args below meth c H locs (G.2 - n0) (sl G.2 - sl n0) Q (F0 mi pc ls (conc E (rv a) :: S.map (conc E)))
  obtain ⟨e0, e1, e2⟩ := ha
  rw [conc_r E (by omega)]
  exact va_alen hC.1 hC.2.1 hC.2.2.2.2.2.1.1 hH (a.toNat - 1) 2 (jat e1 e2 (enc_3 e0)) rfl (show Int32.ofNat n = Int32.ofInt (n : Int) from (Int32.ofInt_eq_ofNat).symm) hd (kk E p l e R s mi args below meth c Q hC hR ls H locs hl hH hS h1 h2)
end JC
