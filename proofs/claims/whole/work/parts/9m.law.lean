/-! ===== the law's judgement: J, the script being known (rules printed by wip/whole/gen_law.py out of J's) ===== -/
def JS (Sc : Nat × (Nat → Int32)) (m : jT) (d n0 hi : Nat) (Post : jV → jG → jM → Prop) (pc : Nat) (L S : List jV) (G : jG) (σ : jM) : Prop :=
  ∀ (E : jE), E.2.1.2 = Sc → ∀ (p : Program) (l : Launch) (e : Env) (R : Room) (s : State) (mi : MethodId) (args : Array Value) (below : List Frame) (meth : Method) (c : Code) (Q : State → Prop), Cx m d n0 hi E p R s mi args meth c → jRet m n0 hi E p l e R s mi args below meth c Q Post →
    ∀ (ls : Array Slot) (H : Heap) (locs : List Loc), hasL E ls m.2.2.1 L → HW E G.2 G.1 σ H → va_S (jA E) s.heap H locs → n0 ≤ G.2 → G.2 ≤ hi → W p l e R s mi args below meth c H locs (G.2 - n0) (sl G.2 - sl n0) Q (F0 mi pc ls (S.map (conc E)))
section YR
variable {Sc : Nat × (Nat → Int32)} {m : jT} {d n0 hi : Nat} {Post : jV → jG → jM → Prop} {pc : Nat} {L S : List jV} {G : jG} {σ : jM} {t : Int}
theorem y_iconst {n : Int} (hd : decode m.2.1 pc = .ok (.iconst n, 1)) (k : JS Sc m d n0 hi Post (pc + 1) L (iv n :: S) G σ) : JS Sc m d n0 hi Post pc L S G σ := by
  intro E hE p l e R s mi args below meth c Q hC hR ls H locs hl hH hS h1 h2
  exact lv_iconst hC.1 hC.2.1 hd rfl (k E hE p l e R s mi args below meth c Q hC hR ls H locs hl hH hS h1 h2)
theorem y_bipush {n : Int} (hv : (Int8.ofInt n).toInt32 = Int32.ofInt n) (hd : decode m.2.1 pc = .ok (.bipush n, 2)) (k : JS Sc m d n0 hi Post (pc + 2) L (iv n :: S) G σ) : JS Sc m d n0 hi Post pc L S G σ := by
  intro E hE p l e R s mi args below meth c Q hC hR ls H locs hl hH hS h1 h2
  exact lv_bipush hC.1 hC.2.1 hd hv (k E hE p l e R s mi args below meth c Q hC hR ls H locs hl hH hS h1 h2)
theorem y_iload_n {i : Fin 4} {x : Int} (hL : L[(i : Nat)]? = some (iv x)) (hd : decode m.2.1 pc = .ok (.iload_n i, 1)) (k : JS Sc m d n0 hi Post (pc + 1) L (iv x :: S) G σ) : JS Sc m d n0 hi Post pc L S G σ := by
  intro E hE p l e R s mi args below meth c Q hC hR ls H locs hl hH hS h1 h2
  exact lv_iload_n hC.1 hC.2.1 hd rfl (hl.2.2.2 i _ hL (by simp)) (k E hE p l e R s mi args below meth c Q hC hR ls H locs hl hH hS h1 h2)
theorem y_aload_n {i : Fin 4} {v : jV} (hL : L[(i : Nat)]? = some v) (hv : v.1 = 2 ∨ v.1 = 3 ∨ v.1 = 4 ∨ v.1 = 5 ∨ v.1 = 6) (hd : decode m.2.1 pc = .ok (.aload_n i, 1)) (k : JS Sc m d n0 hi Post (pc + 1) L (v :: S) G σ) : JS Sc m d n0 hi Post pc L S G σ := by
  intro E hE p l e R s mi args below meth c Q hC hR ls H locs hl hH hS h1 h2
  have kk := k E hE p l e R s mi args below meth c Q hC hR ls H locs hl hH hS h1 h2
  have h := hl.2.2.2 _ _ hL (by omega)
  rcases conc_ref E v hv with e1 | ⟨a, e1⟩
  · rw [List.map_cons, e1] at kk
    rw [e1] at h
    exact lv_aload_nN hC.1 hC.2.1 hd rfl h kk
  · rw [List.map_cons, e1] at kk
    rw [e1] at h
    exact lv_aload_n hC.1 hC.2.1 hd rfl h kk
theorem y_istore_n {i : Fin 4} {x : Int} (hi' : (i : Nat) < m.2.2.1) (hd : decode m.2.1 pc = .ok (.istore_n i, 1)) (k : JS Sc m d n0 hi Post (pc + 1) (lset L (i : Nat) (iv x)) S G σ) : JS Sc m d n0 hi Post pc L (iv x :: S) G σ := by
  intro E hE p l e R s mi args below meth c Q hC hR ls H locs hl hH hS h1 h2
  exact lv_istore_n hC.1 hC.2.1 hd rfl (asc_has hl) hi' rfl (fun ls' hl' => k E hE p l e R s mi args below meth c Q hC hR ls' H locs (hasL_1 hl hl') hH hS h1 h2)
theorem y_astore_n {i : Fin 4} {v : jV} (hv : v.1 = 2 ∨ v.1 = 3 ∨ v.1 = 4 ∨ v.1 = 5 ∨ v.1 = 6) (hi' : (i : Nat) < m.2.2.1) (hd : decode m.2.1 pc = .ok (.astore_n i, 1)) (k : JS Sc m d n0 hi Post (pc + 1) (lset L (i : Nat) v) S G σ) : JS Sc m d n0 hi Post pc L (v :: S) G σ := by
  intro E hE p l e R s mi args below meth c Q hC hR ls H locs hl hH hS h1 h2
  have kk : ∀ ls' : Array Slot, lv_has ls' m.2.2.1 (((i : Nat), conc E v) :: (asc E L).filter (fun q => !(q.1 == (i : Nat)) && !(q.1 + 1 == (i : Nat) && q.2.category == 2))) → W p l e R s mi args below meth c H locs (G.2 - n0) (sl G.2 - sl n0) Q (F0 mi (pc + 1) ls' (S.map (conc E))) := fun ls' hl' => k E hE p l e R s mi args below meth c Q hC hR ls' H locs (hasL_1 hl hl') hH hS h1 h2
  show W p l e R s mi args below meth c H locs (G.2 - n0) (sl G.2 - sl n0) Q (F0 mi pc ls (conc E v :: S.map (conc E)))
  rcases conc_ref E v hv with e1 | ⟨a, e1⟩
  · rw [e1] at kk ⊢
    exact lv_astore_nN hC.1 hC.2.1 hd rfl (asc_has hl) hi' rfl kk
  · rw [e1] at kk ⊢
    exact lv_astore_n hC.1 hC.2.1 hd rfl (asc_has hl) hi' rfl kk
theorem y_isub {x y : Int} (hd : decode m.2.1 pc = .ok (.isub, 1)) (k : JS Sc m d n0 hi Post (pc + 1) L (iv (x - y) :: S) G σ) : JS Sc m d n0 hi Post pc L (iv y :: iv x :: S) G σ := by
  intro E hE p l e R s mi args below meth c Q hC hR ls H locs hl hH hS h1 h2
  have kk := k E hE p l e R s mi args below meth c Q hC hR ls H locs hl hH hS h1 h2
  rw [List.map_cons, conc_i, ← sub32] at kk
  exact lv_isub hC.1 hC.2.1 hd kk
theorem y_iadd {x y : Int} (hd : decode m.2.1 pc = .ok (.iadd, 1)) (k : JS Sc m d n0 hi Post (pc + 1) L (iv (x + y) :: S) G σ) : JS Sc m d n0 hi Post pc L (iv y :: iv x :: S) G σ := by
  intro E hE p l e R s mi args below meth c Q hC hR ls H locs hl hH hS h1 h2
  have kk := k E hE p l e R s mi args below meth c Q hC hR ls H locs hl hH hS h1 h2
  rw [List.map_cons, conc_i, ← add32] at kk
  exact lv_iadd hC.1 hC.2.1 hd kk
theorem y_iand {x y : Int} (hd : decode m.2.1 pc = .ok (.iand, 1)) (k : JS Sc m d n0 hi Post (pc + 1) L (iv (i_and x y) :: S) G σ) : JS Sc m d n0 hi Post pc L (iv y :: iv x :: S) G σ := by
  intro E hE p l e R s mi args below meth c Q hC hR ls H locs hl hH hS h1 h2
  have kk := k E hE p l e R s mi args below meth c Q hC hR ls H locs hl hH hS h1 h2
  rw [List.map_cons, conc_i, i_and, Int32.ofInt_toInt] at kk
  exact lv_iand hC.1 hC.2.1 hd kk
theorem y_icmp_gt {x y off : Int} {tgt : Nat} (hx : inR x) (hy : inR y) (hd : decode m.2.1 pc = .ok (.if_icmp .gt off, 3)) (ht : (pc : Int) + off = (tgt : Int)) (kt : y < x → JS Sc m d n0 hi Post tgt L S G σ) (kf : x ≤ y → JS Sc m d n0 hi Post (pc + 3) L S G σ) : JS Sc m d n0 hi Post pc L (iv y :: iv x :: S) G σ := by
  intro E hE p l e R s mi args below meth c Q hC hR ls H locs hl hH hS h1 h2
  exact lv_icmp_gt hC.1 hC.2.1 hd ht (fun z => kt ((lt32 hy hx).mp z) E hE p l e R s mi args below meth c Q hC hR ls H locs hl hH hS h1 h2) (fun z => kf (Int.not_lt.mp (fun q => z ((lt32 hy hx).mpr q))) E hE p l e R s mi args below meth c Q hC hR ls H locs hl hH hS h1 h2)
theorem y_icmp_eq {x y off : Int} {tgt : Nat} (hx : inR x) (hy : inR y) (hd : decode m.2.1 pc = .ok (.if_icmp .eq off, 3)) (ht : (pc : Int) + off = (tgt : Int)) (kt : x = y → JS Sc m d n0 hi Post tgt L S G σ) (kf : ¬ x = y → JS Sc m d n0 hi Post (pc + 3) L S G σ) : JS Sc m d n0 hi Post pc L (iv y :: iv x :: S) G σ := by
  intro E hE p l e R s mi args below meth c Q hC hR ls H locs hl hH hS h1 h2
  exact lv_icmp_eq hC.1 hC.2.1 hd ht (fun z => kt ((eq32 hx hy).mp z) E hE p l e R s mi args below meth c Q hC hR ls H locs hl hH hS h1 h2) (fun z => kf (fun q => z ((eq32 hx hy).mpr q)) E hE p l e R s mi args below meth c Q hC hR ls H locs hl hH hS h1 h2)
theorem y_if_eq {x off : Int} {tgt : Nat} (hx : inR x) (hd : decode m.2.1 pc = .ok (.ifCond .eq off, 3)) (ht : (pc : Int) + off = (tgt : Int)) (kt : x = 0 → JS Sc m d n0 hi Post tgt L S G σ) (kf : ¬ x = 0 → JS Sc m d n0 hi Post (pc + 3) L S G σ) : JS Sc m d n0 hi Post pc L (iv x :: S) G σ := by
  intro E hE p l e R s mi args below meth c Q hC hR ls H locs hl hH hS h1 h2
  exact lv_if_eq hC.1 hC.2.1 hd ht (fun z => kt ((eq32 hx in0).mp z) E hE p l e R s mi args below meth c Q hC hR ls H locs hl hH hS h1 h2) (fun z => kf (fun q => z ((eq32 hx in0).mpr q)) E hE p l e R s mi args below meth c Q hC hR ls H locs hl hH hS h1 h2)
theorem y_tableIn {x dflt lo hiw off : Int} {offs : Array Int} {len tgt : Nat} (hx : inR x) (hd : decode m.2.1 pc = .ok (.tableswitch dflt lo hiw offs, len)) (hl1 : lo ≤ x) (hl2 : x ≤ hiw) (ho : offs[(x - lo).toNat]? = some off) (ht : (pc : Int) + off = (tgt : Int)) (k : JS Sc m d n0 hi Post tgt L S G σ) : JS Sc m d n0 hi Post pc L (iv x :: S) G σ := by
  intro E hE p l e R s mi args below meth c Q hC hR ls H locs hl hH hS h1 h2
  exact lv_tableIn hC.1 hC.2.1 hd (by rw [to32 hx]; omega) (by rw [to32 hx]; omega) (by rw [to32 hx]; exact ho) ht (k E hE p l e R s mi args below meth c Q hC hR ls H locs hl hH hS h1 h2)
theorem y_tableOut {x dflt lo hiw : Int} {offs : Array Int} {len tgt : Nat} (hx : inR x) (hd : decode m.2.1 pc = .ok (.tableswitch dflt lo hiw offs, len)) (h : x < lo ∨ hiw < x) (ht : (pc : Int) + dflt = (tgt : Int)) (k : JS Sc m d n0 hi Post tgt L S G σ) : JS Sc m d n0 hi Post pc L (iv x :: S) G σ := by
  intro E hE p l e R s mi args below meth c Q hC hR ls H locs hl hH hS h1 h2
  exact lv_tableOut hC.1 hC.2.1 hd (by rw [to32 hx]; exact h) ht (k E hE p l e R s mi args below meth c Q hC hR ls H locs hl hH hS h1 h2)
theorem y_lcmp {x y : Int} (hx : inL x) (hy : inL y) (hd : decode m.2.1 pc = .ok (.lcmp, 1)) (kl : x < y → JS Sc m d n0 hi Post (pc + 1) L (iv (-1) :: S) G σ) (ke : x = y → JS Sc m d n0 hi Post (pc + 1) L (iv 0 :: S) G σ) (kg : y < x → JS Sc m d n0 hi Post (pc + 1) L (iv 1 :: S) G σ) : JS Sc m d n0 hi Post pc L (jv y :: jv x :: S) G σ := by
  intro E hE p l e R s mi args below meth c Q hC hR ls H locs hl hH hS h1 h2
  refine W.lcmp hC.1 hC.2.1 hd ?_
  show W p l e R s mi args below meth c H locs (G.2 - n0) (sl G.2 - sl n0) Q (F0 mi (pc + 1) ls (.int (if Int64.ofInt y < Int64.ofInt x then 1 else if Int64.ofInt x = Int64.ofInt y then 0 else -1) :: S.map (conc E)))
  rcases Int.lt_trichotomy x y with h | h | h
  · rw [if_neg (fun q => by have := (lt64 hy hx).mp q; omega), if_neg (fun q => by have := (eq64 hx hy).mp q; omega)]
    exact kl h E hE p l e R s mi args below meth c Q hC hR ls H locs hl hH hS h1 h2
  · subst h
    rw [if_neg (fun q => Int.lt_irrefl _ ((lt64 hx hx).mp q)), if_pos rfl]
    exact ke rfl E hE p l e R s mi args below meth c Q hC hR ls H locs hl hH hS h1 h2
  · rw [if_pos ((lt64 hy hx).mpr h)]
    exact kg h E hE p l e R s mi args below meth c Q hC hR ls H locs hl hH hS h1 h2
theorem y_retA {r : jV} {S' : List jV} (ho : jRok m.2.2.2 m.2.1 pc r S') (hg : G.2 = hi) (hP : Post r G σ) : JS Sc m d n0 hi Post pc L S' G σ := by
  intro E hE p l e R s mi args below meth c Q hC hR ls H locs hl hH hS h1 h2
  have k := hR r G σ pc ls S' H locs hP ho hH hS hg
  rw [hg]
  exact k
theorem y_iinc {i : Nat} {n x : Int} (hL : L[i]? = some (iv x)) (hd : decode m.2.1 pc = .ok (.iinc i n, 3)) (k : JS Sc m d n0 hi Post (pc + 3) (lset L i (iv (x + n))) S G σ) : JS Sc m d n0 hi Post pc L S G σ := by
  intro E hE p l e R s mi args below meth c Q hC hR ls H locs hl hH hS h1 h2
  obtain ⟨q, hq⟩ := List.getElem?_of_mem (asc_mem (E := E) hL (by simp))
  have hi' : i < m.2.2.1 := by rw [← hl.1]; exact (List.getElem?_eq_some_iff.mp hL).1
  exact lv_iinc hC.1 hC.2.1 hd (asc_has hl) hq (add32 x n) hi' rfl (fun ls' hl' => k E hE p l e R s mi args below meth c Q hC hR ls' H locs (hasL_1 hl hl') hH hS h1 h2)
theorem y_goto {off : Int} {tgt : Nat} (hd : decode m.2.1 pc = .ok (.goto off, 3)) (ht : (pc : Int) + off = (tgt : Int)) (k : JS Sc m d n0 hi Post tgt L S G σ) : JS Sc m d n0 hi Post pc L S G σ := by
  intro E hE p l e R s mi args below meth c Q hC hR ls H locs hl hH hS h1 h2
  exact lv_goto hC.1 hC.2.1 hd ht (k E hE p l e R s mi args below meth c Q hC hR ls H locs hl hH hS h1 h2)
theorem y_dup {v : jV} (hv : v.1 ≠ 1) (hd : decode m.2.1 pc = .ok (.dup, 1)) (k : JS Sc m d n0 hi Post (pc + 1) L (v :: v :: S) G σ) : JS Sc m d n0 hi Post pc L (v :: S) G σ := by
  intro E hE p l e R s mi args below meth c Q hC hR ls H locs hl hH hS h1 h2
  exact lv_dup hC.1 hC.2.1 hd (by rw [conc_cat, if_neg hv]) (k E hE p l e R s mi args below meth c Q hC hR ls H locs hl hH hS h1 h2)
theorem y_behind {k : Nat} {a : Array Value} {st0 : List jV} (hk : G.2 + k ≤ hi) {E : jE} (hE : E.2.1.2 = Sc) {p : Program} {l : Launch} {e : Env} {R : Room} {s : State} {mi : MethodId} {args : Array Value} {below : List Frame} {meth : Method} {c : Code} {Q : State → Prop} (hC : Cx m d n0 hi E p R s mi args meth c) (hR : jRet m n0 hi E p l e R s mi args below meth c Q Post) {ls : Array Slot} {H : Heap} {locs : List Loc} (hl : hasL E ls m.2.2.1 L) (hS : va_S (jA E) s.heap H locs) (h1 : n0 ≤ G.2)
    (hr : va_Run p l e R s mi args below meth c H locs (G.2 - n0) (sl G.2 - sl n0) k (sl (G.2 + k) - sl G.2) (F0 mi pc ls (st0.map (conc E))) (S.map (conc E)) (jQc E (G.2 + k) (fun r G' σ' => JS Sc m d n0 hi Post (pc + 3) L (jpush r S) G' σ') a) (jA E)) : W p l e R s mi args below meth c H locs (G.2 - n0) (sl G.2 - sl n0) Q (F0 mi pc ls (st0.map (conc E))) := by
  intro T hT X
  obtain ⟨v, st₀, t, T', Lx, g0, X', hL, e1, e2, ⟨⟨r, G', σ', hv, hp, hW', hn⟩, hz, hkk⟩, st⟩ := hr T hT X
  cases hv
  rw [g0] at hz hkk
  have hS' : va_S (jA E) s.heap T'.heap (locs ++ Lx) := by
    refine ⟨Nat.le_trans hS.1 (by rw [e1]; exact hz), fun q g1 g2 => ?_, fun q hq => ?_⟩
    · rw [e1, hkk q (Nat.lt_of_lt_of_le g1 hS.1) g2]
      exact hS.2.1 q g1 g2
    · rcases List.mem_append.mp hq with h | h
      · exact hS.2.2 q h
      · exact hL q h
  have key := hp E hE p l e R s mi args below meth c Q hC hR ls T'.heap (locs ++ Lx) hl (by rw [e1]; exact hW') hS' (by rw [hn]; omega) (by rw [hn]; exact hk)
  have q1 := sl_le h1
  have q2 := sl_le (Nat.le_add_right G.2 k)
  rw [hn, show G.2 + k - n0 = G.2 - n0 + k by omega, show sl (G.2 + k) - sl n0 = sl G.2 - sl n0 + (sl (G.2 + k) - sl G.2) by omega] at key
  obtain ⟨t2, a1, b1⟩ := key T' rfl X'
  refine ⟨t2, st t2 ?_, b1⟩
  rw [jret_push]
  exact a1
theorem y_callV {m' : jT} {idx d' k ci n : Nat} {a : Int} {As : List jV} {q : vw_C} (hw : jcV m m' idx n) (hd : decode m.2.1 pc = .ok (.invokevirtual idx, 3)) (hlen : As.length = n) (hcat : scat S ≤ 8) (hdd : d' + 1 ≤ d) (hk : G.2 + k ≤ hi) (ha : ob G a ci) (hc : jcl[ci]? = some q) (hq : q.1 = m'.1.cls)
    (hcn : Cn m' d' k (rv a :: As) G σ (fun r G' σ' => JS Sc m d n0 hi Post (pc + 3) L (jpush r S) G' σ')) : JS Sc m d n0 hi Post pc L (As.reverse ++ rv a :: S) G σ := by
  intro E hE p l e R s mi args below meth c Q hC hR ls H locs hl hH hS h1 h2
  obtain ⟨⟨w1, w2, w3, w4, w5⟩, w6, w7⟩ := hw
  have hts := hC.2.2.2.2.1
  obtain ⟨r1, r2, r3, r4⟩ := hC.2.2.2.2.2.2.2.1
  have hs0 := hC.2.2.2.2.2.2.2.2.1
  obtain ⟨e0, e1, e2⟩ := ha
  refine w_size hs0 h1 hH hS (fun hsz => ?_)
  refine y_behind (S := S) hk hE hC hR hl hS h1 (a := (Value.ref (E.1 + a.toNat) :: As.map (conc E)).toArray) ?_
  have q1 := sl_le h1
  have q2 := sl_le (Nat.le_add_right G.2 k)
  have q3 := sl_le hk
  have cb : CallB R s args m.1.cls idx m'.1 m'.2.1 m'.2.2.1 m'.2.2.2 (.code m'.1 m'.2.1 m'.2.2.1 m'.2.2.2 :: TT) (jrm d' G.2 k) k (sl (G.2 + k) - sl G.2) n :=
    callB_of n hts (ttc_good w5) rfl rfl rfl (hts _ w4) (hts _ w1) w6 ⟨by show d' + 1 ≤ R.frames; omega, by show 8 + (m'.2.2.1 + 11) + 64 * d' ≤ R.locals; omega⟩
  have hcn' := hcn l E
  rw [List.map_cons, conc_r E (by omega)] at hcn'
  refine va_runV (As := As.map (conc E)) (rest := S.map (conc E)) (b := E.1 + a.toNat) (C := m'.1.cls) ⟨hC.1, hC.2.1, hC.2.2.1, hC.2.2.2.1, hts⟩ hcn' ⟨cb, hts _ w2, hts _ w3⟩ ⟨jPre_blind E G σ _, ?_, ?_⟩ rfl (by rw [List.length_map]; exact hlen) hl.2.1 ?_ ?_ hd ⟨by omega, by omega⟩
  · obtain ⟨cell, u1, u2, u3⟩ := va_recv hC.2.2.2.2.2.1.1 hH hc (jat e1 e2 (enc_ob e0))
    exact ⟨cell, u1, u2, by rw [← hq]; exact u3⟩
  · intro U hU hW
    exact ⟨rfl, by rw [hU]; exact hH, jK_up hW hC.2.2.2.2.2.1, jS_up hs0 hW hU hS hC.2.2.2.2.2.2.1, by rw [hU]; exact hsz⟩
  · show (As.reverse ++ rv a :: S).map (conc E) = _
    rw [conc_rev, List.map_cons, conc_r E (by omega)]
  · exact lv_room (by rw [scat_eq]; exact hcat)
theorem y_callI {m' : jT} {idx d' k n : Nat} {a : Int} {As : List jV} (hw : jcI m m' idx n) (hd : decode m.2.1 pc = .ok (.invokespecial idx, 3)) (hlen : As.length = n) (hcat : scat S ≤ 8) (hdd : d' + 1 ≤ d) (hk : G.2 + k ≤ hi) (ha : 1 ≤ a)
    (hcn : Cn m' d' k (rv a :: As) G σ (fun r G' σ' => JS Sc m d n0 hi Post (pc + 3) L (jpush r S) G' σ')) : JS Sc m d n0 hi Post pc L (As.reverse ++ rv a :: S) G σ := by
  intro E hE p l e R s mi args below meth c Q hC hR ls H locs hl hH hS h1 h2
  obtain ⟨⟨w1, w2, w4, w5⟩, w6, w7, w8, w9⟩ := hw
  have hts := hC.2.2.2.2.1
  obtain ⟨r1, r2, r3, r4⟩ := hC.2.2.2.2.2.2.2.1
  have hs0 := hC.2.2.2.2.2.2.2.2.1
  refine w_size hs0 h1 hH hS (fun hsz => ?_)
  refine y_behind (S := S) hk hE hC hR hl hS h1 (a := (Value.ref (E.1 + a.toNat) :: As.map (conc E)).toArray) ?_
  have q1 := sl_le h1
  have q2 := sl_le (Nat.le_add_right G.2 k)
  have q3 := sl_le hk
  have cb : CallB R s args m.1.cls idx m'.1 m'.2.1 m'.2.2.1 m'.2.2.2 (.code m'.1 m'.2.1 m'.2.2.1 m'.2.2.2 :: TT) (jrm d' G.2 k) k (sl (G.2 + k) - sl G.2) n :=
    callB_of n hts (ttc_good w5) rfl rfl rfl (hts _ w4) (hts _ w1) w6 ⟨by show d' + 1 ≤ R.frames; omega, by show 8 + (m'.2.2.1 + 11) + 64 * d' ≤ R.locals; omega⟩
  have hcn' := hcn l E
  rw [List.map_cons, conc_r E (by omega)] at hcn'
  rw [w9] at cb hcn'
  refine va_runI (As := As.map (conc E)) (rest := S.map (conc E)) (b := E.1 + a.toNat) ⟨hC.1, hC.2.1, hC.2.2.1, hC.2.2.2.1, hts⟩ hcn' ⟨cb, w8, hts _ w2⟩ ⟨jPre_blind E G σ _, ?_⟩ rfl (by rw [List.length_map]; exact hlen) hl.2.1 ?_ (lv_room (by rw [scat_eq]; exact hcat)) hd ⟨by omega, by omega⟩
  · intro U hU hW
    exact ⟨rfl, by rw [hU]; exact hH, jK_up hW hC.2.2.2.2.2.1, jS_up hs0 hW hU hS hC.2.2.2.2.2.2.1, by rw [hU]; exact hsz⟩
  · show (As.reverse ++ rv a :: S).map (conc E) = _
    rw [conc_rev, List.map_cons, conc_r E (by omega)]
theorem y_new {C : String} {T : u_T} {N ci idx : Nat} (hin : ∀ w ∈ u_ws C T N, w ∈ TT) (ty0 : Nat → FieldType) (hty : ∀ k, k < N → parseFieldDescriptor (T k).2.2.1 = some (ty0 k)) (hc : jcl[ci]? = some (C, T, N)) (hcl : Cond.classLink m.1.cls idx C ∈ TT) (hinst : Cond.instantiable C N ∈ TT) (hini : Cond.initialized C ∈ TT) (hkd : kd ((G.2 : Int) + 1) = (0, ci)) (hlen : (jft ci).length = N) (hdef : ∀ (E : jE) (j : Nat), j < N → defaultValue (ty0 j) = vp_V (jfs E (fun _ _ => 0) (fun _ _ => 0) 0 ci) j) (hhi : G.2 + 1 ≤ hi) (hd : decode m.2.1 pc = .ok (.new idx, 3))
    (k : JS Sc m d n0 hi Post (pc + 3) L (rv ((G.2 : Int) + 1) :: S) (zr G.1 ((G.2 : Int) + 1), G.2 + 1) (zr σ ((G.2 : Int) + 1))) : JS Sc m d n0 hi Post pc L S G σ := by
  intro E hE p l e R s mi args below meth c Q hC hR ls H locs hl hH hS h1 h2
  obtain ⟨r1, r2, r3, r4⟩ := hC.2.2.2.2.2.2.2.1
  have hs0 := hC.2.2.2.2.2.2.2.2.1
  have hts := hC.2.2.2.2.1
  have hK := hC.2.2.2.2.2.1.1
  refine w_size hs0 h1 hH hS (fun hsz => ?_)
  have hKn := hK.1 ci _ hc
  have q0 : sl (G.2 + 1) = sl G.2 + N := by
    show sl G.2 + jsz (kd ((G.2 : Int) + 1)) = _
    rw [hkd, show jsz (0, ci) = (jft ci).length from rfl, hlen]
  have q1 := sl_le h1
  have q3 := sl_le hhi
  refine W.newcK hC.1 hC.2.1 hC.2.2.2.1 (hts _ hcl) (hts _ hinst) (hts _ hini) rfl hd (by omega) (by omega) hKn.2.1 hsz fun H1 kC hkC e1 z1 o1 => ?_
  have hnew : va_at E.2.2.2.1 jcl (E.1 + (G.2 + 1), enc E (zr G.1 ((G.2 : Int) + 1)) (zr σ ((G.2 : Int) + 1)) ((G.2 : Int) + 1)) H1 := by
    have ef : jfs E (zr G.1 ((G.2 : Int) + 1)) (zr σ ((G.2 : Int) + 1)) ((G.2 : Int) + 1) ci = jfs E (fun _ _ => 0) (fun _ _ => 0) 0 ci := by
      unfold jfs
      simp only [zr_at]
    rw [enc_ob hkd, ef]
    exact ⟨_, hc, (u_born ty0 hts hin hKn hkC e1 hty).to (hdef E)⟩
  have key := k E hE p l e R s mi args below meth c Q hC hR ls H1 locs hl (HW_grow hsz hH o1 hnew) (S_grow hS hsz z1 o1) (by show n0 ≤ G.2 + 1; omega) hhi
  have ec : conc E (rv ((G.2 : Int) + 1)) = .ref (E.1 + G.2 + 1) := by
    rw [conc_r E (by omega)]
    congr 1
  rw [List.map_cons, ec] at key
  have n1 : (zr G.1 ((G.2 : Int) + 1), G.2 + 1).2 = G.2 + 1 := rfl
  rw [n1, show G.2 + 1 - n0 = G.2 - n0 + 1 by omega, show sl (G.2 + 1) - sl n0 = sl G.2 - sl n0 + N by omega] at key
  exact key
theorem y_cong {G' σ' : jM} (e : agC G.2 G.1 G' σ σ') (k : JS Sc m d n0 hi Post pc L S (G', G.2) σ') : JS Sc m d n0 hi Post pc L S G σ := by
  intro E hE p l e0 R s mi args below meth c Q hC hR ls H locs hl hH hS h1 h2
  exact k E hE p l e0 R s mi args below meth c Q hC hR ls H locs hl (HW_cong e hH) hS h1 h2
theorem y_ctV {m' : jT} {idx ci n tag : Nat} {a : Int} {As : List jV} {q : vw_C} {F : Int → jM → Prop} (hw : jcV m m' idx n) (hd : decode m.2.1 pc = .ok (.invokevirtual idx, 3)) (hlen : As.length = n) (hcat : scat S ≤ 8) (ht : tag ≠ 9) (ha : ob (GG t) a ci) (hc : jcl[ci]? = some q) (hq : q.1 = m'.1.cls) (hN : 340 ≤ hi) (h : Ct m' d tag t (rv a :: As) σ F)
    (k : ∀ (r : Int) (σ' : jM), F r σ' → JS Sc m (d + 1) n0 hi Post (pc + 3) L ((tag, r) :: S) (GG t) σ') : JS Sc m (d + 1) n0 hi Post pc L (As.reverse ++ rv a :: S) (GG t) σ := by
  refine y_callV hw hd hlen hcat (Nat.le_refl _) (k := 0) hN ha hc hq (Cn_mono h ?_)
  rintro ⟨r1, r2⟩ G' σ' ⟨h1, h2, h3⟩
  have h1 : r1 = tag := h1
  subst h1
  subst h2
  have := k r2 σ' h3
  unfold jpush
  rw [if_neg ht]
  exact this
/-- a number of the script -/
def sv (Sc : Nat × (Nat → Int32)) (i : Int) : Int := (Sc.2 i.toNat).toInt
theorem sv_R {i : Int} : inR (sv Sc i) := ⟨Int32.le_toInt _, Int32.toInt_lt _⟩
theorem y_slen (hd : decode m.2.1 pc = .ok (.arraylength, 1)) (k : JS Sc m d n0 hi Post (pc + 1) L (iv (Sc.1 : Int) :: S) G σ) : JS Sc m d n0 hi Post pc L ((3, 0) :: S) G σ := by
  intro E hE p l e R s mi args below meth c Q hC hR ls H locs hl hH hS h1 h2
  have kk := k E hE p l e R s mi args below meth c Q hC hR ls H locs hl hH hS h1 h2
  have hj := hC.2.2.2.2.2.2.1.1
  have hs0 := hC.2.2.2.2.2.2.2.2.1
  rw [List.map_cons, conc_i, ← hE, Int32.ofInt_eq_ofNat] at kk
  exact va_slen hC.1 hC.2.1 hj.1 (by have := hj.2; omega) (fun q => by have := hj.2; have : E.1 < E.2.1.1 := q; omega) hS hd kk
theorem y_sald {i : Int} (hd : decode m.2.1 pc = .ok (.iaload, 1)) (hL : Sc.1 ≤ 3072) (hi' : 0 ≤ i ∧ i < (Sc.1 : Int)) (k : JS Sc m d n0 hi Post (pc + 1) L (iv (sv Sc i) :: S) G σ) : JS Sc m d n0 hi Post pc L (iv i :: (3, 0) :: S) G σ := by
  intro E hE p l e R s mi args below meth c Q hC hR ls H locs hl hH hS h1 h2
  have kk := k E hE p l e R s mi args below meth c Q hC hR ls H locs hl hH hS h1 h2
  have hj := hC.2.2.2.2.2.2.1.1
  have hs0 := hC.2.2.2.2.2.2.2.2.1
  obtain ⟨u1, u2⟩ := nat32 (i := i) (n := E.2.1.2.1) hi'.1 (by rw [hE]; exact hi'.2) (by rw [hE]; omega)
  unfold sv at kk
  rw [List.map_cons, conc_i, Int32.ofInt_toInt, ← hE, ← u2] at kk
  exact va_sld hC.1 hC.2.1 hj.1 (by have := hj.2; omega) (fun q => by have := hj.2; have : E.1 < E.2.1.1 := q; omega) hS u1 hd kk
end YR
