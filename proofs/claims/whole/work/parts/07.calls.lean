/-! ===== the rules of J: calls, and what is made (printed by wip/whole/gen_calls.py) ===== -/
def scat (S : List jV) : Nat := (S.map (fun v => if v.1 = 1 then 2 else 1)).sum
theorem scat_eq (E : jE) (S : List jV) : ((S.map (conc E)).map fun v => v.category).sum = scat S := by
  unfold scat
  rw [List.map_map]
  congr 1
  apply List.map_congr_left
  intro v _
  exact conc_cat E v
theorem nest_up {s U : State} (hW : s.WarmedH U.vm) (h : ∀ w ∈ jnest, va_Nw w s) : ∀ w ∈ jnest, va_Nw w U := by
  intro w hw
  have hz := h w hw
  simp only [jnest, List.mem_cons, List.mem_nil_iff, or_false] at hw
  rcases hw with rfl | rfl | rfl | rfl | rfl | rfl | rfl | rfl | rfl | rfl <;> exact va_Nw.warmM hW hz
theorem jK_up {E : jE} {s U : State} (hW : s.WarmedH U.vm) (h : jK E s) : jK E U := ⟨va_K.moved hW.alike h.1, nest_up hW h.2.1, va_AO.moved hW.alike h.2.2.1, va_AO.moved hW.alike h.2.2.2⟩
theorem jK_same {E : jE} {u U : State} (hv : u.vm = U.vm) (h : jK E u) : jK E U := by
  refine ⟨va_K.moved (by rw [hv]; exact Vm.Alike.refl _) h.1, fun w hw => ?_, va_AO.moved (by rw [hv]; exact Vm.Alike.refl _) h.2.2.1, va_AO.moved (by rw [hv]; exact Vm.Alike.refl _) h.2.2.2⟩
  have hz := h.2.1 w hw
  simp only [jnest, List.mem_cons, List.mem_nil_iff, or_false] at hw
  rcases hw with rfl | rfl | rfl | rfl | rfl | rfl | rfl | rfl | rfl | rfl <;> exact va_Nw.same rfl hv hz
theorem jS_up {E : jE} {s U : State} {H : Heap} {locs : List Loc} {n0 : Nat} (h0 : s.heap.size = E.1 + n0 + 1) (hW : s.WarmedH U.vm) (hU : U.heap = H) (hS : va_S (jA E) s.heap H locs) (h : jS E s) : jS E U := by
  obtain ⟨⟨x1, x2⟩, r1, s1, z1, z2⟩ := h
  have hk : ∀ a : Nat, a < s.heap.size → ¬ jA E a → U.heap[a]? = s.heap[a]? := fun a g1 g2 => by rw [hU]; exact hS.2.1 a g1 g2
  exact ⟨⟨va_X.moved hW.alike (x1.kept (hk _ (by omega) (fun q => by have : E.1 < E.2.1.1 := q; omega))), x2⟩, vk_R.warm hW r1, vk_S.moved hW.alike (s1.kept hk), va_Z.moved hW.alike (z1.kept hk), va_Zq.moved hW.alike (z2.kept hk)⟩
theorem jS_same {E : jE} {u U : State} (hv : u.vm = U.vm) (hh : U.heap = u.heap) (h : jS E u) : jS E U := by
  obtain ⟨⟨x1, x2⟩, r1, s1, z1, z2⟩ := h
  have ha : u.vm.Alike U.vm := by rw [hv]; exact Vm.Alike.refl _
  refine ⟨⟨?_, x2⟩, vk_R.same hv.symm r1, ?_, ?_, ?_⟩
  · rw [hh]; exact va_X.moved ha x1
  · rw [hh]; exact vk_S.moved ha s1
  · rw [hh]; exact va_Z.moved ha z1
  · rw [hh]; exact va_Zq.moved ha z2
theorem jPre_blind (E : jE) (G : jG) (σ : jM) (av : List Value) : FrameBlind (va_Pc av (jPre E G σ)) := by
  intro a U g mk h
  obtain ⟨h1, h2, h3, h4, h5⟩ := h
  exact ⟨h1, h2, jK_same (u := U) (U := U.calling g mk a) rfl h3, jS_same (u := U) (U := U.calling g mk a) rfl rfl h4, h5⟩
theorem jret_push (E : jE) (r : jV) (S : List jV) : (jret E r).toList ++ S.map (conc E) = (jpush r S).map (conc E) := by
  unfold jret jpush
  by_cases h : r.1 = 9
  · rw [if_pos h, if_pos h]; rfl
  · rw [if_neg h, if_neg h]; rfl
theorem ttc_good {y : MethodName} {cc : ByteArray} {nL : Nat} {rt : Option FieldType} (h : Cond.code y cc nL rt ∈ TT) : GoodIn TT (Cond.code y cc nL rt :: TT) := by
  intro w hw
  rcases List.mem_cons.mp hw with rfl | hw
  · exact tt_good _ h
  · exact tt_good w hw
section JK
variable {m : jT} {d n0 hi : Nat} {Post : jV → jG → jM → Prop} {pc : Nat} {L S : List jV} {G : jG} {σ : jM}
/-- behind a call -/
theorem j_behind {k : Nat} {a : Array Value} {st0 : List jV} (hk : G.2 + k ≤ hi) {E : jE} {p : Program} {l : Launch} {e : Env} {R : Room} {s : State} {mi : MethodId} {args : Array Value} {below : List Frame} {meth : Method} {c : Code} {Q : State → Prop} (hC : Cx m d n0 hi E p R s mi args meth c) (hR : jRet m n0 hi E p l e R s mi args below meth c Q Post) {ls : Array Slot} {H : Heap} {locs : List Loc} (hl : hasL E ls m.2.2.1 L) (hS : va_S (jA E) s.heap H locs) (h1 : n0 ≤ G.2)
    (hr : va_Run p l e R s mi args below meth c H locs (G.2 - n0) (sl G.2 - sl n0) k (sl (G.2 + k) - sl G.2) (F0 mi pc ls (st0.map (conc E))) (S.map (conc E)) (jQc E (G.2 + k) (fun r G' σ' => J m d n0 hi Post (pc + 3) L (jpush r S) G' σ') a) (jA E)) : W p l e R s mi args below meth c H locs (G.2 - n0) (sl G.2 - sl n0) Q (F0 mi pc ls (st0.map (conc E))) := by
  intro T hT X
  obtain ⟨v, st₀, t, T', Lx, g0, X', hL, e1, e2, ⟨⟨r, G', σ', hv, hp, hW', hn⟩, hz, hkk⟩, st⟩ := hr T hT X
  cases hv
  rw [g0] at hz hkk
  have hS' : va_S (jA E) s.heap T'.heap (locs ++ Lx) := by
    refine ⟨Nat.le_trans hS.1 (by rw [e1]; exact hz), fun q g1 g2 => ?_, fun q hq => ?_⟩
    · rw [e1, hkk q (Nat.lt_of_lt_of_le g1 hS.1) g2]
      exact hS.2.1 q g1 g2
    · rcases List.mem_append.mp hq with h | h
      · exact hS.2.2 q h
      · exact hL q h
  have key := hp E p l e R s mi args below meth c Q hC hR ls T'.heap (locs ++ Lx) hl (by rw [e1]; exact hW') hS' (by rw [hn]; omega) (by rw [hn]; exact hk)
  have q1 := sl_le h1
  have q2 := sl_le (Nat.le_add_right G.2 k)
  rw [hn, show G.2 + k - n0 = G.2 - n0 + k by omega, show sl (G.2 + k) - sl n0 = sl G.2 - sl n0 + (sl (G.2 + k) - sl G.2) by omega] at key
  obtain ⟨t2, a1, b1⟩ := key T' rfl X'
  refine ⟨t2, st t2 ?_, b1⟩
  rw [jret_push]
  exact a1
/-- what a call site needs of the tables: a virtual call (the method's own class) -/
def jcV (m m' : jT) (idx n : Nat) : Prop := (Cond.methodLink m.1.cls idx m'.1 ∈ TT ∧ Cond.instanceMethod m'.1 ∈ TT ∧ Cond.selects m'.1.cls m'.1 m'.1 ∈ TT ∧ Cond.initialized m'.1.cls ∈ TT ∧ Cond.code m'.1 m'.2.1 m'.2.2.1 m'.2.2.2 ∈ TT) ∧ (m'.1.cls ≠ "java/lang/invoke/MethodHandle" ∧ m'.1.cls ≠ "java/lang/invoke/VarHandle" ∧ (parseMethodDescriptor m'.1.desc).map (fun d => d.parameters.length) = some n) ∧ m'.2.2.1 ≤ 45
def jcS (m m' : jT) (idx n : Nat) : Prop := (Cond.methodLink m.1.cls idx m'.1 ∈ TT ∧ Cond.static m'.1 ∈ TT ∧ Cond.initialized m'.1.cls ∈ TT ∧ Cond.code m'.1 m'.2.1 m'.2.2.1 m'.2.2.2 ∈ TT) ∧ (m'.1.cls ≠ "java/lang/invoke/MethodHandle" ∧ m'.1.cls ≠ "java/lang/invoke/VarHandle" ∧ (parseMethodDescriptor m'.1.desc).map (fun d => d.parameters.length) = some n) ∧ m'.2.2.1 ≤ 45
theorem conc_rev (E : jE) (As S : List jV) : (As.reverse ++ S).map (conc E) = (As.map (conc E)).reverse ++ S.map (conc E) := by
  rw [List.map_append, List.map_reverse]
theorem j_callV {m' : jT} {idx d' k ci n : Nat} {a : Int} {As : List jV} {q : vw_C} (hw : jcV m m' idx n) (hd : decode m.2.1 pc = .ok (.invokevirtual idx, 3)) (hlen : As.length = n) (hcat : scat S ≤ 8) (hdd : d' + 1 ≤ d) (hk : G.2 + k ≤ hi) (ha : ob G a ci) (hc : jcl[ci]? = some q) (hq : q.1 = m'.1.cls)
    (hcn : Cn m' d' k (rv a :: As) G σ (fun r G' σ' => J m d n0 hi Post (pc + 3) L (jpush r S) G' σ')) : J m d n0 hi Post pc L (As.reverse ++ rv a :: S) G σ := by
  intro E p l e R s mi args below meth c Q hC hR ls H locs hl hH hS h1 h2
  obtain ⟨⟨w1, w2, w3, w4, w5⟩, w6, w7⟩ := hw
  have hts := hC.2.2.2.2.1
  obtain ⟨r1, r2, r3, r4⟩ := hC.2.2.2.2.2.2.2.1
  have hs0 := hC.2.2.2.2.2.2.2.2.1
  obtain ⟨e0, e1, e2⟩ := ha
  refine w_size hs0 h1 hH hS (fun hsz => ?_)
  refine j_behind (S := S) hk hC hR hl hS h1 (a := (Value.ref (E.1 + a.toNat) :: As.map (conc E)).toArray) ?_
  have q1 := sl_le h1
  have q2 := sl_le (Nat.le_add_right G.2 k)
  have q3 := sl_le hk
  have cb : CallB R s args m.1.cls idx m'.1 m'.2.1 m'.2.2.1 m'.2.2.2 (.code m'.1 m'.2.1 m'.2.2.1 m'.2.2.2 :: TT) (jrm d' G.2 k) k (sl (G.2 + k) - sl G.2) n :=
    callB_of n hts (ttc_good w5) rfl rfl rfl (hts _ w4) (hts _ w1) w6 ⟨by show d' + 1 ≤ R.frames; omega, by show 8 + (m'.2.2.1 + 11) + 64 * d' ≤ R.locals; omega⟩
  have hcn' := hcn l E
  rw [List.map_cons, conc_r E (by omega)] at hcn'
  refine va_runV (As := As.map (conc E)) (rest := S.map (conc E)) (b := E.1 + a.toNat) (C := m'.1.cls) ⟨hC.1, hC.2.1, hC.2.2.1, hC.2.2.2.1, hts⟩ hcn' ⟨cb, hts _ w2, hts _ w3⟩ ⟨jPre_blind E G σ _, ?_, ?_⟩ rfl (by rw [List.length_map]; exact hlen) hl.2.1 ?_ ?_ hd ⟨by omega, by omega⟩
  · obtain ⟨cell, u1, u2, u3⟩ := va_recv hC.2.2.2.2.2.1.1 hH hc (jat e1 e2 (enc_ob e0))
    exact ⟨cell, u1, u2, by rw [← hq]; exact u3⟩
  · intro U hU hW
    exact ⟨rfl, by rw [hU]; exact hH, jK_up hW hC.2.2.2.2.2.1, jS_up hs0 hW hU hS hC.2.2.2.2.2.2.1, by rw [hU]; exact hsz⟩
  · show (As.reverse ++ rv a :: S).map (conc E) = _
    rw [conc_rev, List.map_cons, conc_r E (by omega)]
  · exact lv_room (by rw [scat_eq]; exact hcat)
theorem j_callS {m' : jT} {idx d' k n : Nat} {As : List jV} (hw : jcS m m' idx n) (hd : decode m.2.1 pc = .ok (.invokestatic idx, 3)) (hlen : As.length = n) (hcat : scat S ≤ 8) (hdd : d' + 1 ≤ d) (hk : G.2 + k ≤ hi)
    (hcn : Cn m' d' k As G σ (fun r G' σ' => J m d n0 hi Post (pc + 3) L (jpush r S) G' σ')) : J m d n0 hi Post pc L (As.reverse ++ S) G σ := by
  intro E p l e R s mi args below meth c Q hC hR ls H locs hl hH hS h1 h2
  obtain ⟨⟨w1, w2, w4, w5⟩, w6, w7⟩ := hw
  have hts := hC.2.2.2.2.1
  obtain ⟨r1, r2, r3, r4⟩ := hC.2.2.2.2.2.2.2.1
  have hs0 := hC.2.2.2.2.2.2.2.2.1
  refine w_size hs0 h1 hH hS (fun hsz => ?_)
  refine j_behind (S := S) hk hC hR hl hS h1 (a := (As.map (conc E)).toArray) ?_
  have q1 := sl_le h1
  have q2 := sl_le (Nat.le_add_right G.2 k)
  have q3 := sl_le hk
  have cb : CallB R s args m.1.cls idx m'.1 m'.2.1 m'.2.2.1 m'.2.2.2 (.code m'.1 m'.2.1 m'.2.2.1 m'.2.2.2 :: TT) (jrm d' G.2 k) k (sl (G.2 + k) - sl G.2) n :=
    callB_of n hts (ttc_good w5) rfl rfl rfl (hts _ w4) (hts _ w1) w6 ⟨by show d' + 1 ≤ R.frames; omega, by show 8 + (m'.2.2.1 + 11) + 64 * d' ≤ R.locals; omega⟩
  refine va_runS (As := As.map (conc E)) (rest := S.map (conc E)) ⟨hC.1, hC.2.1, hC.2.2.1, hC.2.2.2.1, hts⟩ (hcn l E) ⟨cb, hts _ w2⟩ ⟨jPre_blind E G σ _, ?_⟩ rfl (by rw [List.length_map]; exact hlen) hl.2.1 (conc_rev E As S) (lv_room (by rw [scat_eq]; exact hcat)) hd ⟨by omega, by omega⟩
  intro U hU hW
  exact ⟨rfl, by rw [hU]; exact hH, jK_up hW hC.2.2.2.2.2.1, jS_up hs0 hW hU hS hC.2.2.2.2.2.2.1, by rw [hU]; exact hsz⟩
/-- a constructor's call: of the same nest (private), or not -/
def jcI (m m' : jT) (idx n : Nat) : Prop := (Cond.methodLink m.1.cls idx m'.1 ∈ TT ∧ Cond.instanceMethod m'.1 ∈ TT ∧ Cond.initialized m'.1.cls ∈ TT ∧ Cond.code m'.1 m'.2.1 m'.2.2.1 m'.2.2.2 ∈ TT) ∧ (m'.1.cls ≠ "java/lang/invoke/MethodHandle" ∧ m'.1.cls ≠ "java/lang/invoke/VarHandle" ∧ (parseMethodDescriptor m'.1.desc).map (fun d => d.parameters.length) = some n) ∧ m'.2.2.1 ≤ 45 ∧ m'.1.name = "<init>" ∧ m'.2.2.2 = none
def jcN (m m' : jT) (idx n : Nat) (host : String) : Prop := (Cond.methodLinkNest m.1.cls idx m'.1 host ∈ jnest ∧ Cond.instanceMethod m'.1 ∈ TT ∧ Cond.initialized m'.1.cls ∈ TT ∧ Cond.code m'.1 m'.2.1 m'.2.2.1 m'.2.2.2 ∈ TT) ∧ (m'.1.cls ≠ "java/lang/invoke/MethodHandle" ∧ m'.1.cls ≠ "java/lang/invoke/VarHandle" ∧ (parseMethodDescriptor m'.1.desc).map (fun d => d.parameters.length) = some n) ∧ m'.2.2.1 ≤ 45 ∧ m'.1.name = "<init>" ∧ m'.2.2.2 = none
theorem j_callI {m' : jT} {idx d' k n : Nat} {a : Int} {As : List jV} (hw : jcI m m' idx n) (hd : decode m.2.1 pc = .ok (.invokespecial idx, 3)) (hlen : As.length = n) (hcat : scat S ≤ 8) (hdd : d' + 1 ≤ d) (hk : G.2 + k ≤ hi) (ha : 1 ≤ a)
    (hcn : Cn m' d' k (rv a :: As) G σ (fun r G' σ' => J m d n0 hi Post (pc + 3) L (jpush r S) G' σ')) : J m d n0 hi Post pc L (As.reverse ++ rv a :: S) G σ := by
  intro E p l e R s mi args below meth c Q hC hR ls H locs hl hH hS h1 h2
  obtain ⟨⟨w1, w2, w4, w5⟩, w6, w7, w8, w9⟩ := hw
  have hts := hC.2.2.2.2.1
  obtain ⟨r1, r2, r3, r4⟩ := hC.2.2.2.2.2.2.2.1
  have hs0 := hC.2.2.2.2.2.2.2.2.1
  refine w_size hs0 h1 hH hS (fun hsz => ?_)
  refine j_behind (S := S) hk hC hR hl hS h1 (a := (Value.ref (E.1 + a.toNat) :: As.map (conc E)).toArray) ?_
  have q1 := sl_le h1
  have q2 := sl_le (Nat.le_add_right G.2 k)
  have q3 := sl_le hk
  have cb : CallB R s args m.1.cls idx m'.1 m'.2.1 m'.2.2.1 m'.2.2.2 (.code m'.1 m'.2.1 m'.2.2.1 m'.2.2.2 :: TT) (jrm d' G.2 k) k (sl (G.2 + k) - sl G.2) n :=
    callB_of n hts (ttc_good w5) rfl rfl rfl (hts _ w4) (hts _ w1) w6 ⟨by show d' + 1 ≤ R.frames; omega, by show 8 + (m'.2.2.1 + 11) + 64 * d' ≤ R.locals; omega⟩
  have hcn' := hcn l E
  rw [List.map_cons, conc_r E (by omega)] at hcn'
  rw [w9] at cb hcn'
  refine va_runI (As := As.map (conc E)) (rest := S.map (conc E)) (b := E.1 + a.toNat) ⟨hC.1, hC.2.1, hC.2.2.1, hC.2.2.2.1, hts⟩ hcn' ⟨cb, w8, hts _ w2⟩ ⟨jPre_blind E G σ _, ?_⟩ rfl (by rw [List.length_map]; exact hlen) hl.2.1 ?_ (lv_room (by rw [scat_eq]; exact hcat)) hd ⟨by omega, by omega⟩
  · intro U hU hW
    exact ⟨rfl, by rw [hU]; exact hH, jK_up hW hC.2.2.2.2.2.1, jS_up hs0 hW hU hS hC.2.2.2.2.2.2.1, by rw [hU]; exact hsz⟩
  · show (As.reverse ++ rv a :: S).map (conc E) = _
    rw [conc_rev, List.map_cons, conc_r E (by omega)]
theorem j_callN {m' : jT} {idx d' k n : Nat} {host : String} {a : Int} {As : List jV} (hw : jcN m m' idx n host) (hd : decode m.2.1 pc = .ok (.invokespecial idx, 3)) (hlen : As.length = n) (hcat : scat S ≤ 8) (hdd : d' + 1 ≤ d) (hk : G.2 + k ≤ hi) (ha : 1 ≤ a)
    (hcn : Cn m' d' k (rv a :: As) G σ (fun r G' σ' => J m d n0 hi Post (pc + 3) L (jpush r S) G' σ')) : J m d n0 hi Post pc L (As.reverse ++ rv a :: S) G σ := by
  intro E p l e R s mi args below meth c Q hC hR ls H locs hl hH hS h1 h2
  obtain ⟨⟨w1, w2, w4, w5⟩, w6, w7, w8, w9⟩ := hw
  have hts := hC.2.2.2.2.1
  obtain ⟨r1, r2, r3, r4⟩ := hC.2.2.2.2.2.2.2.1
  have hs0 := hC.2.2.2.2.2.2.2.2.1
  refine w_size hs0 h1 hH hS (fun hsz => ?_)
  refine j_behind (S := S) hk hC hR hl hS h1 (a := (Value.ref (E.1 + a.toNat) :: As.map (conc E)).toArray) ?_
  have q1 := sl_le h1
  have q2 := sl_le (Nat.le_add_right G.2 k)
  have q3 := sl_le hk
  have cb : va_CN R s args m.1.cls idx m'.1 host m'.2.1 m'.2.2.1 m'.2.2.2 (.code m'.1 m'.2.1 m'.2.2.1 m'.2.2.2 :: TT) (jrm d' G.2 k) k (sl (G.2 + k) - sl G.2) n :=
    va_cnB n hts (ttc_good w5) rfl rfl rfl (hC.2.2.2.2.2.1.2.1 _ w1) (hts _ w4) w6 ⟨by show d' + 1 ≤ R.frames; omega, by show 8 + (m'.2.2.1 + 11) + 64 * d' ≤ R.locals; omega⟩
  have hcn' := hcn l E
  rw [List.map_cons, conc_r E (by omega)] at hcn'
  rw [w9] at cb hcn'
  refine va_runIN (As := As.map (conc E)) (rest := S.map (conc E)) (b := E.1 + a.toNat) ⟨hC.1, hC.2.1, hC.2.2.1, hC.2.2.2.1, hts⟩ hcn' ⟨cb, w8, hts _ w2⟩ ⟨jPre_blind E G σ _, ?_⟩ rfl (by rw [List.length_map]; exact hlen) hl.2.1 ?_ (lv_room (by rw [scat_eq]; exact hcat)) hd ⟨by omega, by omega⟩
  · intro U hU hW
    exact ⟨rfl, by rw [hU]; exact hH, jK_up hW hC.2.2.2.2.2.1, jS_up hs0 hW hU hS hC.2.2.2.2.2.2.1, by rw [hU]; exact hsz⟩
  · show (As.reverse ++ rv a :: S).map (conc E) = _
    rw [conc_rev, List.map_cons, conc_r E (by omega)]
/-- the locals at a method's entry -/
def lent : List jV → List jV
  | [] => []
  | v :: vs => if v.1 = 1 then v :: uv :: lent vs else v :: lent vs
def lpad (As : List jV) (n : Nat) : List jV := lent As ++ List.replicate (n - (lent As).length) uv
theorem lent_len (E : jE) (As : List jV) : (lg_sl (As.map (conc E))).length = (lent As).length := by
  induction As with
  | nil => rfl
  | cons v vs ih =>
    have hc := conc_cat E v
    have e : lg_sl ((v :: vs).map (conc E)) = (if (conc E v).category = 2 then [Slot.val (conc E v), Slot.second] else [Slot.val (conc E v)]) ++ lg_sl (vs.map (conc E)) := by
      simp only [lg_sl, List.map_cons, List.flatMap_cons]
    rw [e, List.length_append, ih, lent]
    by_cases h : v.1 = 1
    · rw [if_pos h] at hc
      rw [if_pos hc, if_pos h]
      simp
      omega
    · rw [if_neg h] at hc
      rw [if_neg (by omega), if_neg h]
      simp
      omega
theorem lent_at (E : jE) (As : List jV) : ∀ (q j : Nat) (v : jV), (lent As)[j]? = some v → v.1 ≠ 9 → (q + j, conc E v) ∈ lv_args q (As.map (conc E)) := by
  induction As with
  | nil => intro q j v h; simp [lent] at h
  | cons w ws ih =>
    intro q j v h h9
    have hc := conc_cat E w
    rw [List.map_cons, lv_args]
    by_cases hw : w.1 = 1
    · rw [if_pos hw] at hc
      rw [lent, if_pos hw] at h
      rw [if_pos hc]
      match j, h with
      | 0, h => simp at h; subst h; exact List.mem_cons_self
      | 1, h => simp at h; subst h; exact absurd rfl h9
      | j + 2, h =>
        have := ih (q + 2) j v (by simpa using h) h9
        rw [show q + (j + 2) = q + 2 + j by omega]
        exact List.mem_cons_of_mem _ this
    · rw [if_neg hw] at hc
      rw [lent, if_neg hw] at h
      rw [if_neg (by omega)]
      match j, h with
      | 0, h => simp at h; subst h; exact List.mem_cons_self
      | j + 1, h =>
        have := ih (q + 1) j v (by simpa using h) h9
        rw [show q + (j + 1) = q + 1 + j by omega]
        exact List.mem_cons_of_mem _ this
/-- A METHOD FROM ITS ENTRY: its walk gives its contract -/
theorem Cn_of {k : Nat} {As : List jV} (hp : plainName m.1.cls = true) (hlen : (lent As).length ≤ m.2.2.1) (hj : J m d G.2 (G.2 + k) Post 0 (lpad As m.2.2.1) [] G σ) : Cn m d k As G σ Post := by
  intro l E
  refine Met.ofW (cc := m.2.1) (maxL := m.2.2.1) (ret := m.2.2.2) hp rfl ?_
  intro p e s mi args below meth c s₁ B hml hv
  obtain ⟨rfl, hH, hK, hSx, hsz⟩ := hv
  have hts := atoms_spec (ws := .code m.1 m.2.1 m.2.2.1 m.2.2.2 :: TT) B.pre
  have hnm : meth.name = m.1.name := (name_of_methodNamed B.named B.method).1
  have hr := B.returns
  have hlocks := B.notSynchronized
  have hl := lv_entry (As.map (conc E)) (n := m.2.2.1) (by rw [lent_len]; exact hlen)
  rw [lg_entry_eq]
  generalize (lg_sl (As.map (conc E)) ++ List.replicate (m.2.2.1 - (lg_sl (As.map (conc E))).length) Slot.unset).toArray = ls at hl ⊢
  have hL : hasL E ls m.2.2.1 (lpad As m.2.2.1) := by
    refine ⟨?_, hl.1, hl.2.1, fun i v hi h9 => ?_⟩
    · unfold lpad
      rw [List.length_append, List.length_replicate]
      omega
    · unfold lpad at hi
      by_cases hlt : i < (lent As).length
      · rw [List.getElem?_append_left hlt] at hi
        have := lent_at E As 0 i v hi h9
        rw [Nat.zero_add] at this
        exact hl.2.2 _ this
      · rw [List.getElem?_append_right (by omega)] at hi
        rw [List.getElem?_replicate] at hi
        split at hi
        · cases hi
          exact absurd rfl h9
        · cases hi
  have q2 := sl_le (Nat.le_add_right G.2 k)
  have key := hj E p l e (headSpec (.code m.1 m.2.1 m.2.2.1 m.2.2.2 :: TT) (jrm d G.2 k)).room s mi (As.map (conc E)).toArray below meth c (MQ below (jQc E (G.2 + k) Post) (As.map (conc E)).toArray s k (sl (G.2 + k) - sl G.2) (jA E))
    ⟨B.exec, B.bytes, hml, findClass_of_methodNamed B.named, fun w hw => hts w (List.mem_cons_of_mem _ hw), hK, hSx, ⟨Nat.le_refl d, Nat.le_refl _, by show G.2 + k - G.2 ≤ k; omega, Nat.le_refl _⟩, hsz, hnm⟩ ?_ ls s.heap [] hL hH va_S.rf (Nat.le_refl _) (Nat.le_add_right _ _)
  · rw [Nat.sub_self, Nat.sub_self] at key
    exact key
  · intro r G' σ' pc' ls' S' H' locs' hPost hok hH' hS' hg
    rw [show G.2 + k - G.2 = k by omega]
    have fin : ∀ t : State, t.heap = H' → s.WarmedH t.vm → ∀ v, v = jret E r → jQc E (G.2 + k) Post (As.map (conc E)).toArray s (.returned v) t := fun t ht _ v hv => by
      refine ⟨⟨r, G', σ', by rw [hv], hPost, by rw [ht]; exact hH', hg⟩, hS'.F ht⟩
    obtain ⟨rt, rx⟩ := r
    rcases hok with ⟨z1, z2, z3, z4⟩ | ⟨z1, z2, z3, z4⟩ | ⟨z1, z2, z3, z4, z5⟩ | ⟨z1, z2, z3, z4⟩ | ⟨⟨C, z1⟩, z2, z3, z4⟩ | ⟨ty, z1, z2, z3, z4, z5⟩
    · subst z3
      cases z4
      exact W.vret B.exec B.bytes (hr.trans z1) (fun t ht hW => fin t ht hW _ rfl) hS'.2.2 z2
    · subst z3
      have z4 : rt = 0 := z4
      subst z4
      exact W.iret (v := Int32.ofInt rx) B.exec B.bytes (hr.trans z1) (fun t ht hW => fin t ht hW _ rfl) hS'.2.2 z2
    · subst z3
      have z4 : rt = 0 := z4
      subst z4
      have z5 : rx = 0 ∨ rx = 1 := z5
      exact W.zret (v := Int32.ofInt rx) (ty := .boolean) B.exec B.bytes (hr.trans z1) (by rcases z5 with rfl | rfl <;> decide +kernel) (fun t ht hW => fin t ht hW _ rfl) hS'.2.2 z2
    · subst z3
      have z4 : rt = 1 := z4
      subst z4
      exact W.lret (v := Int64.ofInt rx) B.exec B.bytes (hr.trans z1) (fun t ht hW => fin t ht hW _ rfl) hS'.2.2 z2
    · subst z3
      have z4 : rt = 2 := z4
      subst z4
      exact W.aret (v := conc E (2, rx)) (rt := .object C) B.exec B.bytes (hr.trans z1) (Or.inl ⟨C, rfl⟩) (conc_ref E (2, rx) (Or.inl rfl)) (fun t ht hW => fin t ht hW _ rfl) hS'.2.2 z2
    · subst z3
      have z4 : rt = 0 := z4
      subst z4
      exact W.zret (v := Int32.ofInt rx) (ty := ty) B.exec B.bytes (hr.trans z1) (by
        rcases z5 with ⟨rfl, z⟩ | ⟨rfl, z⟩
        · have z : rx = 0 := z
          subst z; decide +kernel
        · exact z) (fun t ht hW => fin t ht hW _ rfl) hS'.2.2 z2
/-- a contract of more room, of a weaker end -/
theorem Cn_mono {m' : jT} {k : Nat} {As : List jV} {P1 P2 : jV → jG → jM → Prop} (h : Cn m' d k As G σ P1) (hP : ∀ r G' σ', P1 r G' σ' → P2 r G' σ') : Cn m' d k As G σ P2 := by
  intro l E
  exact MetFree.mono (h l E) (fun _ _ z => z) (fun _ _ _ _ _ z => z) (fun a st o t _ z => ⟨⟨by obtain ⟨⟨⟨r, G', σ', a1, a2, a3⟩, b⟩, -⟩ := z; exact ⟨r, G', σ', a1, hP _ _ _ a2, a3⟩, z.1.2⟩, z.2⟩)
/-- a walk with another end -/
theorem J_mono {P1 P2 : jV → jG → jM → Prop} (h : J m d n0 hi P1 pc L S G σ) (hP : ∀ r G' σ', P1 r G' σ' → P2 r G' σ') : J m d n0 hi P2 pc L S G σ := by
  intro E p l e R s mi args below meth c Q hC hR ls H locs hl hH hS h1 h2
  exact h E p l e R s mi args below meth c Q hC (fun r G' σ' pc' ls' S' H' locs' hp => hR r G' σ' pc' ls' S' H' locs' (hP _ _ _ hp)) ls H locs hl hH hS h1 h2
/-- Object's own constructor -/
theorem j_objI {idx : Nat} {a : Int} (ha : 1 ≤ a) (hw : Cond.methodLink m.1.cls idx Lib.objectInit ∈ TT) (hd1 : 1 ≤ d) (hcat : scat S ≤ 8) (hd : decode m.2.1 pc = .ok (.invokespecial idx, 3)) (k : J m d n0 hi Post (pc + 3) L S G σ) : J m d n0 hi Post pc L (rv a :: S) G σ := by
  intro E p l e R s mi args below meth c Q hC hR ls H locs hl hH hS h1 h2
  show W p l e R s mi args below meth c H locs (G.2 - n0) (sl G.2 - sl n0) Q (F0 mi pc ls (conc E (rv a) :: S.map (conc E)))
  obtain ⟨r1, r2, r3, r4⟩ := hC.2.2.2.2.2.2.2.1
  rw [conc_r E (by omega)]
  refine W.objInit hC.1 hC.2.1 hC.2.2.2.1 (hC.2.2.2.2.1 _ hw) (hC.2.2.2.2.1 _ (tt_in 156 (by decide +kernel) rfl)) (hC.2.2.2.2.1 _ (tt_in 157 (by decide +kernel) rfl)) rfl (by rw [hC.2.2.1]; exact hl.2.1) rfl hd (by omega) (by show 2 * 0 + _ + 12 ≤ _; rw [scat_eq]; omega) ?_
  exact k E p l e R s mi args below meth c Q hC hR ls H locs hl hH hS h1 h2
theorem max32 {x y : Int} (hx : inR x) (hy : inR y) : (if Int32.ofInt x < Int32.ofInt y then Int32.ofInt y else Int32.ofInt x) = Int32.ofInt (max x y) := by
  by_cases h : x < y
  · rw [if_pos ((lt32 hx hy).mpr h), show max x y = y by omega]
  · rw [if_neg (fun q => h ((lt32 hx hy).mp q)), show max x y = x by omega]
theorem min32 {x y : Int} (hx : inR x) (hy : inR y) : (if Int32.ofInt y < Int32.ofInt x then Int32.ofInt y else Int32.ofInt x) = Int32.ofInt (min x y) := by
  by_cases h : y < x
  · rw [if_pos ((lt32 hy hx).mpr h), show min x y = y by omega]
  · rw [if_neg (fun q => h ((lt32 hy hx).mp q)), show min x y = x by omega]
def iabs (x : Int) : Int := if 0 ≤ x then x else -x
theorem abs32 {x : Int} (hx : inR x) : (if 0 ≤ Int32.ofInt x then Int32.ofInt x else 0 - Int32.ofInt x) = Int32.ofInt (iabs x) := by
  unfold iabs
  rw [← zero32]
  by_cases h : 0 ≤ x
  · rw [if_pos ((le32 in0 hx).mpr h), if_pos h]
  · rw [if_neg (fun q => h ((le32 in0 hx).mp q)), if_neg h, sub32]
    congr 1
    omega
theorem j_max {x y : Int} {idx : Nat} (hw : Cond.methodLink m.1.cls idx Lib.Math.max.name ∈ TT) (hd1 : 1 ≤ d) (hcat : scat S ≤ 8) (hx : inR x) (hy : inR y) (hd : decode m.2.1 pc = .ok (.invokestatic idx, 3)) (k : J m d n0 hi Post (pc + 3) L (iv (max x y) :: S) G σ) : J m d n0 hi Post pc L (iv y :: iv x :: S) G σ := by
  intro E p l e R s mi args below meth c Q hC hR ls H locs hl hH hS h1 h2
  obtain ⟨r1, r2, r3, r4⟩ := hC.2.2.2.2.2.2.2.1
  have q1 := sl_le h1
  have q3 := sl_le h2
  refine va_mmax hC.1 hC.2.1 (by rw [hC.2.2.1]; exact hl.2.1.symm) hC.2.2.2.1 (hC.2.2.2.2.1 _ hw) (hC.2.2.2.2.1 _ (tt_in 788 (by decide +kernel) rfl)) (hC.2.2.2.2.1 _ (tt_in 143 (by decide +kernel) rfl)) (hC.2.2.2.2.1 _ (tt_in 789 (by decide +kernel) rfl)) (by omega) (by rw [scat_eq]; omega) (by omega) (by omega) hd ?_
  rw [max32 hx hy]
  exact k E p l e R s mi args below meth c Q hC hR ls H locs hl hH hS h1 h2
theorem j_min {x y : Int} {idx : Nat} (hw : Cond.methodLink m.1.cls idx Lib.Math.min.name ∈ TT) (hd1 : 1 ≤ d) (hcat : scat S ≤ 8) (hx : inR x) (hy : inR y) (hd : decode m.2.1 pc = .ok (.invokestatic idx, 3)) (k : J m d n0 hi Post (pc + 3) L (iv (min x y) :: S) G σ) : J m d n0 hi Post pc L (iv y :: iv x :: S) G σ := by
  intro E p l e R s mi args below meth c Q hC hR ls H locs hl hH hS h1 h2
  obtain ⟨r1, r2, r3, r4⟩ := hC.2.2.2.2.2.2.2.1
  have q1 := sl_le h1
  have q3 := sl_le h2
  refine va_mmin hC.1 hC.2.1 (by rw [hC.2.2.1]; exact hl.2.1.symm) hC.2.2.2.1 (hC.2.2.2.2.1 _ hw) (hC.2.2.2.2.1 _ (tt_in 579 (by decide +kernel) rfl)) (hC.2.2.2.2.1 _ (tt_in 143 (by decide +kernel) rfl)) (hC.2.2.2.2.1 _ (tt_in 580 (by decide +kernel) rfl)) (by omega) (by rw [scat_eq]; omega) (by omega) (by omega) hd ?_
  rw [min32 hx hy]
  exact k E p l e R s mi args below meth c Q hC hR ls H locs hl hH hS h1 h2
theorem j_abs {x : Int} {idx : Nat} (hw : Cond.methodLink m.1.cls idx Lib.Math.abs.name ∈ TT) (hd1 : 1 ≤ d) (hcat : scat S ≤ 8) (hx : inR x) (hd : decode m.2.1 pc = .ok (.invokestatic idx, 3)) (k : J m d n0 hi Post (pc + 3) L (iv (iabs x) :: S) G σ) : J m d n0 hi Post pc L (iv x :: S) G σ := by
  intro E p l e R s mi args below meth c Q hC hR ls H locs hl hH hS h1 h2
  obtain ⟨r1, r2, r3, r4⟩ := hC.2.2.2.2.2.2.2.1
  have q1 := sl_le h1
  have q3 := sl_le h2
  refine va_mabs hC.1 hC.2.1 (by rw [hC.2.2.1]; exact hl.2.1.symm) hC.2.2.2.1 (hC.2.2.2.2.1 _ hw) (hC.2.2.2.2.1 _ (tt_in 1103 (by decide +kernel) rfl)) (hC.2.2.2.2.1 _ (tt_in 143 (by decide +kernel) rfl)) (hC.2.2.2.2.1 _ (tt_in 1104 (by decide +kernel) rfl)) (by omega) (by rw [scat_eq]; omega) (by omega) (by omega) hd ?_
  rw [abs32 hx]
  exact k E p l e R s mi args below meth c Q hC hR ls H locs hl hH hS h1 h2
/-- System.arraycopy between two rows -/
def cpy (σ : jM) (a sp b dp n : Int) : jM := fun c j => if c = b ∧ dp ≤ j ∧ j < dp + n then σ a (sp + (j - dp)) else σ c j
theorem cpy_row {σ : jM} {a sp b dp n c : Int} (h : c ≠ b) : cpy σ a sp b dp n c = σ c := by
  funext j
  unfold cpy
  rw [if_neg (fun q => h q.1)]
theorem enc_cpy {E : jE} {G σ : jM} {a sp b dp n : Int} : ∀ c : Int, c ≠ b → enc E G (cpy σ a sp b dp n) c = enc E G σ c := fun _ h => enc_row rfl (cpy_row h)
theorem cpy_fn {α : Type} (f : Int → α) {σ : jM} {a sp b dp n : Int} (h1 : 0 ≤ sp) (h2 : 0 ≤ dp) (h3 : 0 ≤ n) : (fun j : Nat => f (cpy σ a sp b dp n b j)) = va_cpy (fun j : Nat => f (σ a j)) (fun j : Nat => f (σ b j)) sp.toNat dp.toNat n.toNat := by
  funext j
  unfold cpy va_cpy
  by_cases e : dp ≤ (j : Int) ∧ (j : Int) < dp + n
  · rw [if_pos ⟨rfl, e⟩, if_pos (by omega), show sp + ((j : Int) - dp) = ((sp.toNat + (j - dp.toNat) : Nat) : Int) by omega]
  · rw [if_neg (fun q => e q.2), if_neg (by omega)]
theorem clamp32 {i : Int} (h0 : 0 ≤ i) (h1 : i < 2147483648) : ¬ Int32.ofInt i < 0 ∧ (Int32.ofInt i).toNatClampNeg = i.toNat := by
  have hr : inR i := ⟨by omega, by omega⟩
  refine ⟨fun q => ?_, ?_⟩
  · have := (lt32 hr in0).mp q
    omega
  · show (Int32.ofInt i).toInt.toNat = _
    rw [to32 hr]
theorem j_copy1 {a b sp dp n : Int} {na nb idx : Nat} (hw : Cond.methodLink m.1.cls idx arraycopyName ∈ TT) (hd2 : 2 ≤ d) (hcat : scat S ≤ 8) (ha : ar G a 1 na) (hb : ar G b 1 nb) (hna : (na : Int) < 2147483648) (hnb : (nb : Int) < 2147483648) (h0 : 0 ≤ sp ∧ 0 ≤ dp ∧ 0 ≤ n ∧ sp + n ≤ na ∧ dp + n ≤ nb) (hd : decode m.2.1 pc = .ok (.invokestatic idx, 3)) (k : J m d n0 hi Post (pc + 3) L S G (cpy σ a sp b dp n)) : J m d n0 hi Post pc L (iv n :: iv dp :: rv b :: iv sp :: rv a :: S) G σ := by
  intro E p l e R s mi args below meth c Q hC hR ls H locs hl hH hS h1 h2
  obtain ⟨r1, r2, r3, r4⟩ := hC.2.2.2.2.2.2.2.1
  obtain ⟨g1, g2, g3, g4, g5⟩ := h0
  obtain ⟨a0, a1, a2⟩ := ha
  obtain ⟨b0, b1, b2⟩ := hb
  show W p l e R s mi args below meth c H locs (G.2 - n0) (sl G.2 - sl n0) Q (F0 mi pc ls (.int (Int32.ofInt n) :: .int (Int32.ofInt dp) :: conc E (rv b) :: .int (Int32.ofInt sp) :: conc E (rv a) :: S.map (conc E)))
  rw [conc_r E (x := a) (by omega), conc_r E (x := b) (by omega)]
  obtain ⟨u1, v1⟩ := clamp32 g1 (by omega)
  obtain ⟨u2, v2⟩ := clamp32 g2 (by omega)
  obtain ⟨u3, v3⟩ := clamp32 g3 (by omega)
  have hnf : nativeFrameWords "java/lang/System" "arraycopy" 5 + 11 ≤ 100 := by decide +kernel
  refine va_copyi hC.1 hC.2.1 (by rw [hC.2.2.1]; exact hl.2.1.symm) hC.2.2.2.1 (hC.2.2.2.2.1 _ hw) (hC.2.2.2.2.1 _ (tt_in 496 (by decide +kernel) rfl)) (hC.2.2.2.2.1 _ (tt_in 495 (by decide +kernel) rfl)) (hC.2.2.2.2.1 _ (tt_in 141 (by decide +kernel) rfl)) hC.2.2.2.2.2.1.1 hH jP_D hS (a.toNat - 1) (b.toNat - 1) 0 0 (jat a1 a2 (enc_1 a0)) (jat b1 b2 (enc_1 b0)) rfl rfl rfl u1 u2 u3 (by rw [v1, v3]; omega) (by rw [v2, v3]; omega) (fun _ _ => rfl) (by omega) (by rw [scat_eq]; omega) hd (fun H1 locs1 hP1 _ hS1 => ?_)
  exact k E p l e R s mi args below meth c Q hC hR ls H1 locs1 hl (HW_set b1 b2 enc_cpy (by rw [enc_1 b0, cpy_fn Int32.ofInt g1 g2 g3, v1, v2, v3]) hP1) hS1 h1 h2
theorem j_copy2 {a b sp dp n : Int} {na nb idx : Nat} (hw : Cond.methodLink m.1.cls idx arraycopyName ∈ TT) (hd2 : 2 ≤ d) (hcat : scat S ≤ 8) (ha : ar G a 2 na) (hb : ar G b 2 nb) (hna : (na : Int) < 2147483648) (hnb : (nb : Int) < 2147483648) (h0 : 0 ≤ sp ∧ 0 ≤ dp ∧ 0 ≤ n ∧ sp + n ≤ na ∧ dp + n ≤ nb) (hd : decode m.2.1 pc = .ok (.invokestatic idx, 3)) (k : J m d n0 hi Post (pc + 3) L S G (cpy σ a sp b dp n)) : J m d n0 hi Post pc L (iv n :: iv dp :: rv b :: iv sp :: rv a :: S) G σ := by
  intro E p l e R s mi args below meth c Q hC hR ls H locs hl hH hS h1 h2
  obtain ⟨r1, r2, r3, r4⟩ := hC.2.2.2.2.2.2.2.1
  obtain ⟨g1, g2, g3, g4, g5⟩ := h0
  obtain ⟨a0, a1, a2⟩ := ha
  obtain ⟨b0, b1, b2⟩ := hb
  show W p l e R s mi args below meth c H locs (G.2 - n0) (sl G.2 - sl n0) Q (F0 mi pc ls (.int (Int32.ofInt n) :: .int (Int32.ofInt dp) :: conc E (rv b) :: .int (Int32.ofInt sp) :: conc E (rv a) :: S.map (conc E)))
  rw [conc_r E (x := a) (by omega), conc_r E (x := b) (by omega)]
  obtain ⟨u1, v1⟩ := clamp32 g1 (by omega)
  obtain ⟨u2, v2⟩ := clamp32 g2 (by omega)
  obtain ⟨u3, v3⟩ := clamp32 g3 (by omega)
  have hnf : nativeFrameWords "java/lang/System" "arraycopy" 5 + 11 ≤ 100 := by decide +kernel
  refine va_copyl hC.1 hC.2.1 (by rw [hC.2.2.1]; exact hl.2.1.symm) hC.2.2.2.1 (hC.2.2.2.2.1 _ hw) (hC.2.2.2.2.1 _ (tt_in 496 (by decide +kernel) rfl)) (hC.2.2.2.2.1 _ (tt_in 495 (by decide +kernel) rfl)) (hC.2.2.2.2.1 _ (tt_in 141 (by decide +kernel) rfl)) hC.2.2.2.2.2.1.1 hH jP_D hS (a.toNat - 1) (b.toNat - 1) 1 1 (jat a1 a2 (enc_2 a0)) (jat b1 b2 (enc_2 b0)) rfl rfl rfl u1 u2 u3 (by rw [v1, v3]; omega) (by rw [v2, v3]; omega) (fun _ _ => rfl) (by omega) (by rw [scat_eq]; omega) hd (fun H1 locs1 hP1 _ hS1 => ?_)
  exact k E p l e R s mi args below meth c Q hC hR ls H1 locs1 hl (HW_set b1 b2 enc_cpy (by rw [enc_2 b0, cpy_fn Int64.ofInt g1 g2 g3, v1, v2, v3]) hP1) hS1 h1 h2
/-- a fresh cell holds noughts -/
def zr (σ : jM) (c : Int) : jM := fun a j => if a = c then 0 else σ a j
theorem zr_row {σ : jM} {c a : Int} (h : a ≠ c) : zr σ c a = σ a := by
  funext j
  unfold zr
  rw [if_neg h]
theorem zr_at {σ : jM} {c j : Int} : zr σ c c j = 0 := by
  unfold zr
  rw [if_pos rfl]
theorem jP_grow {E : jE} {n : Nat} {G σ : jM} : jP E (n + 1) (zr G ((n : Int) + 1)) (zr σ ((n : Int) + 1)) = jP E n G σ ++ [(E.1 + (n + 1), enc E (zr G ((n : Int) + 1)) (zr σ ((n : Int) + 1)) ((n : Int) + 1))] := by
  unfold jP
  rw [List.range_succ, List.map_append]
  congr 1
  apply List.map_congr_left
  intro k hk
  have hk := List.mem_range.mp hk
  rw [enc_row (c := (k : Int) + 1) (zr_row (by omega)) (zr_row (by omega))]
theorem HW_grow {E : jE} {n : Nat} {G σ : jM} {H H1 : Heap} (hs : H.size = E.1 + n + 1) (h : HW E n G σ H) (ho : ∀ q, q < E.1 + n + 1 → H1[q]? = H[q]?) (he : va_at E.2.2.2.1 jcl (E.1 + (n + 1), enc E (zr G ((n : Int) + 1)) (zr σ ((n : Int) + 1)) ((n : Int) + 1)) H1) : HW E (n + 1) (zr G ((n : Int) + 1)) (zr σ ((n : Int) + 1)) H1 := by
  unfold HW
  rw [jP_grow]
  refine va_P.app (h.kept (fun k q hq => ho q.1 ?_)) (fun k q hq => ?_)
  · have := (h k q hq).lt
    omega
  · have hz : k < 1 := (List.getElem?_eq_some_iff.mp hq).1
    rw [show k = 0 by omega] at hq
    cases hq
    exact he
theorem S_grow {A : Nat → Prop} {H0 H H1 : Heap} {locs : List Loc} {h : Nat} (hS : va_S A H0 H locs) (hs : H.size = h) (z : H1.size = h + 1) (o : ∀ q, q < h → H1[q]? = H[q]?) : va_S A H0 H1 locs :=
  ⟨Nat.le_trans hS.1 (by omega), fun x a b => (o x (by have := hS.1; omega)).trans (hS.2.1 x a b), hS.2.2⟩
theorem j_new {C : String} {T : u_T} {N ci idx : Nat} (hin : ∀ w ∈ u_ws C T N, w ∈ TT) (ty0 : Nat → FieldType) (hty : ∀ k, k < N → parseFieldDescriptor (T k).2.2.1 = some (ty0 k)) (hc : jcl[ci]? = some (C, T, N)) (hcl : Cond.classLink m.1.cls idx C ∈ TT) (hinst : Cond.instantiable C N ∈ TT) (hini : Cond.initialized C ∈ TT) (hkd : kd ((G.2 : Int) + 1) = (0, ci)) (hlen : (jft ci).length = N) (hdef : ∀ (E : jE) (j : Nat), j < N → defaultValue (ty0 j) = vp_V (jfs E (fun _ _ => 0) (fun _ _ => 0) 0 ci) j) (hhi : G.2 + 1 ≤ hi) (hd : decode m.2.1 pc = .ok (.new idx, 3))
    (k : J m d n0 hi Post (pc + 3) L (rv ((G.2 : Int) + 1) :: S) (zr G.1 ((G.2 : Int) + 1), G.2 + 1) (zr σ ((G.2 : Int) + 1))) : J m d n0 hi Post pc L S G σ := by
  intro E p l e R s mi args below meth c Q hC hR ls H locs hl hH hS h1 h2
  obtain ⟨r1, r2, r3, r4⟩ := hC.2.2.2.2.2.2.2.1
  have hs0 := hC.2.2.2.2.2.2.2.2.1
  have hts := hC.2.2.2.2.1
  have hK := hC.2.2.2.2.2.1.1
  refine w_size hs0 h1 hH hS (fun hsz => ?_)
  have hKn := hK.1 ci _ hc
  have q0 : sl (G.2 + 1) = sl G.2 + N := by
    show sl G.2 + jsz (kd ((G.2 : Int) + 1)) = _
    rw [hkd, show jsz (0, ci) = (jft ci).length from rfl, hlen]
  have q1 := sl_le h1
  have q3 := sl_le hhi
  refine W.newcK hC.1 hC.2.1 hC.2.2.2.1 (hts _ hcl) (hts _ hinst) (hts _ hini) rfl hd (by omega) (by omega) hKn.2.1 hsz fun H1 kC hkC e1 z1 o1 => ?_
  have hnew : va_at E.2.2.2.1 jcl (E.1 + (G.2 + 1), enc E (zr G.1 ((G.2 : Int) + 1)) (zr σ ((G.2 : Int) + 1)) ((G.2 : Int) + 1)) H1 := by
    have ef : jfs E (zr G.1 ((G.2 : Int) + 1)) (zr σ ((G.2 : Int) + 1)) ((G.2 : Int) + 1) ci = jfs E (fun _ _ => 0) (fun _ _ => 0) 0 ci := by
      unfold jfs
      simp only [zr_at]
    rw [enc_ob hkd, ef]
    exact ⟨_, hc, (u_born ty0 hts hin hKn hkC e1 hty).to (hdef E)⟩
  have key := k E p l e R s mi args below meth c Q hC hR ls H1 locs hl (HW_grow hsz hH o1 hnew) (S_grow hS hsz z1 o1) (by show n0 ≤ G.2 + 1; omega) hhi
  have ec : conc E (rv ((G.2 : Int) + 1)) = .ref (E.1 + G.2 + 1) := by
    rw [conc_r E (by omega)]
    congr 1
  rw [List.map_cons, ec] at key
  have n1 : (zr G.1 ((G.2 : Int) + 1), G.2 + 1).2 = G.2 + 1 := rfl
  rw [n1, show G.2 + 1 - n0 = G.2 - n0 + 1 by omega, show sl (G.2 + 1) - sl n0 = sl G.2 - sl n0 + N by omega] at key
  exact key
theorem j_newa {t N idx : Nat} {x : Int} {aty : ArrayType} {a0 : vp_A} (hpair : ((t = 1 ∧ aty = .int) ∨ (t = 2 ∧ aty = .long) ∨ (t = 3 ∧ aty = .boolean))) (hx : x = (N : Int)) (hN : N ≤ 100000) (hkd : kd ((G.2 : Int) + 1) = (t, N)) (hhi : G.2 + 1 ≤ hi) (hd : decode m.2.1 pc = .ok (.newarray aty, 2))
    (k : J m d n0 hi Post (pc + 2) L (rv ((G.2 : Int) + 1) :: S) (zr G.1 ((G.2 : Int) + 1), G.2 + 1) (zr σ ((G.2 : Int) + 1))) : J m d n0 hi Post pc L (iv x :: S) G σ := by
  intro E p l e R s mi args below meth c Q hC hR ls H locs hl hH hS h1 h2
  obtain ⟨r1, r2, r3, r4⟩ := hC.2.2.2.2.2.2.2.1
  have hs0 := hC.2.2.2.2.2.2.2.2.1
  have hts := hC.2.2.2.2.1
  have hK := hC.2.2.2.2.2.1.1
  refine w_size hs0 h1 hH hS (fun hsz => ?_)
  have q0 : sl (G.2 + 1) = sl G.2 + N := by
    show sl G.2 + jsz (kd ((G.2 : Int) + 1)) = _
    rw [hkd]
    unfold jsz
    rw [if_neg (by rcases hpair with h | h | h <;> omega)]
  have q1 := sl_le h1
  have q3 := sl_le hhi
  obtain ⟨u1, v1⟩ := clamp32 (i := x) (by omega) (by omega)
  have harr : (Cond.arrayClass (newarray.typeOf aty)).before args s = true := by
    rcases hpair with ⟨-, h⟩ | ⟨-, h⟩ | ⟨-, h⟩ <;> subst h
    · exact hts _ (tt_in 205 (by decide +kernel) rfl)
    · exact hts _ (tt_in 206 (by decide +kernel) rfl)
    · exact hts _ (tt_in 1349 (by decide +kernel) rfl)
  have hbytes : N * componentBytes (newarray.typeOf aty) ≤ 536870912 := by
    have : componentBytes (newarray.typeOf aty) ≤ 8 := by
      rcases hpair with ⟨-, h⟩ | ⟨-, h⟩ | ⟨-, h⟩ <;> subst h <;> decide +kernel
    calc N * componentBytes (newarray.typeOf aty) ≤ 100000 * 8 := Nat.mul_le_mul hN this
      _ ≤ 536870912 := by decide
  refine va_newaK hC.1 hC.2.1 harr rfl hd rfl u1 (N := N) (by rw [v1]; omega) hbytes (by omega) (by omega) hsz fun H1 cA e1 z1 o1 hAr hNm => ?_
  have hnew : va_at E.2.2.2.1 jcl (E.1 + (G.2 + 1), enc E (zr G.1 ((G.2 : Int) + 1)) (zr σ ((G.2 : Int) + 1)) ((G.2 : Int) + 1)) H1 := by
    rcases hpair with ⟨ht, h⟩ | ⟨ht, h⟩ | ⟨ht, h⟩ <;> subst ht <;> subst h
    · have hid : s.vm.findClass ("[" ++ FieldType.int.toString) = some (E.2.2.2.2 1) := (hK.2 0 _ rfl).2
      have e : cA = E.2.2.2.2 1 := Option.some.inj (hNm.symm.trans hid)
      subst e
      rw [enc_1 hkd]
      simp only [zr_at]
      exact e1
    · have hid : s.vm.findClass ("[" ++ FieldType.long.toString) = some (E.2.2.2.2 2) := (hK.2 1 _ rfl).2
      have e : cA = E.2.2.2.2 2 := Option.some.inj (hNm.symm.trans hid)
      subst e
      rw [enc_2 hkd]
      simp only [zr_at]
      exact e1
    · have hid : s.vm.findClass ("[" ++ FieldType.boolean.toString) = some (E.2.2.2.2 3) := (hK.2 2 _ rfl).2
      have e : cA = E.2.2.2.2 3 := Option.some.inj (hNm.symm.trans hid)
      subst e
      rw [enc_3 hkd]
      simp only [zr_at]
      exact e1
  have key := k E p l e R s mi args below meth c Q hC hR ls H1 locs hl (HW_grow hsz hH o1 hnew) (S_grow hS hsz z1 o1) (by show n0 ≤ G.2 + 1; omega) hhi
  have ec : conc E (rv ((G.2 : Int) + 1)) = .ref (E.1 + G.2 + 1) := by
    rw [conc_r E (by omega)]
    congr 1
  rw [List.map_cons, ec] at key
  have n1 : (zr G.1 ((G.2 : Int) + 1), G.2 + 1).2 = G.2 + 1 := rfl
  rw [n1, show G.2 + 1 - n0 = G.2 - n0 + 1 by omega, show sl (G.2 + 1) - sl n0 = sl G.2 - sl n0 + N by omega] at key
  exact key
end JK
