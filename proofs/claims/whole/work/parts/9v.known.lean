/-! ===== what the tables and the start give (printed by wip/whole/gen_end.py) ===== -/
theorem le_nest : ∀ w ∈ jnest, w.onTables = true ∧ w ∈ lw_tbl := List.forall_mem_cons.mpr ⟨⟨rfl, List.mem_of_getElem? (i := 160) (by decide +kernel)⟩, List.forall_mem_cons.mpr ⟨⟨rfl, List.mem_of_getElem? (i := 284) (by decide +kernel)⟩, List.forall_mem_cons.mpr ⟨⟨rfl, List.mem_of_getElem? (i := 289) (by decide +kernel)⟩, List.forall_mem_cons.mpr ⟨⟨rfl, List.mem_of_getElem? (i := 329) (by decide +kernel)⟩, List.forall_mem_cons.mpr ⟨⟨rfl, List.mem_of_getElem? (i := 342) (by decide +kernel)⟩, List.forall_mem_cons.mpr ⟨⟨rfl, List.mem_of_getElem? (i := 393) (by decide +kernel)⟩, List.forall_mem_cons.mpr ⟨⟨rfl, List.mem_of_getElem? (i := 431) (by decide +kernel)⟩, List.forall_mem_cons.mpr ⟨⟨rfl, List.mem_of_getElem? (i := 446) (by decide +kernel)⟩, List.forall_mem_cons.mpr ⟨⟨rfl, List.mem_of_getElem? (i := 215) (by decide +kernel)⟩, List.forall_mem_cons.mpr ⟨⟨rfl, List.mem_of_getElem? (i := 166) (by decide +kernel)⟩, fun _ h => absurd h List.not_mem_nil⟩⟩⟩⟩⟩⟩⟩⟩⟩⟩
theorem le_cls {A : Array Value} {s : State} (hts : ∀ w ∈ lw_tbl, w.before A s = true) : ∃ D : va_G, ∀ (k : Nat) (q : vw_C), jcl[k]? = some q → u_Kn s q.1 q.2.1 q.2.2 (D.1 k) (D.2 k) := by
  have htt : ∀ w ∈ TT, w.before A s = true := fun w hw => hts w (List.mem_filter.mp hw).1
  obtain ⟨c0, i0, h0⟩ := u_known (C := RX0) (T := TX0) (N := 14) (n := 14) htt in_X0 (hts (.instantiable RX0 14) (List.mem_of_getElem? (i := 341) (by decide +kernel)))
  obtain ⟨c1, i1, h1⟩ := u_known (C := RX1) (T := TX1) (N := 8) (n := 8) htt in_X1 (hts (.instantiable RX1 8) (List.mem_of_getElem? (i := 165) (by decide +kernel)))
  obtain ⟨c2, i2, h2⟩ := u_known (C := RX2) (T := TX2) (N := 2) (n := 2) htt in_X2 (hts (.instantiable RX2 2) (List.mem_of_getElem? (i := 328) (by decide +kernel)))
  obtain ⟨c3, i3, h3⟩ := u_known (C := RX3) (T := TX3) (N := 10) (n := 10) htt in_X3 (hts (.instantiable RX3 10) (List.mem_of_getElem? (i := 288) (by decide +kernel)))
  obtain ⟨c4, i4, h4⟩ := u_known (C := RX4) (T := TX4) (N := 4) (n := 4) htt in_X4 (hts (.instantiable RX4 4) (List.mem_of_getElem? (i := 411) (by decide +kernel)))
  obtain ⟨c5, i5, h5⟩ := u_known (C := RX5) (T := TX5) (N := 4) (n := 4) htt in_X5 (hts (.instantiable RX5 4) (List.mem_of_getElem? (i := 392) (by decide +kernel)))
  obtain ⟨c6, i6, h6⟩ := u_known (C := RX6) (T := TX6) (N := 3) (n := 3) htt in_X6 (hts (.instantiable RX6 3) (List.mem_of_getElem? (i := 430) (by decide +kernel)))
  obtain ⟨c7, i7, h7⟩ := u_known (C := RX7) (T := TX7) (N := 3) (n := 3) htt in_X7 (hts (.instantiable RX7 3) (List.mem_of_getElem? (i := 208) (by decide +kernel)))
  obtain ⟨c8, i8, h8⟩ := u_known (C := RX8) (T := TX8) (N := 8) (n := 8) htt in_X8 (hts (.instantiable RX8 8) (List.mem_of_getElem? (i := 445) (by decide +kernel)))
  obtain ⟨c9, i9, h9⟩ := u_known (C := RX9) (T := TX9) (N := 2) (n := 2) htt in_X9 (hts (.instantiable RX9 2) (List.mem_of_getElem? (i := 228) (by decide +kernel)))
  obtain ⟨c10, i10, h10⟩ := u_known (C := RX10) (T := TX10) (N := 10) (n := 10) htt in_X10 (hts (.instantiable RX10 10) (List.mem_of_getElem? (i := 159) (by decide +kernel)))
  obtain ⟨c11, i11, h11⟩ := u_known (C := RX11) (T := TX11) (N := 10) (n := 10) htt in_X11 (hts (.instantiable RX11 10) (List.mem_of_getElem? (i := 151) (by decide +kernel)))
  obtain ⟨c12, i12, h12⟩ := u_known (C := RX12) (T := TX12) (N := 37) (n := 37) htt in_X12 (hts (.instantiable RX12 37) (List.mem_of_getElem? (i := 1228) (by decide +kernel)))
  refine ⟨(fun k => match k with | 0 => c0 | 1 => c1 | 2 => c2 | 3 => c3 | 4 => c4 | 5 => c5 | 6 => c6 | 7 => c7 | 8 => c8 | 9 => c9 | 10 => c10 | 11 => c11 | _ => c12, fun k => match k with | 0 => i0 | 1 => i1 | 2 => i2 | 3 => i3 | 4 => i4 | 5 => i5 | 6 => i6 | 7 => i7 | 8 => i8 | 9 => i9 | 10 => i10 | 11 => i11 | _ => i12), ?_⟩
  intro k q hq
  match k, hq with
  | 0, hq => cases hq; exact h0
  | 1, hq => cases hq; exact h1
  | 2, hq => cases hq; exact h2
  | 3, hq => cases hq; exact h3
  | 4, hq => cases hq; exact h4
  | 5, hq => cases hq; exact h5
  | 6, hq => cases hq; exact h6
  | 7, hq => cases hq; exact h7
  | 8, hq => cases hq; exact h8
  | 9, hq => cases hq; exact h9
  | 10, hq => cases hq; exact h10
  | 11, hq => cases hq; exact h11
  | 12, hq => cases hq; exact h12
  | k + 13, hq => simp [jcl] at hq
theorem le_arr {A : Array Value} {s : State} {ty : FieldType} (h : (Cond.arrayClass ty).before A s = true) : ∃ c : ClassId, ArrOfT s c ty ∧ s.vm.findClass ("[" ++ ty.toString) = some c := by
  obtain ⟨c, k, p, e, f, g⟩ := Cond.arrayClass_spec h
  exact ⟨c, fun N z => ⟨fun k h => (by cases h), k, f, p, g⟩, e⟩
theorem le_arq {A : Array Value} {s : State} {C : String} (h : (Cond.arrayOver (.object C)).before A s = true) : ∃ c : ClassId, ArrOfT s c (.object C) ∧ va_RA s c (.object C) := by
  obtain ⟨comp, c, k, h1, h2, h3, h4, h5⟩ := Cond.arrayOver_spec h
  exact ⟨c, fun N z => ⟨fun k h => (by cases h), k, h3, comp, h4⟩, k, comp, h3, h4, h1, h5⟩
theorem le_K {A : Array Value} {s : State} (hts : ∀ w ∈ lw_tbl, w.before A s = true) : ∃ (D : va_G) (aC : Nat → ClassId), ∀ (a : Nat) (b : Nat × Nat × (Nat → Int32)) (c : Nat × Nat), jK (a, b, c, D, aC) s := by
  obtain ⟨D, hD⟩ := le_cls hts
  obtain ⟨a1, p1, q1⟩ := le_arr (hts (.arrayClass .int) (List.mem_of_getElem? (i := 205) (by decide +kernel)))
  obtain ⟨a2, p2, q2⟩ := le_arr (hts (.arrayClass .long) (List.mem_of_getElem? (i := 206) (by decide +kernel)))
  obtain ⟨a3, p3, q3⟩ := le_arr (hts (.arrayClass .boolean) (List.mem_of_getElem? (i := 1349) (by decide +kernel)))
  have w4 := hts (.arrayOver (.object RX1)) (List.mem_of_getElem? (i := 214) (by decide +kernel))
  have w5 := hts (.arrayOver (.object RX8)) (List.mem_of_getElem? (i := 286) (by decide +kernel))
  obtain ⟨a4, p4, q4⟩ := le_arq w4
  obtain ⟨a5, p5, q5⟩ := le_arq w5
  refine ⟨D, (fun k => match k with | 1 => a1 | 2 => a2 | 3 => a3 | 4 => a4 | _ => a5), fun a b c => ⟨⟨hD, fun k q hq => ?_⟩, fun w hw => va_Nw.of (le_nest w hw).1 (hts w (le_nest w hw).2), va_AO.of w4, va_AO.of w5⟩⟩
  match k, hq with
  | 0, hq => cases hq; exact ⟨p1, q1⟩
  | 1, hq => cases hq; exact ⟨p2, q2⟩
  | 2, hq => cases hq; exact ⟨p3, q3⟩
  | 3, hq => cases hq; exact ⟨p4, q4⟩
  | 4, hq => cases hq; exact ⟨p5, q5⟩
  | k + 5, hq => simp [jtys] at hq
abbrev tmS : Term := .string RX3 152
abbrev tmV : Term := .field tmS "java/lang/String" "value" "[B"
theorem le_len : jBytes.length = 109 := by decide +kernel
theorem le_el : ∀ j : Nat, j < 109 → (flatC (Jvm.Cond.and given_1 narrow_1))[39 + j]? = some (Cond.eq (.elem tmV (.int (Int32.ofNat j))) (.int (jBytes.getD j 0))) := by decide +kernel
theorem le_S {A : Array Value} {s : State} {B : Nat → Prop} (hgv : (Jvm.Cond.and given_1 narrow_1).before A s = true) (hA : ∀ a : Nat, a < s.heap.size → ¬ B a) : ∃ x y : Nat, vk_S 1 [jBytes.length] [jBytes] (fun _ => x) (fun _ => y) B s s.heap ∧ tmS.eval A s none [] s = some (.ref x) := by
  have hs := flat_of_before _ hgv
  obtain ⟨f, g, h1, h2⟩ := vk_Sof (args := A) (s := s) (N := 1) (tm := fun _ => tmS) (len := [jBytes.length]) (byt := [jBytes]) (A := B)
    (fun i hi => by rw [show i = 0 by omega]; show jBytes.length < 2 ^ 31; rw [le_len]; decide)
    (fun i hi => hs (.exactly tmS "java/lang/String") (List.mem_of_getElem? (i := 35) (by decide +kernel)))
    (fun i hi => hs (.eq (.field tmS "java/lang/String" "coder" "B") (.int 0)) (List.mem_of_getElem? (i := 36) (by decide +kernel)))
    (fun i hi => hs (.arrayOf tmV .byte) (List.mem_of_getElem? (i := 37) (by decide +kernel)))
    (fun i hi => by rw [show i = 0 by omega]; exact hs (.eq (.length tmV) (.int (Int32.ofNat jBytes.length))) (List.mem_of_getElem? (i := 38) (by decide +kernel)))
    (fun i hi j hj => by
      rw [show i = 0 by omega] at hj ⊢
      have hj : j < jBytes.length := hj
      rw [le_len] at hj
      exact hs _ (List.mem_of_getElem? (le_el j hj)))
    (fun i j hi hj hne => absurd (show i = j by omega) hne) hA
  refine ⟨f 0, g 0, ⟨fun i hi => ?_, fun i j hi hj _ => by omega⟩, h2 0 (by decide)⟩
  have e : i = 0 := by omega
  subst e
  exact h1.1 0 (by decide)
theorem le_sl : sl 340 ≤ 7302249 := by decide +kernel
