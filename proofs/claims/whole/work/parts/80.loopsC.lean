/-! ===== the class's loops (printed by wip/whole/gen_loops.py) ===== -/
def LGd (T : Int → Int) (n t l : Int) (m : jT) (D : Nat) (Ls : Int → List jV) (q q' K : Int) (B : DT → Prop) (F : DT → DT) : Prop := ∀ (D' : Nat) (Q : Int → jM → Prop) (σ : jM) (c0 c v2 : Int) (f : DT), D ≤ D' → CSt T n t l σ q c → 0 ≤ c0 → c0 < c → 0 ≤ v2 → v2 ≤ q → B f → GC (σ (t + 4)) c0 c K f → (∀ σ' c', CSt T n t l σ' q' c' → c ≤ c' → c' - c ≤ q' - q → FrG t c σ σ' → GC (σ' (t + 4)) c0 c' K (F f) → Q 1 σ') → Jt m D' 0 t Q 12 (Ls v2) [] σ
def LBd (T : Int → Int) (n t l : Int) (m : jT) (D : Nat) (Ls : Int → List jV) (q K : Int) (B : DT → Prop) (kind pl : Int) : Prop := ∀ (D' : Nat) (Q : Int → jM → Prop) (σ : jM) (c0 c v2 : Int) (f : DT), D ≤ D' → CSt T n t l σ q c → 0 ≤ c0 → c0 < c → 0 ≤ v2 → v2 ≤ q → B f → GC (σ (t + 4)) c0 c K f → (∀ σ', FrB t c σ σ' → σ' 271 2 = kind → σ' 271 3 = pl → Q 0 σ') → Jt m D' 0 t Q 12 (Ls v2) [] σ
def allD (_ : DT) : Prop := True
section PE
variable {t : Int} {T : Int → Int} {n l p o K : Int}
theorem l_sum_stop {q : Int} (tp : TP T n) (h1 : kT T n q ≠ 43) (h2 : kT T n q ≠ 45) : LGd T n t l mX3_readSum 1 (fun v => [rv 271, iv o, iv v, uv]) q q K allD (fun f => f) := by
  intro D' Q σ c0 c v2 f hD s z0 z1 z2 z3 _ gc k
  obtain ⟨d, rfl⟩ : ∃ d, D' = d + 1 := ⟨D' - 1, by omega⟩
  have e6 : σ 271 6 = kT T n q := s.1.2.1
  have ki := kT_in tp s.2.1
  have kr : inR (kT T n q) := rng (by omega) (by omega)
  have t0 := tp.1
  have s2 := s.2.1
  have fin : Q 1 σ := k σ c s (by omega) (by omega) ⟨fun _ _ _ _ => rfl, fun _ _ => rfl, fun _ _ => rfl, fun _ _ => rfl⟩ gc
  refine b_X3_readSum_12 ?_
  rw [e6]
  exact ⟨rng (by omega) (by omega), fun _ => fin, fun _ => ⟨kr, fun z => absurd z h1, fun _ => ⟨kr, fun _ => fin, fun z => absurd z h2⟩⟩⟩
/-- one more: the sub is read, what comes of that is told by kg -/
theorem l_sum_go {d : Nat} {Q : Int → jM → Prop} {σ : jM} {q c v2 : Int} (tp : TP T n) (hk : kT T n q = 43 ∨ kT T n q = 45) (s : CSt T n t l σ q c) (z2 : 0 ≤ v2) (z3 : v2 ≤ q) (kg : Ct mX3_advance d 9 t [rv 271] σ (fun r4 σ4 => (Ct mX3_readProduct d 0 t [rv 271, iv o] σ4 (fun r5 σ5 => ((inR r5) ∧ ((¬ r5 = 0 → ((ob (GG t) t 8) ∧ (Ct mX8_addCode d 9 t [rv t, iv (if kT T n q = 43 then 14 else 15), iv 0] σ5 (fun r7 σ7 => (Jt mX3_readSum (d + 1) 0 t Q 12 [rv 271, iv o, iv (v2 + 1), uv] [] σ7))))) ∧ (r5 = 0 → (Q 0 σ5)))))))) : Jt mX3_readSum (d + 1) 0 t Q 12 [rv 271, iv o, iv v2, uv] [] σ := by
  have e6 : σ 271 6 = kT T n q := s.1.2.1
  have kr : inR (kT T n q) := rng (by omega) (by omega)
  have t0 := tp.1
  have a2 := (nx_in tp s.2.1).2 (by omega)
  refine b_X3_readSum_12 ?_
  rw [e6]
  refine ⟨rng (by omega) (by omega), fun z => absurd z (by omega), fun _ => ⟨kr, fun y => ⟨kr, fun w => absurd y w, fun _ => ?_⟩, fun y => ⟨kr, fun w => absurd w (by omega), fun _ => ⟨kr, fun _ => ?_, fun w => absurd w y⟩⟩⟩⟩
  · rw [if_pos y] at kg; exact kg
  · rw [if_neg y] at kg; exact kg
theorem l_sum_step {D1 D2 : Nat} {q q2 q' : Int} {g : DT} {F : DT → DT} (h0 : ob (GG t) t 8) (ht : 293 ≤ t) (tp : TP T n) (q0 : 0 ≤ q ∧ q ≤ n) (hk : kT T n q = 43 ∨ kT T n q = 45) (hs : CGd T n t l mX3_readProduct D1 [rv 271, iv o] (nxT T n q) q2 (K + 1) g) (hl : LGd T n t l mX3_readSum D2 (fun v => [rv 271, iv o, iv v, uv]) q2 q' K allD F) : LGd T n t l mX3_readSum (max (D1 + 6) D2) (fun v => [rv 271, iv o, iv v, uv]) q q' K allD (fun f => F (fun r x => cop2 (if kT T n q = 43 then 14 else 15) (f r x) (g r x))) := by
  intro D' Q σ c0 c v2 f hD s z0 z1 z2 z3 _ gc k
  obtain ⟨d, rfl⟩ : ∃ d, D' = d + 1 := ⟨D' - 1, by omega⟩
  have a2 := (nx_in tp q0).2 (by omega)
  have t0 := tp.1
  have s4 := s.2.2.2.1
  refine l_sum_go tp hk s z2 z3 (s_adv (by omega) ht tp s (fun σ1 s1 g1 _ => ?_))
  refine hs d _ σ1 c (by omega) s1 (fun σ2 c2 s2 l1 l2 g2 gc2 => ⟨inl (by decide), fun _ => ⟨h0, ?_⟩, fun z => absurd z (by decide)⟩)
  have q2n := s2.2.1
  have ob : 14 ≤ (if kT T n q = 43 then 14 else 15) ∧ (if kT T n q = 43 then 14 else 15) ≤ 17 := by split <;> omega
  refine s_addCode h0 ht s2 (by omega) (by omega) (by omega) (fun σ3 f1 f2 f3 f4 f5 => ?_)
  obtain ⟨s3, g3⟩ := CSt_add (c0 := c2) (b' := q2) ht s2 (by omega) (by omega) f1 f2 f3 f5
  have gcA := GC_ag (GC_ag (GC_ag gc (cg := σ1 (t + 4)) (fun i i0 i1 => g1.2.2.2 i (by omega))) (cg := σ2 (t + 4)) (fun i i0 i1 => g2.2.2.2 i (by omega))) (cg := σ3 (t + 4)) (fun i i0 i1 => f5 i (by omega))
  have gcB := GC_ag gc2 (cg := σ3 (t + 4)) (fun i i0 i1 => f5 i (by omega))
  have gcC := GC_two (op := (if kT T n q = 43 then 14 else 15)) z0 (by omega) (by omega) (by omega) (show σ3 (t + 4) c2 = (if kT T n q = 43 then 14 else 15) by rw [f4]; omega) gcA gcB (fun z => by omega)
  refine hl (d + 1) Q σ3 c0 (c2 + 1) (v2 + 1) _ (by omega) s3 z0 (by omega) (by omega) (by omega) trivial gcC (fun σ4 c4 s4' l3 l4 g4 gc4 => ?_)
  exact k σ4 c4 s4' (by omega) (by omega) (FrG_tr (FrG_tr (FrG_tr g1 (by omega) g2) (by omega) g3) (by omega) (show FrG t c2 σ3 σ4 from ⟨g4.1, g4.2.1, g4.2.2.1, fun i hi => g4.2.2.2 i (by omega)⟩)) gc4
theorem l_sum_bad {D1 : Nat} {q kind pl : Int} (ht : 293 ≤ t) (tp : TP T n) (hk : kT T n q = 43 ∨ kT T n q = 45) (hs : CBd T n t l mX3_readProduct D1 [rv 271, iv o] (nxT T n q) kind pl) : LBd T n t l mX3_readSum (D1 + 6) (fun v => [rv 271, iv o, iv v, uv]) q K allD kind pl := by
  intro D' Q σ c0 c v2 f hD s z0 z1 z2 z3 _ gc k
  obtain ⟨d, rfl⟩ : ∃ d, D' = d + 1 := ⟨D' - 1, by omega⟩
  refine l_sum_go tp hk s z2 z3 (s_adv (by omega) ht tp s (fun σ1 s1 g1 _ => ?_))
  exact hs d _ σ1 c (by omega) s1 (fun σ2 f2 b2 b3 => ⟨inl (by decide), fun z => absurd rfl z, fun _ => k σ2 (FrB_tr g1 (by omega) f2) b2 b3⟩)
theorem l_sum_later {D1 D2 : Nat} {q q2 kind pl : Int} {g : DT} (h0 : ob (GG t) t 8) (ht : 293 ≤ t) (tp : TP T n) (q0 : 0 ≤ q ∧ q ≤ n) (hk : kT T n q = 43 ∨ kT T n q = 45) (hs : CGd T n t l mX3_readProduct D1 [rv 271, iv o] (nxT T n q) q2 (K + 1) g) (hl : LBd T n t l mX3_readSum D2 (fun v => [rv 271, iv o, iv v, uv]) q2 K allD kind pl) : LBd T n t l mX3_readSum (max (D1 + 6) D2) (fun v => [rv 271, iv o, iv v, uv]) q K allD kind pl := by
  intro D' Q σ c0 c v2 f hD s z0 z1 z2 z3 _ gc k
  obtain ⟨d, rfl⟩ : ∃ d, D' = d + 1 := ⟨D' - 1, by omega⟩
  have a2 := (nx_in tp q0).2 (by omega)
  have t0 := tp.1
  have s4 := s.2.2.2.1
  refine l_sum_go tp hk s z2 z3 (s_adv (by omega) ht tp s (fun σ1 s1 g1 _ => ?_))
  refine hs d _ σ1 c (by omega) s1 (fun σ2 c2 s2 l1 l2 g2 gc2 => ⟨inl (by decide), fun _ => ⟨h0, ?_⟩, fun z => absurd z (by decide)⟩)
  have q2n := s2.2.1
  have ob : 14 ≤ (if kT T n q = 43 then 14 else 15) ∧ (if kT T n q = 43 then 14 else 15) ≤ 17 := by split <;> omega
  refine s_addCode h0 ht s2 (by omega) (by omega) (by omega) (fun σ3 f1 f2 f3 f4 f5 => ?_)
  obtain ⟨s3, g3⟩ := CSt_add (c0 := c2) (b' := q2) ht s2 (by omega) (by omega) f1 f2 f3 f5
  have gcA := GC_ag (GC_ag (GC_ag gc (cg := σ1 (t + 4)) (fun i i0 i1 => g1.2.2.2 i (by omega))) (cg := σ2 (t + 4)) (fun i i0 i1 => g2.2.2.2 i (by omega))) (cg := σ3 (t + 4)) (fun i i0 i1 => f5 i (by omega))
  have gcB := GC_ag gc2 (cg := σ3 (t + 4)) (fun i i0 i1 => f5 i (by omega))
  have gcC := GC_two (op := (if kT T n q = 43 then 14 else 15)) z0 (by omega) (by omega) (by omega) (show σ3 (t + 4) c2 = (if kT T n q = 43 then 14 else 15) by rw [f4]; omega) gcA gcB (fun z => by omega)
  refine hl (d + 1) Q σ3 c0 (c2 + 1) (v2 + 1) _ (by omega) s3 z0 (by omega) (by omega) (by omega) trivial gcC (fun σ4 g4 b2 b3 => ?_)
  exact k σ4 (FrB_tr (FrG_tr (FrG_tr g1 (by omega) g2) (by omega) g3) (by omega) (show FrB t c2 σ3 σ4 from ⟨g4.1, g4.2.1, g4.2.2.1, fun i hi => g4.2.2.2 i (by omega)⟩)) b2 b3
theorem c_sum {D1 D2 : Nat} {q q' : Int} {f : DT} {F : DT → DT} (p0 : 0 ≤ p ∧ p ≤ n) (hs : CGd T n t l mX3_readProduct D1 [rv 271, iv o] p q K f) (hl : LGd T n t l mX3_readSum D2 (fun v => [rv 271, iv o, iv v, uv]) q q' K allD F) : CGd T n t l mX3_readSum (max (D1 + 1) D2) [rv 271, iv o] p q' K (F f) := by
  intro D' Q σ c hD s k
  obtain ⟨d, rfl⟩ : ∃ d, D' = d + 1 := ⟨D' - 1, by omega⟩
  have s4 := s.2.2.2.1
  refine c_X3_readSum (hs d _ σ c (by omega) s (fun σ2 c2 s2 l1 l2 g2 gc2 => ⟨inl (by decide), fun _ => ?_, fun z => absurd z (by decide)⟩))
  have q2n := s2.2.1
  exact hl (d + 1) Q σ2 c c2 0 f (by omega) s2 s4.1 l1 (by omega) (by omega) trivial gc2 (fun σ3 c3 s3 l3 l4 g3 gc3 => k σ3 c3 s3 (by omega) (by omega) (FrG_tr g2 (by omega) g3) gc3)
theorem c_sumB {D1 : Nat} {kind pl : Int} (hs : CBd T n t l mX3_readProduct D1 [rv 271, iv o] p kind pl) : CBd T n t l mX3_readSum (D1 + 1) [rv 271, iv o] p kind pl := by
  intro D' Q σ c hD s k
  obtain ⟨d, rfl⟩ : ∃ d, D' = d + 1 := ⟨D' - 1, by omega⟩
  exact c_X3_readSum (hs d _ σ c (by omega) s (fun σ2 f2 b2 b3 => ⟨inl (by decide), fun z => absurd rfl z, fun _ => k σ2 f2 b2 b3⟩))
theorem c_sumL {D1 D2 : Nat} {q kind pl : Int} {f : DT} (p0 : 0 ≤ p ∧ p ≤ n) (hs : CGd T n t l mX3_readProduct D1 [rv 271, iv o] p q K f) (hl : LBd T n t l mX3_readSum D2 (fun v => [rv 271, iv o, iv v, uv]) q K allD kind pl) : CBd T n t l mX3_readSum (max (D1 + 1) D2) [rv 271, iv o] p kind pl := by
  intro D' Q σ c hD s k
  obtain ⟨d, rfl⟩ : ∃ d, D' = d + 1 := ⟨D' - 1, by omega⟩
  have s4 := s.2.2.2.1
  refine c_X3_readSum (hs d _ σ c (by omega) s (fun σ2 c2 s2 l1 l2 g2 gc2 => ⟨inl (by decide), fun _ => ?_, fun z => absurd z (by decide)⟩))
  have q2n := s2.2.1
  exact hl (d + 1) Q σ2 c c2 0 f (by omega) s2 s4.1 l1 (by omega) (by omega) trivial gc2 (fun σ3 g3 b2 b3 => k σ3 (FrB_tr g2 (by omega) g3) b2 b3)
theorem l_prod_stop {q : Int} (tp : TP T n) (h1 : kT T n q ≠ 42) (h2 : kT T n q ≠ 47) : LGd T n t l mX3_readProduct 1 (fun v => [rv 271, iv o, iv v, uv]) q q K allD (fun f => f) := by
  intro D' Q σ c0 c v2 f hD s z0 z1 z2 z3 _ gc k
  obtain ⟨d, rfl⟩ : ∃ d, D' = d + 1 := ⟨D' - 1, by omega⟩
  have e6 : σ 271 6 = kT T n q := s.1.2.1
  have ki := kT_in tp s.2.1
  have kr : inR (kT T n q) := rng (by omega) (by omega)
  have t0 := tp.1
  have s2 := s.2.1
  have fin : Q 1 σ := k σ c s (by omega) (by omega) ⟨fun _ _ _ _ => rfl, fun _ _ => rfl, fun _ _ => rfl, fun _ _ => rfl⟩ gc
  refine b_X3_readProduct_12 ?_
  rw [e6]
  exact ⟨rng (by omega) (by omega), fun _ => fin, fun _ => ⟨kr, fun z => absurd z h1, fun _ => ⟨kr, fun _ => fin, fun z => absurd z h2⟩⟩⟩
/-- one more: the sub is read, what comes of that is told by kg -/
theorem l_prod_go {d : Nat} {Q : Int → jM → Prop} {σ : jM} {q c v2 : Int} (tp : TP T n) (hk : kT T n q = 42 ∨ kT T n q = 47) (s : CSt T n t l σ q c) (z2 : 0 ≤ v2) (z3 : v2 ≤ q) (kg : Ct mX3_advance d 9 t [rv 271] σ (fun r4 σ4 => (Ct mX3_readOne d 0 t [rv 271, iv o] σ4 (fun r5 σ5 => ((inR r5) ∧ ((¬ r5 = 0 → ((ob (GG t) t 8) ∧ (Ct mX8_addCode d 9 t [rv t, iv (if kT T n q = 42 then 16 else 17), iv 0] σ5 (fun r7 σ7 => (Jt mX3_readProduct (d + 1) 0 t Q 12 [rv 271, iv o, iv (v2 + 1), uv] [] σ7))))) ∧ (r5 = 0 → (Q 0 σ5)))))))) : Jt mX3_readProduct (d + 1) 0 t Q 12 [rv 271, iv o, iv v2, uv] [] σ := by
  have e6 : σ 271 6 = kT T n q := s.1.2.1
  have kr : inR (kT T n q) := rng (by omega) (by omega)
  have t0 := tp.1
  have a2 := (nx_in tp s.2.1).2 (by omega)
  refine b_X3_readProduct_12 ?_
  rw [e6]
  refine ⟨rng (by omega) (by omega), fun z => absurd z (by omega), fun _ => ⟨kr, fun y => ⟨kr, fun w => absurd y w, fun _ => ?_⟩, fun y => ⟨kr, fun w => absurd w (by omega), fun _ => ⟨kr, fun _ => ?_, fun w => absurd w y⟩⟩⟩⟩
  · rw [if_pos y] at kg; exact kg
  · rw [if_neg y] at kg; exact kg
theorem l_prod_step {D1 D2 : Nat} {q q2 q' : Int} {g : DT} {F : DT → DT} (h0 : ob (GG t) t 8) (ht : 293 ≤ t) (tp : TP T n) (q0 : 0 ≤ q ∧ q ≤ n) (hk : kT T n q = 42 ∨ kT T n q = 47) (hs : CGd T n t l mX3_readOne D1 [rv 271, iv o] (nxT T n q) q2 (K + 1) g) (hl : LGd T n t l mX3_readProduct D2 (fun v => [rv 271, iv o, iv v, uv]) q2 q' K allD F) : LGd T n t l mX3_readProduct (max (D1 + 6) D2) (fun v => [rv 271, iv o, iv v, uv]) q q' K allD (fun f => F (fun r x => cop2 (if kT T n q = 42 then 16 else 17) (f r x) (g r x))) := by
  intro D' Q σ c0 c v2 f hD s z0 z1 z2 z3 _ gc k
  obtain ⟨d, rfl⟩ : ∃ d, D' = d + 1 := ⟨D' - 1, by omega⟩
  have a2 := (nx_in tp q0).2 (by omega)
  have t0 := tp.1
  have s4 := s.2.2.2.1
  refine l_prod_go tp hk s z2 z3 (s_adv (by omega) ht tp s (fun σ1 s1 g1 _ => ?_))
  refine hs d _ σ1 c (by omega) s1 (fun σ2 c2 s2 l1 l2 g2 gc2 => ⟨inl (by decide), fun _ => ⟨h0, ?_⟩, fun z => absurd z (by decide)⟩)
  have q2n := s2.2.1
  have ob : 14 ≤ (if kT T n q = 42 then 16 else 17) ∧ (if kT T n q = 42 then 16 else 17) ≤ 17 := by split <;> omega
  refine s_addCode h0 ht s2 (by omega) (by omega) (by omega) (fun σ3 f1 f2 f3 f4 f5 => ?_)
  obtain ⟨s3, g3⟩ := CSt_add (c0 := c2) (b' := q2) ht s2 (by omega) (by omega) f1 f2 f3 f5
  have gcA := GC_ag (GC_ag (GC_ag gc (cg := σ1 (t + 4)) (fun i i0 i1 => g1.2.2.2 i (by omega))) (cg := σ2 (t + 4)) (fun i i0 i1 => g2.2.2.2 i (by omega))) (cg := σ3 (t + 4)) (fun i i0 i1 => f5 i (by omega))
  have gcB := GC_ag gc2 (cg := σ3 (t + 4)) (fun i i0 i1 => f5 i (by omega))
  have gcC := GC_two (op := (if kT T n q = 42 then 16 else 17)) z0 (by omega) (by omega) (by omega) (show σ3 (t + 4) c2 = (if kT T n q = 42 then 16 else 17) by rw [f4]; omega) gcA gcB (fun z => by omega)
  refine hl (d + 1) Q σ3 c0 (c2 + 1) (v2 + 1) _ (by omega) s3 z0 (by omega) (by omega) (by omega) trivial gcC (fun σ4 c4 s4' l3 l4 g4 gc4 => ?_)
  exact k σ4 c4 s4' (by omega) (by omega) (FrG_tr (FrG_tr (FrG_tr g1 (by omega) g2) (by omega) g3) (by omega) (show FrG t c2 σ3 σ4 from ⟨g4.1, g4.2.1, g4.2.2.1, fun i hi => g4.2.2.2 i (by omega)⟩)) gc4
theorem l_prod_bad {D1 : Nat} {q kind pl : Int} (ht : 293 ≤ t) (tp : TP T n) (hk : kT T n q = 42 ∨ kT T n q = 47) (hs : CBd T n t l mX3_readOne D1 [rv 271, iv o] (nxT T n q) kind pl) : LBd T n t l mX3_readProduct (D1 + 6) (fun v => [rv 271, iv o, iv v, uv]) q K allD kind pl := by
  intro D' Q σ c0 c v2 f hD s z0 z1 z2 z3 _ gc k
  obtain ⟨d, rfl⟩ : ∃ d, D' = d + 1 := ⟨D' - 1, by omega⟩
  refine l_prod_go tp hk s z2 z3 (s_adv (by omega) ht tp s (fun σ1 s1 g1 _ => ?_))
  exact hs d _ σ1 c (by omega) s1 (fun σ2 f2 b2 b3 => ⟨inl (by decide), fun z => absurd rfl z, fun _ => k σ2 (FrB_tr g1 (by omega) f2) b2 b3⟩)
theorem l_prod_later {D1 D2 : Nat} {q q2 kind pl : Int} {g : DT} (h0 : ob (GG t) t 8) (ht : 293 ≤ t) (tp : TP T n) (q0 : 0 ≤ q ∧ q ≤ n) (hk : kT T n q = 42 ∨ kT T n q = 47) (hs : CGd T n t l mX3_readOne D1 [rv 271, iv o] (nxT T n q) q2 (K + 1) g) (hl : LBd T n t l mX3_readProduct D2 (fun v => [rv 271, iv o, iv v, uv]) q2 K allD kind pl) : LBd T n t l mX3_readProduct (max (D1 + 6) D2) (fun v => [rv 271, iv o, iv v, uv]) q K allD kind pl := by
  intro D' Q σ c0 c v2 f hD s z0 z1 z2 z3 _ gc k
  obtain ⟨d, rfl⟩ : ∃ d, D' = d + 1 := ⟨D' - 1, by omega⟩
  have a2 := (nx_in tp q0).2 (by omega)
  have t0 := tp.1
  have s4 := s.2.2.2.1
  refine l_prod_go tp hk s z2 z3 (s_adv (by omega) ht tp s (fun σ1 s1 g1 _ => ?_))
  refine hs d _ σ1 c (by omega) s1 (fun σ2 c2 s2 l1 l2 g2 gc2 => ⟨inl (by decide), fun _ => ⟨h0, ?_⟩, fun z => absurd z (by decide)⟩)
  have q2n := s2.2.1
  have ob : 14 ≤ (if kT T n q = 42 then 16 else 17) ∧ (if kT T n q = 42 then 16 else 17) ≤ 17 := by split <;> omega
  refine s_addCode h0 ht s2 (by omega) (by omega) (by omega) (fun σ3 f1 f2 f3 f4 f5 => ?_)
  obtain ⟨s3, g3⟩ := CSt_add (c0 := c2) (b' := q2) ht s2 (by omega) (by omega) f1 f2 f3 f5
  have gcA := GC_ag (GC_ag (GC_ag gc (cg := σ1 (t + 4)) (fun i i0 i1 => g1.2.2.2 i (by omega))) (cg := σ2 (t + 4)) (fun i i0 i1 => g2.2.2.2 i (by omega))) (cg := σ3 (t + 4)) (fun i i0 i1 => f5 i (by omega))
  have gcB := GC_ag gc2 (cg := σ3 (t + 4)) (fun i i0 i1 => f5 i (by omega))
  have gcC := GC_two (op := (if kT T n q = 42 then 16 else 17)) z0 (by omega) (by omega) (by omega) (show σ3 (t + 4) c2 = (if kT T n q = 42 then 16 else 17) by rw [f4]; omega) gcA gcB (fun z => by omega)
  refine hl (d + 1) Q σ3 c0 (c2 + 1) (v2 + 1) _ (by omega) s3 z0 (by omega) (by omega) (by omega) trivial gcC (fun σ4 g4 b2 b3 => ?_)
  exact k σ4 (FrB_tr (FrG_tr (FrG_tr g1 (by omega) g2) (by omega) g3) (by omega) (show FrB t c2 σ3 σ4 from ⟨g4.1, g4.2.1, g4.2.2.1, fun i hi => g4.2.2.2 i (by omega)⟩)) b2 b3
theorem c_prod {D1 D2 : Nat} {q q' : Int} {f : DT} {F : DT → DT} (p0 : 0 ≤ p ∧ p ≤ n) (hs : CGd T n t l mX3_readOne D1 [rv 271, iv o] p q K f) (hl : LGd T n t l mX3_readProduct D2 (fun v => [rv 271, iv o, iv v, uv]) q q' K allD F) : CGd T n t l mX3_readProduct (max (D1 + 1) D2) [rv 271, iv o] p q' K (F f) := by
  intro D' Q σ c hD s k
  obtain ⟨d, rfl⟩ : ∃ d, D' = d + 1 := ⟨D' - 1, by omega⟩
  have s4 := s.2.2.2.1
  refine c_X3_readProduct (hs d _ σ c (by omega) s (fun σ2 c2 s2 l1 l2 g2 gc2 => ⟨inl (by decide), fun _ => ?_, fun z => absurd z (by decide)⟩))
  have q2n := s2.2.1
  exact hl (d + 1) Q σ2 c c2 0 f (by omega) s2 s4.1 l1 (by omega) (by omega) trivial gc2 (fun σ3 c3 s3 l3 l4 g3 gc3 => k σ3 c3 s3 (by omega) (by omega) (FrG_tr g2 (by omega) g3) gc3)
theorem c_prodB {D1 : Nat} {kind pl : Int} (hs : CBd T n t l mX3_readOne D1 [rv 271, iv o] p kind pl) : CBd T n t l mX3_readProduct (D1 + 1) [rv 271, iv o] p kind pl := by
  intro D' Q σ c hD s k
  obtain ⟨d, rfl⟩ : ∃ d, D' = d + 1 := ⟨D' - 1, by omega⟩
  exact c_X3_readProduct (hs d _ σ c (by omega) s (fun σ2 f2 b2 b3 => ⟨inl (by decide), fun z => absurd rfl z, fun _ => k σ2 f2 b2 b3⟩))
theorem c_prodL {D1 D2 : Nat} {q kind pl : Int} {f : DT} (p0 : 0 ≤ p ∧ p ≤ n) (hs : CGd T n t l mX3_readOne D1 [rv 271, iv o] p q K f) (hl : LBd T n t l mX3_readProduct D2 (fun v => [rv 271, iv o, iv v, uv]) q K allD kind pl) : CBd T n t l mX3_readProduct (max (D1 + 1) D2) [rv 271, iv o] p kind pl := by
  intro D' Q σ c hD s k
  obtain ⟨d, rfl⟩ : ∃ d, D' = d + 1 := ⟨D' - 1, by omega⟩
  have s4 := s.2.2.2.1
  refine c_X3_readProduct (hs d _ σ c (by omega) s (fun σ2 c2 s2 l1 l2 g2 gc2 => ⟨inl (by decide), fun _ => ?_, fun z => absurd z (by decide)⟩))
  have q2n := s2.2.1
  exact hl (d + 1) Q σ2 c c2 0 f (by omega) s2 s4.1 l1 (by omega) (by omega) trivial gc2 (fun σ3 g3 b2 b3 => k σ3 (FrB_tr g2 (by omega) g3) b2 b3)
theorem l_either_stop {q : Int} (tp : TP T n) (h1 : kT T n q ≠ 120) : LGd T n t l mX3_readEither 1 (fun v => [rv 271, iv o, iv v]) q q K B01 (fun f => f) := by
  intro D' Q σ c0 c v2 f hD s z0 z1 z2 z3 _ gc k
  obtain ⟨d, rfl⟩ : ∃ d, D' = d + 1 := ⟨D' - 1, by omega⟩
  have e6 : σ 271 6 = kT T n q := s.1.2.1
  have ki := kT_in tp s.2.1
  have kr : inR (kT T n q) := rng (by omega) (by omega)
  have t0 := tp.1
  have s2 := s.2.1
  have fin : Q 1 σ := k σ c s (by omega) (by omega) ⟨fun _ _ _ _ => rfl, fun _ _ => rfl, fun _ _ => rfl, fun _ _ => rfl⟩ gc
  refine b_X3_readEither_12 ?_
  rw [e6]
  exact ⟨rng (by omega) (by omega), fun _ => fin, fun _ => ⟨kr, fun _ => fin, fun z => absurd z h1⟩⟩
theorem l_either_go {d : Nat} {Q : Int → jM → Prop} {σ : jM} {q c v2 : Int} (tp : TP T n) (hk : kT T n q = 120) (s : CSt T n t l σ q c) (z2 : 0 ≤ v2) (z3 : v2 ≤ q) (kg : Ct mX3_advance d 9 t [rv 271] σ (fun r4 σ4 => (Ct mX3_readBoth d 0 t [rv 271, iv o] σ4 (fun r5 σ5 => ((inR r5) ∧ ((¬ r5 = 0 → ((ob (GG t) t 8) ∧ (Ct mX8_addCode d 9 t [rv t, iv 25, iv 0] σ5 (fun r7 σ7 => (Jt mX3_readEither (d + 1) 0 t Q 12 [rv 271, iv o, iv (v2 + 1)] [] σ7))))) ∧ (r5 = 0 → (Q 0 σ5)))))))) : Jt mX3_readEither (d + 1) 0 t Q 12 [rv 271, iv o, iv v2] [] σ := by
  have e6 : σ 271 6 = kT T n q := s.1.2.1
  have kr : inR (kT T n q) := rng (by omega) (by omega)
  have t0 := tp.1
  have a2 := (nx_in tp s.2.1).2 (by omega)
  refine b_X3_readEither_12 ?_
  rw [e6]
  exact ⟨rng (by omega) (by omega), fun z => absurd z (by omega), fun _ => ⟨kr, fun y => absurd hk y, fun _ => kg⟩⟩
theorem l_either_step {D1 D2 : Nat} {q q2 q' : Int} {g : DT} {F : DT → DT} (h0 : ob (GG t) t 8) (ht : 293 ≤ t) (tp : TP T n) (q0 : 0 ≤ q ∧ q ≤ n) (hk : kT T n q = 120) (hs : CGd T n t l mX3_readBoth D1 [rv 271, iv o] (nxT T n q) q2 (K + 1) g) (bg : B01 g) (hl : LGd T n t l mX3_readEither D2 (fun v => [rv 271, iv o, iv v]) q2 q' K B01 F) : LGd T n t l mX3_readEither (max (D1 + 6) D2) (fun v => [rv 271, iv o, iv v]) q q' K B01 (fun f => F (fun r x => cop2 25 (f r x) (g r x))) := by
  intro D' Q σ c0 c v2 f hD s z0 z1 z2 z3 bf gc k
  obtain ⟨d, rfl⟩ : ∃ d, D' = d + 1 := ⟨D' - 1, by omega⟩
  have a2 := (nx_in tp q0).2 (by omega)
  have t0 := tp.1
  have s4 := s.2.2.2.1
  refine l_either_go tp hk s z2 z3 (s_adv (by omega) ht tp s (fun σ1 s1 g1 _ => ?_))
  refine hs d _ σ1 c (by omega) s1 (fun σ2 c2 s2 l1 l2 g2 gc2 => ⟨inl (by decide), fun _ => ⟨h0, ?_⟩, fun z => absurd z (by decide)⟩)
  have q2n := s2.2.1
  refine s_addCode h0 ht s2 (by omega) (by omega) (by omega) (fun σ3 f1 f2 f3 f4 f5 => ?_)
  obtain ⟨s3, g3⟩ := CSt_add (c0 := c2) (b' := q2) ht s2 (by omega) (by omega) f1 f2 f3 f5
  have gcA := GC_ag (GC_ag (GC_ag gc (cg := σ1 (t + 4)) (fun i i0 i1 => g1.2.2.2 i (by omega))) (cg := σ2 (t + 4)) (fun i i0 i1 => g2.2.2.2 i (by omega))) (cg := σ3 (t + 4)) (fun i i0 i1 => f5 i (by omega))
  have gcB := GC_ag gc2 (cg := σ3 (t + 4)) (fun i i0 i1 => f5 i (by omega))
  have gcC := GC_two (op := 25) z0 (by omega) (by omega) (by omega) (show σ3 (t + 4) c2 = 25 by rw [f4]; omega) gcA gcB (fun z => ⟨bf, bg⟩)
  refine hl (d + 1) Q σ3 c0 (c2 + 1) (v2 + 1) _ (by omega) s3 z0 (by omega) (by omega) (by omega) (cop2_B01 (by omega) (fun _ => ⟨bf, bg⟩)) gcC (fun σ4 c4 s4' l3 l4 g4 gc4 => ?_)
  exact k σ4 c4 s4' (by omega) (by omega) (FrG_tr (FrG_tr (FrG_tr g1 (by omega) g2) (by omega) g3) (by omega) (show FrG t c2 σ3 σ4 from ⟨g4.1, g4.2.1, g4.2.2.1, fun i hi => g4.2.2.2 i (by omega)⟩)) gc4
theorem l_either_bad {D1 : Nat} {q kind pl : Int} (ht : 293 ≤ t) (tp : TP T n) (hk : kT T n q = 120) (hs : CBd T n t l mX3_readBoth D1 [rv 271, iv o] (nxT T n q) kind pl) : LBd T n t l mX3_readEither (D1 + 6) (fun v => [rv 271, iv o, iv v]) q K B01 kind pl := by
  intro D' Q σ c0 c v2 f hD s z0 z1 z2 z3 _ gc k
  obtain ⟨d, rfl⟩ : ∃ d, D' = d + 1 := ⟨D' - 1, by omega⟩
  refine l_either_go tp hk s z2 z3 (s_adv (by omega) ht tp s (fun σ1 s1 g1 _ => ?_))
  exact hs d _ σ1 c (by omega) s1 (fun σ2 f2 b2 b3 => ⟨inl (by decide), fun z => absurd rfl z, fun _ => k σ2 (FrB_tr g1 (by omega) f2) b2 b3⟩)
theorem l_either_later {D1 D2 : Nat} {q q2 kind pl : Int} {g : DT} (h0 : ob (GG t) t 8) (ht : 293 ≤ t) (tp : TP T n) (q0 : 0 ≤ q ∧ q ≤ n) (hk : kT T n q = 120) (hs : CGd T n t l mX3_readBoth D1 [rv 271, iv o] (nxT T n q) q2 (K + 1) g) (bg : B01 g) (hl : LBd T n t l mX3_readEither D2 (fun v => [rv 271, iv o, iv v]) q2 K B01 kind pl) : LBd T n t l mX3_readEither (max (D1 + 6) D2) (fun v => [rv 271, iv o, iv v]) q K B01 kind pl := by
  intro D' Q σ c0 c v2 f hD s z0 z1 z2 z3 bf gc k
  obtain ⟨d, rfl⟩ : ∃ d, D' = d + 1 := ⟨D' - 1, by omega⟩
  have a2 := (nx_in tp q0).2 (by omega)
  have t0 := tp.1
  have s4 := s.2.2.2.1
  refine l_either_go tp hk s z2 z3 (s_adv (by omega) ht tp s (fun σ1 s1 g1 _ => ?_))
  refine hs d _ σ1 c (by omega) s1 (fun σ2 c2 s2 l1 l2 g2 gc2 => ⟨inl (by decide), fun _ => ⟨h0, ?_⟩, fun z => absurd z (by decide)⟩)
  have q2n := s2.2.1
  refine s_addCode h0 ht s2 (by omega) (by omega) (by omega) (fun σ3 f1 f2 f3 f4 f5 => ?_)
  obtain ⟨s3, g3⟩ := CSt_add (c0 := c2) (b' := q2) ht s2 (by omega) (by omega) f1 f2 f3 f5
  have gcA := GC_ag (GC_ag (GC_ag gc (cg := σ1 (t + 4)) (fun i i0 i1 => g1.2.2.2 i (by omega))) (cg := σ2 (t + 4)) (fun i i0 i1 => g2.2.2.2 i (by omega))) (cg := σ3 (t + 4)) (fun i i0 i1 => f5 i (by omega))
  have gcB := GC_ag gc2 (cg := σ3 (t + 4)) (fun i i0 i1 => f5 i (by omega))
  have gcC := GC_two (op := 25) z0 (by omega) (by omega) (by omega) (show σ3 (t + 4) c2 = 25 by rw [f4]; omega) gcA gcB (fun z => ⟨bf, bg⟩)
  refine hl (d + 1) Q σ3 c0 (c2 + 1) (v2 + 1) _ (by omega) s3 z0 (by omega) (by omega) (by omega) (cop2_B01 (by omega) (fun _ => ⟨bf, bg⟩)) gcC (fun σ4 g4 b2 b3 => ?_)
  exact k σ4 (FrB_tr (FrG_tr (FrG_tr g1 (by omega) g2) (by omega) g3) (by omega) (show FrB t c2 σ3 σ4 from ⟨g4.1, g4.2.1, g4.2.2.1, fun i hi => g4.2.2.2 i (by omega)⟩)) b2 b3
theorem c_either {D1 D2 : Nat} {q q' : Int} {f : DT} {F : DT → DT} (p0 : 0 ≤ p ∧ p ≤ n) (hs : CGd T n t l mX3_readBoth D1 [rv 271, iv o] p q K f) (bf : B01 f) (hl : LGd T n t l mX3_readEither D2 (fun v => [rv 271, iv o, iv v]) q q' K B01 F) : CGd T n t l mX3_readEither (max (D1 + 1) D2) [rv 271, iv o] p q' K (F f) := by
  intro D' Q σ c hD s k
  obtain ⟨d, rfl⟩ : ∃ d, D' = d + 1 := ⟨D' - 1, by omega⟩
  have s4 := s.2.2.2.1
  refine c_X3_readEither (hs d _ σ c (by omega) s (fun σ2 c2 s2 l1 l2 g2 gc2 => ⟨inl (by decide), fun _ => ?_, fun z => absurd z (by decide)⟩))
  have q2n := s2.2.1
  exact hl (d + 1) Q σ2 c c2 0 f (by omega) s2 s4.1 l1 (by omega) (by omega) bf gc2 (fun σ3 c3 s3 l3 l4 g3 gc3 => k σ3 c3 s3 (by omega) (by omega) (FrG_tr g2 (by omega) g3) gc3)
theorem c_eitherB {D1 : Nat} {kind pl : Int} (hs : CBd T n t l mX3_readBoth D1 [rv 271, iv o] p kind pl) : CBd T n t l mX3_readEither (D1 + 1) [rv 271, iv o] p kind pl := by
  intro D' Q σ c hD s k
  obtain ⟨d, rfl⟩ : ∃ d, D' = d + 1 := ⟨D' - 1, by omega⟩
  exact c_X3_readEither (hs d _ σ c (by omega) s (fun σ2 f2 b2 b3 => ⟨inl (by decide), fun z => absurd rfl z, fun _ => k σ2 f2 b2 b3⟩))
theorem c_eitherL {D1 D2 : Nat} {q kind pl : Int} {f : DT} (p0 : 0 ≤ p ∧ p ≤ n) (hs : CGd T n t l mX3_readBoth D1 [rv 271, iv o] p q K f) (bf : B01 f) (hl : LBd T n t l mX3_readEither D2 (fun v => [rv 271, iv o, iv v]) q K B01 kind pl) : CBd T n t l mX3_readEither (max (D1 + 1) D2) [rv 271, iv o] p kind pl := by
  intro D' Q σ c hD s k
  obtain ⟨d, rfl⟩ : ∃ d, D' = d + 1 := ⟨D' - 1, by omega⟩
  have s4 := s.2.2.2.1
  refine c_X3_readEither (hs d _ σ c (by omega) s (fun σ2 c2 s2 l1 l2 g2 gc2 => ⟨inl (by decide), fun _ => ?_, fun z => absurd z (by decide)⟩))
  have q2n := s2.2.1
  exact hl (d + 1) Q σ2 c c2 0 f (by omega) s2 s4.1 l1 (by omega) (by omega) bf gc2 (fun σ3 g3 b2 b3 => k σ3 (FrB_tr g2 (by omega) g3) b2 b3)
theorem l_both_stop {q : Int} (tp : TP T n) (h1 : kT T n q ≠ 119) : LGd T n t l mX3_readBoth 1 (fun v => [rv 271, iv o, iv v]) q q K B01 (fun f => f) := by
  intro D' Q σ c0 c v2 f hD s z0 z1 z2 z3 _ gc k
  obtain ⟨d, rfl⟩ : ∃ d, D' = d + 1 := ⟨D' - 1, by omega⟩
  have e6 : σ 271 6 = kT T n q := s.1.2.1
  have ki := kT_in tp s.2.1
  have kr : inR (kT T n q) := rng (by omega) (by omega)
  have t0 := tp.1
  have s2 := s.2.1
  have fin : Q 1 σ := k σ c s (by omega) (by omega) ⟨fun _ _ _ _ => rfl, fun _ _ => rfl, fun _ _ => rfl, fun _ _ => rfl⟩ gc
  refine b_X3_readBoth_12 ?_
  rw [e6]
  exact ⟨rng (by omega) (by omega), fun _ => fin, fun _ => ⟨kr, fun _ => fin, fun z => absurd z h1⟩⟩
theorem l_both_go {d : Nat} {Q : Int → jM → Prop} {σ : jM} {q c v2 : Int} (tp : TP T n) (hk : kT T n q = 119) (s : CSt T n t l σ q c) (z2 : 0 ≤ v2) (z3 : v2 ≤ q) (kg : Ct mX3_advance d 9 t [rv 271] σ (fun r4 σ4 => (Ct mX3_readAsk d 0 t [rv 271, iv o] σ4 (fun r5 σ5 => ((inR r5) ∧ ((¬ r5 = 0 → ((ob (GG t) t 8) ∧ (Ct mX8_addCode d 9 t [rv t, iv 24, iv 0] σ5 (fun r7 σ7 => (Jt mX3_readBoth (d + 1) 0 t Q 12 [rv 271, iv o, iv (v2 + 1)] [] σ7))))) ∧ (r5 = 0 → (Q 0 σ5)))))))) : Jt mX3_readBoth (d + 1) 0 t Q 12 [rv 271, iv o, iv v2] [] σ := by
  have e6 : σ 271 6 = kT T n q := s.1.2.1
  have kr : inR (kT T n q) := rng (by omega) (by omega)
  have t0 := tp.1
  have a2 := (nx_in tp s.2.1).2 (by omega)
  refine b_X3_readBoth_12 ?_
  rw [e6]
  exact ⟨rng (by omega) (by omega), fun z => absurd z (by omega), fun _ => ⟨kr, fun y => absurd hk y, fun _ => kg⟩⟩
theorem l_both_step {D1 D2 : Nat} {q q2 q' : Int} {g : DT} {F : DT → DT} (h0 : ob (GG t) t 8) (ht : 293 ≤ t) (tp : TP T n) (q0 : 0 ≤ q ∧ q ≤ n) (hk : kT T n q = 119) (hs : CGd T n t l mX3_readAsk D1 [rv 271, iv o] (nxT T n q) q2 (K + 1) g) (bg : B01 g) (hl : LGd T n t l mX3_readBoth D2 (fun v => [rv 271, iv o, iv v]) q2 q' K B01 F) : LGd T n t l mX3_readBoth (max (D1 + 6) D2) (fun v => [rv 271, iv o, iv v]) q q' K B01 (fun f => F (fun r x => cop2 24 (f r x) (g r x))) := by
  intro D' Q σ c0 c v2 f hD s z0 z1 z2 z3 bf gc k
  obtain ⟨d, rfl⟩ : ∃ d, D' = d + 1 := ⟨D' - 1, by omega⟩
  have a2 := (nx_in tp q0).2 (by omega)
  have t0 := tp.1
  have s4 := s.2.2.2.1
  refine l_both_go tp hk s z2 z3 (s_adv (by omega) ht tp s (fun σ1 s1 g1 _ => ?_))
  refine hs d _ σ1 c (by omega) s1 (fun σ2 c2 s2 l1 l2 g2 gc2 => ⟨inl (by decide), fun _ => ⟨h0, ?_⟩, fun z => absurd z (by decide)⟩)
  have q2n := s2.2.1
  refine s_addCode h0 ht s2 (by omega) (by omega) (by omega) (fun σ3 f1 f2 f3 f4 f5 => ?_)
  obtain ⟨s3, g3⟩ := CSt_add (c0 := c2) (b' := q2) ht s2 (by omega) (by omega) f1 f2 f3 f5
  have gcA := GC_ag (GC_ag (GC_ag gc (cg := σ1 (t + 4)) (fun i i0 i1 => g1.2.2.2 i (by omega))) (cg := σ2 (t + 4)) (fun i i0 i1 => g2.2.2.2 i (by omega))) (cg := σ3 (t + 4)) (fun i i0 i1 => f5 i (by omega))
  have gcB := GC_ag gc2 (cg := σ3 (t + 4)) (fun i i0 i1 => f5 i (by omega))
  have gcC := GC_two (op := 24) z0 (by omega) (by omega) (by omega) (show σ3 (t + 4) c2 = 24 by rw [f4]; omega) gcA gcB (fun z => ⟨bf, bg⟩)
  refine hl (d + 1) Q σ3 c0 (c2 + 1) (v2 + 1) _ (by omega) s3 z0 (by omega) (by omega) (by omega) (cop2_B01 (by omega) (fun _ => ⟨bf, bg⟩)) gcC (fun σ4 c4 s4' l3 l4 g4 gc4 => ?_)
  exact k σ4 c4 s4' (by omega) (by omega) (FrG_tr (FrG_tr (FrG_tr g1 (by omega) g2) (by omega) g3) (by omega) (show FrG t c2 σ3 σ4 from ⟨g4.1, g4.2.1, g4.2.2.1, fun i hi => g4.2.2.2 i (by omega)⟩)) gc4
theorem l_both_bad {D1 : Nat} {q kind pl : Int} (ht : 293 ≤ t) (tp : TP T n) (hk : kT T n q = 119) (hs : CBd T n t l mX3_readAsk D1 [rv 271, iv o] (nxT T n q) kind pl) : LBd T n t l mX3_readBoth (D1 + 6) (fun v => [rv 271, iv o, iv v]) q K B01 kind pl := by
  intro D' Q σ c0 c v2 f hD s z0 z1 z2 z3 _ gc k
  obtain ⟨d, rfl⟩ : ∃ d, D' = d + 1 := ⟨D' - 1, by omega⟩
  refine l_both_go tp hk s z2 z3 (s_adv (by omega) ht tp s (fun σ1 s1 g1 _ => ?_))
  exact hs d _ σ1 c (by omega) s1 (fun σ2 f2 b2 b3 => ⟨inl (by decide), fun z => absurd rfl z, fun _ => k σ2 (FrB_tr g1 (by omega) f2) b2 b3⟩)
theorem l_both_later {D1 D2 : Nat} {q q2 kind pl : Int} {g : DT} (h0 : ob (GG t) t 8) (ht : 293 ≤ t) (tp : TP T n) (q0 : 0 ≤ q ∧ q ≤ n) (hk : kT T n q = 119) (hs : CGd T n t l mX3_readAsk D1 [rv 271, iv o] (nxT T n q) q2 (K + 1) g) (bg : B01 g) (hl : LBd T n t l mX3_readBoth D2 (fun v => [rv 271, iv o, iv v]) q2 K B01 kind pl) : LBd T n t l mX3_readBoth (max (D1 + 6) D2) (fun v => [rv 271, iv o, iv v]) q K B01 kind pl := by
  intro D' Q σ c0 c v2 f hD s z0 z1 z2 z3 bf gc k
  obtain ⟨d, rfl⟩ : ∃ d, D' = d + 1 := ⟨D' - 1, by omega⟩
  have a2 := (nx_in tp q0).2 (by omega)
  have t0 := tp.1
  have s4 := s.2.2.2.1
  refine l_both_go tp hk s z2 z3 (s_adv (by omega) ht tp s (fun σ1 s1 g1 _ => ?_))
  refine hs d _ σ1 c (by omega) s1 (fun σ2 c2 s2 l1 l2 g2 gc2 => ⟨inl (by decide), fun _ => ⟨h0, ?_⟩, fun z => absurd z (by decide)⟩)
  have q2n := s2.2.1
  refine s_addCode h0 ht s2 (by omega) (by omega) (by omega) (fun σ3 f1 f2 f3 f4 f5 => ?_)
  obtain ⟨s3, g3⟩ := CSt_add (c0 := c2) (b' := q2) ht s2 (by omega) (by omega) f1 f2 f3 f5
  have gcA := GC_ag (GC_ag (GC_ag gc (cg := σ1 (t + 4)) (fun i i0 i1 => g1.2.2.2 i (by omega))) (cg := σ2 (t + 4)) (fun i i0 i1 => g2.2.2.2 i (by omega))) (cg := σ3 (t + 4)) (fun i i0 i1 => f5 i (by omega))
  have gcB := GC_ag gc2 (cg := σ3 (t + 4)) (fun i i0 i1 => f5 i (by omega))
  have gcC := GC_two (op := 24) z0 (by omega) (by omega) (by omega) (show σ3 (t + 4) c2 = 24 by rw [f4]; omega) gcA gcB (fun z => ⟨bf, bg⟩)
  refine hl (d + 1) Q σ3 c0 (c2 + 1) (v2 + 1) _ (by omega) s3 z0 (by omega) (by omega) (by omega) (cop2_B01 (by omega) (fun _ => ⟨bf, bg⟩)) gcC (fun σ4 g4 b2 b3 => ?_)
  exact k σ4 (FrB_tr (FrG_tr (FrG_tr g1 (by omega) g2) (by omega) g3) (by omega) (show FrB t c2 σ3 σ4 from ⟨g4.1, g4.2.1, g4.2.2.1, fun i hi => g4.2.2.2 i (by omega)⟩)) b2 b3
theorem c_both {D1 D2 : Nat} {q q' : Int} {f : DT} {F : DT → DT} (p0 : 0 ≤ p ∧ p ≤ n) (hs : CGd T n t l mX3_readAsk D1 [rv 271, iv o] p q K f) (bf : B01 f) (hl : LGd T n t l mX3_readBoth D2 (fun v => [rv 271, iv o, iv v]) q q' K B01 F) : CGd T n t l mX3_readBoth (max (D1 + 1) D2) [rv 271, iv o] p q' K (F f) := by
  intro D' Q σ c hD s k
  obtain ⟨d, rfl⟩ : ∃ d, D' = d + 1 := ⟨D' - 1, by omega⟩
  have s4 := s.2.2.2.1
  refine c_X3_readBoth (hs d _ σ c (by omega) s (fun σ2 c2 s2 l1 l2 g2 gc2 => ⟨inl (by decide), fun _ => ?_, fun z => absurd z (by decide)⟩))
  have q2n := s2.2.1
  exact hl (d + 1) Q σ2 c c2 0 f (by omega) s2 s4.1 l1 (by omega) (by omega) bf gc2 (fun σ3 c3 s3 l3 l4 g3 gc3 => k σ3 c3 s3 (by omega) (by omega) (FrG_tr g2 (by omega) g3) gc3)
theorem c_bothB {D1 : Nat} {kind pl : Int} (hs : CBd T n t l mX3_readAsk D1 [rv 271, iv o] p kind pl) : CBd T n t l mX3_readBoth (D1 + 1) [rv 271, iv o] p kind pl := by
  intro D' Q σ c hD s k
  obtain ⟨d, rfl⟩ : ∃ d, D' = d + 1 := ⟨D' - 1, by omega⟩
  exact c_X3_readBoth (hs d _ σ c (by omega) s (fun σ2 f2 b2 b3 => ⟨inl (by decide), fun z => absurd rfl z, fun _ => k σ2 f2 b2 b3⟩))
theorem c_bothL {D1 D2 : Nat} {q kind pl : Int} {f : DT} (p0 : 0 ≤ p ∧ p ≤ n) (hs : CGd T n t l mX3_readAsk D1 [rv 271, iv o] p q K f) (bf : B01 f) (hl : LBd T n t l mX3_readBoth D2 (fun v => [rv 271, iv o, iv v]) q K B01 kind pl) : CBd T n t l mX3_readBoth (max (D1 + 1) D2) [rv 271, iv o] p kind pl := by
  intro D' Q σ c hD s k
  obtain ⟨d, rfl⟩ : ∃ d, D' = d + 1 := ⟨D' - 1, by omega⟩
  have s4 := s.2.2.2.1
  refine c_X3_readBoth (hs d _ σ c (by omega) s (fun σ2 c2 s2 l1 l2 g2 gc2 => ⟨inl (by decide), fun _ => ?_, fun z => absurd z (by decide)⟩))
  have q2n := s2.2.1
  exact hl (d + 1) Q σ2 c c2 0 f (by omega) s2 s4.1 l1 (by omega) (by omega) bf gc2 (fun σ3 g3 b2 b3 => k σ3 (FrB_tr g2 (by omega) g3) b2 b3)
end PE
