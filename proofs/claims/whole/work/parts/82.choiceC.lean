/-! ===== the class reads a choice ===== -/
def chR2 (d : Nat) (t : Int) (Q : Int → jM → Prop) (o j : Int) (σ15 : jM) : Prop := Ct mX3_readSum d 0 t [rv 271, iv o] σ15 (fun r17 σ17 => ((inR r17) ∧ ((r17 = 0 → (Q 0 σ17)) ∧ (¬ r17 = 0 → (Ct mX3_take d 0 t [rv 271, iv 118] σ17 (fun r19 σ19 => ((inR r19) ∧ ((¬ r19 = 0 → ((ob (GG t) t 8) ∧ (Ct mX8_landHere d 9 t [rv t, iv j] σ19 (fun r21 σ21 => (Q 1 σ21))))) ∧ (r19 = 0 → (Q 0 σ19))))))))))
def chR1 (d : Nat) (t : Int) (Q : Int → jM → Prop) (o u : Int) (σ6 : jM) : Prop := Ct mX3_readSum d 0 t [rv 271, iv o] σ6 (fun r8 σ8 => ((inR r8) ∧ ((r8 = 0 → (Q 0 σ8)) ∧ (¬ r8 = 0 → (Ct mX3_take d 0 t [rv 271, iv 117] σ8 (fun r10 σ10 => ((inR r10) ∧ ((¬ r10 = 0 → ((ob (GG t) t 8) ∧ ((ob (GG t) t 8) ∧ (Ct mX8_addCode d 9 t [rv t, iv 8, iv 0] σ10 (fun r13 σ13 => ((ob (GG t) t 8) ∧ (Ct mX8_landHere d 9 t [rv t, iv u] σ13 (fun r15 σ15 => chR2 d t Q o (σ10 t 7) σ15)))))))) ∧ (r10 = 0 → (Q 0 σ10))))))))))
section PG
variable {t : Int} {T : Int → Int} {n l p o K : Int} {d : Nat} {Q : Int → jM → Prop} {σ : jM} {c : Int}
theorem ch_a {D1 : Nat} {q1 : Int} {b : DT} (h0 : ob (GG t) t 8) (ht : 293 ≤ t) (tp : TP T n) (hD : D1 ≤ d) (h6 : 6 ≤ d) (h1 : CGd T n t l mX3_readEither D1 [rv 271, iv o] p q1 K b) (s : CSt T n t l σ p c) (bad : kT T n q1 ≠ 116 → ∀ σ', FrB t c σ σ' → σ' 271 2 = 1 → σ' 271 3 = plT T n q1 → Q 0 σ') (k : kT T n q1 = 116 → ∀ σ6 c1, CSt T n t l σ6 (nxT T n q1) (c1 + 1) → c < c1 → c1 + 1 - c ≤ nxT T n q1 - p → FrG t c σ σ6 → GC (σ6 (t + 4)) c c1 K b → σ6 (t + 4) c1 = 9 → chR1 d t Q o c1 σ6) : Ct mX3_readChoice (d + 1) 0 t [rv 271, iv o] σ Q := by
  have t0 := tp.1
  refine c_X3_readChoice ?_
  refine h1 d _ σ c hD s (fun σ1 c1 s1 l1 l2 g1 gc1 => ⟨inl (by decide), fun z => absurd z (by decide), fun _ => ?_⟩)
  refine c_take ht tp (inl (by decide)) h6 s1 (fun hk σ3 s3 g3 => ⟨inl (by decide), fun _ => ⟨h0, h0, ?_⟩, fun z => absurd z (by decide)⟩) (fun hk σ3 f3 b2 b3 => ⟨inl (by decide), fun z => absurd rfl z, fun _ => bad hk σ3 (FrB_tr g1 (by omega) f3) b2 b3⟩)
  have a2 := (nx_in tp s1.2.1).2 (by omega)
  have s14 := s1.2.2.2.1
  have e7 : σ3 t 7 = c1 := s3.2.2.1
  rw [e7]
  have s32 := s3.2.1
  refine s_addCode h0 ht s3 (by omega) (by omega) (by omega) (fun σ4 f1 f2 f3 f4 f5 => ?_)
  obtain ⟨s5, g5⟩ := CSt_add (c0 := c1) (b' := nxT T n q1) ht s3 (by omega) (by omega) f1 f2 f3 f5
  refine k hk σ4 c1 s5 l1 (by omega) (FrG_tr (FrG_tr g1 (by omega) g3) (by omega) g5) (GC_ag (GC_ag gc1 (cg := σ3 (t + 4)) (fun i i0 i1 => g3.2.2.2 i (by omega))) (cg := σ4 (t + 4)) (fun i i0 i1 => f5 i (by omega))) (by rw [f4]; omega)
theorem ch_b {D1 : Nat} {q q2 c1 : Int} {f : DT} (h0 : ob (GG t) t 8) (ht : 293 ≤ t) (tp : TP T n) (hD : D1 ≤ d) (h6 : 6 ≤ d) (h1 : CGd T n t l mX3_readSum D1 [rv 271, iv o] q q2 K f) (s : CSt T n t l σ q (c1 + 1)) (hc : 0 ≤ c1) (e9 : σ (t + 4) c1 = 9) (bad : kT T n q2 ≠ 117 → ∀ σ', FrB t (c1 + 1) σ σ' → σ' 271 2 = 1 → σ' 271 3 = plT T n q2 → Q 0 σ') (k : kT T n q2 = 117 → ∀ σ15 j, CSt T n t l σ15 (nxT T n q2) (j + 1) → c1 + 1 < j → j + 1 - (c1 + 1) ≤ nxT T n q2 - q → FrG t c1 σ σ15 → GC (σ15 (t + 4)) (c1 + 1) j K f → σ15 (t + 4) c1 = 32 * (j + 1) + 9 → σ15 (t + 4) j = 8 → chR2 d t Q o j σ15) : chR1 d t Q o c1 σ := by
  have t0 := tp.1
  unfold chR1
  refine h1 d _ σ (c1 + 1) hD s (fun σ1 j s1 l1 l2 g1 gc1 => ⟨inl (by decide), fun z => absurd z (by decide), fun _ => ?_⟩)
  refine c_take ht tp (inl (by decide)) h6 s1 (fun hk σ3 s3 g3 => ⟨inl (by decide), fun _ => ⟨h0, h0, ?_⟩, fun z => absurd z (by decide)⟩) (fun hk σ3 f3 b2 b3 => ⟨inl (by decide), fun z => absurd rfl z, fun _ => bad hk σ3 (FrB_tr g1 (by omega) f3) b2 b3⟩)
  have a2 := (nx_in tp s1.2.1).2 (by omega)
  have s14 := s1.2.2.2.1
  have e7 : σ3 t 7 = j := s3.2.2.1
  rw [e7]
  have s32 := s3.2.1
  refine s_addCode h0 ht s3 (by omega) (by omega) (by omega) (fun σ4 f1 f2 f3 f4 f5 => ⟨h0, ?_⟩)
  obtain ⟨s5, g5⟩ := CSt_add (c0 := j) (b' := nxT T n q2) ht s3 (by omega) (by omega) f1 f2 f3 f5
  have e9' : σ4 (t + 4) c1 = 9 := by rw [f5 c1 (by omega), g3.2.2.2 c1 (by omega), g1.2.2.2 c1 (by omega)]; exact e9
  refine s_land (op := 9) h0 ht s5 (by omega) (by omega) (by omega) e9' (fun σ5 p1 p2 p3 => ?_)
  obtain ⟨s6, g6⟩ := CSt_land (u := c1) ht s5 p1 p3
  have w : ∀ {c' : Int} {x y : jM}, c1 ≤ c' → FrG t c' x y → FrG t c1 x y := fun h z => ⟨z.1, z.2.1, z.2.2.1, fun i hi => z.2.2.2 i (by omega)⟩
  refine k hk σ5 j s6 (by omega) (by omega) (FrG_tr (FrG_tr (FrG_tr (w (by omega) g1) (by omega) (w (by omega) g3)) (by omega) (w (by omega) g5)) (by omega) g6) (GC_ag (GC_ag (GC_ag gc1 (cg := σ3 (t + 4)) (fun i i0 i1 => g3.2.2.2 i (by omega))) (cg := σ4 (t + 4)) (fun i i0 i1 => f5 i (by omega))) (cg := σ5 (t + 4)) (fun i i0 i1 => p3 i (by omega))) p2 ?_
  rw [p3 j (by omega), f4]
  omega
theorem ch_c {D1 : Nat} {q q3 j : Int} {g : DT} (h0 : ob (GG t) t 8) (ht : 293 ≤ t) (tp : TP T n) (hD : D1 ≤ d) (h6 : 6 ≤ d) (h1 : CGd T n t l mX3_readSum D1 [rv 271, iv o] q q3 K g) (s : CSt T n t l σ q (j + 1)) (hj : 0 ≤ j) (e8 : σ (t + 4) j = 8) (bad : kT T n q3 ≠ 118 → ∀ σ', FrB t (j + 1) σ σ' → σ' 271 2 = 1 → σ' 271 3 = plT T n q3 → Q 0 σ') (k : kT T n q3 = 118 → ∀ σ' e, CSt T n t l σ' (nxT T n q3) e → j + 1 < e → e - (j + 1) ≤ nxT T n q3 - q → FrG t j σ σ' → GC (σ' (t + 4)) (j + 1) e K g → σ' (t + 4) j = 32 * e + 8 → Q 1 σ') : chR2 d t Q o j σ := by
  have t0 := tp.1
  unfold chR2
  refine h1 d _ σ (j + 1) hD s (fun σ1 e s1 l1 l2 g1 gc1 => ⟨inl (by decide), fun z => absurd z (by decide), fun _ => ?_⟩)
  refine c_take ht tp (inl (by decide)) h6 s1 (fun hk σ3 s3 g3 => ⟨inl (by decide), fun _ => ⟨h0, ?_⟩, fun z => absurd z (by decide)⟩) (fun hk σ3 f3 b2 b3 => ⟨inl (by decide), fun z => absurd rfl z, fun _ => bad hk σ3 (FrB_tr g1 (by omega) f3) b2 b3⟩)
  have a2 := (nx_in tp s1.2.1).2 (by omega)
  have s14 := s1.2.2.2.1
  have s32 := s3.2.1
  have e8' : σ3 (t + 4) j = 8 := by rw [g3.2.2.2 j (by omega), g1.2.2.2 j (by omega)]; exact e8
  refine s_land (op := 8) h0 ht s3 (by omega) (by omega) (by omega) e8' (fun σ5 p1 p2 p3 => ?_)
  obtain ⟨s6, g6⟩ := CSt_land (u := j) ht s3 p1 p3
  have w : ∀ {c' : Int} {x y : jM}, j ≤ c' → FrG t c' x y → FrG t j x y := fun h z => ⟨z.1, z.2.1, z.2.2.1, fun i hi => z.2.2.2 i (by omega)⟩
  exact k hk σ5 e s6 l1 (by omega) (FrG_tr (FrG_tr (w (by omega) g1) (by omega) (w (by omega) g3)) (by omega) g6) (GC_ag (GC_ag gc1 (cg := σ3 (t + 4)) (fun i i0 i1 => g3.2.2.2 i (by omega))) (cg := σ5 (t + 4)) (fun i i0 i1 => p3 i (by omega))) p2
theorem c_ch0B {D1 : Nat} {kind pl : Int} (h1 : CBd T n t l mX3_readEither D1 [rv 271, iv o] p kind pl) : CBd T n t l mX3_readChoice (D1 + 1) [rv 271, iv o] p kind pl := by
  intro D' Q σ c hD s k
  obtain ⟨d, rfl⟩ : ∃ d, D' = d + 1 := ⟨D' - 1, by omega⟩
  exact c_X3_readChoice (h1 d _ σ c (by omega) s (fun σ1 f1 b2 b3 => ⟨inl (by decide), fun _ => k σ1 f1 b2 b3, fun z => absurd rfl z⟩))
theorem c_ch1B {D1 : Nat} {q1 : Int} {b : DT} (h0 : ob (GG t) t 8) (ht : 293 ≤ t) (tp : TP T n) (h1 : CGd T n t l mX3_readEither D1 [rv 271, iv o] p q1 K b) (hk : kT T n q1 ≠ 116) : CBd T n t l mX3_readChoice (D1 + 7) [rv 271, iv o] p 1 (plT T n q1) := by
  intro D' Q σ c hD s k
  obtain ⟨d, rfl⟩ : ∃ d, D' = d + 1 := ⟨D' - 1, by omega⟩
  exact ch_a h0 ht tp (by omega) (by omega) h1 s (fun _ => k) (fun z => absurd z hk)
theorem c_ch2B {D1 D2 : Nat} {q1 kind pl : Int} {b : DT} (h0 : ob (GG t) t 8) (ht : 293 ≤ t) (tp : TP T n) (h1 : CGd T n t l mX3_readEither D1 [rv 271, iv o] p q1 K b) (hk : kT T n q1 = 116) (h2 : CBd T n t l mX3_readSum D2 [rv 271, iv o] (nxT T n q1) kind pl) : CBd T n t l mX3_readChoice (max D1 D2 + 7) [rv 271, iv o] p kind pl := by
  intro D' Q σ c hD s k
  obtain ⟨d, rfl⟩ : ∃ d, D' = d + 1 := ⟨D' - 1, by omega⟩
  refine ch_a h0 ht tp (by omega) (by omega) h1 s (fun z => absurd hk z) (fun _ σ6 c1 s6 l1 l2 g6 gc6 e9 => ?_)
  unfold chR1
  exact h2 d _ σ6 (c1 + 1) (by omega) s6 (fun σ7 f7 b2 b3 => ⟨inl (by decide), fun _ => k σ7 (FrB_tr g6 (by omega) f7) b2 b3, fun z => absurd rfl z⟩)
theorem c_ch3B {D1 D2 : Nat} {q1 q2 : Int} {b f : DT} (h0 : ob (GG t) t 8) (ht : 293 ≤ t) (tp : TP T n) (h1 : CGd T n t l mX3_readEither D1 [rv 271, iv o] p q1 K b) (hk : kT T n q1 = 116) (h2 : CGd T n t l mX3_readSum D2 [rv 271, iv o] (nxT T n q1) q2 K f) (hk2 : kT T n q2 ≠ 117) : CBd T n t l mX3_readChoice (max D1 D2 + 7) [rv 271, iv o] p 1 (plT T n q2) := by
  intro D' Q σ c hD s k
  obtain ⟨d, rfl⟩ : ∃ d, D' = d + 1 := ⟨D' - 1, by omega⟩
  have s4 := s.2.2.2.1
  refine ch_a h0 ht tp (by omega) (by omega) h1 s (fun z => absurd hk z) (fun _ σ6 c1 s6 l1 l2 g6 gc6 e9 => ?_)
  exact ch_b h0 ht tp (by omega) (by omega) h2 s6 (by omega) e9 (fun _ σ7 f7 b2 b3 => k σ7 (FrB_tr g6 (by omega) f7) b2 b3) (fun z => absurd z hk2)
theorem c_ch4B {D1 D2 D3 : Nat} {q1 q2 kind pl : Int} {b f : DT} (h0 : ob (GG t) t 8) (ht : 293 ≤ t) (tp : TP T n) (h1 : CGd T n t l mX3_readEither D1 [rv 271, iv o] p q1 K b) (hk : kT T n q1 = 116) (h2 : CGd T n t l mX3_readSum D2 [rv 271, iv o] (nxT T n q1) q2 K f) (hk2 : kT T n q2 = 117) (h3 : CBd T n t l mX3_readSum D3 [rv 271, iv o] (nxT T n q2) kind pl) : CBd T n t l mX3_readChoice (max D1 (max D2 D3) + 7) [rv 271, iv o] p kind pl := by
  intro D' Q σ c hD s k
  obtain ⟨d, rfl⟩ : ∃ d, D' = d + 1 := ⟨D' - 1, by omega⟩
  have s4 := s.2.2.2.1
  refine ch_a h0 ht tp (by omega) (by omega) h1 s (fun z => absurd hk z) (fun _ σ6 c1 s6 l1 l2 g6 gc6 e9 => ?_)
  refine ch_b h0 ht tp (by omega) (by omega) h2 s6 (by omega) e9 (fun z => absurd hk2 z) (fun _ σ8 j s8 l3 l4 g8 gc8 e9' e8 => ?_)
  unfold chR2
  exact h3 d _ σ8 (j + 1) (by omega) s8 (fun σ9 f9 b2 b3 => ⟨inl (by decide), fun _ => k σ9 (FrB_tr (FrG_tr g6 (by omega) g8) (by omega) f9) b2 b3, fun z => absurd rfl z⟩)
theorem c_ch5B {D1 D2 D3 : Nat} {q1 q2 q3 : Int} {b f g : DT} (h0 : ob (GG t) t 8) (ht : 293 ≤ t) (tp : TP T n) (h1 : CGd T n t l mX3_readEither D1 [rv 271, iv o] p q1 K b) (hk : kT T n q1 = 116) (h2 : CGd T n t l mX3_readSum D2 [rv 271, iv o] (nxT T n q1) q2 K f) (hk2 : kT T n q2 = 117) (h3 : CGd T n t l mX3_readSum D3 [rv 271, iv o] (nxT T n q2) q3 K g) (hk3 : kT T n q3 ≠ 118) : CBd T n t l mX3_readChoice (max D1 (max D2 D3) + 7) [rv 271, iv o] p 1 (plT T n q3) := by
  intro D' Q σ c hD s k
  obtain ⟨d, rfl⟩ : ∃ d, D' = d + 1 := ⟨D' - 1, by omega⟩
  have s4 := s.2.2.2.1
  refine ch_a h0 ht tp (by omega) (by omega) h1 s (fun z => absurd hk z) (fun _ σ6 c1 s6 l1 l2 g6 gc6 e9 => ?_)
  refine ch_b h0 ht tp (by omega) (by omega) h2 s6 (by omega) e9 (fun z => absurd hk2 z) (fun _ σ8 j s8 l3 l4 g8 gc8 e9' e8 => ?_)
  exact ch_c h0 ht tp (by omega) (by omega) h3 s8 (by omega) e8 (fun _ σ9 f9 b2 b3 => k σ9 (FrB_tr (FrG_tr g6 (by omega) g8) (by omega) f9) b2 b3) (fun z => absurd z hk3)
theorem c_choice {D1 D2 D3 : Nat} {q1 q2 q3 : Int} {b f g : DT} (h0 : ob (GG t) t 8) (ht : 293 ≤ t) (tp : TP T n) (h1 : CGd T n t l mX3_readEither D1 [rv 271, iv o] p q1 K b) (hk : kT T n q1 = 116) (h2 : CGd T n t l mX3_readSum D2 [rv 271, iv o] (nxT T n q1) q2 K f) (hk2 : kT T n q2 = 117) (h3 : CGd T n t l mX3_readSum D3 [rv 271, iv o] (nxT T n q2) q3 K g) (hk3 : kT T n q3 = 118) : CGd T n t l mX3_readChoice (max D1 (max D2 D3) + 7) [rv 271, iv o] p (nxT T n q3) K (fun r x => if b r x = 0 then g r x else f r x) := by
  intro D' Q σ c hD s k
  obtain ⟨d, rfl⟩ : ∃ d, D' = d + 1 := ⟨D' - 1, by omega⟩
  have s4 := s.2.2.2.1
  have t0 := tp.1
  refine ch_a h0 ht tp (by omega) (by omega) h1 s (fun z => absurd hk z) (fun _ σ6 c1 s6 l1 l2 g6 gc6 e9 => ?_)
  refine ch_b h0 ht tp (by omega) (by omega) h2 s6 (by omega) e9 (fun z => absurd hk2 z) (fun _ σ8 j s8 l3 l4 g8 gc8 e9' e8 => ?_)
  refine ch_c h0 ht tp (by omega) (by omega) h3 s8 (by omega) e8 (fun z => absurd hk3 z) (fun _ σ9 e s9 l5 l6 g9 gc9 e8' => ?_)
  have s92 := s9.2.1
  have s94 := s9.2.2.2.1
  refine k σ9 e s9 (by omega) (by omega) (FrG_tr (FrG_tr g6 (by omega) g8) (by omega) g9) ?_
  refine GC_if (u := c1) (j := j) s4.1 (by omega) (by omega) (by omega) (by omega) ?_ e8' ?_ ?_ gc9
  · rw [g9.2.2.2 c1 (by omega)]; exact e9'
  · exact GC_ag (GC_ag gc6 (cg := σ8 (t + 4)) (fun i i0 i1 => g8.2.2.2 i (by omega))) (cg := σ9 (t + 4)) (fun i i0 i1 => g9.2.2.2 i (by omega))
  · exact GC_ag gc8 (cg := σ9 (t + 4)) (fun i i0 i1 => g9.2.2.2 i (by omega))
end PG
