/-! ===== the class reads what is asked, and a choice ===== -/
def relC (k : Int) : Int := if k = 60 then 18 else if k = 3 then 19 else if k = 62 then 20 else if k = 4 then 21 else if k = 61 then 22 else if k = 35 then 23 else -1
theorem relC_in {k : Int} : relC k = -1 ∨ (18 ≤ relC k ∧ relC k ≤ 23) := by
  unfold relC
  repeat' split
  all_goals omega
section PF
variable {t : Int} {T : Int → Int} {n l p o K : Int}
theorem s_relation {d : Nat} {Q : Int → jM → Prop} {σ : jM} {c : Int} (tp : TP T n) (s : CSt T n t l σ p c) (h : Q (relC (kT T n p)) σ) : Ct mX3_relation d 0 t [rv 271] σ Q := by
  have e6 : σ 271 6 = kT T n p := s.1.2.1
  have ki := kT_in tp s.2.1
  refine c_X3_relation ?_
  rw [e6]
  refine ⟨rng (by omega) (by omega), fun z => ?_, fun z => ?_, fun z => ?_, fun z => ?_, fun z => ?_, fun z => ?_, fun z => ?_⟩
  · have e : relC (kT T n p) = -1 := by
      unfold relC
      rw [if_neg (by omega), if_neg (by omega), if_neg (by omega), if_neg (by omega), if_neg (by omega), if_neg (by omega)]
    rw [e] at h; exact h
  all_goals (rw [z] at h; exact h)
theorem c_ask {D1 D2 : Nat} {q1 q2 : Int} {f g : DT} (h0 : ob (GG t) t 8) (ht : 293 ≤ t) (tp : TP T n) (hk : kT T n p ≠ 121) (h1 : CGd T n t l mX3_readSum D1 [rv 271, iv o] p q1 K f) (hr : relC (kT T n q1) ≠ -1) (h2 : CGd T n t l mX3_readSum D2 [rv 271, iv o] (nxT T n q1) q2 (K + 1) g) : CGd T n t l mX3_readAsk (max (D1 + 1) (D2 + 6)) [rv 271, iv o] p q2 K (fun r x => cop2 (relC (kT T n q1)) (f r x) (g r x)) := by
  intro D' Q σ c hD s k
  obtain ⟨d, rfl⟩ : ∃ d, D' = d + 1 := ⟨D' - 1, by omega⟩
  have e6 : σ 271 6 = kT T n p := s.1.2.1
  have ki := kT_in tp s.2.1
  have t0 := tp.1
  have s4 := s.2.2.2.1
  have ri := relC_in (k := kT T n q1)
  refine c_X3_readAsk ?_
  rw [e6]
  refine ⟨rng (by omega) (by omega), fun _ => ?_, fun z => absurd z hk⟩
  refine h1 d _ σ c (by omega) s (fun σ1 c1 s1 l1 l2 g1 gc1 => ⟨inl (by decide), fun _ => ?_, fun z => absurd z (by decide)⟩)
  have k1 : kT T n q1 ≠ 0 := fun e => by rw [e] at hr; exact absurd rfl hr
  have a2 := (nx_in tp s1.2.1).2 k1
  refine s_relation tp s1 ⟨rng (by omega) (by omega), fun _ => ?_, fun z => absurd z hr⟩
  refine s_adv (by omega) ht tp s1 (fun σ2 s2 g2 _ => ?_)
  refine h2 d _ σ2 c1 (by omega) s2 (fun σ3 c3 s3 l3 l4 g3 gc3 => ⟨inl (by decide), fun _ => ⟨h0, ?_⟩, fun z => absurd z (by decide)⟩)
  have q2n := s3.2.1
  refine s_addCode h0 ht s3 (by omega) (by omega) (by omega) (fun σ4 f1 f2 f3 f4 f5 => ?_)
  obtain ⟨s5, g5⟩ := CSt_add (c0 := c3) (b' := q2) ht s3 (by omega) (by omega) f1 f2 f3 f5
  have gcA := GC_ag (GC_ag (GC_ag gc1 (cg := σ2 (t + 4)) (fun i i0 i1 => g2.2.2.2 i (by omega))) (cg := σ3 (t + 4)) (fun i i0 i1 => g3.2.2.2 i (by omega))) (cg := σ4 (t + 4)) (fun i i0 i1 => f5 i (by omega))
  have gcB := GC_ag gc3 (cg := σ4 (t + 4)) (fun i i0 i1 => f5 i (by omega))
  have gcC := GC_two (op := relC (kT T n q1)) s4.1 (by omega) (by omega) (by omega) (show σ4 (t + 4) c3 = relC (kT T n q1) by rw [f4]; omega) gcA gcB (fun z => by omega)
  exact k σ4 (c3 + 1) s5 (by omega) (by omega) (FrG_tr (FrG_tr (FrG_tr g1 (by omega) g2) (by omega) g3) (by omega) g5) gcC
theorem c_askB1 {D1 : Nat} {kind pl : Int} (tp : TP T n) (hk : kT T n p ≠ 121) (h1 : CBd T n t l mX3_readSum D1 [rv 271, iv o] p kind pl) : CBd T n t l mX3_readAsk (D1 + 1) [rv 271, iv o] p kind pl := by
  intro D' Q σ c hD s k
  obtain ⟨d, rfl⟩ : ∃ d, D' = d + 1 := ⟨D' - 1, by omega⟩
  have e6 : σ 271 6 = kT T n p := s.1.2.1
  have ki := kT_in tp s.2.1
  refine c_X3_readAsk ?_
  rw [e6]
  refine ⟨rng (by omega) (by omega), fun _ => ?_, fun z => absurd z hk⟩
  exact h1 d _ σ c (by omega) s (fun σ1 f1 b2 b3 => ⟨inl (by decide), fun z => absurd rfl z, fun _ => k σ1 f1 b2 b3⟩)
theorem c_askB2 {D1 : Nat} {q1 : Int} {f : DT} (ht : 293 ≤ t) (tp : TP T n) (hk : kT T n p ≠ 121) (h1 : CGd T n t l mX3_readSum D1 [rv 271, iv o] p q1 K f) (hr : relC (kT T n q1) = -1) : CBd T n t l mX3_readAsk (D1 + 1) [rv 271, iv o] p 1 (plT T n q1) := by
  intro D' Q σ c hD s k
  obtain ⟨d, rfl⟩ : ∃ d, D' = d + 1 := ⟨D' - 1, by omega⟩
  have e6 : σ 271 6 = kT T n p := s.1.2.1
  have ki := kT_in tp s.2.1
  refine c_X3_readAsk ?_
  rw [e6]
  refine ⟨rng (by omega) (by omega), fun _ => ?_, fun z => absurd z hk⟩
  refine h1 d _ σ c (by omega) s (fun σ1 c1 s1 l1 l2 g1 gc1 => ⟨inl (by decide), fun _ => ?_, fun z => absurd z (by decide)⟩)
  refine s_relation tp s1 ⟨rng (by omega) (by omega), fun z => absurd hr z, fun _ => ?_⟩
  exact s_failed ht s1 (fun σ2 f2 b2 b3 => ⟨Or.inl rfl, k σ2 (FrB_tr g1 (by omega) f2) b2 b3⟩)
theorem c_askB3 {D1 D2 : Nat} {q1 kind pl : Int} {f : DT} (ht : 293 ≤ t) (tp : TP T n) (hk : kT T n p ≠ 121) (h1 : CGd T n t l mX3_readSum D1 [rv 271, iv o] p q1 K f) (hr : relC (kT T n q1) ≠ -1) (h2 : CBd T n t l mX3_readSum D2 [rv 271, iv o] (nxT T n q1) kind pl) : CBd T n t l mX3_readAsk (max (D1 + 1) (D2 + 6)) [rv 271, iv o] p kind pl := by
  intro D' Q σ c hD s k
  obtain ⟨d, rfl⟩ : ∃ d, D' = d + 1 := ⟨D' - 1, by omega⟩
  have e6 : σ 271 6 = kT T n p := s.1.2.1
  have ki := kT_in tp s.2.1
  have ri := relC_in (k := kT T n q1)
  refine c_X3_readAsk ?_
  rw [e6]
  refine ⟨rng (by omega) (by omega), fun _ => ?_, fun z => absurd z hk⟩
  refine h1 d _ σ c (by omega) s (fun σ1 c1 s1 l1 l2 g1 gc1 => ⟨inl (by decide), fun _ => ?_, fun z => absurd z (by decide)⟩)
  refine s_relation tp s1 ⟨rng (by omega) (by omega), fun _ => ?_, fun z => absurd z hr⟩
  refine s_adv (by omega) ht tp s1 (fun σ2 s2 g2 _ => ?_)
  exact h2 d _ σ2 c1 (by omega) s2 (fun σ3 f3 b2 b3 => ⟨inl (by decide), fun z => absurd rfl z, fun _ => k σ3 (FrB_tr (FrG_tr g1 (by omega) g2) (by omega) f3) b2 b3⟩)
theorem c_not {D1 : Nat} {q : Int} {f : DT} (h0 : ob (GG t) t 8) (ht : 293 ≤ t) (tp : TP T n) (p0 : 0 ≤ p ∧ p ≤ n) (hk : kT T n p = 121) (ho : 0 ≤ o ∧ o < 8) (h1 : CGd T n t l mX3_readAsk D1 [rv 271, iv (o + 1)] (nxT T n p) q K f) (bf : B01 f) : CGd T n t l mX3_readAsk (D1 + 6) [rv 271, iv o] p q K (fun r x => cop1 r 13 (f r x)) := by
  intro D' Q σ c hD s k
  obtain ⟨d, rfl⟩ : ∃ d, D' = d + 1 := ⟨D' - 1, by omega⟩
  have e6 : σ 271 6 = 121 := s.1.2.1.trans hk
  have a2 := (nx_in tp p0).2 (by omega)
  have t0 := tp.1
  have s4 := s.2.2.2.1
  refine c_X3_readAsk ?_
  rw [e6]
  refine ⟨rng (by omega) (by omega), fun z => absurd rfl z, fun _ => ⟨rng (by omega) (by omega), fun _ => ?_, fun z => absurd z (by omega)⟩⟩
  refine s_adv (by omega) ht tp s (fun σ1 s1 g1 _ => ?_)
  refine h1 d _ σ1 c (by omega) s1 (fun σ2 c2 s2 l1 l2 g2 gc => ⟨inl (by decide), fun _ => ⟨h0, ?_⟩, fun z => absurd z (by decide)⟩)
  have q1 := s2.2.1
  refine s_addCode h0 ht s2 (by omega) (by omega) (by omega) (fun σ3 f1 f2 f3 f4 f5 => ?_)
  obtain ⟨s3, g3⟩ := CSt_add (c0 := c2) (b' := q) ht s2 (by omega) (by omega) f1 f2 f3 f5
  have gc3 := GC_ag gc (cg := σ3 (t + 4)) (fun i i0 i1 => f5 i (by omega))
  exact k σ3 (c2 + 1) s3 (by omega) (by omega) (FrG_tr (FrG_tr g1 (by omega) g2) (by omega) g3) (GC_one (op := 13) s4.1 (by omega) (by omega) (show σ3 (t + 4) c2 = 13 by rw [f4]; omega) gc3 (fun _ => bf))
theorem c_notB {D1 : Nat} {kind pl : Int} (ht : 293 ≤ t) (tp : TP T n) (hk : kT T n p = 121) (ho : 0 ≤ o ∧ o < 8) (h1 : CBd T n t l mX3_readAsk D1 [rv 271, iv (o + 1)] (nxT T n p) kind pl) : CBd T n t l mX3_readAsk (D1 + 6) [rv 271, iv o] p kind pl := by
  intro D' Q σ c hD s k
  obtain ⟨d, rfl⟩ : ∃ d, D' = d + 1 := ⟨D' - 1, by omega⟩
  have e6 : σ 271 6 = 121 := s.1.2.1.trans hk
  refine c_X3_readAsk ?_
  rw [e6]
  refine ⟨rng (by omega) (by omega), fun z => absurd rfl z, fun _ => ⟨rng (by omega) (by omega), fun _ => ?_, fun z => absurd z (by omega)⟩⟩
  refine s_adv (by omega) ht tp s (fun σ1 s1 g1 _ => ?_)
  exact h1 d _ σ1 c (by omega) s1 (fun σ2 f2 b2 b3 => ⟨inl (by decide), fun z => absurd rfl z, fun _ => k σ2 (FrB_tr g1 (by omega) f2) b2 b3⟩)
theorem c_notD (ht : 293 ≤ t) (tp : TP T n) (hk : kT T n p = 121) (ho : o = 8) : CBd T n t l mX3_readAsk 2 [rv 271, iv o] p 3 (plT T n p) := by
  intro D' Q σ c hD s k
  obtain ⟨d, rfl⟩ : ∃ d, D' = d + 1 := ⟨D' - 1, by omega⟩
  have e6 : σ 271 6 = 121 := s.1.2.1.trans hk
  refine c_X3_readAsk ?_
  rw [e6]
  refine ⟨rng (by omega) (by omega), fun z => absurd rfl z, fun _ => ⟨rng (by omega) (by omega), fun z => absurd z (by omega), fun _ => ?_⟩⟩
  exact s_failed ht s (fun σ' f a b => ⟨Or.inl rfl, k σ' f a b⟩)
theorem s_land {d : Nat} {Q : Int → jM → Prop} {σ : jM} {c u op b : Int} (h0 : ob (GG t) t 8) (ht : 293 ≤ t) (s : CSb T n t l b σ p c) (hu : 0 ≤ u ∧ u < c) (hc : c ≤ 300) (o0 : 0 ≤ op ∧ op < 32) (eu : σ (t + 4) u = op) (k : ∀ σ', (∀ y, y ≠ t + 4 → σ' y = σ y) → σ' (t + 4) u = 32 * c + op → (∀ i, i ≠ u → σ' (t + 4) i = σ (t + 4) i) → Q 0 σ') : Ct mX8_landHere d 9 t [rv t, iv u] σ Q := by
  have s3 : σ t 7 = c := s.2.2.1
  have bo : i_and op 31 = op := by
    have := (bit_op (op := op) (x := 0) (by omega) (by omega)).1
    rw [show (32 * 0 + op : Int) = op by omega] at this
    exact this
  refine c_X8_landHere h0 ?_
  rw [s3, eu, bo, i_add5 (by omega) o0]
  refine ⟨rng (by omega) (by omega), fun z => absurd z (by omega), fun _ => ⟨rng (by omega) (by omega), rng (by omega) (by omega), fun z => absurd z (by omega), fun _ => ⟨by omega, by omega, fun σ5 e5 => ?_⟩⟩⟩
  refine k σ5 (fun y h => by rw [e5, up_row h]) (by rw [e5, up_at]) (fun i hi => by rw [e5, up_ne (Or.inr hi)])
/-- after a landing -/
theorem CSt_land {q c u b : Int} {σ σ' : jM} (ht : 293 ≤ t) (s : CSb T n t l b σ q c) (f1 : ∀ y, y ≠ t + 4 → σ' y = σ y) (f5 : ∀ i, i ≠ u → σ' (t + 4) i = σ (t + 4) i) : CSb T n t l b σ' q c ∧ FrG t u σ σ' := by
  obtain ⟨s1, s2, s3, s4, s5⟩ := s
  have e271 : σ' 271 = σ 271 := f1 271 (by omega)
  have e272 : σ' 272 = σ 272 := f1 272 (by omega)
  have et : σ' t = σ t := f1 t (by omega)
  refine ⟨⟨?_, s2, by rw [et]; exact s3, s4, by rw [e271]; exact s5⟩, fun x _ _ h3 => f1 x h3, fun j _ => by rw [e271], fun j _ => by rw [et], fun i hi => f5 i (by omega)⟩
  unfold CT CQ tapeC at s1 ⊢
  rw [e271, e272]
  exact s1
end PF
