/-! ===== the class reads one ===== -/
theorem nm_in {T : Int → Int} {n p : Int} (tp : TP T n) (p0 : 0 ≤ p ∧ p ≤ n) : 0 ≤ nmT T n p ∧ nmT T n p ≤ 999999 := by
  have pl := pl_in tp p0
  obtain ⟨u1, u2, u3⟩ := rnE_spec (T := T) (n := n) (p := plT T n p) isDg_1 tp.1.2 (by omega) pl.2
  refine (dmA_in (T := T) (p := plT T n p) (rnE isDg T n (plT T n p) - plT T n p).toNat (fun i hi => ?_)).1
  have := u2 (plT T n p + i) (by omega) (by omega)
  rw [btA_eq (by omega)] at this
  simpa [isDg] using this
section PD
variable {t : Int} {T : Int → Int} {n l p o K : Int}
theorem c_one_num (h0 : ob (GG t) t 8) (ht : 293 ≤ t) (tp : TP T n) (hk : kT T n p = 1) (hm : nmT T n p ≤ 9999) (hK : K ≤ 63) : CGd T n t l mX3_readOne 7 [rv 271, iv o] p (nxT T n p) K (fun _ _ => nmT T n p) := by
  intro D' Q σ c hD s k
  obtain ⟨d, rfl⟩ : ∃ d, D' = d + 1 := ⟨D' - 1, by omega⟩
  have e6 : σ 271 6 = 1 := s.1.2.1.trans hk
  have e9 : σ 271 9 = min 10000 (nmT T n p) := s.1.2.2.2.2 hk
  have nn := nm_in tp s.2.1
  have a2 := (nx_in tp s.2.1).2 (by omega)
  have s4 := s.2.2.2.1
  have t0 := tp.1
  refine c_X3_readOne ?_
  rw [e6]
  refine ⟨rng (by omega) (by omega), fun z => absurd rfl z, fun _ => ⟨h0, ?_⟩⟩
  rw [e9, show min 10000 (nmT T n p) = nmT T n p by omega]
  refine s_addCode h0 ht s (by omega) (by omega) (by omega) (fun σ1 f1 f2 f3 f4 f5 => ?_)
  obtain ⟨s1, g1⟩ := CSt_add (c0 := c) (b' := p + 1) ht s (by omega) (by omega) f1 f2 f3 f5
  refine c_takeNumber ht tp (inl (by decide)) (inl (by decide)) (by omega) (by omega) s1 (fun _ => by omega) (fun _ _ _ σ2 s2 g2 => ⟨Or.inr rfl, ?_⟩) (fun _ z => by omega) (fun z => absurd hk z) (by omega)
  refine k σ2 (c + 1) s2 (by omega) (by omega) (FrG_tr g1 (by omega) g2) (GC_push s4.1 hK (by omega) ?_)
  rw [g2.2.2.2 c (by omega), f4]
  omega
theorem c_one_big (h0 : ob (GG t) t 8) (ht : 293 ≤ t) (tp : TP T n) (hk : kT T n p = 1) (hm : 9999 < nmT T n p) : CBd T n t l mX3_readOne 7 [rv 271, iv o] p 2 (plT T n p) := by
  intro D' Q σ c hD s k
  obtain ⟨d, rfl⟩ : ∃ d, D' = d + 1 := ⟨D' - 1, by omega⟩
  have e6 : σ 271 6 = 1 := s.1.2.1.trans hk
  have e9 : σ 271 9 = min 10000 (nmT T n p) := s.1.2.2.2.2 hk
  have nn := nm_in tp s.2.1
  have a2 := (nx_in tp s.2.1).2 (by omega)
  have s4 := s.2.2.2.1
  have t0 := tp.1
  refine c_X3_readOne ?_
  rw [e6]
  refine ⟨rng (by omega) (by omega), fun z => absurd rfl z, fun _ => ⟨h0, ?_⟩⟩
  rw [e9]
  refine s_addCode h0 ht s (by omega) (by omega) (by omega) (fun σ1 f1 f2 f3 f4 f5 => ?_)
  obtain ⟨s1, g1⟩ := CSt_add (c0 := c) (b' := p + 1) ht s (by omega) (by omega) f1 f2 f3 f5
  exact c_takeNumber ht tp (inl (by decide)) (inl (by decide)) (by omega) (by omega) s1 (fun _ => by omega) (fun _ _ _ => by omega) (fun _ _ σ2 g2 b2 b3 => ⟨Or.inl rfl, k σ2 (FrB_tr g1 (by omega) g2) b2 b3⟩) (fun z => absurd hk z) (by omega)
theorem c_name {D' : Nat} {Q : Int → jM → Prop} {σ : jM} {c : Int} (hD : 6 ≤ D') (h0 : ob (GG t) t 8) (ht : 293 ≤ t) (tp : TP T n) (hk : 106 ≤ kT T n p ∧ kT T n p ≤ 112) (hl : l = 0 ∨ l = 1) (hn : kT T n p ≠ (if l = 0 then 112 else 111)) (hK : K ≤ 63) (s : CSt T n t l σ p c) (k : ∀ σ' c', CSt T n t l σ' (nxT T n p) c' → c < c' → c' - c ≤ nxT T n p - p → FrG t c σ σ' → GC (σ' (t + 4)) c c' K (fun r x => nmV r x (kT T n p - 105)) → Q 1 σ') : Ct mX3_readName D' 0 t [rv 271] σ Q := by
  obtain ⟨d, rfl⟩ : ∃ d, D' = d + 1 := ⟨D' - 1, by omega⟩
  have e6 : σ 271 6 = kT T n p := s.1.2.1
  have e5 : σ 271 5 = l := s.2.2.2.2
  have a2 := (nx_in tp s.2.1).2 (by omega)
  have s4 := s.2.2.2.1
  have t0 := tp.1
  have go : Ct mX8_addCode d 9 t [rv t, iv (kT T n p - 106 + 1), iv 0] σ (fun r3 σ3 => Ct mX3_advance d 9 t [rv 271] σ3 (fun r5 σ5 => Q 1 σ5)) := by
    refine s_addCode h0 ht s (by omega) (by omega) (by omega) (fun σ1 f1 f2 f3 f4 f5 => ?_)
    obtain ⟨s1, g1⟩ := CSt_add (c0 := c) (b' := p + 1) ht s (by omega) (by omega) f1 f2 f3 f5
    refine s_advB (by omega) ht tp s1 (by omega) (fun σ2 s2 g2 _ => ?_)
    refine k σ2 (c + 1) s2 (by omega) (by omega) (FrG_tr g1 (by omega) g2) (GC_name s4.1 hK (by omega) ?_)
    rw [g2.2.2.2 c (by omega), f4]
    omega
  refine c_X3_readName ?_
  rw [e5, e6]
  refine ⟨rng (by omega) (by omega), fun z => ?_, fun z => ?_⟩
  · rw [if_neg z] at hn
    exact ⟨rng (by omega) (by omega), fun _ => ⟨h0, go⟩, fun y => absurd y hn⟩
  · rw [if_pos z] at hn
    exact ⟨rng (by omega) (by omega), fun _ => ⟨h0, go⟩, fun y => absurd y hn⟩
theorem c_one_name (h0 : ob (GG t) t 8) (ht : 293 ≤ t) (tp : TP T n) (hk : 106 ≤ kT T n p ∧ kT T n p ≤ 112) (hl : l = 0 ∨ l = 1) (hn : kT T n p ≠ (if l = 0 then 112 else 111)) (hK : K ≤ 63) : CGd T n t l mX3_readOne 7 [rv 271, iv o] p (nxT T n p) K (fun r x => nmV r x (kT T n p - 105)) := by
  intro D' Q σ c hD s k
  obtain ⟨d, rfl⟩ : ∃ d, D' = d + 1 := ⟨D' - 1, by omega⟩
  have e6 : σ 271 6 = kT T n p := s.1.2.1
  have kr : inR (kT T n p) := rng (by omega) (by omega)
  refine c_X3_readOne ?_
  rw [e6]
  exact ⟨kr, fun _ => ⟨kr, fun z => absurd z (by omega), fun _ => ⟨kr, fun z => absurd z (by omega), fun _ => c_name (K := K) (by omega) h0 ht tp hk hl hn hK s (fun σ' c' a1 a2 a3 a4 a5 => ⟨Or.inr rfl, k σ' c' a1 a2 a3 a4 a5⟩)⟩⟩, fun z => absurd z (by omega)⟩
theorem c_one_other (ht : 293 ≤ t) (tp : TP T n) (hk : 106 ≤ kT T n p ∧ kT T n p ≤ 112) (hl : l = 0 ∨ l = 1) (hn : kT T n p = (if l = 0 then 112 else 111)) : CBd T n t l mX3_readOne 7 [rv 271, iv o] p 5 (plT T n p) := by
  intro D' Q σ c hD s k
  obtain ⟨d, rfl⟩ : ∃ d, D' = d + 1 + 1 := ⟨D' - 2, by omega⟩
  have e6 : σ 271 6 = kT T n p := s.1.2.1
  have e5 : σ 271 5 = l := s.2.2.2.2
  have kr : inR (kT T n p) := rng (by omega) (by omega)
  refine c_X3_readOne ?_
  rw [e6]
  refine ⟨kr, fun _ => ⟨kr, fun z => absurd z (by omega), fun _ => ⟨kr, fun z => absurd z (by omega), fun _ => ?_⟩⟩, fun z => absurd z (by omega)⟩
  refine c_X3_readName ?_
  rw [e5, e6]
  have fin : Ct mX3_failed d 0 t [rv 271, iv 5] σ (fun r6 σ6 => (r6 = 0 ∨ r6 = 1) ∧ ((r6 = 0 ∨ r6 = 1) ∧ Q r6 σ6)) := s_failed ht s (fun σ' f a b => ⟨Or.inl rfl, Or.inl rfl, k σ' f a b⟩)
  refine ⟨rng (by omega) (by omega), fun z => ⟨kr, fun y => ?_, fun _ => fin⟩, fun z => ⟨kr, fun y => ?_, fun _ => fin⟩⟩
  · rw [if_neg z] at hn
    exact absurd hn y
  · rw [if_pos z] at hn
    exact absurd hn y
def isOpen (k : Int) : Prop := k = 40 ∨ k = 115 ∨ k = 45 ∨ k = 113 ∨ k = 114
theorem c_one_103 {d : Nat} {Q : Int → jM → Prop} {σ : jM} {c : Int} (tp : TP T n) (hk : isOpen (kT T n p)) (s : CSt T n t l σ p c) (h : Jt mX3_readOne (d + 1) 0 t Q 103 [rv 271, iv o, uv] [] σ) : Ct mX3_readOne (d + 1) 0 t [rv 271, iv o] σ Q := by
  have e6 : σ 271 6 = kT T n p := s.1.2.1
  unfold isOpen at hk
  have kr : inR (kT T n p) := rng (by omega) (by omega)
  refine c_X3_readOne ?_
  rw [e6]
  refine ⟨kr, fun _ => ⟨kr, fun _ => ?_, fun _ => ⟨kr, fun _ => ?_, fun z => absurd z (by omega)⟩⟩, fun z => absurd z (by omega)⟩
  · exact ⟨kr, fun _ => h, fun z1 => ⟨kr, fun _ => h, fun z2 => ⟨kr, fun _ => h, fun z3 => ⟨kr, fun _ => h, fun z4 => ⟨kr, fun _ => h, fun z5 => by omega⟩⟩⟩⟩⟩
  · exact ⟨kr, fun _ => h, fun z1 => ⟨kr, fun _ => h, fun z2 => ⟨kr, fun _ => h, fun z3 => ⟨kr, fun _ => h, fun z4 => ⟨kr, fun _ => h, fun z5 => by omega⟩⟩⟩⟩⟩
theorem c_one_none (ht : 293 ≤ t) (tp : TP T n) (h1 : kT T n p ≠ 1) (h2 : ¬ (106 ≤ kT T n p ∧ kT T n p ≤ 112)) (h3 : ¬ isOpen (kT T n p)) : CBd T n t l mX3_readOne 7 [rv 271, iv o] p 1 (plT T n p) := by
  intro D' Q σ c hD s k
  obtain ⟨d, rfl⟩ : ∃ d, D' = d + 1 := ⟨D' - 1, by omega⟩
  have e6 : σ 271 6 = kT T n p := s.1.2.1
  have ki := kT_in tp s.2.1
  have kr : inR (kT T n p) := rng (by omega) (by omega)
  unfold isOpen at h3
  refine c_X3_readOne ?_
  rw [e6]
  have fin : Ct mX3_failed d 0 t [rv 271, iv 1] σ (fun r6 σ6 => (r6 = 0 ∨ r6 = 1) ∧ Q r6 σ6) := s_failed ht s (fun σ' f a b => ⟨Or.inl rfl, k σ' f a b⟩)
  refine ⟨kr, fun _ => ⟨kr, fun _ => ?_, fun _ => ⟨kr, fun _ => ?_, fun z => absurd z (by omega)⟩⟩, fun z => absurd z (by omega)⟩
  · exact ⟨kr, fun z => absurd z (by omega), fun z1 => ⟨kr, fun z => absurd z (by omega), fun z2 => ⟨kr, fun z => absurd z (by omega), fun z3 => ⟨kr, fun z => absurd z (by omega), fun z4 => ⟨kr, fun z => absurd z (by omega), fun _ => fin⟩⟩⟩⟩⟩
  · exact ⟨kr, fun z => absurd z (by omega), fun z1 => ⟨kr, fun z => absurd z (by omega), fun z2 => ⟨kr, fun z => absurd z (by omega), fun z3 => ⟨kr, fun z => absurd z (by omega), fun z4 => ⟨kr, fun z => absurd z (by omega), fun _ => fin⟩⟩⟩⟩⟩
theorem c_one_deep (ht : 293 ≤ t) (tp : TP T n) (hk : isOpen (kT T n p)) (ho : o = 8) : CBd T n t l mX3_readOne 7 [rv 271, iv o] p 3 (plT T n p) := by
  intro D' Q σ c hD s k
  obtain ⟨d, rfl⟩ : ∃ d, D' = d + 1 := ⟨D' - 1, by omega⟩
  refine c_one_103 tp hk s (b_X3_readOne_103 ⟨rng (by omega) (by omega), fun z => absurd z (by omega), fun _ => ?_⟩)
  exact s_failed ht s (fun σ' f a b => ⟨Or.inl rfl, k σ' f a b⟩)
/-- a sum in brackets -/
theorem c_one_par {D : Nat} {q : Int} {f : DT} (ht : 293 ≤ t) (tp : TP T n) (p0 : 0 ≤ p ∧ p ≤ n) (hk : kT T n p = 40) (ho : 0 ≤ o ∧ o < 8) (h : CGd T n t l mX3_readSum D [rv 271, iv (o + 1)] (nxT T n p) q K f) : (kT T n q = 41 → CGd T n t l mX3_readOne (D + 7) [rv 271, iv o] p (nxT T n q) K f) ∧ (kT T n q ≠ 41 → CBd T n t l mX3_readOne (D + 7) [rv 271, iv o] p 1 (plT T n q)) := by
  have a2 := (nx_in tp p0).2 (by omega)
  constructor
  · intro hq D' Q σ c hD s k
    obtain ⟨d, rfl⟩ : ∃ d, D' = d + 1 := ⟨D' - 1, by omega⟩
    have e6 : σ 271 6 = 40 := s.1.2.1.trans hk
    refine c_one_103 tp (Or.inl hk) s (b_X3_readOne_103 ?_)
    rw [e6]
    refine ⟨rng (by omega) (by omega), fun _ => s_adv (by omega) ht tp s (fun σ1 s1 g1 _ => ⟨inl (by decide), fun z => absurd rfl z, fun _ => ?_⟩), fun z => absurd z (by omega)⟩
    refine h d _ σ1 c (by omega) s1 (fun σ2 c2 s2 l1 l2 g2 gc => ⟨inl (by decide), fun z => absurd z (by decide), fun _ => ?_⟩)
    have b2 := (nx_in tp s2.2.1).1
    refine c_take ht tp (inl (by decide)) (by omega) s2 (fun _ σ3 s3 g3 => ⟨inl (by decide), fun z => absurd z (by decide), fun _ => ?_⟩) (fun z => absurd hq z)
    refine b_X3_readOne_154 ⟨Or.inr rfl, k σ3 c2 s3 (by omega) (by omega) (FrG_tr (FrG_tr g1 (by omega) g2) (by omega) g3) (GC_ag gc (fun i i0 i1 => g3.2.2.2 i (by omega)))⟩
  · intro hq D' Q σ c hD s k
    obtain ⟨d, rfl⟩ : ∃ d, D' = d + 1 := ⟨D' - 1, by omega⟩
    have e6 : σ 271 6 = 40 := s.1.2.1.trans hk
    refine c_one_103 tp (Or.inl hk) s (b_X3_readOne_103 ?_)
    rw [e6]
    refine ⟨rng (by omega) (by omega), fun _ => s_adv (by omega) ht tp s (fun σ1 s1 g1 _ => ⟨inl (by decide), fun z => absurd rfl z, fun _ => ?_⟩), fun z => absurd z (by omega)⟩
    refine h d _ σ1 c (by omega) s1 (fun σ2 c2 s2 l1 l2 g2 gc => ⟨inl (by decide), fun z => absurd z (by decide), fun _ => ?_⟩)
    refine c_take ht tp (inl (by decide)) (by omega) s2 (fun z => absurd z hq) (fun _ σ3 f3 b2 b3 => ⟨inl (by decide), fun _ => ?_, fun z => absurd rfl z⟩)
    exact b_X3_readOne_153 (b_X3_readOne_154 ⟨Or.inl rfl, k σ3 (FrB_tr (FrG_tr g1 (by omega) g2) (by omega) f3) b2 b3⟩)
theorem c_one_parB {D : Nat} {kind pl : Int} (ht : 293 ≤ t) (tp : TP T n) (hk : kT T n p = 40) (ho : 0 ≤ o ∧ o < 8) (h : CBd T n t l mX3_readSum D [rv 271, iv (o + 1)] (nxT T n p) kind pl) : CBd T n t l mX3_readOne (D + 7) [rv 271, iv o] p kind pl := by
  intro D' Q σ c hD s k
  obtain ⟨d, rfl⟩ : ∃ d, D' = d + 1 := ⟨D' - 1, by omega⟩
  have e6 : σ 271 6 = 40 := s.1.2.1.trans hk
  refine c_one_103 tp (Or.inl hk) s (b_X3_readOne_103 ?_)
  rw [e6]
  refine ⟨rng (by omega) (by omega), fun _ => s_adv (by omega) ht tp s (fun σ1 s1 g1 _ => ⟨inl (by decide), fun z => absurd rfl z, fun _ => ?_⟩), fun z => absurd z (by omega)⟩
  refine h d _ σ1 c (by omega) s1 (fun σ2 f2 b2 b3 => ⟨inl (by decide), fun _ => ?_, fun z => absurd rfl z⟩)
  exact b_X3_readOne_153 (b_X3_readOne_154 ⟨Or.inl rfl, k σ2 (FrB_tr g1 (by omega) f2) b2 b3⟩)
theorem c_one_if {D : Nat} {q : Int} {f : DT} (ht : 293 ≤ t) (tp : TP T n) (p0 : 0 ≤ p ∧ p ≤ n) (hk : kT T n p = 115) (ho : 0 ≤ o ∧ o < 8) (h : CGd T n t l mX3_readChoice D [rv 271, iv (o + 1)] (nxT T n p) q K f) : CGd T n t l mX3_readOne (D + 7) [rv 271, iv o] p q K f := by
  intro D' Q σ c hD s k
  obtain ⟨d, rfl⟩ : ∃ d, D' = d + 1 := ⟨D' - 1, by omega⟩
  have a2 := (nx_in tp p0).2 (by omega)
  have e6 : σ 271 6 = 115 := s.1.2.1.trans hk
  refine c_one_103 tp (Or.inr (Or.inl hk)) s (b_X3_readOne_103 ?_)
  rw [e6]
  refine ⟨rng (by omega) (by omega), fun _ => s_adv (by omega) ht tp s (fun σ1 s1 g1 _ => ⟨inl (by decide), fun _ => ⟨inl (by decide), fun z => absurd rfl z, fun _ => ?_⟩, fun z => absurd z (by decide)⟩), fun z => absurd z (by omega)⟩
  exact h d _ σ1 c (by omega) s1 (fun σ2 c2 s2 l1 l2 g2 gc => ⟨Or.inr rfl, k σ2 c2 s2 l1 (by omega) (FrG_tr g1 (by omega) g2) gc⟩)
theorem c_one_ifB {D : Nat} {kind pl : Int} (ht : 293 ≤ t) (tp : TP T n) (hk : kT T n p = 115) (ho : 0 ≤ o ∧ o < 8) (h : CBd T n t l mX3_readChoice D [rv 271, iv (o + 1)] (nxT T n p) kind pl) : CBd T n t l mX3_readOne (D + 7) [rv 271, iv o] p kind pl := by
  intro D' Q σ c hD s k
  obtain ⟨d, rfl⟩ : ∃ d, D' = d + 1 := ⟨D' - 1, by omega⟩
  have e6 : σ 271 6 = 115 := s.1.2.1.trans hk
  refine c_one_103 tp (Or.inr (Or.inl hk)) s (b_X3_readOne_103 ?_)
  rw [e6]
  refine ⟨rng (by omega) (by omega), fun _ => s_adv (by omega) ht tp s (fun σ1 s1 g1 _ => ⟨inl (by decide), fun _ => ⟨inl (by decide), fun z => absurd rfl z, fun _ => ?_⟩, fun z => absurd z (by decide)⟩), fun z => absurd z (by omega)⟩
  exact h d _ σ1 c (by omega) s1 (fun σ2 f2 b2 b3 => ⟨Or.inl rfl, k σ2 (FrB_tr g1 (by omega) f2) b2 b3⟩)
/-- the step of a sign or word ahead of one -/
def unC (k : Int) : Int := if k = 45 then 10 else if k = 113 then 11 else 12
theorem c_one_un {D : Nat} {q : Int} {f : DT} (h0 : ob (GG t) t 8) (ht : 293 ≤ t) (tp : TP T n) (p0 : 0 ≤ p ∧ p ≤ n) (hk : kT T n p = 45 ∨ kT T n p = 113 ∨ kT T n p = 114) (ho : 0 ≤ o ∧ o < 8) (h : CGd T n t l mX3_readOne D [rv 271, iv (o + 1)] (nxT T n p) q K f) : CGd T n t l mX3_readOne (D + 7) [rv 271, iv o] p q K (fun r x => cop1 r (unC (kT T n p)) (f r x)) := by
  intro D' Q σ c hD s k
  obtain ⟨d, rfl⟩ : ∃ d, D' = d + 1 := ⟨D' - 1, by omega⟩
  have a2 := (nx_in tp p0).2 (by omega)
  have t0 := tp.1
  have e6 : σ 271 6 = kT T n p := s.1.2.1
  have kr : inR (kT T n p) := rng (by omega) (by omega)
  have s4 := s.2.2.2.1
  refine c_one_103 tp (by unfold isOpen; omega) s (b_X3_readOne_103 ?_)
  rw [e6]
  refine ⟨rng (by omega) (by omega), fun _ => s_adv (by omega) ht tp s (fun σ1 s1 g1 _ => ⟨kr, fun _ => ⟨kr, fun _ => ?_, fun z => absurd z (by omega)⟩, fun z => absurd z (by omega)⟩), fun z => absurd z (by omega)⟩
  refine h d _ σ1 c (by omega) s1 (fun σ2 c2 s2 l1 l2 g2 gc => ⟨inl (by decide), fun _ => ?_, fun z => absurd z (by decide)⟩)
  have q1 := s2.2.1
  have fin : ∀ op, op = unC (kT T n p) → Jt mX3_readOne (d + 1) 0 t Q 209 [rv 271, iv o, iv (kT T n p)] [iv op, rv t] σ2 := fun op eo => by
    have o1 : 10 ≤ op ∧ op ≤ 12 := by
      rw [eo]
      unfold unC
      split
      · omega
      · split <;> omega
    refine b_X3_readOne_209 ⟨h0, s_addCode h0 ht s2 (by omega) (by omega) (by omega) (fun σ3 f1 f2 f3 f4 f5 => ?_)⟩
    obtain ⟨s3, g3⟩ := CSt_add (c0 := c2) (b' := q) ht s2 (by omega) (by omega) f1 f2 f3 f5
    have gc3 := GC_ag gc (cg := σ3 (t + 4)) (fun i i0 i1 => f5 i (by omega))
    have fin := GC_one (op := op) s4.1 (by omega) (by omega) (show σ3 (t + 4) c2 = op by rw [f4]; omega) gc3 (fun z => by omega)
    rw [eo] at fin
    exact k σ3 (c2 + 1) s3 (by omega) (by omega) (FrG_tr (FrG_tr g1 (by omega) g2) (by omega) g3) fin
  refine ⟨kr, fun z => ⟨kr, fun y => fin 12 ?_, fun y => fin 11 ?_⟩, fun z => fin 10 ?_⟩
  · unfold unC; rw [if_neg z, if_neg y]
  · unfold unC; rw [if_neg z, if_pos y]
  · unfold unC; rw [if_pos z]
theorem c_one_unB {D : Nat} {kind pl : Int} (ht : 293 ≤ t) (tp : TP T n) (hk : kT T n p = 45 ∨ kT T n p = 113 ∨ kT T n p = 114) (ho : 0 ≤ o ∧ o < 8) (h : CBd T n t l mX3_readOne D [rv 271, iv (o + 1)] (nxT T n p) kind pl) : CBd T n t l mX3_readOne (D + 7) [rv 271, iv o] p kind pl := by
  intro D' Q σ c hD s k
  obtain ⟨d, rfl⟩ : ∃ d, D' = d + 1 := ⟨D' - 1, by omega⟩
  have e6 : σ 271 6 = kT T n p := s.1.2.1
  have kr : inR (kT T n p) := rng (by omega) (by omega)
  refine c_one_103 tp (by unfold isOpen; omega) s (b_X3_readOne_103 ?_)
  rw [e6]
  refine ⟨rng (by omega) (by omega), fun _ => s_adv (by omega) ht tp s (fun σ1 s1 g1 _ => ⟨kr, fun _ => ⟨kr, fun _ => ?_, fun z => absurd z (by omega)⟩, fun z => absurd z (by omega)⟩), fun z => absurd z (by omega)⟩
  exact h d _ σ1 c (by omega) s1 (fun σ2 f2 b2 b3 => ⟨inl (by decide), fun z => absurd rfl z, fun _ => k σ2 (FrB_tr g1 (by omega) f2) b2 b3⟩)
end PD
