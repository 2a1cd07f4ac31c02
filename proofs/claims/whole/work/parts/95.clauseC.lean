/-! ===== a text's clauses: the class ===== -/
/-- the two laws of a text: 0 tires, 1 price -/
abbrev LD : Type := Int → Option DT
def upD (D : LD) (l : Int) (f : DT) : LD := fun i => if i = l then some f else D i
def clC (σ : jM) (t m : Int) (S F G : Int → Int) : Prop := σ t 6 = m ∧ ∀ j, 0 ≤ j → j < m → (σ (t + 1) j = kindOf (S j) ∧ (2 ≤ S j → σ (t + 2) j = F j) ∧ (S j = 2 → σ (t + 3) j = G j))
def lwC (σ : jM) (t c l : Int) : Option DT → Prop
  | none => σ (t + 5) l = -1
  | some f => (0 ≤ σ (t + 5) l ∧ σ (t + 5) l ≤ σ (t + 6) l ∧ σ (t + 6) l ≤ c) ∧ GC (σ (t + 4)) (σ (t + 5) l) (σ (t + 6) l) 0 f
def CI (T : Int → Int) (n t : Int) (σ : jM) (p m : Int) (S F G : Int → Int) (D : LD) : Prop := CT σ T n p ∧ (0 ≤ p ∧ p ≤ n) ∧ (0 ≤ σ t 7 ∧ σ t 7 ≤ p) ∧ clC σ t m S F G ∧ ∀ i, i = 0 ∨ i = 1 → lwC σ t (σ t 7) i (D i)
def FrC (t : Int) (σ σ' : jM) : Prop := (∀ x, x ≠ 271 → (x < t ∨ t + 6 < x) → σ' x = σ x) ∧ (∀ j, (j < 2 ∨ j = 4 ∨ 9 < j) → σ' 271 j = σ 271 j)
def kpC (σ σ' : jM) : Prop := σ' 271 2 = σ 271 2 ∧ σ' 271 3 = σ 271 3
theorem FrC_rf {t : Int} {σ : jM} : FrC t σ σ := ⟨fun _ _ _ => rfl, fun _ _ => rfl⟩
theorem FrC_tr {t : Int} {σ σ1 σ2 : jM} (a : FrC t σ σ1) (b : FrC t σ1 σ2) : FrC t σ σ2 := ⟨fun x h1 h2 => (b.1 x h1 h2).trans (a.1 x h1 h2), fun j hj => (b.2 j hj).trans (a.2 j hj)⟩
theorem kpC_tr {σ σ1 σ2 : jM} (a : kpC σ σ1) (b : kpC σ1 σ2) : kpC σ σ2 := ⟨b.1.trans a.1, b.2.trans a.2⟩
theorem FrC_G {t c : Int} {σ σ' : jM} (a : FrG t c σ σ') : FrC t σ σ' ∧ kpC σ σ' := ⟨⟨fun x h1 h2 => a.1 x h1 (by omega) (by omega), fun j hj => a.2.1 j (by omega)⟩, a.2.1 2 (by omega), a.2.1 3 (by omega)⟩
theorem FrC_B {t c : Int} {σ σ' : jM} (a : FrB t c σ σ') : FrC t σ σ' := ⟨fun x h1 h2 => a.1 x h1 (by omega) (by omega), fun j hj => a.2.1 j (by omega)⟩
theorem lwC_keep {σ σ' : jM} {t c c' i : Int} {X : Option DT} (h : lwC σ t c i X) (e5 : σ' (t + 5) i = σ (t + 5) i) (e6 : σ' (t + 6) i = σ (t + 6) i) (e4 : ∀ j, j < c → σ' (t + 4) j = σ (t + 4) j) (hc : c ≤ c') : lwC σ' t c' i X := by
  cases X with
  | none => exact e5.trans h
  | some f =>
    obtain ⟨⟨a1, a2, a3⟩, g⟩ := h
    show (0 ≤ σ' (t + 5) i ∧ σ' (t + 5) i ≤ σ' (t + 6) i ∧ σ' (t + 6) i ≤ c') ∧ GC (σ' (t + 4)) (σ' (t + 5) i) (σ' (t + 6) i) 0 f
    rw [e5, e6]
    exact ⟨by omega, GC_ag g (fun j j0 j1 => e4 j (by omega))⟩
theorem clC_keep {σ σ' : jM} {t m : Int} {S F G : Int → Int} (h : clC σ t m S F G) (e : σ' t 6 = σ t 6) (e1 : σ' (t + 1) = σ (t + 1)) (e2 : σ' (t + 2) = σ (t + 2)) (e3 : σ' (t + 3) = σ (t + 3)) : clC σ' t m S F G := by
  unfold clC at h ⊢
  rw [e, e1, e2, e3]
  exact h
theorem CT_same {σ σ' : jM} {T : Int → Int} {n p : Int} (h : CT σ T n p) (e1 : σ' 271 = σ 271) (e2 : σ' 272 = σ 272) : CT σ' T n p := by
  unfold CT CQ tapeC at h ⊢
  rw [e1, e2]
  exact h
section PH
variable {t : Int} {Q : Int → jM → Prop} {σ : jM} {T : Int → Int} {n p m : Int} {S F G : Int → Int} {D : LD}
theorem CI_st (ci : CI T n t σ p m S F G D) : CSt T n t (σ 271 5) σ p (σ t 7) := ⟨ci.1, ci.2.1, rfl, ci.2.2.1, rfl⟩
theorem CI_G {σ' : jM} {l q c' : Int} (ci : CI T n t σ p m S F G D) (s : CSt T n t l σ' q c') (f : FrG t (σ t 7) σ σ') (hc : σ t 7 ≤ c') (ht : 293 ≤ t) : CI T n t σ' q m S F G D := by
  obtain ⟨c1, c2, c3, c4, c5⟩ := ci
  obtain ⟨s1, s2, s3, s4, s5⟩ := s
  refine ⟨s1, s2, by rw [s3]; exact s4, clC_keep c4 (f.2.2.1 6 (by omega)) (f.1 _ (by omega) (by omega) (by omega)) (f.1 _ (by omega) (by omega) (by omega)) (f.1 _ (by omega) (by omega) (by omega)), fun i hi => ?_⟩
  rw [s3]
  exact lwC_keep (c5 i hi) (by rw [f.1 (t + 5) (by omega) (by omega) (by omega)]) (by rw [f.1 (t + 6) (by omega) (by omega) (by omega)]) f.2.2.2 hc
theorem s_addCl {d : Nat} {s x y : Int} (h0 : ob (GG t) t 8) (ht : 293 ≤ t) (ci : CI T n t σ p m S F G D) (m0 : 0 ≤ m ∧ m < 24) (k : ∀ σ', CI T n t σ' p (m + 1) (wr S m s) (wr F m x) (wr G m y) D → FrC t σ σ' → σ' 271 = σ 271 → Q 0 σ') : Ct mX8_addClause d 9 t [rv t, iv (kindOf s), iv x, iv y] σ Q := by
  obtain ⟨c1, c2, c3, ⟨c4, c5⟩, c6⟩ := ci
  refine c_X8_addClause h0 ?_
  rw [c4]
  refine ⟨rng (by omega) (by omega), fun z => absurd z (by omega), fun _ => ⟨by omega, fun σ3 e3 => ?_⟩⟩
  have g3 : σ3 t 6 = m := by rw [e3, up_row (by omega)]; exact c4
  rw [g3]
  refine ⟨by omega, fun σ5 e5 => ?_⟩
  have g5 : σ5 t 6 = m := by rw [e5, up_row (by omega)]; exact g3
  rw [g5]
  refine ⟨by omega, fun σ7 e7 σ8 e8 => ?_⟩
  have g7 : σ7 t 6 = m := by rw [e7, up_row (by omega)]; exact g5
  have oth : ∀ z, z ≠ t → z ≠ t + 1 → z ≠ t + 2 → z ≠ t + 3 → σ8 z = σ z := fun z h1 h2 h3 h4 => by rw [e8, up_row h1, e7, up_row h4, e5, up_row h3, e3, up_row h2]
  have tj : ∀ j, j ≠ 6 → σ8 t j = σ t j := fun j hj => by rw [e8, up_ne (Or.inr hj), e7, up_row (by omega), e5, up_row (by omega), e3, up_row (by omega)]
  have t1 : ∀ j, j ≠ m → σ8 (t + 1) j = σ (t + 1) j := fun j hj => by rw [e8, up_row (by omega), e7, up_row (by omega), e5, up_row (by omega), e3, up_ne (Or.inr hj)]
  have t2 : ∀ j, j ≠ m → σ8 (t + 2) j = σ (t + 2) j := fun j hj => by rw [e8, up_row (by omega), e7, up_row (by omega), e5, up_ne (Or.inr hj), e3, up_row (by omega)]
  have t3 : ∀ j, j ≠ m → σ8 (t + 3) j = σ (t + 3) j := fun j hj => by rw [e8, up_row (by omega), e7, up_ne (Or.inr hj), e5, up_row (by omega), e3, up_row (by omega)]
  have u1 : σ8 (t + 1) m = kindOf s := by rw [e8, up_row (by omega), e7, up_row (by omega), e5, up_row (by omega), e3, up_at]
  have u2 : σ8 (t + 2) m = x := by rw [e8, up_row (by omega), e7, up_row (by omega), e5, up_at]
  have u3 : σ8 (t + 3) m = y := by rw [e8, up_row (by omega), e7, up_at]
  have e271 : σ8 271 = σ 271 := oth 271 (by omega) (by omega) (by omega) (by omega)
  refine k σ8 ⟨CT_same c1 e271 (oth 272 (by omega) (by omega) (by omega) (by omega)), c2, by rw [tj 7 (by omega)]; exact c3, ⟨by rw [e8, up_at, g7], fun j j0 j1 => ?_⟩, fun i hi => ?_⟩ ⟨fun z h1 h2 => oth z (by omega) (by omega) (by omega) (by omega), fun j _ => by rw [e271]⟩ e271
  · by_cases e : j = m
    · rw [e, u1, u2, u3, wr_at, wr_at, wr_at]
      exact ⟨rfl, fun _ => rfl, fun _ => rfl⟩
    · rw [t1 j e, t2 j e, t3 j e, wr_ne e, wr_ne e, wr_ne e]
      exact c5 j j0 (by omega)
  · rw [tj 7 (by omega)]
    exact lwC_keep (c6 i hi) (by rw [oth (t + 5) (by omega) (by omega) (by omega) (by omega)]) (by rw [oth (t + 6) (by omega) (by omega) (by omega) (by omega)]) (fun j _ => by rw [oth (t + 4) (by omega) (by omega) (by omega) (by omega)]) (Int.le_refl _)
/-- a fault found by the class -/
def bdC (t : Int) (Q : Int → jM → Prop) (σ : jM) (kind pl : Int) : Prop := ∀ σ', FrC t σ σ' → σ' 271 2 = kind → σ' 271 3 = pl → Q 0 σ'
theorem c_nm (ci : CI T n t σ p m S F G D) (hk : kT T n p = 1) (hm : nmT T n p ≤ 9999) : σ 271 9 = nmT T n p := by
  have e9 : σ 271 9 = min 10000 (nmT T n p) := ci.1.2.2.2.2 hk
  omega
theorem c_order {d : Nat} {lo hi s : Int} (hd : 6 ≤ d) (h0 : ob (GG t) t 8) (ht : 293 ≤ t) (tp : TP T n) (hlo : 0 ≤ lo ∧ lo < 10000) (hhi : 0 ≤ hi ∧ hi < 10000) (ci : CI T n t σ p m S F G D) (m0 : 0 ≤ m ∧ m < 24)
    (good : kT T n p = 1 → lo ≤ nmT T n p → nmT T n p ≤ hi → kT T n (nxT T n p) = 59 → ∀ σ', CI T n t σ' (nxT T n (nxT T n p)) (m + 1) (wr S m s) (wr F m (nmT T n p)) (wr G m 0) D → FrC t σ σ' → kpC σ σ' → Q 1 σ')
    (bad1 : kT T n p ≠ 1 → bdC t Q σ 1 (plT T n p)) (bad2 : kT T n p = 1 → (nmT T n p < lo ∨ hi < nmT T n p) → bdC t Q σ 2 (plT T n p)) (bad3 : kT T n p = 1 → lo ≤ nmT T n p → nmT T n p ≤ hi → kT T n (nxT T n p) ≠ 59 → bdC t Q σ 1 (plT T n (nxT T n p))) : Ct mX3_readOrder (d + 1) 0 t [rv 271, iv (kindOf s), iv lo, iv hi] σ Q := by
  have st := CI_st ci
  refine c_X3_readOrder (c_takeNumber ht tp (rng (by omega) (by omega)) (rng (by omega) (by omega)) hhi.2 hd st (fun z => (nx_in tp ci.2.1).1.2.1) (fun z z1 z2 σ1 s1 f1 => ?_) (fun z z1 σ1 f1 a b => ⟨inl (by decide), fun _ => bad2 z z1 σ1 (FrC_B f1) a b, fun y => absurd rfl y⟩) (fun z σ1 f1 a b => ⟨inl (by decide), fun _ => bad1 z σ1 (FrC_B f1) a b, fun y => absurd rfl y⟩) hlo.2)
  refine ⟨inl (by decide), fun y => absurd y (by decide), fun _ => ?_⟩
  have ci1 := CI_G ci s1 f1 (Int.le_refl _) ht
  have fr1 := FrC_G f1
  refine c_take ht tp (inl (by decide)) hd s1 (fun y σ3 s3 f3 => ⟨inl (by decide), fun _ => ⟨h0, ?_⟩, fun u => absurd u (by decide)⟩) (fun y σ3 f3 a b => ⟨inl (by decide), fun u => absurd rfl u, fun _ => bad3 z z1 z2 y σ3 (FrC_tr fr1.1 (FrC_B f3)) a b⟩)
  have e7 : σ1 t 7 = σ t 7 := s1.2.2.1
  rw [← e7] at f3 s3
  have ci3 := CI_G ci1 s3 f3 (Int.le_refl _) ht
  have fr3 := FrC_G f3
  rw [c_nm ci z (by omega)]
  refine s_addCl h0 ht ci3 m0 (fun σ5 c5 fr5 e5 => good z z1 z2 y σ5 c5 (FrC_tr (FrC_tr fr1.1 fr3.1) fr5) ?_)
  have k3 := kpC_tr fr1.2 fr3.2
  exact ⟨by rw [e5]; exact k3.1, by rw [e5]; exact k3.2⟩
theorem c_join {d : Nat} (hd : 6 ≤ d) (h0 : ob (GG t) t 8) (ht : 293 ≤ t) (tp : TP T n) (ci : CI T n t σ p m S F G D) (m0 : 0 ≤ m ∧ m < 24)
    (good : kT T n p = 1 → nmT T n p ≤ 7 → kT T n (nxT T n p) = 119 → kT T n (nxT T n (nxT T n p)) = 1 → nmT T n (nxT T n (nxT T n p)) ≤ 7 → kT T n (nxT T n (nxT T n (nxT T n p))) = 59 → ∀ σ', CI T n t σ' (nxT T n (nxT T n (nxT T n (nxT T n p)))) (m + 1) (wr S m 2) (wr F m (nmT T n p)) (wr G m (nmT T n (nxT T n (nxT T n p)))) D → FrC t σ σ' → kpC σ σ' → Q 1 σ')
    (bad1 : kT T n p ≠ 1 → bdC t Q σ 1 (plT T n p)) (bad2 : kT T n p = 1 → 7 < nmT T n p → bdC t Q σ 2 (plT T n p)) (bad3 : kT T n p = 1 → nmT T n p ≤ 7 → kT T n (nxT T n p) ≠ 119 → bdC t Q σ 1 (plT T n (nxT T n p)))
    (bad4 : kT T n p = 1 → nmT T n p ≤ 7 → kT T n (nxT T n p) = 119 → kT T n (nxT T n (nxT T n p)) ≠ 1 → bdC t Q σ 1 (plT T n (nxT T n (nxT T n p)))) (bad5 : kT T n p = 1 → nmT T n p ≤ 7 → kT T n (nxT T n p) = 119 → kT T n (nxT T n (nxT T n p)) = 1 → 7 < nmT T n (nxT T n (nxT T n p)) → bdC t Q σ 2 (plT T n (nxT T n (nxT T n p))))
    (bad6 : kT T n p = 1 → nmT T n p ≤ 7 → kT T n (nxT T n p) = 119 → kT T n (nxT T n (nxT T n p)) = 1 → nmT T n (nxT T n (nxT T n p)) ≤ 7 → kT T n (nxT T n (nxT T n (nxT T n p))) ≠ 59 → bdC t Q σ 1 (plT T n (nxT T n (nxT T n (nxT T n p))))) : Ct mX3_readJoin (d + 1) 0 t [rv 271] σ Q := by
  have st := CI_st ci
  have nn := nm_in tp ci.2.1
  refine c_X3_readJoin (c_takeNumber ht tp (inl (by decide)) (inl (by decide)) (by decide) hd st (fun z => (nx_in tp ci.2.1).1.2.1) (fun z z1 z2 σ1 s1 f1 => ?_) (fun z z1 σ1 f1 a b => ⟨inl (by decide), fun _ => bad2 z (by omega) σ1 (FrC_B f1) a b, fun y => absurd rfl y⟩) (fun z σ1 f1 a b => ⟨inl (by decide), fun _ => bad1 z σ1 (FrC_B f1) a b, fun y => absurd rfl y⟩) (by decide))
  refine ⟨inl (by decide), fun y => absurd y (by decide), fun _ => ?_⟩
  have ci1 := CI_G ci s1 f1 (Int.le_refl _) ht
  have fr1 := FrC_G f1
  have e71 : σ1 t 7 = σ t 7 := s1.2.2.1
  refine c_take ht tp (inl (by decide)) hd s1 (fun y σ3 s3 f3 => ⟨inl (by decide), fun _ => ?_, fun u => absurd u (by decide)⟩) (fun y σ3 f3 a b => ⟨inl (by decide), fun u => absurd rfl u, fun _ => bad3 z z2 y σ3 (FrC_tr fr1.1 (FrC_B f3)) a b⟩)
  rw [← e71] at f3 s3
  have ci3 := CI_G ci1 s3 f3 (Int.le_refl _) ht
  have fr3 := FrC_G f3
  have nn3 := nm_in tp ci3.2.1
  have st3 := CI_st ci3
  refine c_takeNumber ht tp (inl (by decide)) (inl (by decide)) (by decide) hd st3 (fun z => (nx_in tp ci3.2.1).1.2.1) (fun u u1 u2 σ5 s5 f5 => ?_) (fun u u1 σ5 f5 a b => ⟨inl (by decide), fun _ => bad5 z z2 y u (by omega) σ5 (FrC_tr (FrC_tr fr1.1 fr3.1) (FrC_B f5)) a b, fun y => absurd rfl y⟩) (fun u σ5 f5 a b => ⟨inl (by decide), fun _ => bad4 z z2 y u σ5 (FrC_tr (FrC_tr fr1.1 fr3.1) (FrC_B f5)) a b, fun y => absurd rfl y⟩) (by decide)
  refine ⟨inl (by decide), fun y => absurd y (by decide), fun _ => ?_⟩
  have ci5 := CI_G ci3 s5 f5 (Int.le_refl _) ht
  have fr5 := FrC_G f5
  have e75 : σ5 t 7 = σ3 t 7 := s5.2.2.1
  refine c_take ht tp (inl (by decide)) hd s5 (fun v σ7 s7 f7 => ⟨inl (by decide), fun _ => ⟨h0, ?_⟩, fun u => absurd u (by decide)⟩) (fun v σ7 f7 a b => ⟨inl (by decide), fun u => absurd rfl u, fun _ => bad6 z z2 y u u2 v σ7 (FrC_tr (FrC_tr (FrC_tr fr1.1 fr3.1) fr5.1) (FrC_B f7)) a b⟩)
  rw [← e75] at f7 s7
  have ci7 := CI_G ci5 s7 f7 (Int.le_refl _) ht
  have fr7 := FrC_G f7
  rw [c_nm ci z (by omega), c_nm ci3 u (by omega)]
  refine s_addCl (s := 2) h0 ht ci7 m0 (fun σ9 c9 fr9 e9 => good z z2 y u u2 v σ9 c9 (FrC_tr (FrC_tr (FrC_tr (FrC_tr fr1.1 fr3.1) fr5.1) fr7.1) fr9) ?_)
  have k3 := kpC_tr (kpC_tr (kpC_tr fr1.2 fr3.2) fr5.2) fr7.2
  exact ⟨by rw [e9]; exact k3.1, by rw [e9]; exact k3.2⟩
end PH
