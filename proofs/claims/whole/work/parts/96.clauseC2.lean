/-! ===== the class reads a clause ===== -/
def lawF (d : Nat) (t : Int) (Q : Int → jM → Prop) (v1 : Int) (σ3 : jM) : Prop := ∀ σ7 : jM, σ7 = up σ3 271 5 (v1 - 100) → ((ob (GG t) t 8) ∧ ((ob (GG t) t 8) ∧ (((0 : Int) ≤ (σ7 271 5) ∧ (σ7 271 5) < 2) ∧ (∀ σ11 : jM, σ11 = up σ7 (t + 5) (σ7 271 5) (σ7 t 7) → (Ct mX3_readSum d 0 t [rv 271, iv 0] σ11 (fun r12 σ12 => ((inR r12) ∧ ((r12 = 0 → (Jt mX3_readClause (d + 1) 0 t Q 160 [rv 271, iv v1] [] σ12)) ∧ (¬ r12 = 0 → (Ct mX3_take d 0 t [rv 271, iv 59] σ12 (fun r14 σ14 => ((inR r14) ∧ ((¬ r14 = 0 → ((ob (GG t) t 8) ∧ ((ob (GG t) t 8) ∧ (((0 : Int) ≤ (σ14 271 5) ∧ (σ14 271 5) < 2) ∧ (∀ σ19 : jM, σ19 = up σ14 (t + 6) (σ14 271 5) (σ14 t 7) → ((ob (GG t) t 8) ∧ (Ct mX8_addClause d 9 t [rv t, iv v1, iv 0, iv 0] σ19 (fun r20 σ20 => (Q 1 σ20))))))))) ∧ (r14 = 0 → (Jt mX3_readClause (d + 1) 0 t Q 160 [rv 271, iv v1] [] σ14)))))))))))))))
theorem CT_j {σ σ' : jM} {T : Int → Int} {n p : Int} (h : CT σ T n p) (e1 : ∀ j, j ≠ 5 → σ' 271 j = σ 271 j) (e2 : σ' 272 = σ 272) : CT σ' T n p := by
  unfold CT CQ tapeC at h ⊢
  rw [e1 1 (by omega), e1 6 (by omega), e1 7 (by omega), e1 8 (by omega), e1 9 (by omega), e2]
  exact h
section PI
variable {t : Int} {Q : Int → jM → Prop} {σ : jM} {T : Int → Int} {n p m l : Int} {S F G : Int → Int} {D : LD}
theorem law_st {σ7 σ11 : jM} (ht : 293 ≤ t) (ci : CI T n t σ p m S F G D) (e7 : σ7 = up σ 271 5 (100 + l - 100)) (e11 : σ11 = up σ7 (t + 5) l (σ7 t 7)) : CSt T n t l σ11 p (σ t 7) ∧ FrC t σ σ11 ∧ kpC σ σ11 := by
  have j1 : ∀ j, j ≠ 5 → σ11 271 j = σ 271 j := fun j hj => by rw [e11, up_row (by omega), e7, up_ne (Or.inr hj)]
  have r1 : ∀ x, x ≠ 271 → x ≠ t + 5 → σ11 x = σ x := fun x h1 h2 => by rw [e11, up_row h2, e7, up_row h1]
  refine ⟨⟨CT_j ci.1 j1 (r1 272 (by omega) (by omega)), ci.2.1, by rw [r1 t (by omega) (by omega)], ci.2.2.1, by rw [e11, up_row (by omega), e7, up_at]; omega⟩, ⟨fun x h1 h2 => r1 x h1 (by omega), fun j hj => j1 j (by omega)⟩, j1 2 (by omega), j1 3 (by omega)⟩
theorem c_law_B1 {d Ds : Nat} {kind pl : Int} (h0 : ob (GG t) t 8) (ht : 293 ≤ t) (hl : l = 0 ∨ l = 1) (hD : Ds ≤ d) (ci : CI T n t σ p m S F G D) (hs : CBd T n t l mX3_readSum Ds [rv 271, iv 0] p kind pl) (k : bdC t Q σ kind pl) : lawF d t Q (100 + l) σ := by
  intro σ7 e7
  have a5 : σ7 271 5 = l := by rw [e7, up_at]; omega
  rw [a5]
  refine ⟨h0, h0, by omega, fun σ11 e11 => ?_⟩
  obtain ⟨s11, f11, k11⟩ := law_st ht ci e7 e11
  exact hs d _ σ11 _ hD s11 (fun σ12 f12 a b => ⟨inl (by decide), fun _ => b_X3_readClause_160 (k σ12 (FrC_tr f11 (FrC_B f12)) a b), fun y => absurd rfl y⟩)
theorem c_law_B2 {d Ds : Nat} {q K : Int} {f : DT} (hd : 6 ≤ d) (h0 : ob (GG t) t 8) (ht : 293 ≤ t) (tp : TP T n) (hl : l = 0 ∨ l = 1) (hD : Ds ≤ d) (ci : CI T n t σ p m S F G D) (hs : CGd T n t l mX3_readSum Ds [rv 271, iv 0] p q K f) (hq : kT T n q ≠ 59) (k : bdC t Q σ 1 (plT T n q)) : lawF d t Q (100 + l) σ := by
  intro σ7 e7
  have a5 : σ7 271 5 = l := by rw [e7, up_at]; omega
  rw [a5]
  refine ⟨h0, h0, by omega, fun σ11 e11 => ?_⟩
  obtain ⟨s11, f11, k11⟩ := law_st ht ci e7 e11
  refine hs d _ σ11 _ hD s11 (fun σ12 c12 s12 l1 l2 f12 gc12 => ⟨inl (by decide), fun y => absurd y (by decide), fun _ => ?_⟩)
  exact c_take ht tp (inl (by decide)) hd s12 (fun z => absurd z hq) (fun z σ14 f14 a b => ⟨inl (by decide), fun y => absurd rfl y, fun _ => b_X3_readClause_160 (k σ14 (FrC_tr (FrC_tr f11 (FrC_G f12).1) (FrC_B f14)) a b)⟩)
theorem c_law {d Ds : Nat} {q K : Int} {f : DT} (hd : 6 ≤ d) (h0 : ob (GG t) t 8) (ht : 293 ≤ t) (tp : TP T n) (hl : l = 0 ∨ l = 1) (hD : Ds ≤ d) (ci : CI T n t σ p m S F G D) (m0 : 0 ≤ m ∧ m < 24) (hs : CGd T n t l mX3_readSum Ds [rv 271, iv 0] p q K f) (hK : 0 ≤ K) (hq : kT T n q = 59) (k : ∀ σ', CI T n t σ' (nxT T n q) (m + 1) (wr S m l) (wr F m 0) (wr G m 0) (upD D l f) → FrC t σ σ' → kpC σ σ' → Q 1 σ') : lawF d t Q (100 + l) σ := by
  intro σ7 e7
  have a5 : σ7 271 5 = l := by rw [e7, up_at]; omega
  rw [a5]
  refine ⟨h0, h0, by omega, fun σ11 e11 => ?_⟩
  obtain ⟨s11, f11, k11⟩ := law_st ht ci e7 e11
  refine hs d _ σ11 _ hD s11 (fun σ12 c12 s12 l1 l2 f12 gc12 => ⟨inl (by decide), fun y => absurd y (by decide), fun _ => ?_⟩)
  refine c_take ht tp (inl (by decide)) hd s12 (fun z σ14 s14 f14 => ⟨inl (by decide), fun _ => ?_, fun y => absurd y (by decide)⟩) (fun z => absurd hq z)
  have b5 : σ14 271 5 = l := s14.2.2.2.2
  have b7 : σ14 t 7 = c12 := s14.2.2.1
  rw [b5, b7]
  refine ⟨h0, h0, by omega, fun σ19 e19 => ⟨h0, ?_⟩⟩
  have ek : kindOf l = 100 + l := by unfold kindOf; rw [if_neg (by omega), if_neg (by omega)]
  have c3 := ci.2.2.1
  have r11 : ∀ x, x ≠ 271 → x ≠ t + 5 → σ11 x = σ x := fun x h1 h2 => by rw [e11, up_row h2, e7, up_row h1]
  have r19 : ∀ x, x ≠ 271 → x ≠ t → x ≠ t + 4 → x ≠ t + 5 → x ≠ t + 6 → σ19 x = σ x := fun x h1 h2 h3 h4 h5 => by rw [e19, up_row h5, f14.1 x h1 h2 h3, f12.1 x h1 h2 h3, r11 x h1 h4]
  have t19 : ∀ j, j ≠ 7 → σ19 t j = σ t j := fun j hj => by rw [e19, up_row (by omega), f14.2.2.1 j hj, f12.2.2.1 j hj, r11 t (by omega) (by omega)]
  have t7 : σ19 t 7 = c12 := by rw [e19, up_row (by omega)]; exact b7
  have t5 : ∀ j, σ19 (t + 5) j = σ11 (t + 5) j := fun j => by rw [e19, up_row (by omega), f14.1 (t + 5) (by omega) (by omega) (by omega), f12.1 (t + 5) (by omega) (by omega) (by omega)]
  have t5l : σ19 (t + 5) l = σ t 7 := by rw [t5 l, e11, up_at, e7, up_row (by omega)]
  have t5i : ∀ j, j ≠ l → σ19 (t + 5) j = σ (t + 5) j := fun j hj => by rw [t5 j, e11, up_ne (Or.inr hj), e7, up_row (by omega)]
  have t6l : σ19 (t + 6) l = c12 := by rw [e19, up_at]
  have t6i : ∀ j, j ≠ l → σ19 (t + 6) j = σ (t + 6) j := fun j hj => by rw [e19, up_ne (Or.inr hj), f14.1 (t + 6) (by omega) (by omega) (by omega), f12.1 (t + 6) (by omega) (by omega) (by omega), r11 (t + 6) (by omega) (by omega)]
  have t4 : ∀ j, j < c12 → σ19 (t + 4) j = σ12 (t + 4) j := fun j hj => by rw [e19, up_row (by omega), f14.2.2.2 j hj]
  have ci19 : CI T n t σ19 (nxT T n q) m S F G (upD D l f) := by
    refine ⟨CT_same s14.1 (by rw [e19, up_row (by omega)]) (by rw [e19, up_row (by omega)]), s14.2.1, by rw [t7]; exact s14.2.2.2.1, clC_keep ci.2.2.2.1 (t19 6 (by omega)) (r19 _ (by omega) (by omega) (by omega) (by omega) (by omega)) (r19 _ (by omega) (by omega) (by omega) (by omega) (by omega)) (r19 _ (by omega) (by omega) (by omega) (by omega) (by omega)), fun i hi => ?_⟩
    rw [t7]
    unfold upD
    by_cases e : i = l
    · rw [if_pos e, e]
      show (0 ≤ σ19 (t + 5) l ∧ σ19 (t + 5) l ≤ σ19 (t + 6) l ∧ σ19 (t + 6) l ≤ c12) ∧ GC (σ19 (t + 4)) (σ19 (t + 5) l) (σ19 (t + 6) l) 0 f
      rw [t5l, t6l]
      exact ⟨by omega, GC_ag (GC_K gc12 hK) (fun j j0 j1 => t4 j j1)⟩
    · rw [if_neg e]
      refine lwC_keep (ci.2.2.2.2 i hi) (t5i i e) (t6i i e) (fun j hj => ?_) (by omega)
      rw [t4 j (by omega), f12.2.2.2 j hj, r11 (t + 4) (by omega) (by omega)]
  have j19 : ∀ j, σ19 271 j = σ14 271 j := fun j => by rw [e19, up_row (by omega)]
  have fr : FrC t σ σ19 := ⟨fun x h1 h2 => r19 x h1 (by omega) (by omega) (by omega) (by omega), fun j hj => by rw [j19, f14.2.1 j (by omega), f12.2.1 j (by omega)]; exact f11.2 j hj⟩
  have kp : kpC σ σ19 := ⟨by rw [j19, f14.2.1 2 (by omega), f12.2.1 2 (by omega)]; exact k11.1, by rw [j19, f14.2.1 3 (by omega), f12.2.1 3 (by omega)]; exact k11.2⟩
  have fin := s_addCl (d := d) (s := l) (x := 0) (y := 0) (Q := fun _ σ20 => Q 1 σ20) h0 ht ci19 m0 (fun σ20 c20 f20 e20 => k σ20 c20 (FrC_tr fr f20) ⟨by rw [e20]; exact kp.1, by rw [e20]; exact kp.2⟩)
  rw [ek] at fin
  exact fin
/-- what the class's orders are: kind, lowest, highest -/
def ordC (k s lo hi : Int) : Prop := (k = 103 ∧ s = 3 ∧ lo = 0 ∧ hi = 7) ∨ (k = 104 ∧ s = 4 ∧ lo = 0 ∧ hi = 7) ∨ (k = 105 ∧ s = 6 ∧ lo = 1 ∧ hi = 120) ∨ (k = 106 ∧ s = 5 ∧ lo = 1 ∧ hi = 60)
theorem ord_kind {k s lo hi : Int} (h : ordC k s lo hi) : k = kindOf s := by
  unfold ordC at h
  unfold kindOf
  rcases h with h | h | h | h
  · rw [if_neg (by omega), if_neg (by omega)]; omega
  · rw [if_neg (by omega), if_neg (by omega)]; omega
  · rw [if_neg (by omega), if_pos (by omega)]; omega
  · rw [if_pos (by omega)]; omega
theorem cc_main {d : Nat} (hd : 6 ≤ d) (h0 : ob (GG t) t 8) (ht : 293 ≤ t) (tp : TP T n) (ci : CI T n t σ p m S F G D) (m0 : 0 ≤ m ∧ m ≤ 24)
    (non : ¬ (100 ≤ kT T n p ∧ kT T n p ≤ 106) → bdC t Q σ 1 (plT T n p))
    (twice : (100 ≤ kT T n p ∧ kT T n p ≤ 101) → D (kT T n p - 100) ≠ none → bdC t Q σ 4 (plT T n p))
    (many : (100 ≤ kT T n p ∧ kT T n p ≤ 106) → (kT T n p ≤ 101 → D (kT T n p - 100) = none) → m = 24 → bdC t Q σ 6 (plT T n p))
    (law : ∀ l, (l = 0 ∨ l = 1) → kT T n p = 100 + l → D l = none → m < 24 → ∀ σ3, CI T n t σ3 (nxT T n p) m S F G D → FrC t σ σ3 → kpC σ σ3 → lawF d t Q (100 + l) σ3)
    (join : kT T n p = 102 → m < 24 → ∀ σ3, CI T n t σ3 (nxT T n p) m S F G D → FrC t σ σ3 → kpC σ σ3 → Ct mX3_readJoin d 0 t [rv 271] σ3 (fun r σ' => (r = 0 ∨ r = 1) ∧ Q r σ'))
    (ord : ∀ s lo hi, ordC (kT T n p) s lo hi → m < 24 → ∀ σ3, CI T n t σ3 (nxT T n p) m S F G D → FrC t σ σ3 → kpC σ σ3 → Ct mX3_readOrder d 0 t [rv 271, iv (kindOf s), iv lo, iv hi] σ3 (fun r σ' => (r = 0 ∨ r = 1) ∧ Q r σ')) : Ct mX3_readClause (d + 1) 0 t [rv 271] σ Q := by
  have st := CI_st ci
  have e6 : σ 271 6 = kT T n p := ci.1.2.1
  have ki := kT_in tp ci.2.1
  have kr : inR (kT T n p) := rng (by omega) (by omega)
  have eb : σ t 6 = m := ci.2.2.2.1.1
  have at51 : (100 ≤ kT T n p ∧ kT T n p ≤ 106) → (kT T n p ≤ 101 → D (kT T n p - 100) = none) → Jt mX3_readClause (d + 1) 0 t Q 51 [rv 271, iv (kT T n p)] [] σ := by
    intro hk hD
    refine b_X3_readClause_51 ⟨h0, ?_⟩
    rw [eb]
    refine ⟨rng (by omega) (by omega), fun z => ?_, fun z => s_failed ht st (fun σ' f a b => ⟨Or.inl rfl, many hk hD (by omega) σ' (FrC_B f) a b⟩)⟩
    refine s_adv (by omega) ht tp st (fun σ3 s3 f3 _ => ?_)
    have ci3 := CI_G ci s3 f3 (Int.le_refl _) ht
    have fr3 := FrC_G f3
    refine ⟨kr, fun y => absurd y (by omega), fun y => ?_, fun y => ?_, fun y => join y z σ3 ci3 fr3.1 fr3.2, fun y => ?_, fun y => ?_, fun y => ?_, fun y => ?_⟩
    · have h := law 0 (Or.inl rfl) y (by have := hD (by omega); rw [y] at this; exact this) z σ3 ci3 fr3.1 fr3.2
      rw [y]
      exact h
    · have h := law 1 (Or.inr rfl) y (by have := hD (by omega); rw [y] at this; exact this) z σ3 ci3 fr3.1 fr3.2
      rw [y]
      exact h
    · have o : ordC (kT T n p) 3 0 7 := Or.inl ⟨y, rfl, rfl, rfl⟩
      have h := ord 3 0 7 o z σ3 ci3 fr3.1 fr3.2
      rw [← ord_kind o] at h
      exact h
    · have o : ordC (kT T n p) 4 0 7 := Or.inr (Or.inl ⟨y, rfl, rfl, rfl⟩)
      have h := ord 4 0 7 o z σ3 ci3 fr3.1 fr3.2
      rw [← ord_kind o] at h
      exact h
    · have o : ordC (kT T n p) 6 1 120 := Or.inr (Or.inr (Or.inl ⟨y, rfl, rfl, rfl⟩))
      have h := ord 6 1 120 o z σ3 ci3 fr3.1 fr3.2
      rw [← ord_kind o] at h
      exact h
    · have o : ordC (kT T n p) 5 1 60 := Or.inr (Or.inr (Or.inr ⟨y, rfl, rfl, rfl⟩))
      have h := ord 5 1 60 o z σ3 ci3 fr3.1 fr3.2
      rw [← ord_kind o] at h
      exact h
  refine c_X3_readClause ?_
  rw [e6]
  refine ⟨kr, fun z => b_X3_readClause_17 (s_failed ht st (fun σ' f a b => ⟨Or.inl rfl, non (by omega) σ' (FrC_B f) a b⟩)), fun z => ⟨kr, fun y => ⟨kr, fun u => at51 ⟨z, y⟩ (fun v => absurd v (by omega)), fun u => ⟨h0, by omega, ?_⟩⟩, fun y => b_X3_readClause_17 (s_failed ht st (fun σ' f a b => ⟨Or.inl rfl, non (by omega) σ' (FrC_B f) a b⟩))⟩⟩
  have lw := ci.2.2.2.2 (kT T n p - 100) (by omega)
  cases eD : D (kT T n p - 100) with
  | none =>
    rw [eD] at lw
    have lw' : σ (t + 5) (kT T n p - 100) = -1 := lw
    rw [lw']
    exact ⟨inl (by decide), fun _ => at51 ⟨z, y⟩ (fun _ => eD), fun v => absurd rfl v⟩
  | some f =>
    rw [eD] at lw
    obtain ⟨⟨a1, a2, a3⟩, _⟩ := lw
    have t0 := tp.1
    have c3 := ci.2.2.1
    have c2 := ci.2.1
    exact ⟨rng (by omega) (by omega), fun v => absurd v (by omega), fun _ => s_failed ht st (fun σ' f a b => ⟨Or.inl rfl, twice ⟨z, u⟩ (by rw [eD]; exact fun h => by cases h) σ' (FrC_B f) a b⟩)⟩
end PI
