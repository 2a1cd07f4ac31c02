/-! ===== the reference's ways: signs between two, what is asked, one ===== -/
theorem c2_16 {x y : Int} : cop2 16 x y = mop2 8 x y := by simp [cop2, mop2]
theorem c2_17 {x y : Int} : cop2 17 x y = mop2 9 x y := by simp [cop2, mop2]
theorem c2_14 {x y : Int} : cop2 14 x y = mop2 6 x y := by simp [cop2, mop2]
theorem c2_15 {x y : Int} : cop2 15 x y = mop2 7 x y := by simp [cop2, mop2]
theorem c2_24 {x y : Int} : cop2 24 x y = mjoin 21 x y := by simp [cop2, mjoin]
theorem c2_25 {x y : Int} : cop2 25 x y = mjoin 22 x y := by simp [cop2, mjoin]
theorem c2_18 {x y : Int} : cop2 18 x y = mcmp 10 x y := by simp [cop2, mcmp]
theorem c2_19 {x y : Int} : cop2 19 x y = mcmp 11 x y := by simp [cop2, mcmp]
theorem c2_20 {x y : Int} : cop2 20 x y = mcmp 12 x y := by simp [cop2, mcmp]
theorem c2_21 {x y : Int} : cop2 21 x y = mcmp 13 x y := by simp [cop2, mcmp]
theorem c2_22 {x y : Int} : cop2 22 x y = mcmp 14 x y := by simp [cop2, mcmp]
theorem c2_23 {x y : Int} : cop2 23 x y = mcmp 15 x y := by simp [cop2, mcmp]
theorem c1_10 {r : Int → Int} {x : Int} : cop1 r 10 x = mop1 r 5 x := by simp [cop1, mop1]
theorem c1_11 {r : Int → Int} {x : Int} : cop1 r 11 x = mop1 r 2 x := by simp [cop1, mop1]
theorem c1_12 {r : Int → Int} {x : Int} : cop1 r 12 x = mop1 r 4 x := by simp [cop1, mop1]
theorem c1_13 {r : Int → Int} {x : Int} : cop1 r 13 x = 1 - x := by simp [cop1]
theorem akA_no {x : Int} {P : List Int} (h1 : ¬ 40 ≤ x) (h2 : ¬ (1 ≤ rkA x ∧ rkA x ≤ 3)) : akA (x :: P) = false := by
  show (decide (opA (x :: P) = 41) && (decide (40 ≤ x) || decide (1 ≤ rkA x ∧ rkA x ≤ 3))) = false
  rw [decide_eq_false h1, decide_eq_false h2]
  simp
theorem akA_op {x : Int} {P : List Int} (h1 : 40 ≤ x) (h2 : x ≠ 41) : akA (x :: P) = false := by
  show (decide (opA (x :: P) = 41) && (decide (40 ≤ x) || decide (1 ≤ rkA x ∧ rkA x ≤ 3))) = false
  rw [opA, if_pos h1, decide_eq_false h2]
  simp
theorem akA_yes {x : Int} {P : List Int} (h1 : opA (x :: P) = 41) (h2 : 40 ≤ x ∨ (1 ≤ rkA x ∧ rkA x ≤ 3)) : akA (x :: P) = true := by
  show (decide (opA (x :: P) = 41) && (decide (40 ≤ x) || decide (1 ≤ rkA x ∧ rkA x ≤ 3))) = true
  rw [decide_eq_true h1]
  rcases h2 with h | h
  · rw [decide_eq_true h]; simp
  · rw [decide_eq_true h]; simp
theorem rk_cmp {x : Int} (h : 10 ≤ x ∧ x ≤ 15) : rkA x = 4 := by
  unfold rkA
  rw [if_neg (by omega), if_neg (by omega), if_neg (by omega), if_neg (by omega), if_pos h.1]
theorem cmA_end {x : Int} {R : List Int} (hx : rkA x = 4) : ∀ (E : List Int), (∀ y ∈ E, 5 ≤ rkA y) → cmA (E ++ x :: R) = true
  | [], _ => by
    show cmA (x :: R) = true
    rw [cmA, if_neg (by omega), decide_eq_true hx]
  | y :: E, h => by
    have := h y List.mem_cons_self
    show cmA (y :: (E ++ x :: R)) = true
    rw [cmA, if_pos (by omega)]
    exact cmA_end hx E (fun z hz => h z (List.mem_cons_of_mem _ hz))
section RE
variable {T : Int → Int} {n t b l o : Int}
theorem ok_ar {q op c r1 β : Int} (hb : ∀ P, btwA P (kT T n q) = op) (ho : 6 ≤ op ∧ op ≤ 9) (hr : rkA op = r1) (h56 : r1 = 5 ∨ r1 = 6) (he : ∀ x y, cop2 c x y = mop2 op x y) : opOk T n q false r1 (r1 + 1) β (β + 1) allD op (fun f g r x => cop2 c (f r x) (g r x)) := by
  refine ⟨⟨by omega, ?_, hr, by omega, by omega, ?_⟩, fun E P0 _ _ _ => hb _, fun P0 _ _ => akA_no (by omega) (by omega), fun _ _ => trivial, fun _ _ _ _ => trivial, fun mf mg a e z f g a0 ae ez em _ hf hg => ?_⟩
  · unfold rkU
    rw [if_neg (by omega), hr]
  · rw [opC, if_neg (by omega), opC]; omega
  · have h := GX_two a0 ae ez ho em hf hg
    have e2 : (fun r x => cop2 c (f r x) (g r x)) = (fun r c => mop2 op (f r c) (g r c)) := by
      funext r x
      exact he _ _
    rw [← e2] at h
    exact h
theorem ok_mul {q β : Int} (hk : kT T n q = 42 ∨ kT T n q = 47) : opOk T n q false 6 7 β (β + 1) allD (if kT T n q = 42 then 8 else 9) (fun f g r x => cop2 (if kT T n q = 42 then 16 else 17) (f r x) (g r x)) := by
  rcases hk with e | e
  · rw [if_pos e, if_pos e]
    exact ok_ar (r1 := 6) (fun P => by unfold btwA; rw [if_neg (by omega), if_neg (by omega), if_pos e]) (by omega) (by decide) (Or.inr rfl) (fun _ _ => c2_16)
  · rw [if_neg (by omega), if_neg (by omega)]
    exact ok_ar (r1 := 6) (fun P => by unfold btwA; rw [if_neg (by omega), if_neg (by omega), if_neg (by omega), if_pos e]) (by omega) (by decide) (Or.inr rfl) (fun _ _ => c2_17)
theorem ok_add {q β : Int} (hk : kT T n q = 43 ∨ kT T n q = 45) : opOk T n q false 5 6 β (β + 1) allD (if kT T n q = 43 then 6 else 7) (fun f g r x => cop2 (if kT T n q = 43 then 14 else 15) (f r x) (g r x)) := by
  rcases hk with e | e
  · rw [if_pos e, if_pos e]
    exact ok_ar (r1 := 5) (fun P => by unfold btwA; rw [if_pos e]) (by omega) (by decide) (Or.inl rfl) (fun _ _ => c2_14)
  · rw [if_neg (by omega), if_neg (by omega)]
    exact ok_ar (r1 := 5) (fun P => by unfold btwA; rw [if_neg (by omega), if_pos e]) (by omega) (by decide) (Or.inl rfl) (fun _ _ => c2_15)
theorem ok_jn {q op c r1 r0' β : Int} (hb : (op = 21 ∧ kT T n q = 119) ∨ (op = 22 ∧ kT T n q = 120)) (hr : rkA op = r1) (h12 : 1 ≤ r1 ∧ r1 ≤ 2) (h0 : r1 < r0') (hc : c = 24 ∨ c = 25) (he : ∀ x y, cop2 c x y = mjoin op x y) : opOk T n q true r1 r0' β (β + 1) B01 op (fun f g r x => cop2 c (f r x) (g r x)) := by
  have o40 : ¬ 40 ≤ op := by omega
  refine ⟨⟨by omega, ?_, hr, by omega, by omega, ?_⟩, fun E P0 hE hP hcE => ?_, fun P0 hP => ?_, fun E hE => cmA_E E hE, fun f g bf bg => ?_, fun mf mg a e z f g a0 ae ez em bg hf hg => ?_⟩
  · unfold rkU
    rw [if_neg (by omega), hr]
  · rw [opC, if_neg (by omega), opC]; omega
  · have e41 : opA (E ++ P0) = 41 := (opA_E E (fun x hx => by have := hE x hx; omega)).trans (hP rfl)
    have ecm : cmA (E ++ P0) = true := cmA_E E hcE
    unfold btwA
    rw [if_neg (by omega), if_neg (by omega), if_neg (by omega), if_neg (by omega), if_neg (by omega), if_neg (by rw [ecm]; decide)]
    rcases hb with ⟨e1, e2⟩ | ⟨e1, e2⟩
    · rw [if_pos e2, e1]
    · rw [if_neg (by omega), if_pos e2, e1]
  · have e1 : opA (op :: P0) = 41 := by rw [opA, if_neg o40]; exact hP rfl
    exact ⟨e1, akA_yes e1 (Or.inr (by omega))⟩
  · exact cop2_B01 (by omega) (fun _ => ⟨bf, bg⟩)
  · have h := GX_and a0 ae ez (by omega) em bg hf hg
    have e2 : (fun r x => cop2 c (f r x) (g r x)) = (fun r c => mjoin op (f r c) (g r c)) := by
      funext r x
      exact he _ _
    rw [← e2] at h
    exact h
theorem ok_and {q β : Int} (hk : kT T n q = 119) : opOk T n q true 2 4 β (β + 1) B01 21 (fun f g r x => cop2 24 (f r x) (g r x)) := ok_jn (Or.inl ⟨rfl, hk⟩) (by decide) (by omega) (by omega) (Or.inl rfl) (fun _ _ => c2_24)
theorem ok_or {q β : Int} (hk : kT T n q = 120) : opOk T n q true 1 2 β (β + 1) B01 22 (fun f g r x => cop2 25 (f r x) (g r x)) := ok_jn (Or.inr ⟨rfl, hk⟩) (by decide) (by omega) (by omega) (Or.inr rfl) (fun _ _ => c2_25)
def N2 (k : Int) : Prop := k ≠ 42 ∧ k ≠ 47
def N3 (k : Int) : Prop := (k ≠ 42 ∧ k ≠ 47) ∧ k ≠ 43 ∧ k ≠ 45
def N5 (k : Int) : Prop := N3 k ∧ k ≠ 119
def N6 (k : Int) : Prop := N5 k ∧ k ≠ 120
/-- what compares, as both sides number it -/
theorem rel_eq {k : Int} (h : relC k ≠ -1) : (10 ≤ cpK k ∧ cpK k ≤ 15) ∧ N3 k ∧ k ≠ 0 ∧ ∀ x y, cop2 (relC k) x y = mcmp (cpK k) x y := by
  unfold relC at h ⊢
  unfold cpK N3
  by_cases h1 : k = 60
  · subst h1; exact ⟨by decide, by decide, by decide, fun _ _ => c2_18⟩
  · by_cases h2 : k = 3
    · subst h2; exact ⟨by decide, by decide, by decide, fun _ _ => c2_19⟩
    · by_cases h3 : k = 62
      · subst h3; exact ⟨by decide, by decide, by decide, fun _ _ => c2_20⟩
      · by_cases h4 : k = 4
        · subst h4; exact ⟨by decide, by decide, by decide, fun _ _ => c2_21⟩
        · by_cases h5 : k = 61
          · subst h5; exact ⟨by decide, by decide, by decide, fun _ _ => c2_22⟩
          · by_cases h6 : k = 35
            · subst h6; exact ⟨by decide, by decide, by decide, fun _ _ => c2_23⟩
            · rw [if_neg h1, if_neg h2, if_neg h3, if_neg h4, if_neg h5, if_neg h6] at h
              exact absurd rfl h
theorem rel_no {k : Int} (h : relC k = -1) : cpK k = -1 := by
  unfold relC at h
  unfold cpK
  by_cases h1 : k = 60
  · subst h1; exact absurd h (by decide)
  · by_cases h2 : k = 3
    · subst h2; exact absurd h (by decide)
    · by_cases h3 : k = 62
      · subst h3; exact absurd h (by decide)
      · by_cases h4 : k = 4
        · subst h4; exact absurd h (by decide)
        · by_cases h5 : k = 61
          · subst h5; exact absurd h (by decide)
          · by_cases h6 : k = 35
            · subst h6; exact absurd h (by decide)
            · rw [if_neg h1, if_neg h2, if_neg h3, if_neg h4, if_neg h5, if_neg h6]
theorem r_askB1 {p kind pl : Int} (hk : kT T n p ≠ 121) (h : RBm T n t b l false 5 4 p o kind pl) : RBm T n t b l true 4 2 p o kind pl := by
  intro d Q σ w P0 s h0 hl hc k
  exact h d Q σ w P0 s (by omega) (by omega) (fun z => absurd z hk) k
theorem r_askB2 {p q1 : Int} {f : DT} (tp : TP T n) (hk : kT T n p ≠ 121) (h1 : RGm T n t b l false 5 5 4 p q1 o f) (hN : N3 (kT T n q1)) (hr : relC (kT T n q1) = -1) : RBm T n t b l true 4 2 p o 1 (plT T n q1) := by
  intro d Q σ w P0 s h0 hl hc k
  refine h1 d Q σ w P0 s (by omega) (by omega) (fun z => absurd z hk) (fun σ1 w1 E s1 hE hn hw _ hz pm => ?_)
  have e41 : opA (E ++ P0) = 41 := (opA_E E (fun x hx => by have := hE x hx; omega)).trans hc.1
  have ecm : cmA (E ++ P0) = false := cmA_lo h0 E hE
  have hn1 := hn.1
  have hn2 := hn.2
  have hN1 := hN
  unfold N3 at hN1
  refine jh_fault tp s1 (by omega) ?_ ?_ (by omega) (k σ1 hz s1.1.2.2.1)
  · unfold btwA
    rw [if_neg (by omega), if_neg (by omega), if_neg (by omega), if_neg (by omega), if_neg (by omega), if_pos ecm, rel_no hr]
    decide
  · unfold prtA
    rw [e41, if_neg (by decide), if_pos rfl, if_neg (fun y => by rw [ecm] at y; exact absurd y.2 (by decide))]
    decide
theorem r_ask_go {d : Nat} {Q : Int → jM → Prop} {σ : jM} {p q1 w : Int} {f : DT} {P0 : List Int} (tp : TP T n) (hk : kT T n p ≠ 121) (h1 : RGm T n t b l false 5 5 4 p q1 o f) (hr : relC (kT T n q1) ≠ -1) (s : RS T n b l σ p w P0 o 0) (h0 : hdR P0 < 4) (hl : (P0.length : Int) ≤ 7 * o + 2) (hc : cA T n p true P0) (go : ∀ σ2 w2, RS T n b l σ2 (nxT T n q1) w2 (cpK (kT T n q1) :: P0) o 0 → w < w2 → offZ b w σ σ2 → GX false (mfA σ2 b) (mgA σ2 b) w w2 f → SJ d t Q σ2) : SJ d t Q σ := by
  have w0 := s.2.2.2.2.2.2.2.2.2.1
  refine h1 d Q σ w P0 s (by omega) (by omega) (fun z => absurd z hk) (fun σ1 w1 E s1 hE hn hw _ hz pm => ?_)
  obtain ⟨x1, x2, x3, x4⟩ := rel_eq hr
  have e41 : opA (E ++ P0) = 41 := (opA_E E (fun x hx => by have := hE x hx; omega)).trans hc.1
  have ecm : cmA (E ++ P0) = false := cmA_lo h0 E hE
  unfold N3 at x2
  have hU : rkU (cpK (kT T n q1)) = 5 := by unfold rkU; rw [if_pos (rk_cmp x1)]
  refine r_go tp s1 (by rw [hU]; omega) (by rw [hU]; exact hE) hn (op := cpK (kT T n q1)) ?_ (by omega) x3 ⟨w0, hw⟩ pm (fun σ2 s2 z2 g2 => go σ2 _ s2 (by omega) (offZ_tr hz (by omega) z2) g2)
  unfold btwA
  rw [if_neg (by omega), if_neg (by omega), if_neg (by omega), if_neg (by omega), if_neg (by omega), if_pos ecm]
theorem r_askB3 {p q1 kind pl : Int} {f : DT} (tp : TP T n) (hk : kT T n p ≠ 121) (h1 : RGm T n t b l false 5 5 4 p q1 o f) (hr : relC (kT T n q1) ≠ -1) (h2 : RBm T n t b l false 5 4 (nxT T n q1) o kind pl) : RBm T n t b l true 4 2 p o kind pl := by
  intro d Q σ w P0 s h0 hl hc k
  obtain ⟨x1, x2, x3, x4⟩ := rel_eq hr
  have r4 := rk_cmp x1
  refine r_ask_go tp hk h1 hr s h0 hl hc (fun σ2 w2 s2 hw z2 g2 => ?_)
  have el : ((cpK (kT T n q1) :: P0).length : Int) = (P0.length : Int) + 1 := by simp
  exact h2 d Q σ2 w2 _ s2 (show rkA (cpK (kT T n q1)) < 5 by omega) (by omega) (fun _ => akA_no (by omega) (by omega)) (fun σ3 z3 e3 => k σ3 (offZ_tr z2 (by omega) z3) e3)
theorem r_ask {p q1 q2 : Int} {f g : DT} (tp : TP T n) (hk : kT T n p ≠ 121) (h1 : RGm T n t b l false 5 5 4 p q1 o f) (hr : relC (kT T n q1) ≠ -1) (h2 : RGm T n t b l false 5 5 4 (nxT T n q1) q2 o g) : RGm T n t b l true 4 3 2 p q2 o (fun r x => cop2 (relC (kT T n q1)) (f r x) (g r x)) := by
  intro d Q σ w P0 s h0 hl hc k
  have w0 := s.2.2.2.2.2.2.2.2.2.1
  obtain ⟨x1, x2, x3, x4⟩ := rel_eq hr
  have r4 := rk_cmp x1
  refine r_ask_go tp hk h1 hr s h0 hl hc (fun σ2 w2 s2 hw z2 g2 => ?_)
  have el : ((cpK (kT T n q1) :: P0).length : Int) = (P0.length : Int) + 1 := by simp
  refine h2 d Q σ2 w2 _ s2 (show rkA (cpK (kT T n q1)) < 5 by omega) (by omega) (fun _ => akA_no (by omega) (by omega)) (fun σ3 w3 E3 s3 hE3 hn3 hw3 _ z3 pm3 => ?_)
  have ea : E3 ++ cpK (kT T n q1) :: P0 = (E3 ++ [cpK (kT T n q1)]) ++ P0 := by simp
  have o5 : opC [cpK (kT T n q1)] = 0 := by rw [opC, if_neg (by omega), opC]; omega
  have eo : opC (E3 ++ [cpK (kT T n q1)]) = opC E3 := by rw [opC_app, o5]; omega
  unfold lenA at hn3
  rw [ea] at s3 hn3
  rw [← eo] at s3 hn3
  refine k σ3 w3 (E3 ++ [cpK (kT T n q1)]) s3 (fun x hx => ?_) hn3 (by omega) (cmA_end r4 E3 hE3) (offZ_tr z2 (by omega) z3) ?_
  · rcases List.mem_append.mp hx with hx | hx
    · have := hE3 x hx
      omega
    · rw [List.mem_singleton.mp hx]; omega
  · refine PM_lift (b := w2) (by omega) E3 w3 _ _ (by omega) (fun mf' mg' e he a1 a2 gg em => ?_) pm3
    have h := GX_cmp w0 (show w < w2 by omega) (show w2 < e by omega) x1 em (GX_ag (GX_ag g2 (fun i i0 i1 => offZ_f (a := w) z3 i i0 (by omega)) (fun i i0 i1 => offZ_g (a := w) z3 i i0 (by omega))) a1 a2) gg
    have e2 : (fun r x => cop2 (relC (kT T n q1)) (f r x) (g r x)) = (fun r c => mcmp (cpK (kT T n q1)) (f r c) (g r c)) := by
      funext r x
      exact x4 _ _
    rw [e2]
    exact h
/-- something is opened -/
theorem jh_open {d : Nat} {Q : Int → jM → Prop} {σ : jM} {p w x : Int} {U P0 : List Int} (tp : TP T n) (ll : l = 0 ∨ l = 1) (s : RS T n b l σ p w (U ++ P0) o 0) (hU : ∀ x ∈ U, x = 2 ∨ x = 4 ∨ x = 5) (h7 : hdR P0 < 7) (hl : ((U ++ P0).length : Int) ≤ 7 * o + 6) (ho : 0 ≤ o ∧ o ≤ 8) (hx : isX (U ++ P0) (kT T n p) x) (deep : o = 8 → Q 3 σ) (go : o < 8 → ∀ σ', RS T n b l σ' (nxT T n p) w (x :: (U ++ P0)) (o + 1) 0 → offZ b w σ σ' → SJ d t Q σ') : SJ d t Q σ := by
  unfold isX at hx
  refine jh_begin s.2.2.2.2.2.2.2.2.1 (m_begin tp s (by omega) hU h7 ll ho (fun z => absurd z (by omega)) (fun z => absurd z (by omega)) (fun f hf => ?_) (fun y hy => ?_) (fun z1 z2 z3 z4 => ?_))
  · unfold isF at hf
    rcases hf with hf | hf
    · exact absurd hf.1 (by omega)
    · exact absurd hf.1 (by omega)
  · have e : y = x := by unfold isX at hy; omega
    rw [e]
    exact ⟨fun z => ⟨inl (by decide), fun y => absurd y (by decide), fun _ => deep z⟩, fun z σ' s' z' _ => ⟨inl (by decide), fun _ => go z σ' s' z', fun y => absurd rfl y⟩⟩
  · unfold isOpen at z3
    rcases hx with hx | hx | hx | hx | hx | hx
    · exact absurd hx.1 (by omega)
    · exact absurd hx.1 (by omega)
    · exact absurd hx.1 (by omega)
    · exact absurd hx.1 (by omega)
    · exact absurd hx.1 (by omega)
    · exact absurd hx.1 z4
theorem r_not {p q : Int} {f : DT} (tp : TP T n) (ll : l = 0 ∨ l = 1) (hk : kT T n p = 121) (ho : 0 ≤ o ∧ o < 8) (h : RGm T n t b l true 4 3 2 (nxT T n p) q (o + 1) f) (bf : B01 f) : RGm T n t b l true 4 3 2 p q o (fun r x => cop1 r 13 (f r x)) := by
  intro d Q σ w P0 s h0 hl hc k
  have w0 := s.2.2.2.2.2.2.2.2.2.1
  refine jh_open (U := []) (x := 20) tp ll s (fun x hx => absurd hx List.not_mem_nil) (by omega) (show (P0.length : Int) ≤ 7 * o + 6 by omega) (by omega) (Or.inr (Or.inr (Or.inr (Or.inr (Or.inr ⟨⟨hk, hc.2⟩, rfl⟩))))) (fun z => absurd z (by omega)) (fun _ σ1 s1 z1 => ?_)
  have e1 : opA (20 :: P0) = 41 := by rw [opA, if_neg (by omega)]; exact hc.1
  have el : ((20 :: P0).length : Int) = (P0.length : Int) + 1 := by simp
  refine h d Q σ1 w (20 :: P0) s1 (show rkA 20 < 4 by decide) (by omega) ⟨e1, akA_yes e1 (Or.inr (by decide))⟩ (fun σ2 w2 E s2 hE hn hw hcE z2 pm => ?_)
  have ea : E ++ 20 :: P0 = (E ++ [20]) ++ P0 := by simp
  have o5 : opC [20] = 1 := by decide
  have eo : o + 1 + opC E = o + opC (E ++ [20]) := by rw [opC_app, o5]; omega
  unfold lenA at hn
  rw [ea, eo] at s2 hn
  refine k σ2 w2 (E ++ [20]) s2 (fun x hx => ?_) hn hw (cmA_E E hcE) (offZ_tr z1 (by omega) z2) ?_
  · rcases List.mem_append.mp hx with hx | hx
    · exact hE x hx
    · rw [List.mem_singleton.mp hx]; decide
  · refine PM_lift (b := w) (by omega) E w2 _ _ (by omega) (fun mf' mg' e he a1 a2 gg em => ?_) pm
    have h := GX_not w0 (show w < e by omega) em bf gg
    have e2 : (fun r x => cop1 r 13 (f r x)) = (fun r c => 1 - f r c) := by
      funext r x
      exact c1_13
    rw [e2]
    exact h
theorem r_notB {p kind pl : Int} (tp : TP T n) (ll : l = 0 ∨ l = 1) (hk : kT T n p = 121) (ho : 0 ≤ o ∧ o < 8) (h : RBm T n t b l true 4 2 (nxT T n p) (o + 1) kind pl) : RBm T n t b l true 4 2 p o kind pl := by
  intro d Q σ w P0 s h0 hl hc k
  refine jh_open (U := []) (x := 20) tp ll s (fun x hx => absurd hx List.not_mem_nil) (by omega) (show (P0.length : Int) ≤ 7 * o + 6 by omega) (by omega) (Or.inr (Or.inr (Or.inr (Or.inr (Or.inr ⟨⟨hk, hc.2⟩, rfl⟩))))) (fun z => absurd z (by omega)) (fun _ σ1 s1 z1 => ?_)
  have e1 : opA (20 :: P0) = 41 := by rw [opA, if_neg (by omega)]; exact hc.1
  have el : ((20 :: P0).length : Int) = (P0.length : Int) + 1 := by simp
  exact h d Q σ1 w (20 :: P0) s1 (show rkA 20 < 4 by decide) (by omega) ⟨e1, akA_yes e1 (Or.inr (by decide))⟩ (fun σ2 z2 e2 => k σ2 (offZ_tr z1 (by omega) z2) e2)
theorem r_notD {p : Int} (tp : TP T n) (ll : l = 0 ∨ l = 1) (hk : kT T n p = 121) (ho : o = 8) : RBm T n t b l true 4 2 p o 3 (plT T n p) := by
  intro d Q σ w P0 s h0 hl hc k
  exact jh_open (U := []) (x := 20) tp ll s (fun x hx => absurd hx List.not_mem_nil) (by omega) (show (P0.length : Int) ≤ 7 * o + 6 by omega) (by omega) (Or.inr (Or.inr (Or.inr (Or.inr (Or.inr ⟨⟨hk, hc.2⟩, rfl⟩))))) (fun _ => k σ offZ_rf s.1.2.2.1) (fun z => absurd z (by omega))
end RE
