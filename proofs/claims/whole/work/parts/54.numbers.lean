/-! ===== fewest, chain, chains, hardest, made alike ===== -/
noncomputable def fw (n : Int) : Nat := if h : 1 ≤ n ∧ n ≤ 120 then Classical.choose (ex_single h) else 0
theorem fw_ok {n : Int} (h : 1 ≤ n ∧ n ≤ 120) : ∃ g, fw n ≤ 9 ∧ Lst (Pn n) n (fw n) g := by
  unfold fw
  rw [dif_pos h]
  exact Classical.choose_spec (ex_single h)
theorem fw_eq {n : Int} {J : Nat} {g : Int → Int} (h : 1 ≤ n ∧ n ≤ 120) (hL : Lst (Pn n) n J g) : J = fw n := by
  obtain ⟨g', _, h'⟩ := fw_ok h
  exact (Lst_uq hL h').1
/-- what the reference knows of the fewest -/
def KR (σ : jM) : Prop := ∀ n, 1 ≤ n → n ≤ 120 → (0 ≤ σ 332 n ∧ ∀ j : Nat, (j : Int) < σ 332 n → DD (Pn n) n j f1 0 = none)
theorem KR_same {σ σ' : jM} (h : KR σ) (e : σ' 332 = σ 332) : KR σ' := fun n n0 n1 => by rw [e]; exact h n n0 n1
def frS (σ σ' : jM) : Prop := ∀ x, ((286 ≤ x ∧ x ≤ 292) ∨ x = 338) → σ' x = σ x
theorem I0_fr {L : LT} {σ σ' : jM} (I : I0 L σ) (e : ∀ x, (x ≤ 274 ∨ (293 ≤ x ∧ x ≤ 325)) → σ' x = σ x) : I0 L σ' := by
  obtain ⟨⟨w1, w2, v1, v2, w3⟩, ⟨t1, t2, t3, t4⟩, f, b⟩ := I
  have hn4 : σ 322 0 ≤ 4 := v1.2.2.2.2.2.1.2
  have tx : ∀ x, 293 ≤ x → x ≤ 320 → σ' x = σ x := fun x x0 x1 => e x (by omega)
  refine ⟨⟨?_, ?_, ?_, ?_, ?_⟩, ⟨?_, ?_, ?_, ?_⟩, ?_, ?_⟩
  · rw [e 322 (by omega)]; exact WR_same w1 (fun x x0 x1 => e x (by omega))
  · rw [e 323 (by omega)]; exact WR_same w2 (fun x x0 x1 => e x (by omega))
  · rw [e 322 (by omega)]; exact v1
  · rw [e 323 (by omega)]; exact v2
  · rw [e 322 (by omega), e 323 (by omega)]; exact w3
  · rw [e 322 (by omega)]; exact TxC_same t1 hn4 tx
  · rw [e 322 (by omega)]; exact TxM_same t2 (e 324 (by omega))
  · rw [e 322 (by omega)]; exact t3
  · rw [e 322 (by omega)]; exact CLs_same t4 hn4 tx (e 324 (by omega))
  · unfold IF
    rw [e 271 (by omega), e 272 (by omega), e 325 (by omega), e 321 (by omega)]
    exact f
  · rw [e 321 (by omega)]; exact b
/-- the answer is the same, and all is alike behind it, what is known included -/
def SameN (L : LT) (σ0 : jM) (r : Int) : Int → jM → Prop := fun r' σ2 => r' = r ∧ I0 L σ2 ∧ K1 σ2 ∧ KR σ2 ∧ frS σ0 σ2
/-- what the reference's chains change -/
def offR (σ σ' : jM) : Prop := ∀ x, x ≠ 331 → x ≠ 332 → σ' x = σ x
theorem offR_rf {σ : jM} : offR σ σ := fun _ _ _ => rfl
theorem offR_tr {σ σ1 σ2 : jM} (a : offR σ σ1) (b : offR σ1 σ2) : offR σ σ2 := fun x h1 h2 => (b x h1 h2).trans (a x h1 h2)
theorem SameN_of {L : LT} {σ σ1 σ2 : jM} {r : Int} (I : I0 L σ) (K : K1 σ1) (o1 : offC σ σ1) (R : KR σ2) (o2 : offR σ1 σ2) : SameN L σ r r σ2 :=
  ⟨rfl, I0_fr I (fun x hx => by rw [o2 x (by omega) (by omega), o1 x (by omega)]), K1_same K (fun x x0 x1 => o2 x (by omega) (by omega)), R, fun x hx => by rw [o2 x (by omega) (by omega), o1 x (by omega)]⟩
section NU
variable {t : Int} {L : LT} {σ : jM}
theorem PHn {τ : jM} {n : Int} (h : 1 ≤ n) : PH τ (Pn n) n 0 := ⟨fun x px => by have := of_decide_eq_true px; omega, Or.inl ⟨rfl, rfl⟩⟩
theorem m_layChain {d : Nat} {n : Int} {Q : Int → jM → Prop} (hn : 1 ≤ n ∧ n ≤ 120) (hR : KR σ) (k : ∀ (g : Int → Int) (σ' : jM), Lst (Pn n) n (fw n) g → fw n ≤ 9 → (∀ i, 0 ≤ i → i ≤ (fw n : Int) → σ' 331 i = g i) → KR σ' → offR σ σ' → Q (fw n) σ') : Ct mX12_layChain (d + 5) 0 t [rv 321, iv n] σ Q := by
  obtain ⟨g0, h9, hL⟩ := fw_ok hn
  have h0 := hR n hn.1 hn.2
  refine c_X12_layChain ⟨by omega, ?_⟩
  have loop : ∀ (c : Nat) (j : Nat) (τ : jM), j + c = fw n → (∀ i : Nat, i < j → DD (Pn n) n i f1 0 = none) → (∀ x, x ≠ 331 → τ x = σ x) → Jt mX12_layChain (d + 5) 0 t Q 7 [rv 321, iv n, iv (j : Int)] [] τ := by
    intro c
    induction c with
    | zero =>
      intro j τ hj no ot
      have ej : j = fw n := by omega
      subst ej
      refine b_X12_layChain_7 (m_searched (d := d) (P := Pn n) (J := fw n) hn (by omega) (PHn hn.1) (fun g σ1 hg hi o1 => ⟨⟨by decide, by decide⟩, fun _ => ⟨by omega, fun σ4 e4 => ?_⟩, fun z => absurd z (by decide)⟩) (fun σ1 hg o1 => ?_))
      · refine k g σ4 ⟨hg, no⟩ h9 (fun i i0 i1 => by rw [e4, up_row (by decide)]; exact hi i i0 i1) (fun q q0 q1 => ?_) (fun x h1 h2 => by rw [e4, up_row h2, o1 x h1]; exact ot x h1)
        by_cases e : q = n
        · subst e
          rw [e4, up_at]
          exact ⟨by omega, fun i hi => no i (by omega)⟩
        · rw [e4, up_ne (Or.inr e), o1 332 (by decide), ot 332 (by decide)]
          exact hR q q0 q1
      · rw [hL.1] at hg; cases hg
    | succ c ih =>
      intro j τ hj no ot
      refine b_X12_layChain_7 (m_searched (d := d) (P := Pn n) (J := j) hn (by omega) (PHn hn.1) (fun g σ1 hg hi o1 => ?_) (fun σ1 hg o1 => ⟨⟨by decide, by decide⟩, fun z => absurd rfl z, fun _ => ?_⟩))
      · rw [hL.2 j (by omega)] at hg; cases hg
      · have := ih (j + 1) σ1 (by omega) (fun i hi => ?_) (fun x hx => by rw [o1 x hx]; exact ot x hx)
        · rw [show ((j + 1 : Nat) : Int) = (j : Int) + 1 by omega] at this
          exact this
        · rcases Nat.lt_or_ge i j with w | w
          · exact no i w
          · rw [show i = j by omega]; exact hg
  have hle : (σ 332 n).toNat ≤ fw n := by
    rcases Nat.lt_or_ge (fw n) (σ 332 n).toNat with w | w
    · have := h0.2 (fw n) (by omega)
      rw [hL.1] at this; cases this
    · exact w
  have := loop (fw n - (σ 332 n).toNat) (σ 332 n).toNat σ (by omega) (fun i hi => h0.2 i (by omega)) (fun _ _ => rfl)
  rw [show (((σ 332 n).toNat : Nat) : Int) = σ 332 n by omega] at this
  exact this
theorem m_isNumber {d : Nat} {n : Int} {Q : Int → jM → Prop} (hn : inR n) (k : Q (b01 (inB n 1 120)) σ) : Ct mX12_isNumber (d + 1) 0 t [iv n] σ Q :=
  c_X12_isNumber (m_isIn hn ⟨by decide, by decide⟩ ⟨by decide, by decide⟩ ⟨b01_2, k⟩)
/-- the class's joiningsOf by fw -/
theorem q_jn {d : Nat} {n : Int} {Q : Int → jM → Prop} (hn : 1 ≤ n ∧ n ≤ 120) (hK : K1 σ) (k : ∀ (g : Int → Int) (σ' : jM), Lst (Pn n) n (fw n) g → okRow σ' n (fw n) g → K1 σ' → offC σ σ' → Q (fw n) σ') : Ct mX0_joiningsOf (d + 29) 0 t [rv 275, iv n] σ Q :=
  q_joiningsOf (d := d) (rng (by omega) (by omega)) hK (fun z => by omega) (fun _ _ J g σ' hr K' o' => by
    have e := fw_eq hn hr.2.1
    subst e
    exact k g σ' hr.2.1 hr K' o')
theorem b01_in {n : Int} (h : 1 ≤ n ∧ n ≤ 120) : ¬ b01 (inB n 1 120) = 0 := fun q => by have := inB_f (b01_0.mp q); omega
theorem b01_out {n : Int} (h : n < 1 ∨ 120 < n) : b01 (inB n 1 120) = 0 := by
  rw [b01_0]
  unfold inB
  simp
  omega
theorem a_fewest {n : Int} (d : Nat) (I : I0 L σ) (hK : K1 σ) (hR : KR σ) (hn : inR n) {Q : Int → jM → Prop} (k : ∀ r σ1, inR r → (∀ (d2 : Nat) Q2, (∀ r' σ2, SameN L σ r r' σ2 → Q2 r' σ2) → Ct mX12_fewest (d2 + 11) 0 t [rv 321, iv n] σ1 Q2) → Q r σ1) : Ct mX11_fewest (d + 40) 0 t [rv 1, iv n] σ Q := by
  by_cases h : 1 ≤ n ∧ n ≤ 120
  · refine c_X11_fewest (q_jn (d := d + 10) h hK (fun g σ1 hL hr K1' o1 => k _ σ1 ?_ (fun d2 Q2 k2 => ?_)))
    · have := hr.1; exact rng (by omega) (by omega)
    · refine c_X12_fewest (m_isNumber (d := d2 + 9) hn ⟨b01_R, fun z => absurd z (b01_in h), fun _ => ?_⟩)
      exact m_layChain (d := d2 + 5) h (KR_same hR (o1 332 (by omega))) (fun g2 σ2 _ _ _ R2 o2 => k2 _ _ (SameN_of I K1' o1 R2 o2))
  · refine c_X11_fewest (q_joiningsOf (d := d + 10) hn hK (fun _ => k _ σ ⟨by decide, by decide⟩ (fun d2 Q2 k2 => ?_)) (fun a b => absurd ⟨a, b⟩ h))
    exact c_X12_fewest (m_isNumber (d := d2 + 9) hn ⟨b01_R, fun _ => k2 _ _ (SameN_of I hK offC_rf hR offR_rf), fun z => absurd (b01_out (by omega)) z⟩)
theorem Lst_row {n i : Int} {g : Int → Int} (h : 1 ≤ n ∧ n ≤ 120) (hL : Lst (Pn n) n (fw n) g) (hi : 0 ≤ i ∧ i ≤ (fw n : Int)) : 1 ≤ g i ∧ g i ≤ n := by
  obtain ⟨p, ok⟩ := Lst_Pre (by omega) hL
  have a := Pre_pos p hi.1 hi.2
  have b := Pre_leq p hi.1 hi.2 (Int.le_refl _)
  rw [ok.1] at b
  omega
theorem a_chain {n i : Int} (d : Nat) (I : I0 L σ) (hK : K1 σ) (hR : KR σ) (hn : inR n) (hi : inR i) {Q : Int → jM → Prop} (k : ∀ r σ1, inR r → (∀ (d2 : Nat) Q2, (∀ r' σ2, SameN L σ r r' σ2 → Q2 r' σ2) → Ct mX12_chain (d2 + 11) 0 t [rv 321, iv n, iv i] σ1 Q2) → Q r σ1) : Ct mX11_chain (d + 40) 0 t [rv 1, iv n, iv i] σ Q := by
  by_cases h : 1 ≤ n ∧ n ≤ 120
  · -- the reference, at any state of the class's
    have ref : ∀ (r : Int) (σ1 : jM), K1 σ1 → offC σ σ1 → (∀ g, Lst (Pn n) n (fw n) g → r = if 0 ≤ i ∧ i ≤ (fw n : Int) then g i else -1) → ∀ (d2 : Nat) (Q2 : Int → jM → Prop), (∀ r' σ2, SameN L σ r r' σ2 → Q2 r' σ2) → Ct mX12_chain (d2 + 11) 0 t [rv 321, iv n, iv i] σ1 Q2 := by
      intro r σ1 K1' o1 hr d2 Q2 k2
      refine c_X12_chain (m_isNumber (d := d2 + 9) hn ⟨b01_R, fun z => absurd z (b01_in h), fun _ => ?_⟩)
      refine m_layChain (d := d2 + 5) h (KR_same hR (o1 332 (by omega))) (fun g σ2 hL h9 hrow R2 o2 => ?_)
      have er := hr g hL
      refine m_isIn hi in0 (rng (by omega) (by omega)) ⟨b01_R, fun z => ?_, fun z => ?_⟩
      · have := inB_f (b01_0.mp z)
        rw [if_neg (by omega)] at er
        rw [← er]
        exact k2 _ _ (SameN_of I K1' o1 R2 o2)
      · have := inB_t (b01_1 z)
        refine ⟨by omega, ?_⟩
        rw [if_pos this] at er
        rw [hrow i this.1 this.2, ← er]
        exact k2 _ _ (SameN_of I K1' o1 R2 o2)
    refine c_X11_chain ⟨hi, fun z => k _ σ ⟨by decide, by decide⟩ (ref _ σ hK offC_rf (fun g _ => by rw [if_neg (by omega)])), fun z => ?_⟩
    refine q_jn (d := d + 10) h hK (fun g σ1 hL hr K1' o1 => ⟨hi, ?_⟩)
    have h9 := hr.1
    refine ⟨rng (by omega) (by omega), fun y => k _ σ1 ⟨by decide, by decide⟩ (ref _ σ1 K1' o1 (fun g _ => by rw [if_neg (by omega)])), fun y => ?_⟩
    have bg := Lst_row h hL ⟨z, y⟩
    refine q_linkOf h ⟨z, y⟩ hr (k _ σ1 (rng (by omega) (by omega)) (ref _ σ1 K1' o1 (fun g' hL' => by rw [if_pos ⟨z, y⟩, (Lst_uq hL hL').2])))
  · have ref : ∀ (d2 : Nat) (Q2 : Int → jM → Prop), (∀ r' σ2, SameN L σ (-1) r' σ2 → Q2 r' σ2) → Ct mX12_chain (d2 + 11) 0 t [rv 321, iv n, iv i] σ Q2 := fun d2 Q2 k2 =>
      c_X12_chain (m_isNumber (d := d2 + 9) hn ⟨b01_R, fun _ => k2 _ _ (SameN_of I hK offC_rf hR offR_rf), fun z => absurd (b01_out (by omega)) z⟩)
    refine c_X11_chain ⟨hi, fun z => k _ σ ⟨by decide, by decide⟩ ref, fun z => ?_⟩
    refine q_joiningsOf (d := d + 10) hn hK (fun _ => ⟨hi, ⟨by decide, by decide⟩, fun _ => k _ σ ⟨by decide, by decide⟩ ref, fun y => absurd y (by omega)⟩) (fun a b => absurd ⟨a, b⟩ h)
theorem a_chains {n : Int} (d : Nat) (I : I0 L σ) (hK : K1 σ) (hR : KR σ) (hn : inR n) {Q : Int → jM → Prop} (k : ∀ r σ1, inL r → (∀ (d2 : Nat) Q2, (∀ r' σ2, SameN L σ r r' σ2 → Q2 r' σ2) → Ct mX12_chains (d2 + 11) 1 t [rv 321, iv n] σ1 Q2) → Q r σ1) : Ct mX11_chains (d + 40) 1 t [rv 1, iv n] σ Q := by
  refine c_X11_chains (q_waysOf (d := d + 9) hn hK (fun z => k _ σ ⟨by decide, by decide⟩ (fun d2 Q2 k2 => ?_)) (fun a b J g σ1 hJ hL K1' o1 => k _ σ1 ?_ (fun d2 Q2 k2 => ?_)))
  · exact c_X12_chains (m_isNumber (d := d2 + 9) hn ⟨b01_R, fun _ => k2 _ _ (SameN_of I hK offC_rf hR offR_rf), fun y => absurd (b01_out z) y⟩)
  · have x := NN_bd (n := n) b J (f := f1) (k := 0) (by decide)
    have y := p120_9 ⟨J, by omega⟩
    simp only at y
    exact ⟨by omega, by omega⟩
  · have e := fw_eq ⟨a, b⟩ hL
    subst e
    refine c_X12_chains (m_isNumber (d := d2 + 9) hn ⟨b01_R, fun z => absurd z (b01_in ⟨a, b⟩), fun _ => ?_⟩)
    refine m_layChain (d := d2 + 5) ⟨a, b⟩ (KR_same hR (o1 332 (by omega))) (fun g2 σ2 hL2 h9 _ R2 o2 => ?_)
    refine m_searchedAll (d := d2 + 6) ⟨a, b⟩ (by omega) (fun e0 => ?_) (fun σ3 o3 => k2 _ _ (SameN_of I K1' o1 (KR_same R2 (o3 332 (by decide))) (offR_tr o2 (fun x h1 _ => o3 x h1))))
    obtain ⟨p, ok⟩ := Lst_Pre (by omega) hL2
    rw [← ok.1, e0]
    exact p.1
/-- the hardest -/
noncomputable def hdF : Nat → Int → Int → Int
  | 0, _, b => b
  | c + 1, v, b => hdF c (v + 1) (if fw v ≤ fw b then b else v)
theorem hdF_in : ∀ (c : Nat) (v b : Int), hdF c v b = b ∨ (v ≤ hdF c v b ∧ hdF c v b < v + c)
  | 0, v, b => Or.inl rfl
  | c + 1, v, b => by
    rw [hdF]
    rcases hdF_in c (v + 1) (if fw v ≤ fw b then b else v) with h | h
    · rw [h]
      split
      · exact Or.inl rfl
      · right; omega
    · right; omega
theorem a_hardest {p q : Int} (d : Nat) (I : I0 L σ) (hK : K1 σ) (hR : KR σ) (hp : inR p) (hq : inR q) {Q : Int → jM → Prop} (k : ∀ r σ1, inR r → (∀ (d2 : Nat) Q2, (∀ r' σ2, SameN L σ r r' σ2 → Q2 r' σ2) → Ct mX12_hardest (d2 + 11) 0 t [rv 321, iv p, iv q] σ1 Q2) → Q r σ1) : Ct mX11_hardest (d + 40) 0 t [rv 1, iv p, iv q] σ Q := by
  have bad : (p < 1 ∨ 120 < q ∨ q < p ∨ 20 < q - p) → Q (-1) σ := fun hb => k _ σ ⟨by decide, by decide⟩ (fun d2 Q2 k2 => by
    have fin := k2 (-1) σ (SameN_of I hK offC_rf hR offR_rf)
    refine c_X12_hardest (m_isNumber (d := d2 + 9) hp ⟨b01_R, fun _ => fin, fun z => m_isNumber (d := d2 + 9) hq ⟨b01_R, fun _ => fin, fun y => ?_⟩⟩)
    have a := inB_t (b01_1 z)
    have b := inB_t (b01_1 y)
    exact m_isIn (rng (by omega) (by omega)) in0 ⟨by decide, by decide⟩ ⟨b01_R, fun x => by have := inB_t (b01_1 x); omega, fun _ => fin⟩)
  refine c_X11_hardest ⟨hp, fun z => bad (by omega), fun z => ⟨hq, fun y => bad (by omega), fun y => ⟨hp, hq, fun x => bad (by omega), fun x => ⟨rng (by omega) (by omega), fun w => ?_, fun w => bad (by omega)⟩⟩⟩⟩
  have hin := hdF_in (q - p).toNat (p + 1) p
  -- the class's loop
  have loop : ∀ (c : Nat) (v b : Int) (τ : jM), p ≤ b → b ≤ q → p < v → v + c = q + 1 → K1 τ → offC σ τ → (∀ τ', K1 τ' → offC σ τ' → Q (hdF c v b) τ') → Jt mX11_hardest (d + 40) 0 t Q 33 [rv 1, iv p, iv q, iv b, iv v] [] τ := by
    intro c
    induction c with
    | zero =>
      intro v b τ b0 b1 v0 hv Kτ oτ kk
      exact b_X11_hardest_33 ⟨rng (by omega) (by omega), hq, fun _ => kk τ Kτ oτ, fun z => absurd z (by omega)⟩
    | succ c ih =>
      intro v b τ b0 b1 v0 hv Kτ oτ kk
      refine b_X11_hardest_33 ⟨rng (by omega) (by omega), hq, fun z => absurd z (by omega), fun _ => ?_⟩
      refine q_jn (d := d + 10) ⟨by omega, by omega⟩ Kτ (fun g3 σ3 _ r3 K3 o3 => q_jn (d := d + 10) ⟨by omega, by omega⟩ K3 (fun g4 σ4 _ r4 K4 o4 => ?_))
      have a3 := r3.1
      have a4 := r4.1
      have o := offC_tr oτ (offC_tr o3 o4)
      rw [hdF] at kk
      refine ⟨rng (by omega) (by omega), rng (by omega) (by omega), fun z => ih (v + 1) b σ4 b0 b1 (by omega) (by omega) K4 o (fun τ' K' o' => ?_), fun z => ih (v + 1) v σ4 (by omega) (by omega) (by omega) (by omega) K4 o (fun τ' K' o' => ?_)⟩
      · have := kk τ' K' o'
        rw [if_pos (by omega)] at this
        exact this
      · have := kk τ' K' o'
        rw [if_neg (by omega)] at this
        exact this
  refine loop (q - p).toNat (p + 1) p σ (by omega) (by omega) (by omega) (by omega) hK offC_rf (fun σ1 K1' o1 => k _ σ1 (rng (by omega) (by omega)) (fun d2 Q2 k2 => ?_))
  have loop2 : ∀ (c : Nat) (v b : Int) (τ : jM), p ≤ b → b ≤ q → p < v → v + c = q + 1 → KR τ → offR σ1 τ → (∀ τ', KR τ' → offR σ1 τ' → Q2 (hdF c v b) τ') → Jt mX12_hardest (d2 + 11) 0 t Q2 35 [rv 321, iv p, iv q, iv b, iv v] [] τ := by
    intro c
    induction c with
    | zero =>
      intro v b τ b0 b1 v0 hv Kτ oτ kk
      exact b_X12_hardest_35 ⟨rng (by omega) (by omega), hq, fun _ => kk τ Kτ oτ, fun z => absurd z (by omega)⟩
    | succ c ih =>
      intro v b τ b0 b1 v0 hv Kτ oτ kk
      refine b_X12_hardest_35 ⟨rng (by omega) (by omega), hq, fun z => absurd z (by omega), fun _ => ?_⟩
      refine m_layChain (d := d2 + 5) ⟨by omega, by omega⟩ Kτ (fun g3 σ3 _ a3 _ R3 o3 => m_layChain (d := d2 + 5) ⟨by omega, by omega⟩ R3 (fun g4 σ4 _ a4 _ R4 o4 => ?_))
      have o := offR_tr oτ (offR_tr o3 o4)
      rw [hdF] at kk
      refine ⟨rng (by omega) (by omega), rng (by omega) (by omega), fun z => ih (v + 1) b σ4 b0 b1 (by omega) (by omega) R4 o (fun τ' K' o' => ?_), fun z => ih (v + 1) v σ4 (by omega) (by omega) (by omega) (by omega) R4 o (fun τ' K' o' => ?_)⟩
      · have := kk τ' K' o'
        rw [if_pos (by omega)] at this
        exact this
      · have := kk τ' K' o'
        rw [if_neg (by omega)] at this
        exact this
  refine c_X12_hardest (m_isNumber (d := d2 + 9) hp ⟨b01_R, fun u => absurd u (b01_in (by omega)), fun _ => m_isNumber (d := d2 + 9) hq ⟨b01_R, fun u => absurd u (b01_in (by omega)), fun _ => ?_⟩⟩)
  refine m_isIn (rng (by omega) (by omega)) in0 ⟨by decide, by decide⟩ ⟨b01_R, fun _ => ?_, fun u => by have := inB_f (b01_0.mp u); omega⟩
  exact loop2 (q - p).toNat (p + 1) p σ1 (by omega) (by omega) (by omega) (by omega) (KR_same hR (o1 332 (by omega))) offR_rf (fun τ' R' o' => k2 _ _ (SameN_of I K1' o1 R' o'))
/-- the orders, both sides -/
theorem orders_C (I : I0 L σ) : ∃ c : Nat, c ≤ 4 ∧ σ 322 3 = (c : Int) ∧ σ 2 8 = (c : Int) ∧ (∀ i, 0 ≤ i → i < (c : Int) → (1 ≤ σ 322 (26 + i) ∧ σ 322 (26 + i) ≤ 40)) ∧ (∀ i, 0 ≤ i → i < (c : Int) → σ 131 i = σ 322 (26 + i)) := by
  have a4 := I.1.1.2.2.2.1
  have b4 := I.1.2.2.1.2.2.2.1
  refine ⟨(σ 322 3).toNat, by have := b4.2.1; omega, by have := b4.1; omega, by rw [a4.1]; have := b4.1; omega, fun i i0 i1 => ?_, fun i i0 i1 => ?_⟩
  · have := b4.2.2 i i0 (by omega)
    exact this
  · exact a4.2 i i0 (by omega)
theorem m_layMade {d : Nat} {Q : Int → jM → Prop} {c : Nat} (hc : c ≤ 4) (h3 : σ 322 3 = (c : Int)) (ho : ∀ i, 0 ≤ i → i < (c : Int) → (1 ≤ σ 322 (26 + i) ∧ σ 322 (26 + i) ≤ 40)) (k : ∀ (J : Nat) (g : Int → Int) (σ' : jM), J ≤ 21 → Lst (Po (fun i => σ 322 (26 + i)) c) (mxF (fun i => σ 322 (26 + i)) c) J g → (∀ i, 0 ≤ i → i ≤ (J : Int) → σ' 331 i = g i) → (∀ x, x ≠ 331 → σ' x = σ x) → Q J σ') : Ct mX12_layMade (d + 5) 0 t [rv 321] σ Q := by
  obtain ⟨o, ho'⟩ : ∃ o : Int → Int, o = fun i => σ 322 (26 + i) := ⟨_, rfl⟩
  rw [← ho'] at k
  have oi : ∀ i, σ 322 (26 + i) = o i := fun i => by rw [ho']
  have hoo : ∀ i, 0 ≤ i → i < (c : Int) → (1 ≤ o i ∧ o i ≤ 40) := fun i a b => by rw [ho']; exact ho i a b
  obtain ⟨J0, g0, hJ0, hL⟩ := ex_orders hc hoo
  obtain ⟨x1, x2, x3⟩ := mxF_in (o := o) c
  have x40 : mxF o c ≤ 40 := by
    rcases x3 with q | ⟨i, a, b, e⟩
    · omega
    · have := hoo i a b; omega
  have hPH : ∀ τ : jM, (∀ x, x ≠ 331 → τ x = σ x) → PH τ (Po o c) (mxF o c) 1 := fun τ ot => ⟨fun x px => by
    obtain ⟨i, a, b, e⟩ := Po_iff.mp px
    have := hoo i a b
    have := x2 i a b
    omega, Or.inr ⟨rfl, x40, c, hc, by rw [ot 322 (by decide)]; exact h3, by rw [ot 322 (by decide)]; exact ho, by rw [ot 322 (by decide)]; rw [ho']⟩⟩
  have seek : ∀ (m j : Nat) (τ : jM), j + m = J0 → (∀ i : Nat, i < j → DD (Po o c) (mxF o c) i f1 0 = none) → (∀ x, x ≠ 331 → τ x = σ x) → Jt mX12_layMade (d + 5) 0 t Q 49 [rv 321, iv (mxF o c), iv (j : Int)] [] τ := by
    intro m
    induction m with
    | zero =>
      intro j τ hj no ot
      have ej : j = J0 := by omega
      subst ej
      refine b_X12_layMade_49 (m_searched (d := d) (P := Po o c) (J := j) ⟨x1, by omega⟩ (by omega) (hPH τ ot) (fun g σ1 hg hi o1 => ⟨⟨by decide, by decide⟩, fun _ => ?_, fun z => absurd z (by decide)⟩) (fun σ1 hg o1 => ?_))
      · exact k j g σ1 hJ0 ⟨hg, no⟩ hi (fun x hx => by rw [o1 x hx]; exact ot x hx)
      · rw [hL.1] at hg; cases hg
    | succ m ih =>
      intro j τ hj no ot
      refine b_X12_layMade_49 (m_searched (d := d) (P := Po o c) (J := j) ⟨x1, by omega⟩ (by omega) (hPH τ ot) (fun g σ1 hg hi o1 => ?_) (fun σ1 hg o1 => ⟨⟨by decide, by decide⟩, fun z => absurd rfl z, fun _ => ?_⟩))
      · rw [hL.2 j (by omega)] at hg; cases hg
      · have := ih (j + 1) σ1 (by omega) (fun i hi => ?_) (fun x hx => by rw [o1 x hx]; exact ot x hx)
        · rw [show ((j + 1 : Nat) : Int) = (j : Int) + 1 by omega] at this
          exact this
        · rcases Nat.lt_or_ge i j with w | w
          · exact no i w
          · rw [show i = j by omega]; exact hg
  refine c_X12_layMade ?_
  have loop : ∀ (m : Nat) (i : Nat), i + m = c → Jt mX12_layMade (d + 5) 0 t Q 4 [rv 321, iv (mxF o i), iv (i : Int)] [] σ := by
    intro m
    induction m with
    | zero =>
      intro i hi
      have ei : i = c := by omega
      subst ei
      refine b_X12_layMade_4 ⟨by omega, rng (by omega) (by omega), ?_⟩
      rw [h3]
      exact ⟨rng (by omega) (by omega), fun _ => seek J0 0 σ (by omega) (fun i hi => absurd hi (by omega)) (fun _ _ => rfl), fun z => absurd z (by omega)⟩
    | succ m ih =>
      intro i hi
      have oo := hoo i (by omega) (by omega)
      obtain ⟨y1, y2, y3⟩ := mxF_in (o := o) i
      have y40 : mxF o i ≤ 40 := by
        rcases y3 with q | ⟨i', a, b, e⟩
        · omega
        · have := hoo i' a (by omega); omega
      refine b_X12_layMade_4 ⟨by omega, rng (by omega) (by omega), ?_⟩
      rw [h3, oi]
      have nx := ih (i + 1) (by omega)
      rw [mxF, show ((i + 1 : Nat) : Int) = (i : Int) + 1 by omega] at nx
      refine ⟨rng (by omega) (by omega), fun z => absurd z (by omega), fun _ => ⟨by omega, rng (by omega) (by omega), rng (by omega) (by omega), fun z => ?_, fun z => ⟨by omega, ?_⟩⟩⟩
      · rw [show max (mxF o i) (o i) = mxF o i by omega] at nx
        exact nx
      · rw [show max (mxF o i) (o i) = o i by omega] at nx
        exact nx
  exact loop c 0 (by omega)
theorem a_made {i : Int} (d : Nat) (I : I0 L σ) (hK : K1 σ) (hR : KR σ) (hi : inR i) {Q : Int → jM → Prop} (k : ∀ r σ1, inR r → (∀ (d2 : Nat) Q2, (∀ r' σ2, SameN L σ r r' σ2 → Q2 r' σ2) → Ct mX12_made (d2 + 11) 0 t [rv 321, iv i] σ1 Q2) → Q r σ1) : Ct mX11_made (d + 40) 0 t [rv 1, iv i] σ Q := by
  obtain ⟨c, hc, h3, h8, ho, h131⟩ := orders_C I
  -- the reference
  have ref : ∀ (r : Int) (σ1 : jM), K1 σ1 → offC σ σ1 → (∀ J g, J ≤ 21 → Lst (Po (fun i => σ 322 (26 + i)) c) (mxF (fun i => σ 322 (26 + i)) c) J g → r = if i = -1 then (J : Int) else if 0 ≤ i ∧ i ≤ (J : Int) then g i else -2) → ∀ (d2 : Nat) (Q2 : Int → jM → Prop), (∀ r' σ2, SameN L σ r r' σ2 → Q2 r' σ2) → Ct mX12_made (d2 + 11) 0 t [rv 321, iv i] σ1 Q2 := by
    intro r σ1 K1' o1 hr d2 Q2 k2
    have e322 : σ1 322 = σ 322 := o1 322 (by omega)
    refine c_X12_made (m_layMade (d := d2 + 5) hc (by rw [e322]; exact h3) (by rw [e322]; exact ho) (fun J g σ2 hJ hL hrow o2 => ?_))
    rw [e322] at hL
    have er := hr J g hJ hL
    have fin : Q2 r σ2 := k2 _ _ (SameN_of I K1' o1 (KR_same hR (by rw [o2 332 (by decide), o1 332 (by omega)])) (fun x h1 _ => o2 x h1))
    refine ⟨hi, fun z => m_isIn hi in0 (rng (by omega) (by omega)) ⟨b01_R, fun y => ?_, fun y => ?_⟩, fun z => ?_⟩
    · have := inB_f (b01_0.mp y)
      rw [if_neg z, if_neg (by omega)] at er
      rw [← er]; exact fin
    · have := inB_t (b01_1 y)
      refine ⟨by omega, ?_⟩
      rw [if_neg z, if_pos this] at er
      rw [hrow i this.1 this.2, ← er]; exact fin
    · rw [if_pos z] at er
      rw [← er]; exact fin
  refine c_X11_made ⟨hi, fun z => ?_, fun z => k _ σ ⟨by decide, by decide⟩ (ref _ σ hK offC_rf (fun J g _ _ => by rw [if_neg (by omega), if_neg (by omega)]))⟩
  rw [h8]
  refine q_fulfil (d := d + 10) (o := fun i => σ 322 (26 + i)) hc ho h131 hK (fun J g σ1 hok K1' o1 => ?_)
  obtain ⟨hJ, hL, h13, hrow⟩ := hok
  rw [h13]
  refine ⟨hi, fun y => ⟨hi, rng (by omega) (by omega), fun x => k _ σ1 ⟨by decide, by decide⟩ (ref _ σ1 K1' o1 (fun J' g' hJ' hL' => ?_)), fun x => ⟨by omega, ?_⟩⟩, fun y => ?_⟩
  · obtain ⟨rfl, rfl⟩ := Lst_uq hL hL'
    rw [if_neg y, if_neg (by omega)]
  · obtain ⟨p, ok⟩ := Lst_Pre (by have := (mxF_in (o := fun i => σ 322 (26 + i)) c).1; omega) hL
    have a := Pre_pos p (show 0 ≤ i by omega) (show i ≤ (J : Int) by omega)
    have b := Pre_leq p (show 0 ≤ i by omega) (show i ≤ (J : Int) by omega) (Int.le_refl _)
    rw [ok.1] at b
    have x40 : mxF (fun i => σ 322 (26 + i)) c ≤ 40 := by
      rcases (mxF_in (o := fun i => σ 322 (26 + i)) c).2.2 with q | ⟨i, a, b, e⟩
      · omega
      · have := ho i a b
        have e' : σ 322 (26 + i) = mxF (fun i => σ 322 (26 + i)) c := e
        omega
    rw [hrow i (by omega) (by omega)]
    refine k _ σ1 (rng (by omega) (by omega)) (ref _ σ1 K1' o1 (fun J' g' hJ' hL' => ?_))
    obtain ⟨rfl, rfl⟩ := Lst_uq hL hL'
    rw [if_neg y, if_pos (by omega)]
  · rw [show (J : Int) + 1 - 1 = J by omega]
    refine k _ σ1 (rng (by omega) (by omega)) (ref _ σ1 K1' o1 (fun J' g' hJ' hL' => ?_))
    obtain ⟨rfl, rfl⟩ := Lst_uq hL hL'
    rw [if_pos y]
end NU
