/-! ===== joiningsOf, linkOf, joiningsOfBoth, fulfil ===== -/
def okRow (σ : jM) (n : Int) (J : Nat) (g : Int → Int) : Prop := J ≤ 9 ∧ Lst (Pn n) n J g ∧ σ 281 n = (J : Int) + 1 ∧ ∀ j, 0 ≤ j → j ≤ (J : Int) → σ 282 (n * 10 + j) = g j
def KA (σ : jM) : Prop := ∀ n, 1 ≤ n → n ≤ 120 → (σ 281 n = 0 ∨ ∃ J g, okRow σ n J g)
def KB (σ : jM) : Prop := ∀ n, 1 ≤ n → n ≤ 120 → (σ 283 n = 0 ∨ ∃ J g, Lst (Pn n) n J g ∧ σ 283 n = NN n J f1 0)
def okMade (σ : jM) (o : Int → Int) (c : Nat) (J : Nat) (g : Int → Int) : Prop := J ≤ 21 ∧ Lst (Po o c) (mxF o c) J g ∧ σ 275 13 = (J : Int) + 1 ∧ ∀ j, 0 ≤ j → j ≤ (J : Int) → σ 285 j = g j
def KD (σ : jM) : Prop := σ 275 13 = 0 ∨ ∃ (c : Nat), c ≤ 4 ∧ σ 275 11 = (c : Int) ∧ (∀ i, 0 ≤ i → i < (c : Int) → (1 ≤ σ 284 i ∧ σ 284 i ≤ 40)) ∧ ∃ J g, okMade σ (σ 284) c J g
def K1 (σ : jM) : Prop := KA σ ∧ KB σ ∧ KD σ
theorem K1_F {σ σ' : jM} (h : K1 σ) (o : offF σ σ') : K1 σ' := by
  obtain ⟨a, b, c⟩ := h
  refine ⟨?_, ?_, ?_⟩
  · intro n n0 n1
    have := a n n0 n1
    unfold okRow at this ⊢
    rw [o.1 281 (by omega), o.1 282 (by omega)]
    exact this
  · intro n n0 n1
    rw [o.1 283 (by omega)]
    exact b n n0 n1
  · unfold KD okMade at c ⊢
    rw [o.2 13 (by omega) (by omega), o.2 11 (by omega) (by omega), o.1 284 (by omega), o.1 285 (by omega)]
    exact c
theorem K1_same {σ σ' : jM} (h : K1 σ) (o : ∀ x, 275 ≤ x → x ≤ 285 → σ' x = σ x) : K1 σ' := by
  obtain ⟨a, b, c⟩ := h
  refine ⟨?_, ?_, ?_⟩
  · intro n n0 n1
    have := a n n0 n1
    unfold okRow at this ⊢
    rw [o 281 (by omega) (by omega), o 282 (by omega) (by omega)]
    exact this
  · intro n n0 n1
    rw [o 283 (by omega) (by omega)]
    exact b n n0 n1
  · unfold KD okMade at c ⊢
    rw [o 275 (by omega) (by omega), o 284 (by omega) (by omega), o 285 (by omega) (by omega)]
    exact c
/-- nothing but the class's Chains -/
def offC (σ σ' : jM) : Prop := ∀ x, x < 275 ∨ 285 < x → σ' x = σ x
theorem offC_rf {σ : jM} : offC σ σ := fun _ _ => rfl
theorem offC_tr {σ σ1 σ2 : jM} (a : offC σ σ1) (b : offC σ1 σ2) : offC σ σ2 := fun x h => (b x h).trans (a x h)
theorem offC_F {σ σ' : jM} (a : offF σ σ') : offC σ σ' := fun x h => a.1 x (by omega)
theorem WT_single {wt : Int → Int} {m n : Int} (hn : 1 ≤ n) (hs : SrtW wt m) (hi : ∀ y, InW wt m y ↔ (y = n ∧ n ≠ 1)) : WT wt m n (Pn n) := by
  refine WT_of hs (fun y => ?_) hn (Or.inr (decide_eq_true rfl)) (fun y hy => by rw [of_decide_eq_true hy]; exact Int.le_refl _)
  rw [hi y]
  constructor
  · rintro ⟨a, b⟩; exact ⟨decide_eq_true a, by rw [a]; exact b⟩
  · rintro ⟨a, b⟩
    have := of_decide_eq_true a
    exact ⟨this, by rw [← this]; exact b⟩
section KJ
variable {d : Nat} {t : Int} {Q : Int → jM → Prop} {σ : jM}
theorem SrtW_0 {wt : Int → Int} : SrtW wt 0 := ⟨by omega, fun i a b => absurd b (by omega), fun i j a b c => absurd c (by omega)⟩
theorem InW_0 {wt : Int → Int} {y : Int} : ¬ InW wt 0 y := fun ⟨i, a, b, _⟩ => absurd b (by omega)
theorem q_joiningsOf {n : Int} (hn : inR n) (hK : K1 σ) (kb : (n < 1 ∨ 120 < n) → Q (-1) σ) (kg : 1 ≤ n → n ≤ 120 → ∀ (J : Nat) (g : Int → Int) (σ' : jM), okRow σ' n J g → K1 σ' → offC σ σ' → Q J σ') : Ct mX0_joiningsOf (d + 29) 0 t [rv 275, iv n] σ Q := by
  refine c_X0_joiningsOf ⟨hn, fun z => kb (Or.inl z), fun z => ⟨hn, fun y => ⟨by omega, ?_⟩, fun y => kb (Or.inr y)⟩⟩
  have known : ∀ J g, okRow σ n J g → inR (σ 281 n) := fun J g h => by rw [h.2.2.1]; have := h.1; exact rng (by omega) (by omega)
  rcases hK.1 n z y with e | ⟨J, g, hr⟩
  · rw [e]
    refine ⟨in0, fun x => absurd rfl x, fun _ σ4 e4 => ?_⟩
    have oF4 : offF σ σ4 := ⟨fun x hx => by rw [e4, up_row (by omega)], fun j h5 _ => by rw [e4, up_ne (Or.inr h5)]⟩
    refine q_want (m := 0) ⟨z, y⟩ (by rw [e4, up_at]) SrtW_0 (by omega) (fun σ5 m5 s5 h5 _ i5 o5 => ?_)
    have hW : WT (σ5 280) m5 n (Pn n) := WT_single z s5 (fun q => by
      rw [i5 q]
      exact ⟨fun h => h.elim (fun a => absurd a InW_0) id, fun h => Or.inr h⟩)
    obtain ⟨J0, g0, a, b⟩ := ex_single ⟨z, y⟩
    refine q_findLowest (d := d + 1) hW h5 ⟨J0, g0, by omega, b⟩ (fun J g σ6 hL _ hj6 hrow o6 => ?_)
    obtain ⟨rfl, rfl⟩ := Lst_uq hL b
    rw [hj6]
    refine ⟨rng (by omega) (by omega), by omega, fun σ9 e9 => ⟨by omega, ?_⟩⟩
    have e9n : σ9 281 n = (J : Int) + 1 := by rw [e9, up_at]; omega
    rw [e9n]
    refine ⟨by omega, fun σ11 e11 => ⟨by omega, ?_⟩⟩
    have oF6 : offF σ σ6 := offF_tr oF4 (offF_tr o5 o6)
    have K6 := K1_F hK oF6
    have r281 : ∀ q, q ≠ n → σ11 281 q = σ6 281 q := fun q hq => by rw [e11, cpy_row (by decide), e9, up_ne (Or.inr hq)]
    have n281 : σ11 281 n = (J : Int) + 1 := by rw [e11, cpy_row (by decide)]; exact e9n
    have r282 : ∀ q, (q < n * 10 ∨ n * 10 + 9 < q) → σ11 282 q = σ6 282 q := fun q hq => by
      have : cpy σ9 276 0 282 (n * 10) ((J : Int) + 1) 282 q = σ9 282 q := by
        unfold cpy
        rw [if_neg (by omega)]
      rw [e11, this, e9, up_row (by decide)]
    have rest : ∀ x, x ≠ 281 → x ≠ 282 → σ11 x = σ6 x := fun x h1 h2 => by rw [e11, cpy_row h2, e9, up_row h1]
    have okn : okRow σ11 n J g := by
      refine ⟨a, hL, n281, fun j j0 j1 => ?_⟩
      rw [e11, cpy_in rfl (by omega) (by omega), show 0 + (n * 10 + j - n * 10) = j by omega, e9, up_row (by decide)]
      exact hrow j j0 j1
    have K11 : K1 σ11 := by
      refine ⟨fun q q0 q1 => ?_, fun q q0 q1 => by rw [rest 283 (by decide) (by decide)]; exact K6.2.1 q q0 q1, ?_⟩
      · by_cases eq : q = n
        · subst eq; exact Or.inr ⟨J, g, okn⟩
        · rw [r281 q eq]
          rcases K6.1 q q0 q1 with h | ⟨J', g', h⟩
          · exact Or.inl h
          · refine Or.inr ⟨J', g', h.1, h.2.1, by rw [r281 q eq]; exact h.2.2.1, fun j j0 j1 => ?_⟩
            have := h.1
            rw [r282 _ (by omega)]
            exact h.2.2.2 j j0 j1
      · have := K6.2.2
        unfold KD okMade at this ⊢
        rw [rest 275 (by decide) (by decide), rest 284 (by decide) (by decide), rest 285 (by decide) (by decide)]
        exact this
    rw [n281, show (J : Int) + 1 - 1 = J by omega]
    exact kg z y J g σ11 okn K11 (fun x hx => by rw [rest x (by omega) (by omega), oF6.1 x (by omega)])
  · refine ⟨known J g hr, fun x => ⟨by omega, ?_⟩, fun x => ?_⟩
    · rw [hr.2.2.1, show (J : Int) + 1 - 1 = J by omega]
      exact kg z y J g σ hr hK offC_rf
    · rw [hr.2.2.1] at x; omega
theorem q_linkOf {n i : Int} {J : Nat} {g : Int → Int} (hn : 1 ≤ n ∧ n ≤ 120) (hi : 0 ≤ i ∧ i ≤ (J : Int)) (hr : okRow σ n J g) (k : Q (g i) σ) : Ct mX0_linkOf d 0 t [rv 275, iv n, iv i] σ Q := by
  have h9 := hr.1
  refine c_X0_linkOf ⟨rng (by omega) (by omega), fun z => absurd z (by omega), fun _ => ⟨rng (by omega) (by omega), fun z => absurd z (by omega), fun _ => ⟨rng (by omega) (by omega), fun z => absurd z (by omega), fun _ => ⟨by omega, rng (by omega) (by omega), ?_⟩⟩⟩⟩
  rw [hr.2.2.1]
  refine ⟨rng (by omega) (by omega), fun _ => ⟨by omega, ?_⟩, fun z => absurd z (by omega)⟩
  rw [hr.2.2.2 i hi.1 hi.2]
  exact k
/-- both of two numbers in one chain -/
def P2 (a b : Int) : Int → Bool := fun x => decide (x = a) || decide (x = b)
theorem q_both {a b : Int} (ha : 1 ≤ a ∧ a ≤ 9) (hb : 1 ≤ b ∧ b ≤ 9) (hK : K1 σ) (k : ∀ (J : Nat) (g : Int → Int) (σ' : jM), Lst (P2 a b) (max a b) J g → J ≤ 21 → K1 σ' → offC σ σ' → Q J σ') : Ct mX0_joiningsOfBoth (d + 28) 0 t [rv 275, iv a, iv b] σ Q := by
  refine c_X0_joiningsOfBoth (fun σ1 e1 => ?_)
  have oF1 : offF σ σ1 := ⟨fun x hx => by rw [e1, up_row (by omega)], fun j h5 _ => by rw [e1, up_ne (Or.inr h5)]⟩
  refine q_want (m := 0) (by omega) (by rw [e1, up_at]) SrtW_0 (by omega) (fun σ2 m2 s2 h2 l2 i2 o2 => ?_)
  refine q_want (m := m2) (by omega) h2 s2 (by omega) (fun σ3 m3 s3 h3 l3 i3 o3 => ?_)
  have hW : WT (σ3 280) m3 (max a b) (P2 a b) := by
    refine WT_of s3 (fun y => ?_) (by omega) (Or.inr ?_) (fun y hy => ?_)
    · rw [i3 y, i2 y]
      unfold P2
      rw [Bool.or_eq_true, decide_eq_true_eq, decide_eq_true_eq]
      constructor
      · rintro ((h | ⟨h, h'⟩) | ⟨h, h'⟩)
        · exact absurd h InW_0
        · exact ⟨Or.inl h, by rw [h]; exact h'⟩
        · exact ⟨Or.inr h, by rw [h]; exact h'⟩
      · rintro ⟨h | h, h'⟩
        · exact Or.inl (Or.inr ⟨h, by rw [← h]; exact h'⟩)
        · exact Or.inr ⟨h, by rw [← h]; exact h'⟩
    · unfold P2
      rw [Bool.or_eq_true, decide_eq_true_eq, decide_eq_true_eq]
      omega
    · unfold P2 at hy
      rw [Bool.or_eq_true, decide_eq_true_eq, decide_eq_true_eq] at hy
      omega
  obtain ⟨J0, g0, x, y⟩ := ex_four (o := fun i => if i = 0 then a else b) (n := max a b) (P := P2 a b) (fun i i0 i1 => by split <;> omega) (by omega) (by
    rcases Int.le_total a b with q | q
    · exact ⟨1, by omega, by omega, by simp; omega⟩
    · exact ⟨0, by omega, by omega, by simp; omega⟩) (fun y hy => by
    unfold P2 at hy
    rw [Bool.or_eq_true, decide_eq_true_eq, decide_eq_true_eq] at hy
    rcases hy with h | h
    · exact Or.inr ⟨0, by omega, by omega, by simp [h]⟩
    · exact Or.inr ⟨1, by omega, by omega, by simp [h]⟩)
  refine q_findLowest (d := d) hW h3 ⟨J0, g0, by omega, y⟩ (fun J g σ4 hL _ hj6 hrow o4 => ?_)
  obtain ⟨rfl, rfl⟩ := Lst_uq hL y
  rw [hj6]
  have oF := offF_tr oF1 (offF_tr o2 (offF_tr o3 o4))
  exact k J g σ4 hL x (K1_F hK oF) (offC_F oF)
theorem ex_orders {o : Int → Int} {c : Nat} (hc : c ≤ 4) (ho : ∀ i, 0 ≤ i → i < (c : Int) → (1 ≤ o i ∧ o i ≤ 40)) : ∃ J g, J ≤ 21 ∧ Lst (Po o c) (mxF o c) J g := by
  obtain ⟨h1, h2, h3⟩ := mxF_in (o := o) c
  have hm : mxF o c ≤ 40 := by
    rcases h3 with q | ⟨i, a, b, e⟩
    · omega
    · have := ho i a b; omega
  refine ex_four (o := fun i => if i < (c : Int) then o i else mxF o c) (n := mxF o c) (fun i i0 i1 => ?_) ⟨h1, hm⟩ ?_ (fun x px => ?_)
  · split
    · exact ho i i0 (by assumption)
    · exact ⟨h1, hm⟩
  · rcases h3 with q | ⟨i, a, b, e⟩
    · rcases Nat.lt_or_ge c 4 with w | w
      · exact ⟨3, by omega, by omega, by rw [if_neg (by omega)]⟩
      · have := ho 0 (by omega) (by omega)
        have := h2 0 (by omega) (by omega)
        exact ⟨0, by omega, by omega, by rw [if_pos (by omega)]; omega⟩
    · exact ⟨i, a, by omega, by rw [if_pos b]; exact e⟩
  · obtain ⟨i, a, b, e⟩ := Po_iff.mp px
    exact Or.inr ⟨i, a, by omega, by rw [if_pos b]; exact e⟩
theorem Po_agr {o o' : Int → Int} {c : Nat} (h : ∀ i, 0 ≤ i → i < (c : Int) → o i = o' i) : Po o c = Po o' c := by
  funext x
  cases e : Po o' c x with
  | true =>
    obtain ⟨i, a, b, q⟩ := Po_iff.mp e
    exact Po_iff.mpr ⟨i, a, b, by rw [h i a b]; exact q⟩
  | false =>
    cases e2 : Po o c x with
    | false => rfl
    | true =>
      obtain ⟨i, a, b, q⟩ := Po_iff.mp e2
      rw [Po_iff.mpr ⟨i, a, b, by rw [← h i a b]; exact q⟩] at e
      cases e
theorem mxF_agr {o o' : Int → Int} : ∀ {c : Nat}, (∀ i, 0 ≤ i → i < (c : Int) → o i = o' i) → mxF o c = mxF o' c
  | 0, _ => rfl
  | c + 1, h => by
    rw [mxF, mxF, mxF_agr (c := c) (fun i a b => h i a (by omega)), h c (by omega) (by omega)]
theorem q_fulfil {c : Nat} {o : Int → Int} (hc : c ≤ 4) (ho : ∀ i, 0 ≤ i → i < (c : Int) → (1 ≤ o i ∧ o i ≤ 40)) (h131 : ∀ i, 0 ≤ i → i < (c : Int) → σ 131 i = o i) (hK : K1 σ) (k : ∀ (J : Nat) (g : Int → Int) (σ' : jM), okMade σ' o c J g → K1 σ' → offC σ σ' → Q 0 σ') : Ct mX0_fulfil (d + 29) 9 t [rv 275, rv 131, iv (c : Int)] σ Q := by
  have cR : inR (c : Int) := rng (by omega) (by omega)
  have h4 : ((4 : Nat) : Int) = 4 := rfl
  -- seeking anew
  have anew : ∀ σ1, σ1 = up σ 275 5 0 → Jt mX0_fulfil (d + 29) 9 t Q 24 [rv 275, rv 131, iv (c : Int), iv 0] [] σ1 := by
    intro σ1 e1
    -- the end of the loop
    have fin : ∀ (τ : jM) (m : Int), SrtW (τ 280) m → τ 275 5 = m → (∀ y, InW (τ 280) m y ↔ (Po o c y = true ∧ y ≠ 1)) → (∀ x, (x < 275 ∨ 280 < x) → x ≠ 284 → τ x = σ x) → (∀ i, 0 ≤ i → i < (c : Int) → τ 284 i = o i) → ∀ σ3, σ3 = up τ 275 11 (c : Int) → Ct mX0_findLowest (d + 28) 9 t [rv 275] σ3 (fun r4 σ4 => (∀ σ5 : jM, σ5 = up σ4 275 13 ((σ4 275 6) + 1) → (((0 : Int) ≤ 0 ∧ (0 : Int) ≤ 0 ∧ (0 : Int) ≤ (σ5 275 13) ∧ (0 : Int) + (σ5 275 13) ≤ 24 ∧ (0 : Int) + (σ5 275 13) ≤ 24) ∧ (∀ σ7 : jM, σ7 = cpy σ5 276 0 285 0 (σ5 275 13) → (Q 0 σ7))))) := by
      intro τ m sτ h5 hi ot h284 σ3 e3
      have s3 : SrtW (σ3 280) m := by rw [e3, up_row (by decide)]; exact sτ
      have h35 : σ3 275 5 = m := by rw [e3, up_ne (by decide)]; exact h5
      obtain ⟨x1, x2, x3⟩ := mxF_in (o := o) c
      have hW : WT (σ3 280) m (mxF o c) (Po o c) := by
        refine WT_of s3 (fun y => by rw [e3, up_row (by decide)]; exact hi y) x1 ?_ (fun y hy => ?_)
        · rcases x3 with q | q
          · exact Or.inl q
          · exact Or.inr (Po_iff.mpr q)
        · obtain ⟨i, a, b, e⟩ := Po_iff.mp hy
          rw [← e]; exact x2 i a b
      obtain ⟨J0, g0, a, b⟩ := ex_orders hc ho
      refine q_findLowest (d := d + 1) hW h35 ⟨J0, g0, by omega, b⟩ (fun J g σ4 hL _ hj6 hrow o4 => ?_)
      obtain ⟨rfl, rfl⟩ := Lst_uq hL b
      rw [hj6]
      intro σ5 e5
      have e513 : σ5 275 13 = (J : Int) + 1 := by rw [e5, up_at]
      rw [e513]
      refine ⟨by omega, fun σ7 e7 => ?_⟩
      have rest : ∀ x, x ≠ 275 → x ≠ 285 → (x < 275 ∨ 280 < x) → σ7 x = τ x := fun x h1 h2 h3 => by rw [e7, cpy_row h2, e5, up_row h1, o4.1 x h3, e3, up_row h1]
      have r275 : ∀ j, j ≠ 5 → j ≠ 6 → j ≠ 11 → j ≠ 13 → σ7 275 j = τ 275 j := fun j h1 h2 h3 h4 => by rw [e7, cpy_row (by decide), e5, up_ne (Or.inr h4), o4.2 j h1 h2, e3, up_ne (Or.inr h3)]
      have ok7 : okMade σ7 o c J g := by
        refine ⟨a, hL, by rw [e7, cpy_row (by decide)]; exact e513, fun j j0 j1 => ?_⟩
        rw [e7, cpy_in rfl j0 (by omega), show 0 + (j - 0) = j by omega, e5, up_row (by decide)]
        exact hrow j j0 j1
      have r281 := rest 281 (by decide) (by decide) (by decide)
      have r282 := rest 282 (by decide) (by decide) (by decide)
      have r283 := rest 283 (by decide) (by decide) (by decide)
      have r284 := rest 284 (by decide) (by decide) (by decide)
      refine k J g σ7 ok7 ⟨?_, ?_, ?_⟩ (fun x hx => by rw [rest x (by omega) (by omega) (by omega)]; exact ot x (by omega) (by omega))
      · intro q q0 q1
        have := hK.1 q q0 q1
        unfold okRow at this ⊢
        rw [r281, r282, ot 281 (by decide) (by decide), ot 282 (by decide) (by decide)]
        exact this
      · intro q q0 q1
        rw [r283, ot 283 (by decide) (by decide)]
        exact hK.2.1 q q0 q1
      · refine Or.inr ⟨c, hc, ?_, fun i i0 i1 => ?_, J, g, ?_⟩
        · rw [e7, cpy_row (by decide), e5, up_ne (by decide), o4.2 11 (by decide) (by decide), e3, up_at]
        · rw [r284, h284 i i0 i1]; exact ho i i0 i1
        · have ag : ∀ i, 0 ≤ i → i < (c : Int) → σ7 284 i = o i := fun i i0 i1 => by rw [r284]; exact h284 i i0 i1
          unfold okMade
          rw [Po_agr ag, mxF_agr ag]
          exact ok7
    have loop : ∀ (j : Nat) (i : Nat) (τ : jM) (m : Int), i + j = c → SrtW (τ 280) m → τ 275 5 = m → m ≤ i → (∀ y, InW (τ 280) m y ↔ (Po o i y = true ∧ y ≠ 1)) → (∀ x, (x < 275 ∨ 280 < x) → x ≠ 284 → τ x = σ x) → (∀ q, 0 ≤ q → q < (i : Int) → τ 284 q = o q) → Jt mX0_fulfil (d + 29) 9 t Q 24 [rv 275, rv 131, iv (c : Int), iv (i : Int)] [] τ := by
      intro j
      induction j with
      | zero =>
        intro i τ m h1 sτ h5 hm hi ot h284
        have ic : i = c := by omega
        subst ic
        exact b_X0_fulfil_24 okl_131 ⟨cR, cR, fun _ σ3 e3 => fin τ m sτ h5 hi ot h284 σ3 e3, fun z => absurd z (by omega)⟩
      | succ j ih =>
        intro i τ m h1 sτ h5 hm hi ot h284
        refine b_X0_fulfil_24 okl_131 ⟨rng (by omega) (by omega), cR, fun z => absurd z (by omega), fun z => ⟨rng (by omega) (by omega), ⟨by decide, by decide⟩, fun y => absurd y (by omega), fun y => ⟨rng (by omega) (by omega), fun x => absurd x (by omega), fun x => ⟨by omega, by omega, fun σ22 e22 => ⟨by omega, ?_⟩⟩⟩⟩⟩
        have e131 : τ 131 (i : Int) = o i := by rw [ot 131 (by omega) (by omega)]; exact h131 i (by omega) (by omega)
        rw [e131] at e22
        have f131 : σ22 131 (i : Int) = o i := by rw [e22, up_row (by decide)]; exact e131
        rw [f131]
        have oi := ho i (by omega) (by omega)
        refine q_want (m := m) (by omega) (by rw [e22, up_row (by decide)]; exact h5) (by rw [e22, up_row (by decide)]; exact sτ) (by omega) (fun σ23 m23 s23 h23 l23 i23 o23 => ?_)
        refine ih (i + 1) σ23 m23 (by omega) s23 h23 (by omega) (fun q => ?_) (fun q h q2 => by rw [o23.1 q h, e22, up_row q2]; exact ot q h q2) (fun q q0 q1 => ?_)
        · rw [i23 q, e22, up_row (by decide), hi q, Po_iff, Po_iff]
          constructor
          · rintro (⟨⟨w, w0, w1, ew⟩, hq⟩ | ⟨eq, hx⟩)
            · exact ⟨⟨w, w0, by omega, ew⟩, hq⟩
            · exact ⟨⟨i, by omega, by omega, eq.symm⟩, by rw [eq]; exact hx⟩
          · rintro ⟨⟨w, w0, w1, ew⟩, hq⟩
            by_cases ei : w = i
            · exact Or.inr ⟨by rw [← ew, ei], by rw [← ei, ew]; exact hq⟩
            · exact Or.inl ⟨⟨w, w0, by omega, ew⟩, hq⟩
        · by_cases ei : q = i
          · rw [o23.1 284 (by omega), e22, ei, up_at]
          · rw [o23.1 284 (by omega), e22, up_ne (Or.inr ei)]; exact h284 q q0 (by omega)
    exact loop c 0 σ1 0 (by omega) SrtW_0 (by rw [e1, up_at]) (by omega) (fun y => ⟨fun h => absurd h InW_0, fun h => by obtain ⟨i, a, b, _⟩ := Po_iff.mp h.1; omega⟩) (fun x hx _ => by rw [e1, up_row (by omega)]) (fun q q0 q1 => absurd q1 (by omega))
  refine c_X0_fulfil okl_131 ?_
  rcases hK.2.2 with e | ⟨c', hc', e11, ho', J, g, hok⟩
  · rw [e]
    exact ⟨in0, fun _ => anew, fun z => absurd z (by omega)⟩
  · have h13 := hok.2.2.1
    have hJ := hok.1
    rw [h13]
    refine ⟨rng (by omega) (by omega), fun z => absurd z (by omega), fun _ => ?_⟩
    refine c_X0_isFulfilled okl_131 ?_
    rw [e11]
    refine ⟨cR, rng (by omega) (by omega), fun z => ?_, fun z => ⟨in0, fun _ => anew, fun y => absurd rfl y⟩⟩
    have cc : c' = c := by omega
    subst cc
    have loop : ∀ (j : Nat) (i : Int), 0 ≤ i → i + j = (c' : Int) → (∀ q, 0 ≤ q → q < i → σ 284 q = o q) → Jt mX0_isFulfilled (d + 28) 0 t (fun r3 σ3 => ((inR r3) ∧ ((r3 = 0 → (∀ σ5 : jM, σ5 = up σ3 275 5 0 → (Jt mX0_fulfil (d + 29) 9 t Q 24 [rv 275, rv 131, iv (c' : Int), iv 0] [] σ5))) ∧ (¬ r3 = 0 → (Q 0 σ3))))) 12 [rv 275, rv 131, iv (c' : Int), iv i] [] σ := by
      intro j
      induction j with
      | zero =>
        intro i i0 hi same
        refine b_X0_isFulfilled_12 okl_131 ⟨rng (by omega) (by omega), cR, fun _ => ⟨⟨by decide, by decide⟩, fun q => absurd q (by decide), fun _ => ?_⟩, fun z => absurd z (by omega)⟩
        refine k J g σ ?_ hK offC_rf
        have ag : ∀ i, 0 ≤ i → i < (c' : Int) → σ 284 i = o i := fun q q0 q1 => same q q0 (by omega)
        unfold okMade at hok ⊢
        rw [Po_agr ag, mxF_agr ag] at hok
        exact hok
      | succ j ih =>
        intro i i0 hi same
        have a1 := ho i i0 (by omega)
        have a2 := ho' i i0 (by omega)
        refine b_X0_isFulfilled_12 okl_131 ⟨rng (by omega) (by omega), cR, fun z => absurd z (by omega), fun z => ⟨rng (by omega) (by omega), ⟨by decide, by decide⟩, fun y => absurd y (by omega), fun y => ⟨rng (by omega) (by omega), fun x => absurd x (by omega), fun x => ⟨by omega, by omega, ?_⟩⟩⟩⟩
        rw [h131 i i0 (by omega)]
        refine ⟨rng (by omega) (by omega), rng (by omega) (by omega), fun w => ih (i + 1) (by omega) (by omega) (fun q q0 q1 => ?_), fun w => ⟨in0, fun _ => anew, fun q => absurd rfl q⟩⟩
        by_cases e : q = i
        · rw [e]; exact w.symm
        · exact same q q0 (by omega)
    exact loop c' 0 (by omega) (by omega) (fun q q0 q1 => absurd q1 (by omega))
end KJ
