/-! ===== the class's Chains: what was found once is kept ===== -/
def SrtW (wt : Int → Int) (m : Int) : Prop := (0 ≤ m ∧ m ≤ 4) ∧ (∀ i, 0 ≤ i → i < m → (2 ≤ wt i ∧ wt i ≤ 120)) ∧ (∀ i j, 0 ≤ i → i < j → j < m → wt i < wt j)
def InW (wt : Int → Int) (m y : Int) : Prop := ∃ i, 0 ≤ i ∧ i < m ∧ wt i = y
def mxF (o : Int → Int) : Nat → Int
  | 0 => 1
  | c + 1 => max (mxF o c) (o c)
def Po (o : Int → Int) (c : Nat) : Int → Bool := fun x => exB (fun i => decide (o i = x)) c
theorem Po_iff {o : Int → Int} {c : Nat} {x : Int} : Po o c x = true ↔ ∃ i, 0 ≤ i ∧ i < (c : Int) ∧ o i = x := by
  unfold Po
  rw [exB_iff]
  constructor
  · rintro ⟨i, a, b, e⟩; exact ⟨i, a, b, of_decide_eq_true e⟩
  · rintro ⟨i, a, b, e⟩; exact ⟨i, a, b, decide_eq_true e⟩
theorem mxF_in {o : Int → Int} : ∀ (c : Nat), (1 ≤ mxF o c) ∧ (∀ i, 0 ≤ i → i < (c : Int) → o i ≤ mxF o c) ∧ (mxF o c = 1 ∨ ∃ i, 0 ≤ i ∧ i < (c : Int) ∧ o i = mxF o c)
  | 0 => ⟨by rw [mxF]; omega, fun i a b => absurd b (by omega), Or.inl rfl⟩
  | c + 1 => by
    obtain ⟨h1, h2, h3⟩ := mxF_in (o := o) c
    rw [mxF]
    refine ⟨by omega, fun i a b => ?_, ?_⟩
    · by_cases e : i = c
      · rw [e]; omega
      · have := h2 i a (by omega); omega
    · rcases Int.le_total (mxF o c) (o c) with q | q
      · right; exact ⟨c, by omega, by omega, by omega⟩
      · rw [show max (mxF o c) (o c) = mxF o c by omega]
        rcases h3 with h3 | ⟨i, a, b, e⟩
        · exact Or.inl h3
        · right; exact ⟨i, a, by omega, e⟩
/-- what is sorted is wanted -/
theorem WT_of {wt : Int → Int} {m n : Int} {P : Int → Bool} (hs : SrtW wt m) (hi : ∀ y, InW wt m y ↔ (P y = true ∧ y ≠ 1)) (h1 : 1 ≤ n) (hn : n = 1 ∨ P n = true) (hm : ∀ y, P y = true → y ≤ n) : WT wt m n P := by
  obtain ⟨a, b, c⟩ := hs
  refine ⟨a, b, c, fun x px => ?_, fun i i0 i1 => ((hi _).mp ⟨i, i0, i1, rfl⟩).1, fun e => ?_, fun e => ?_⟩
  · by_cases e : x = 1
    · exact Or.inl e
    · obtain ⟨i, i0, i1, ei⟩ := (hi x).mpr ⟨px, e⟩
      exact Or.inr ⟨i, i0, i1, ei⟩
  · rcases hn with q | q
    · exact q
    · by_cases e1 : n = 1
      · exact e1
      · obtain ⟨i, i0, i1, _⟩ := (hi n).mpr ⟨q, e1⟩
        omega
  · have l := b (m - 1) (by omega) (by omega)
    have pl := ((hi (wt (m - 1))).mp ⟨m - 1, by omega, by omega, rfl⟩).1
    have ub := hm _ pl
    rcases hn with q | q
    · omega
    · by_cases e1 : n = 1
      · omega
      · obtain ⟨i, i0, i1, ei⟩ := (hi n).mpr ⟨q, e1⟩
        rcases Int.lt_or_eq_of_le (show i ≤ m - 1 by omega) with w | w
        · have := c i (m - 1) i0 w (by omega); omega
        · rw [← ei, w]
/-- nothing but the rows of the search and the two counts of it -/
def offF (σ σ' : jM) : Prop := (∀ x, (x < 275 ∨ 280 < x) → σ' x = σ x) ∧ ∀ j, j ≠ 5 → j ≠ 6 → σ' 275 j = σ 275 j
theorem offF_rf {σ : jM} : offF σ σ := ⟨fun _ _ => rfl, fun _ _ _ => rfl⟩
theorem offF_tr {σ σ1 σ2 : jM} (a : offF σ σ1) (b : offF σ1 σ2) : offF σ σ2 := ⟨fun x h => (b.1 x h).trans (a.1 x h), fun j h1 h2 => (b.2 j h1 h2).trans (a.2 j h1 h2)⟩
theorem SetC_same {k : Int} {σ σ' : jM} {f : Int → Int} (h : SetC σ f k) (e : ∀ x, 276 ≤ x → x ≤ 279 → σ' x = σ x) : SetC σ' f k := fun j j0 j1 => by
  rw [e 276 (by omega) (by omega), e 277 (by omega) (by omega), e 278 (by omega) (by omega), e 279 (by omega) (by omega)]
  exact h j j0 j1
section KN
variable {d : Nat} {t : Int} {Q : Int → jM → Prop} {σ : jM}
theorem q_want {x m : Int} (hx : 1 ≤ x ∧ x ≤ 120) (h5 : σ 275 5 = m) (hs : SrtW (σ 280) m) (hm : m < 4) (k : ∀ (σ' : jM) (m' : Int), SrtW (σ' 280) m' → σ' 275 5 = m' → m' ≤ m + 1 → (∀ y, InW (σ' 280) m' y ↔ (InW (σ 280) m y ∨ (y = x ∧ x ≠ 1))) → offF σ σ' → Q 0 σ') : Ct mX0_want d 9 t [rv 275, iv x] σ Q := by
  obtain ⟨s1, s2, s3⟩ := hs
  have hs : SrtW (σ 280) m := ⟨s1, s2, s3⟩
  have xR : inR x := rng (by omega) (by omega)
  have same : (∀ y, InW (σ 280) m y ↔ (InW (σ 280) m y ∨ (y = x ∧ x ≠ 1))) → Q 0 σ := fun h => k σ m hs h5 (by omega) h offF_rf
  refine c_X0_want ?_
  -- the place is found: what comes then
  have ins : ∀ (a : Int), 0 ≤ a → a ≤ m → (∀ i, 0 ≤ i → i < a → σ 280 i < x) → (∀ i, a ≤ i → i < m → x < σ 280 i) → x ≠ 1 → Jt mX0_want d 9 t Q 63 [rv 275, iv x, iv a, iv m] [] σ := by
    intro a a0 am lo hi x1
    have loop : ∀ (j : Nat) (i : Int) (τ : jM), a ≤ i → i = a + j → i ≤ m → (∀ c, c ≠ 280 → τ c = σ c) → (∀ q, 0 ≤ q → q < i → τ 280 q = σ 280 q) → (∀ q, i < q → q ≤ m → τ 280 q = σ 280 (q - 1)) → Jt mX0_want d 9 t Q 63 [rv 275, iv x, iv a, iv i] [] τ := by
      intro j
      induction j with
      | zero =>
        intro i τ h1 h2 h3 r1 r2 r3
        have ia : i = a := by omega
        subst ia
        refine b_X0_want_63 ⟨rng (by omega) (by omega), rng (by omega) (by omega), fun _ => ⟨by omega, fun σ4 e4 σ5 e5 => ?_⟩, fun z => absurd z (by omega)⟩
        have e45 : σ4 275 5 = m := by rw [e4, up_row (by decide), r1 275 (by decide)]; exact h5
        rw [e45] at e5
        have w : ∀ q, 0 ≤ q → q ≤ m → σ5 280 q = if q < i then σ 280 q else if q = i then x else σ 280 (q - 1) := fun q q0 q1 => by
          rw [e5, up_row (by decide), e4]
          by_cases e : q = i
          · rw [up_eq rfl e, if_neg (by omega), if_pos e]
          · rw [up_ne (Or.inr e)]
            by_cases e2 : q < i
            · rw [if_pos e2]; exact r2 q q0 e2
            · rw [if_neg e2, if_neg e]; exact r3 q (by omega) q1
        refine k σ5 (m + 1) ⟨by omega, fun q q0 q1 => ?_, fun q q' q0 q1 q2 => ?_⟩ (by rw [e5, up_at]) (by omega) (fun y => ?_) ⟨fun c hc => by rw [e5, up_row (by omega), e4, up_row (by omega)]; exact r1 c (by omega), fun j h5' _ => by rw [e5, up_ne (Or.inr h5'), e4, up_row (by decide), r1 275 (by decide)]⟩
        · rw [w q q0 (by omega)]
          split
          · exact s2 q q0 (by omega)
          · split
            · omega
            · exact s2 (q - 1) (by omega) (by omega)
        · rw [w q q0 (by omega), w q' (by omega) (by omega)]
          by_cases c1 : q < i
          · rw [if_pos c1]
            by_cases c2 : q' < i
            · rw [if_pos c2]; exact s3 q q' q0 q1 (by omega)
            · rw [if_neg c2]
              by_cases c3 : q' = i
              · rw [if_pos c3]; exact lo q q0 c1
              · rw [if_neg c3]; have := lo q q0 c1; have := hi (q' - 1) (by omega) (by omega); omega
          · rw [if_neg c1]
            by_cases c2 : q = i
            · rw [if_pos c2, if_neg (show ¬ q' < i by omega), if_neg (show ¬ q' = i by omega)]; exact hi (q' - 1) (by omega) (by omega)
            · rw [if_neg c2, if_neg (show ¬ q' < i by omega), if_neg (show ¬ q' = i by omega)]; exact s3 (q - 1) (q' - 1) (by omega) (by omega) (by omega)
        · constructor
          · rintro ⟨q, q0, q1, e⟩
            rw [w q q0 (by omega)] at e
            by_cases c1 : q < i
            · rw [if_pos c1] at e; exact Or.inl ⟨q, q0, by omega, e⟩
            · rw [if_neg c1] at e
              by_cases c2 : q = i
              · rw [if_pos c2] at e; exact Or.inr ⟨e.symm, x1⟩
              · rw [if_neg c2] at e; exact Or.inl ⟨q - 1, by omega, by omega, e⟩
          · rintro (⟨q, q0, q1, e⟩ | ⟨e, _⟩)
            · by_cases c1 : q < i
              · exact ⟨q, q0, by omega, by rw [w q q0 (by omega), if_pos c1]; exact e⟩
              · exact ⟨q + 1, by omega, by omega, by rw [w (q + 1) (by omega) (by omega), if_neg (by omega), if_neg (by omega), show q + 1 - 1 = q by omega]; exact e⟩
            · exact ⟨i, by omega, by omega, by rw [w i (by omega) (by omega), if_neg (by omega), if_pos rfl]; exact e.symm⟩
      | succ j ih =>
        intro i τ h1 h2 h3 r1 r2 r3
        refine b_X0_want_63 ⟨rng (by omega) (by omega), rng (by omega) (by omega), fun z => absurd z (by omega), fun _ => ⟨by omega, by omega, fun σ7 e7 => ?_⟩⟩
        rw [r2 (i - 1) (by omega) (by omega)] at e7
        refine ih (i + -1) σ7 (by omega) (by omega) (by omega) (fun c hc => by rw [e7, up_row hc]; exact r1 c hc) (fun q q0 q1 => by rw [e7, up_ne (Or.inr (by omega))]; exact r2 q q0 (by omega)) (fun q q0 q1 => ?_)
        by_cases e : q = i
        · rw [e7, up_eq rfl e, e]
        · rw [e7, up_ne (Or.inr e)]; exact r3 q (by omega) q1
    exact loop (m - a).toNat m σ am (by omega) (by omega) (fun _ _ => rfl) (fun _ _ _ => rfl) (fun q q0 q1 => absurd q1 (by omega))
  have mR : inR m := rng (by omega) (by omega)
  -- the place a: what is done there
  have at' : ∀ (a : Int), 0 ≤ a → a ≤ m → (∀ i, 0 ≤ i → i < a → σ 280 i < x) → (a < m → x ≤ σ 280 a) → ((inR x) ∧ ((x = 1 → (Q 0 σ)) ∧ (¬ x = 1 → ((inR m) ∧ ((4 ≤ m → (Q 0 σ)) ∧ (m < 4 → ((inR a) ∧ ((inR m) ∧ ((m ≤ a → (Jt mX0_want d 9 t Q 63 [rv 275, iv x, iv a, iv m] [] σ)) ∧ (a < m → (((0 : Int) ≤ a ∧ a < 4) ∧ ((inR (σ 280 a)) ∧ ((inR x) ∧ ((¬ (σ 280 a) = x → (Jt mX0_want d 9 t Q 63 [rv 275, iv x, iv a, iv m] [] σ)) ∧ ((σ 280 a) = x → (Q 0 σ)))))))))))))))) := by
    intro a a0 am lo hi
    refine ⟨xR, fun z => same (fun y => ⟨fun h => Or.inl h, fun h => h.elim id (fun q => absurd z q.2)⟩), fun z => ⟨mR, fun y => absurd y (by omega), fun _ => ⟨rng (by omega) (by omega), mR, fun y => ins a a0 am lo (fun i i0 i1 => absurd i1 (by omega)) z, fun y => ⟨by omega, ?_⟩⟩⟩⟩
    have sa := s2 a a0 y
    refine ⟨rng (by omega) (by omega), xR, fun w => ins a a0 am lo (fun i i0 i1 => ?_) z, fun w => same (fun q => ⟨fun h => Or.inl h, fun h => h.elim id (fun p => ⟨a, a0, y, by rw [p.1]; exact w⟩)⟩)⟩
    have := hi y
    rcases Int.lt_or_eq_of_le i0 with u | u
    · have := s3 a i a0 u i1; omega
    · rw [← u]; omega
  have scan : ∀ (j : Nat) (a : Int), 0 ≤ a → a + j = m → (∀ i, 0 ≤ i → i < a → σ 280 i < x) → Jt mX0_want d 9 t Q 2 [rv 275, iv x, iv a, uv] [] σ := by
    intro j
    induction j with
    | zero =>
      intro a a0 am lo
      refine b_X0_want_2 ?_
      rw [h5]
      exact ⟨rng (by omega) (by omega), mR, fun _ => at' a a0 (by omega) lo (fun q => absurd q (by omega)), fun z => absurd z (by omega)⟩
    | succ j ih =>
      intro a a0 am lo
      have sa := s2 a a0 (by omega)
      refine b_X0_want_2 ?_
      rw [h5]
      refine ⟨rng (by omega) (by omega), mR, fun z => absurd z (by omega), fun z => ⟨by omega, rng (by omega) (by omega), xR, fun y => at' a a0 (by omega) lo (fun _ => y), fun y => ?_⟩⟩
      refine ih (a + 1) (by omega) (by omega) (fun i i0 i1 => ?_)
      by_cases e : i = a
      · rw [e]; exact y
      · exact lo i i0 (by omega)
  exact scan m.toNat 0 (by omega) (by omega) (fun i i0 i1 => absurd i1 (by omega))
theorem q_findLowest {m n : Int} {P : Int → Bool} (hW : WT (σ 280) m n P) (h5 : σ 275 5 = m) (hex : ∃ J g, J ≤ 23 ∧ Lst P n J g) (k : ∀ (J : Nat) (g : Int → Int) (σ' : jM), Lst P n J g → J ≤ 23 → σ' 275 6 = (J : Int) → (∀ j, 0 ≤ j → j ≤ (J : Int) → σ' 276 j = g j) → offF σ σ' → Q 0 σ') : Ct mX0_findLowest (d + 27) 9 t [rv 275] σ Q := by
  obtain ⟨J0, g0, hJ0, hL⟩ := hex
  have hWn := WT_n hW
  have hW1 := hW.1
  refine c_X0_findLowest (fun σ1 e1 => ?_)
  have hs0 : SetC σ1 f1 (0 - 1) := fun j a b => absurd b (by omega)
  refine q_put (f := f1) (k := 0) (v := 1) (by omega) hs0 (fun i a b => absurd b (by omega)) (by omega) (fun σ2 s2 o2 => ?_)
  have s2' : SetC σ2 f1 0 := SetC_agr (fun i a b => by
    have : i = 0 := by omega
    subst this
    rw [wr_at]; rfl) s2
  have b275 : σ2 275 = σ1 275 := o2.1 275 (by omega)
  have b5 : σ2 275 5 = m := by rw [b275, e1, up_ne (by decide)]; exact h5
  have b280 : σ2 280 = σ 280 := by rw [o2.1 280 (by omega), e1, up_row (by decide)]
  have oF2 : offF σ σ2 := ⟨fun x hx => by rw [o2.1 x (by omega), e1, up_row (by omega)], fun j _ h6 => by rw [b275, e1, up_ne (Or.inr h6)]⟩
  rw [b5]
  refine ⟨rng (by omega) (by omega), fun z => ?_, fun z => ?_⟩
  · have m0 : 0 < m := by omega
    have few : ∀ j : Nat, (j : Int) < m → DD P n j f1 0 = none := fun j hj => by
      refine DD_not (by omega) Pre_f1 (fun g a b c => ?_)
      have := Met_room (l := j) (f := f1) (k := 0) (met := 0) hW ⟨by omega, fun i a b => absurd b (by omega), fun i a b => by have := hW.2.1 i a b; show (1 : Int) < _; omega⟩ m0 (by omega) (by rw [show (0 : Int) + (j : Int) = ((0 + j : Nat) : Int) by omega]; exact a) (by rw [show (0 : Int) + (j : Int) = ((0 + j : Nat) : Int) by omega]; exact b) c
      omega
    have loop : ∀ (c : Nat) (J : Nat) (τ : jM), J + c = 24 → m ≤ J → (∀ j : Nat, j < J → DD P n j f1 0 = none) → SetC τ f1 0 → τ 280 = σ 280 → τ 275 5 = m → offF σ τ → Jt mX0_findLowest (d + 27) 9 t Q 24 [rv 275, iv J] [] τ := by
      intro c
      induction c with
      | zero =>
        intro J τ h1 h2 h3
        exact absurd (h3 J0 (by omega)) (by rw [hL.1]; exact fun q => by cases q)
      | succ c ih =>
        intro J τ h1 h2 h3 s3 t280 t5 oT
        refine b_X0_findLowest_24 ⟨rng (by omega) (by omega), fun y => absurd y (by omega), fun y σ3 e3 => ?_⟩
        have c280 : σ3 280 = σ 280 := by rw [e3, up_row (by decide)]; exact t280
        have c5 : σ3 275 5 = m := by rw [e3, up_ne (by decide)]; exact t5
        have c6 : σ3 275 6 = J := by rw [e3, up_at]
        have s3' : SetC σ3 f1 0 := SetC_same s3 (fun x x0 x1 => by rw [e3, up_row (by omega)])
        have oF3 : offF σ σ3 := offF_tr oT ⟨fun x hx => by rw [e3, up_row (by omega)], fun j _ h6 => by rw [e3, up_ne (Or.inr h6)]⟩
        have mt0 : Mt (σ3 280) m f1 ((0 : Nat) : Int) 0 := ⟨by omega, fun i a b => absurd b (by omega), fun i a b => by rw [c280]; have := hW.2.1 i a b; show (1 : Int) < _; omega⟩
        have goff : ∀ {σ'}, offQ ((0 : Nat) : Int) σ3 σ' → offF σ σ' := fun {σ'} o => offF_tr oF3 ⟨fun x hx => o.1 x (by omega), fun j _ _ => by rw [o.1 275 (by omega)]⟩
        refine Ct_le (q_goesOn (J := J) (n := n) (P := P) (m := m) (by omega) J (d := d + c) (f := f1) (k := 0) (met := 0) (by rw [c280]; exact hW) c5 c6 (by omega) m0 (fun g hJ1 a b => ?_) Pre_f1 s3' (by show (1 : Int) ≤ n; omega) mt0 (fun g σ4 hg s4 o4 => ⟨⟨by decide, by decide⟩, fun u => absurd u (by decide), fun _ => ?_⟩) (fun σ4 hg o4 => ⟨in0, fun _ => ?_, fun u => absurd rfl u⟩)) (by omega)
        · refine DD_none (by omega) (J - 1) (k := 0) (h3 (J - 1) (by omega)) (g := g) (by rw [show ((0 + (J - 1) : Nat) : Int) = (J : Int) - 1 by omega]; exact a) (by rw [show ((0 + (J - 1) : Nat) : Int) = (J : Int) - 1 by omega]; exact b) (fun i i0 i1 => ?_)
          have : i = 0 := by omega
          subst this
          exact a.1.symm
        · exact k J g σ4 ⟨hg, h3⟩ (by omega) (by rw [o4.1 275 (by omega)]; exact c6) (fun j j0 j1 => (s4 j j0 j1).1) (goff o4)
        · refine ih (J + 1) σ4 (by omega) (by omega) (fun j hj => ?_) (SetC_off s3' o4) (by rw [o4.1 280 (by omega)]; exact c280) (by rw [o4.1 275 (by omega)]; exact c5) (goff o4)
          rcases Nat.lt_or_ge j J with q | q
          · exact h3 j q
          · rw [show j = J by omega]; exact hg
    obtain ⟨mm, hmm⟩ : ∃ mm : Nat, (mm : Int) = m := ⟨m.toNat, by omega⟩
    have := loop (24 - mm) mm σ2 (by omega) (by omega) (fun j hj => few j (by omega)) s2' b280 b5 oF2
    rw [hmm] at this
    exact this
  · have n1 := hW.2.2.2.2.2.1 z
    refine k 0 f1 σ2 ⟨?_, fun j hj => absurd hj (by omega)⟩ (by omega) (by rw [b275, e1, up_at]; rfl) (fun j j0 j1 => (s2' j j0 (by omega)).1) oF2
    have : okB P n f1 0 = true := (okB_iff (by omega)).mpr ⟨n1.symm, fun x x0 x1 px => ⟨0, by omega, by omega, by show (1 : Int) = x; rcases hW.2.2.2.1 x px with q | ⟨i, a, b, _⟩ <;> omega⟩⟩
    rw [DD, if_pos this]
end KN
