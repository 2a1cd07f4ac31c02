/-! ===== goesOn and findLowest ===== -/
/-- what is wanted: a row of m that goes up to n -/
def WT (wt : Int → Int) (m n : Int) (P : Int → Bool) : Prop := (0 ≤ m ∧ m ≤ 4) ∧ (∀ i, 0 ≤ i → i < m → (2 ≤ wt i ∧ wt i ≤ 120)) ∧ (∀ i j, 0 ≤ i → i < j → j < m → wt i < wt j) ∧ (∀ x, P x = true → (x = 1 ∨ ∃ i, 0 ≤ i ∧ i < m ∧ wt i = x)) ∧ (∀ i, 0 ≤ i → i < m → P (wt i) = true) ∧ (m = 0 → n = 1) ∧ (0 < m → n = wt (m - 1))
theorem WT_n {wt : Int → Int} {m n : Int} {P : Int → Bool} (h : WT wt m n P) : 1 ≤ n ∧ n ≤ 120 ∧ ∀ i, 0 ≤ i → i < m → wt i ≤ n := by
  obtain ⟨h1, h2, h3, h4, h5, h6, h7⟩ := h
  rcases Int.lt_or_eq_of_le h1.1 with hm | hm
  · have e := h7 hm
    have := h2 (m - 1) (by omega) (by omega)
    refine ⟨by omega, by omega, fun i i0 i1 => ?_⟩
    rcases Int.lt_or_eq_of_le (show i ≤ m - 1 by omega) with x | x
    · have := h3 i (m - 1) i0 x (by omega); omega
    · rw [x, e]; exact Int.le_refl _
  · have := h6 hm.symm
    exact ⟨by omega, by omega, fun i i0 i1 => absurd i1 (by omega)⟩
/-- so many of what is wanted stand among the first k + 1 -/
def Mt (wt : Int → Int) (m : Int) (f : Int → Int) (k met : Int) : Prop := (0 ≤ met ∧ met ≤ m) ∧ (∀ i, 0 ≤ i → i < met → ∃ j, 0 ≤ j ∧ j ≤ k ∧ f j = wt i) ∧ (∀ i, met ≤ i → i < m → f k < wt i)
/-- each of the others takes a place -/
theorem Met_room {wt : Int → Int} {m n : Int} {P : Int → Bool} {f g : Int → Int} {k met : Int} {l : Nat} (hW : WT wt m n P) (hM : Mt wt m f k met) (hm : met < m) (k0 : 0 ≤ k) (p : Pre g (k + l)) (ok : OkP P n g (k + l)) (ag : agK f g k) : m - met ≤ l := by
  obtain ⟨h1, h2, h3, h4, h5, h6, h7⟩ := hW
  have hWn := WT_n ⟨h1, h2, h3, h4, h5, h6, h7⟩
  have fk := ag k k0 (by omega)
  have key : ∀ (c : Nat), met + c < m → ∀ j, 0 ≤ j → j ≤ k + l → g j = wt (met + c) → k + 1 + c ≤ j := by
    intro c
    induction c with
    | zero =>
      intro hc j j0 j1 e
      have := hM.2.2 met (by omega) (by omega)
      rcases Int.lt_or_le k j with x | x
      · omega
      · have := Pre_leq p j0 x (by omega)
        rw [show met + ((0 : Nat) : Int) = met by omega] at e
        omega
    | succ c ih =>
      intro hc j j0 j1 e
      have hw := h2 (met + c) (by have := hM.1; omega) (by omega)
      obtain ⟨j', a, b, e'⟩ := ok.2 (wt (met + c)) (by omega) (hWn.2.2 _ (by have := hM.1; omega) (by omega)) (h5 _ (by have := hM.1; omega) (by omega))
      have i1 := ih (by omega) j' a b e'
      have lt := h3 (met + c) (met + (c + 1 : Nat)) (by have := hM.1; omega) (by omega) (by omega)
      rcases Int.lt_or_le j' j with x | x
      · omega
      · have := Pre_leq p j0 x b
        omega
  have hl := h7 (by have := hM.1; omega)
  have := key (m - 1 - met).toNat (by omega) (k + l) (by omega) (by omega) (by rw [show met + ((m - 1 - met).toNat : Int) = m - 1 by omega, ok.1]; exact hl)
  omega
/-- nothing that is wanted may be left behind -/
theorem Met_next {wt : Int → Int} {m n : Int} {P : Int → Bool} {f g : Int → Int} {k met x : Int} {l : Nat} (hW : WT wt m n P) (hM : Mt wt m f k met) (hm : met < m) (k0 : 0 ≤ k) (p : Pre g (k + 1 + l)) (ok : OkP P n g (k + 1 + l)) (ag : agK f g k) (hx : g (k + 1) = x) : x ≤ wt met := by
  obtain ⟨h1, h2, h3, h4, h5, h6, h7⟩ := hW
  have hWn := WT_n ⟨h1, h2, h3, h4, h5, h6, h7⟩
  have fk := ag k k0 (by omega)
  have hw := h2 met (by have := hM.1; omega) hm
  obtain ⟨j, a, b, e⟩ := ok.2 (wt met) (by omega) (hWn.2.2 _ (by have := hM.1; omega) hm) (h5 _ (by have := hM.1; omega) hm)
  have hk := hM.2.2 met (by omega) hm
  rcases Int.lt_or_le k j with y | y
  · have := Pre_leq p (i := k + 1) (j := j) (by omega) (by omega) b
    omega
  · have := Pre_leq p a y (by omega)
    omega
def growthL (n : Int) (l : Nat) : Int := if 2 ≤ l ∧ n % 2 = 1 then 3 * pw2 (l - 2) else pw2 l
theorem growthL_pos {n : Int} {l : Nat} : 1 ≤ growthL n l := by
  unfold growthL
  have a := pw2_pos (l - 2)
  have b := pw2_pos l
  split <;> omega
theorem growthL_ok {n : Int} {g : Int → Int} {k : Int} {l : Nat} (k0 : 0 ≤ k) (p : Pre g (k + l)) (e : g (k + l) = n) : n ≤ g k * growthL n l := by
  unfold growthL
  split
  · rename_i h
    obtain ⟨c, hc⟩ : ∃ c, l = c + 2 := ⟨l - 2, by omega⟩
    subst hc
    have := Pre_odd p c k k0 (by omega) (by rw [e]; exact h.2)
    rw [e] at this
    rw [show c + 2 - 2 = c by omega]
    exact this
  · have := Pre_grow p l k k0 (by omega)
    rw [e] at this
    exact this
theorem shl1 : ∀ f : Fin 24, i_shl 1 (f.val : Int) = pw2 f.val := by decide +kernel
theorem shl3 : ∀ f : Fin 24, i_shl 3 (f.val : Int) = 3 * pw2 f.val := by decide +kernel
theorem pw2_le : ∀ f : Fin 24, pw2 f.val ≤ 8388608 := by decide +kernel
section GO
variable {d : Nat} {t : Int} {Q : Int → jM → Prop} {σ : jM}
theorem q_leastNext {n : Int} {l : Nat} (hn : 1 ≤ n ∧ n ≤ 120) (hl : l < 24) (k : ∀ r, (1 ≤ r ∧ r ≤ n) → (∀ x, x < r → x * growthL n l < n) → Q r σ) : Ct mX0_leastNext (d + 1) 0 t [iv n, iv ((l : Int) + 1)] σ Q := by
  have hp := pw2_le ⟨l, hl⟩
  have hp2 := pw2_le ⟨l - 2, by omega⟩
  have q1 := pw2_pos l
  have q2 := pw2_pos (l - 2)
  simp only at hp hp2
  -- what is divided
  have dv : ∀ g, 1 ≤ g → g ≤ 30000000 → g = growthL n l → Q (Int.tdiv (n + g - 1) g) σ := by
    intro g g1 g2 eg
    rw [td (by omega)]
    have low : 1 ≤ (n + g - 1) / g := (Int.le_ediv_iff_mul_le (by omega)).mpr (by omega)
    have hi : (n + g - 1) / g ≤ n := by
      have : (n + g - 1) / g < n + 1 := (Int.ediv_lt_iff_lt_mul (by omega)).mpr (by
        have : n * 1 ≤ n * g := Int.mul_le_mul_of_nonneg_left g1 (by omega)
        have e : (n + 1) * g = n * g + g := by rw [Int.add_mul, Int.one_mul]
        omega)
      omega
    refine k _ ⟨low, hi⟩ (fun x hx => ?_)
    have := (Int.le_ediv_iff_mul_le (a := x + 1) (b := n + g - 1) (c := g) (by omega)).mp (by omega)
    have e : (x + 1) * g = x * g + g := by rw [Int.add_mul, Int.one_mul]
    rw [← eg]
    omega
  refine c_X0_leastNext ?_
  rw [show (l : Int) + 1 - 1 = l by omega, show max (l : Int) 0 = l by omega, show i_shl 1 (l : Int) = pw2 l from shl1 ⟨l, hl⟩, tm (by omega)]
  refine ⟨rng (by omega) (by omega), rng (by omega) (by omega), fun z => ?_, fun z => ?_⟩
  · refine ⟨rng (by omega) (by omega), rng (by omega) (by omega), by omega, dv _ q1 (by omega) ?_⟩
    unfold growthL
    rw [if_neg (by omega)]
  · rw [show (l : Int) - 2 = ((l - 2 : Nat) : Int) by omega, show i_shl 3 ((l - 2 : Nat) : Int) = 3 * pw2 (l - 2) from shl3 ⟨l - 2, by omega⟩]
    refine ⟨rng (by omega) (by omega), rng (by omega) (by omega), fun y => ?_, fun y => ?_⟩
    · refine ⟨rng (by omega) (by omega), rng (by omega) (by omega), by omega, dv _ q1 (by omega) ?_⟩
      unfold growthL
      rw [if_neg (by omega)]
    · refine ⟨rng (by omega) (by omega), rng (by omega) (by omega), by omega, dv _ (by omega) (by omega) ?_⟩
      unfold growthL
      rw [if_pos (by omega)]
/-- goesOn finds what DD says, if there is no shorter chain -/
theorem q_goesOn {n : Int} {P : Int → Bool} {m : Int} {J : Nat} (hJ : J < 24) : ∀ (l : Nat) {d : Nat} {Q : Int → jM → Prop} {σ : jM} {f : Int → Int} {k : Nat} {met : Int}, WT (σ 280) m n P → σ 275 5 = m → σ 275 6 = J → k + l = J → 0 < m → (∀ g, 1 ≤ J → Pre g ((J : Int) - 1) → OkP P n g ((J : Int) - 1) → False) → Pre f k → SetC σ f k → f k ≤ n → Mt (σ 280) m f k met → (∀ g σ', DD P n l f k = some g → SetC σ' g J → offQ k σ σ' → Q 1 σ') → (∀ σ', DD P n l f k = none → offQ k σ σ' → Q 0 σ') → Ct mX0_goesOn (d + l + 3) 0 t [rv 275, iv k, iv met] σ Q := by
  intro l
  induction l with
  | zero =>
    intro d Q σ f k met hW hm5 hj6 hkl hm0 hNS p sc fn hM k1 k0
    have hWn := WT_n hW
    have hM1 := hM.1
    have hW1 := hW.1
    refine c_X0_goesOn ?_
    rw [hm5, hj6]
    refine ⟨rng (by omega) (by omega), rng (by omega) (by omega), fun z => ⟨rng (by omega) (by omega), rng (by omega) (by omega), fun y => absurd y (by omega), fun y => ?_⟩, fun z => ⟨rng (by omega) (by omega), fun y => absurd y (by omega), fun y => ?_⟩⟩
    · refine k0 σ (DD_not (by omega) p (fun g a b c => ?_)) offQ_rf
      have := Met_room (l := 0) hW hM z (by omega) a b c
      omega
    · have hmm : met = m := by omega
      have e : okB P n f k = true := (okB_iff (by omega)).mpr ⟨by
        obtain ⟨j, a, b, c⟩ := hM.2.1 (m - 1) (by omega) (by omega)
        have := Pre_leq p a b (by omega)
        have := hW.2.2.2.2.2.2 hm0
        omega, fun x x0 x1 px => by
        rcases hW.2.2.2.1 x px with e | ⟨i, i0, i1, e⟩
        · exact ⟨0, by omega, by omega, by rw [e]; exact p.1⟩
        · obtain ⟨j, a, b, c⟩ := hM.2.1 i i0 (by omega)
          exact ⟨j, a, b, by omega⟩⟩
      refine k1 f σ (by rw [DD, if_pos e]) ?_ offQ_rf
      rw [← hkl, Nat.add_zero]
      exact sc
  | succ l ih =>
    intro d Q σ f k met hW hm5 hj6 hkl hm0 hNS p sc fn hM k1 k0
    have hWn := WT_n hW
    have hM1 := hM.1
    have hW1 := hW.1
    have lastn := hW.2.2.2.2.2.2 hm0
    have f1 := Pre_pos p (i := (k : Int)) (by omega) (by omega)
    refine c_X0_goesOn ?_
    rw [hm5, hj6]
    refine ⟨rng (by omega) (by omega), rng (by omega) (by omega), fun z => ⟨rng (by omega) (by omega), rng (by omega) (by omega), fun y => ⟨by omega, by omega, by omega, ?_⟩, fun y => ?_⟩, fun z => ⟨rng (by omega) (by omega), fun y => ?_, fun y => absurd y (by omega)⟩⟩
    · -- the search
      rw [show σ 276 (k : Int) = f k from (sc k (by omega) (by omega)).1, ← lastn, show (J : Int) - (k : Int) = (l : Int) + 1 by omega]
      have hwm := hW.2.1 met (by omega) z
      have hwn := hWn.2.2 met (by omega) z
      have hfw := hM.2.2 met (by omega) z
      refine q_leastNext (d := d + l + 2) ⟨hWn.1, hWn.2.1⟩ (by omega) (fun r hr hg => ⟨rng (by omega) (by omega), rng (by omega) (by omega), ?_⟩)
      -- what a candidate gives
      obtain ⟨pv, hpv⟩ : ∃ pv : Int → Option (Int → Int), pv = fun v => if sumB f (k + 1) v then DD P n l (wr f ((k : Int) + 1) v) (k + 1) else none := ⟨_, rfl⟩
      have hR : DD P n (l + 1) f k = lowO pv (n - f k).toNat (f k + 1) := by rw [DD, hpv]
      have pv_no : ∀ v, ¬ SumP f ((k : Int) + 1) v → pv v = none := fun v hs => by
        rw [hpv]
        have : sumB f (k + 1) v = false := by
          cases e : sumB f (k + 1) v with
          | false => rfl
          | true => exact absurd (sumB_iff.mp e) hs
        simp only [this]
        rfl
      have pv_yes : ∀ v, SumP f ((k : Int) + 1) v → pv v = DD P n l (wr f ((k : Int) + 1) v) (k + 1) := fun v hs => by
        rw [hpv]
        have : sumB f (k + 1) v = true := sumB_iff.mpr hs
        simp only [this]
        rfl
      have agw : ∀ v, agK f (wr f ((k : Int) + 1) v) k := fun v i i0 i1 => (wr_ne (by omega)).symm
      -- a candidate that no chain goes on from
      have pv_not : ∀ v, f k < v → (∀ g, Pre g ((k : Int) + 1 + l) → OkP P n g ((k : Int) + 1 + l) → agK f g k → g ((k : Int) + 1) = v → SumP f ((k : Int) + 1) v → False) → pv v = none := fun v hv hno => by
        by_cases hs : SumP f ((k : Int) + 1) v
        · rw [pv_yes v hs]
          refine DD_not (by omega) (Pre_wr (by omega) p hv hs) (fun g a b c => hno g ?_ ?_ (fun i i0 i1 => ?_) ?_ hs)
          · rw [show (k : Int) + 1 + l = ((k + 1 + l : Nat) : Int) by omega]; exact a
          · rw [show (k : Int) + 1 + l = ((k + 1 + l : Nat) : Int) by omega]; exact b
          · rw [← c i i0 (by omega), wr_ne (by omega)]
          · rw [← c ((k : Int) + 1) (by omega) (by omega), wr_at]
        · exact pv_no v hs
      have low_no : ∀ x, f k + 1 ≤ x → x < max (f k + 1) r → pv x = none := fun x x0 x1 => by
        refine pv_not x (by omega) (fun g a b c e _ => ?_)
        have := growthL_ok (n := n) (k := (k : Int) + 1) (l := l) (by omega) a b.1
        rw [e] at this
        have := hg x (by omega)
        omega
      -- the loop
      have all0 : (∀ x, f k + 1 ≤ x → x ≤ n → pv x = none) → DD P n (l + 1) f k = none := fun h => by
        rw [hR]
        exact lowO_none _ _ (fun x a b => h x a (by omega))
      have loop : ∀ (N : Nat) (v low : Int) (σ1 : jM), 1002 ≤ v + N → v ≤ 1001 → f k + 1 ≤ v → (∀ x, f k + 1 ≤ x → x < v → x ≤ n → pv x = none) → offQ k σ σ1 → Jt mX0_goesOn (d + (l + 1) + 3) 0 t Q 81 [rv 275, iv k, iv met, iv ((l : Int) + 1), iv n, iv (σ 280 met), iv low, iv v] [] σ1 := by
        intro N
        induction N with
        | zero => intro v low σ1 h1 h2; omega
        | succ N ihN =>
          intro v0 low σ1 h1 h2 h3 hno0 o1
          have s1c : SetC σ1 f k := SetC_off sc o1
          have e280 : σ1 280 = σ 280 := o1.1 280 (by omega)
          have e275 : σ1 275 = σ 275 := o1.1 275 (by omega)
          -- nothing is left below the next that is wanted
          have stop : ∀ v, f k + 1 ≤ v → (∀ x, f k + 1 ≤ x → x < v → x ≤ n → pv x = none) → σ 280 met < v → Q 0 σ1 := fun v hv hno y => by
            refine k0 σ1 (all0 (fun x x0 x1 => ?_)) o1
            rcases Int.lt_or_le x v with w | w
            · exact hno x x0 w x1
            · refine pv_not x (by omega) (fun g a b c e _ => ?_)
              have := Met_next (l := l) hW hM z (by omega) a b c e
              omega
          refine b_X0_goesOn_81 ⟨rng (by omega) (by omega), rng (by omega) (by omega), fun y => stop v0 h3 hno0 y, fun y0 => ?_⟩
          refine q_sumFrom (d := d + l + 1) (by omega) s1c (by omega) (fun v hv => ?_)
          have hvv : v0 ≤ v ∧ (v < 128 ∨ v = 1000) := by
            rcases hv with ⟨a1, a2, a3, a4⟩ | ⟨a1, a2⟩
            · exact ⟨a1, Or.inl a2⟩
            · exact ⟨by omega, Or.inr a1⟩
          have hsv : v < 128 → SumP f ((k : Int) + 1) v := fun q => by
            rcases hv with ⟨a1, a2, a3, a4⟩ | ⟨a1, a2⟩
            · exact a3
            · omega
          have hno : ∀ x, f k + 1 ≤ x → x < v → x ≤ n → pv x = none := fun x x0 x1 x2 => by
            rcases Int.lt_or_le x v0 with w | w
            · exact hno0 x x0 w x2
            · rcases hv with ⟨a1, a2, a3, a4⟩ | ⟨a1, a2⟩
              · exact pv_no x (a4 x w x1)
              · exact pv_no x (a2 x w (by omega))
          have hv0 := hvv.1
          have hv1 := hvv.2
          rw [show max v0 v = v by omega]
          -- on to the next sum
          have next : ∀ σ2, offQ k σ σ2 → pv v = none → Jt mX0_goesOn (d + (l + 1) + 3) 0 t Q 185 [rv 275, iv k, iv met, iv ((l : Int) + 1), iv n, iv (σ 280 met), iv low, iv v] [] σ2 := fun σ2 o2 hpn => by
            refine b_X0_goesOn_185 (ihN (v + 1) low σ2 (by omega) (by omega) (by omega) (fun x x0 x1 x2 => ?_) o2)
            rcases Int.lt_or_eq_of_le (show x ≤ v by omega) with w | w
            · exact hno x x0 w x2
            · rw [w]; exact hpn
          refine ⟨rng (by omega) (by omega), rng (by omega) (by omega), rng (by omega) (by omega), rng (by omega) (by omega), fun y => ⟨rng (by omega) (by omega), ?_⟩, fun y => stop v (by omega) hno y⟩
          · have hsv' := hsv (by omega)
            have pw := Pre_wr (by omega) p (show f k < v by omega) hsv'
            have fs : ∀ i, 0 ≤ i → i < (k : Int) + 1 → (1 ≤ f i ∧ f i < v) := fun i i0 i1 => by
              have a := Pre_pos p i0 (by omega : i ≤ (k : Int))
              have b := Pre_leq p i0 (by omega : i ≤ (k : Int)) (by omega)
              omega
            -- v is put down, and the search goes on from there
            have step : Ct mX0_put (d + l + 3) 9 t [rv 275, iv ((k : Int) + 1), iv v] σ1 (fun r4 σ4 => ((inR v) ∧ ((inR (σ 280 met)) ∧ ((¬ v = (σ 280 met) → (Jt mX0_goesOn (d + (l + 1) + 3) 0 t Q 177 [rv 275, iv k, iv met, iv ((l : Int) + 1), iv n, iv (σ 280 met), iv low, iv v] [iv met, iv ((k : Int) + 1), rv 275] σ4)) ∧ (v = (σ 280 met) → (Jt mX0_goesOn (d + (l + 1) + 3) 0 t Q 177 [rv 275, iv k, iv met, iv ((l : Int) + 1), iv n, iv (σ 280 met), iv low, iv v] [iv (met + 1), iv ((k : Int) + 1), rv 275] σ4)))))) := by
              refine q_put (f := f) (k := (k : Int) + 1) (by omega) (by rw [show (k : Int) + 1 - 1 = k by omega]; exact s1c) fs (by omega) (fun σ4 s4 o4 => ?_)
              rw [show (k : Int) + 1 - 1 = k by omega] at o4
              have e4280 : σ4 280 = σ 280 := by rw [o4.1 280 (by omega)]; exact e280
              have e4275 : σ4 275 = σ 275 := by rw [o4.1 275 (by omega)]; exact e275
              have o4' : offQ k σ σ4 := offQ_tr o1 o4
              have rcs : ∀ met', Mt (σ 280) m (wr f ((k : Int) + 1) v) ((k : Int) + 1) met' → Jt mX0_goesOn (d + (l + 1) + 3) 0 t Q 177 [rv 275, iv k, iv met, iv ((l : Int) + 1), iv n, iv (σ 280 met), iv low, iv v] [iv met', iv ((k : Int) + 1), rv 275] σ4 := by
                intro met' hM'
                refine b_X0_goesOn_177 ?_
                refine ih (d := d) (σ := σ4) (f := wr f ((k : Int) + 1) v) (k := k + 1) (met := met') (by rw [e4280]; exact hW) (by rw [e4275]; exact hm5) (by rw [e4275]; exact hj6) (by omega) hm0 hNS pw s4 (by show wr f ((k : Int) + 1) v ((k + 1 : Nat) : Int) ≤ n; rw [wr_eq (by omega)]; omega) (by rw [e4280]; exact hM') (fun g σ7 hg s7 o7 => ⟨⟨by decide, by decide⟩, fun u => absurd u (by decide), fun _ => ?_⟩) (fun σ7 hg o7 => ⟨in0, fun _ => ?_, fun u => absurd rfl u⟩)
                · refine k1 g σ7 ?_ s7 (offQ_tr o4' (offQ_le (by omega) o7))
                  have hcnt : (n - f k).toNat = (v - (f k + 1)).toNat + ((n - v).toNat + 1) := by omega
                  rw [hR, hcnt, lowO_skip _ _ _ (fun x x0 x1 => hno x x0 (by omega) (by omega)), show f k + 1 + (((v - (f k + 1)).toNat : Nat) : Int) = v by omega, lowO, pv_yes v hsv', hg]
                · exact next σ7 (offQ_tr o4' (offQ_le (by omega) o7)) (by rw [pv_yes v hsv']; exact hg)
              have inw : ∀ i, 0 ≤ i → i < met → ∃ j, 0 ≤ j ∧ j ≤ (k : Int) + 1 ∧ wr f ((k : Int) + 1) v j = σ 280 i := fun i i0 i1 => by
                obtain ⟨j, a, b, c⟩ := hM.2.1 i i0 i1
                exact ⟨j, a, by omega, by rw [wr_ne (by omega)]; exact c⟩
              refine ⟨rng (by omega) (by omega), rng (by omega) (by omega), fun u => rcs met ⟨hM1, inw, fun i i0 i1 => ?_⟩, fun u => rcs (met + 1) ⟨by omega, fun i i0 i1 => ?_, fun i i0 i1 => ?_⟩⟩
              · rw [wr_at]
                rcases Int.lt_or_eq_of_le i0 with w | w
                · have := hW.2.2.1 met i (by omega) w i1; omega
                · rw [← w]; omega
              · rcases Int.lt_or_eq_of_le (show i ≤ met by omega) with w | w
                · exact inw i i0 w
                · exact ⟨(k : Int) + 1, by omega, by omega, by rw [wr_at, w]; exact u⟩
              · rw [wr_at]
                have := hW.2.2.1 met i (by omega) (by omega) i1
                omega
            refine ⟨fun u => step, fun u => ⟨rng (by omega) (by omega), rng (by omega) (by omega), fun w => step, fun w => ⟨rng (by omega) (by omega), rng (by omega) (by omega), fun s => step, fun s => ?_⟩⟩⟩
            refine q_isLink (f := f) (by omega) s1c (rng (by omega) (by omega)) (fun ex => ⟨⟨by decide, by decide⟩, fun _ => step, fun q => absurd q (by decide)⟩) (fun ex => ⟨in0, fun q => absurd rfl q, fun _ => next σ1 o1 ?_⟩) (fun i i0 i1 => by have := Pre_pos p i0 i1; omega)
            -- a last link that doesn't come of v would make a shorter chain
            have hl1 : l = 1 := by omega
            refine pv_not v (by omega) (fun g a b c e hsum => ?_)
            subst hl1
            have pn := (a.2 ((k : Int) + 1 + (1 : Nat)) (by omega) (by omega)).2
            rw [b.1] at pn
            obtain ⟨x, y', y0, yx, xk, exy⟩ := pn
            have gk : ∀ i, 0 ≤ i → i ≤ (k : Int) → g i = f i := fun i i0 i1 => (c i i0 i1).symm
            by_cases hx : x = (k : Int) + 1
            · rw [hx, e] at exy
              by_cases hy : y' = (k : Int) + 1
              · rw [hy, e] at exy; omega
              · rw [gk y' y0 (by omega)] at exy
                have fy := Pre_leq p y0 (by omega : y' ≤ (k : Int)) (by omega)
                exact ex (by omega) ⟨y', y0, by omega, by omega⟩
            · rw [gk x (by omega) (by omega), gk y' y0 (by omega)] at exy
              have hmet : met = m - 1 := by
                rcases Int.lt_or_eq_of_le (show met ≤ m - 1 by omega) with q | q
                · have := hW.2.2.1 met (m - 1) (by omega) q (by omega); omega
                · exact q
              have sn : SumP f ((k : Int) + 1) n := ⟨x, y', y0, yx, by omega, exy⟩
              have pnn := Pre_wr (by omega) p (show f k < n by omega) sn
              refine hNS (wr f ((k : Int) + 1) n) (by omega) (by rw [show (J : Int) - 1 = (k : Int) + 1 by omega]; exact pnn) ?_
              rw [show (J : Int) - 1 = (k : Int) + 1 by omega]
              refine ⟨wr_at, fun q q0 q1 pq => ?_⟩
              rcases hW.2.2.2.1 q pq with eq | ⟨i, i0, i1, eq⟩
              · exact ⟨0, by omega, by omega, by rw [wr_ne (by omega), eq]; exact p.1⟩
              · rcases Int.lt_or_eq_of_le (show i ≤ met by omega) with w' | w'
                · obtain ⟨j, j0, j1, ej⟩ := hM.2.1 i i0 w'
                  exact ⟨j, j0, by omega, by rw [wr_ne (by omega)]; omega⟩
                · exact ⟨(k : Int) + 1, by omega, by omega, by rw [wr_at, ← eq, w', hmet]; exact lastn⟩
      exact loop 1002 _ _ σ (by omega) (by omega) (by omega) (fun x x0 x1 _ => low_no x x0 x1) offQ_rf
    · refine k0 σ (DD_not (by omega) p (fun g a b c => ?_)) offQ_rf
      have := Met_room (l := l + 1) hW hM z (by omega) a b c
      omega
    · have hmm : met = m := by omega
      have fkn : f k = n := by
        obtain ⟨j, a, b, c⟩ := hM.2.1 (m - 1) (by omega) (by omega)
        have := Pre_leq p a b (by omega)
        omega
      refine k0 σ ?_ offQ_rf
      rw [DD, show (n - f k).toNat = 0 by omega]
      rfl
end GO
