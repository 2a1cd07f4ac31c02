/-! ===== the reference's cost, cost alike ===== -/
def pcv (tw jo : Int) (a b : Bool) : Int := if a then (if b then min tw jo else tw) else if b then jo else 1000000
def frT (σ σ' : jM) : Prop := ∀ x, (x = 288 ∨ x = 291 ∨ x = 338) → σ' x = σ x
def SameT (L : LT) (σ0 : jM) (r : Int) : Int → jM → Prop := fun r' σ2 => r' = r ∧ I0 L σ2 ∧ K1 σ2 ∧ KR σ2 ∧ frT σ0 σ2
section CR
variable {t : Int} {n tw jo : Int} {L : LT}
theorem m_costOf {d : Nat} {Q : Int → jM → Prop} {σ : jM} {f : Int → Int} {K : Nat} {v : Int} (ht : 1 ≤ tw ∧ tw ≤ 9) (hj : 1 ≤ jo ∧ jo ≤ 9) (hv : 0 ≤ v ∧ v ≤ 100) (hK : K < 43) (hf : ∀ i, 0 ≤ i → i ≤ (K : Int) → (σ 331 i = f i ∧ 0 ≤ f i ∧ f i ≤ 100)) (kk : Q (prC tw jo f K v) σ) : Ct mX12_costOf d 0 t [rv 321, iv v, iv ((K : Int) + 1), iv tw, iv jo] σ Q := by
  have kk' : Q (pcv tw jo (dblB f K v) (srrB f K v)) σ := kk
  refine c_X12_costOf ?_
  have tR : inR tw := rng (by omega) (by omega)
  have jR : inR jo := rng (by omega) (by omega)
  have pR : ∀ a b, inR (pcv tw jo a b) := fun a b => by
    unfold pcv
    cases a <;> cases b <;> simp <;> exact rng (by omega) (by omega)
  -- which are seen ahead of (i, k)
  have inner : ∀ (i : Int), 0 ≤ i → i ≤ (K : Int) → (∀ a b, (a = true ↔ ∃ x, 0 ≤ x ∧ x < i + 1 ∧ f x + f x = v) → (b = true ↔ ∃ x y, 0 ≤ y ∧ y < x ∧ x < i + 1 ∧ f x + f y = v) → Jt mX12_costOf d 0 t Q 8 [rv 321, iv v, iv ((K : Int) + 1), iv tw, iv jo, iv (pcv tw jo a b), iv (i + 1), uv] [] σ) → ∀ (c : Nat) (k : Int) (a b : Bool), 0 ≤ k → k + c = i + 1 → (a = true ↔ ∃ x, 0 ≤ x ∧ (x < i ∨ (x = i ∧ i < k)) ∧ f x + f x = v) → (b = true ↔ ∃ x y, 0 ≤ y ∧ y < x ∧ (x < i ∨ (x = i ∧ y < k)) ∧ f x + f y = v) → Jt mX12_costOf d 0 t Q 17 [rv 321, iv v, iv ((K : Int) + 1), iv tw, iv jo, iv (pcv tw jo a b), iv i, iv k] [] σ := by
    intro i i0 iK nx c
    have fi := hf i i0 iK
    induction c with
    | zero =>
      intro k a b k0 hk ha hb
      refine b_X12_costOf_17 ⟨rng (by omega) (by omega), rng (by omega) (by omega), fun _ => nx a b ?_ ?_, fun z => absurd z (by omega)⟩
      · rw [ha]
        constructor
        · rintro ⟨x, x0, h, e⟩; exact ⟨x, x0, by omega, e⟩
        · rintro ⟨x, x0, h, e⟩; exact ⟨x, x0, by omega, e⟩
      · rw [hb]
        constructor
        · rintro ⟨x, y, y0, yx, h, e⟩; exact ⟨x, y, y0, yx, by omega, e⟩
        · rintro ⟨x, y, y0, yx, h, e⟩; exact ⟨x, y, y0, yx, by omega, e⟩
    | succ c ih =>
      intro k a b k0 hk ha hb
      have fk := hf k k0 (by omega)
      refine b_X12_costOf_17 ⟨rng (by omega) (by omega), rng (by omega) (by omega), fun z => absurd z (by omega), fun _ => ⟨by omega, by omega, ?_⟩⟩
      rw [fi.1, fk.1]
      refine ⟨rng (by omega) (by omega), rng (by omega) (by omega), fun z => ?_, fun z => ?_⟩
      · refine ih (k + 1) a b (by omega) (by omega) ?_ ?_
        · rw [ha]
          constructor
          · rintro ⟨x, x0, h, e⟩; exact ⟨x, x0, by omega, e⟩
          · rintro ⟨x, x0, h, e⟩
            rcases h with h | ⟨h1, h2⟩
            · exact ⟨x, x0, Or.inl h, e⟩
            · by_cases q : i = k
              · subst h1; subst q; exact absurd e z
              · exact ⟨x, x0, Or.inr ⟨h1, by omega⟩, e⟩
        · rw [hb]
          constructor
          · rintro ⟨x, y, y0, yx, h, e⟩; exact ⟨x, y, y0, yx, by omega, e⟩
          · rintro ⟨x, y, y0, yx, h, e⟩
            rcases h with h | ⟨h1, h2⟩
            · exact ⟨x, y, y0, yx, Or.inl h, e⟩
            · by_cases q : y = k
              · subst h1; subst q; exact absurd e z
              · exact ⟨x, y, y0, yx, Or.inr ⟨h1, by omega⟩, e⟩
      · refine ⟨rng (by omega) (by omega), rng (by omega) (by omega), fun w => ?_, fun w => ?_⟩
        · -- two unlike ones
          have go : pcv tw jo a true = min (pcv tw jo a b) jo → Jt mX12_costOf d 0 t Q 17 [rv 321, iv v, iv ((K : Int) + 1), iv tw, iv jo, iv (pcv tw jo a true), iv i, iv (k + 1)] [] σ := fun _ => by
            refine ih (k + 1) a true (by omega) (by omega) ?_ ?_
            · rw [ha]
              constructor
              · rintro ⟨x, x0, h, e⟩; exact ⟨x, x0, by omega, e⟩
              · rintro ⟨x, x0, h, e⟩
                rcases h with h | ⟨h1, h2⟩
                · exact ⟨x, x0, Or.inl h, e⟩
                · exact ⟨x, x0, Or.inr ⟨h1, by omega⟩, e⟩
            · exact ⟨fun _ => ⟨i, k, k0, by omega, Or.inr ⟨rfl, by omega⟩, z⟩, fun _ => rfl⟩
          have em : pcv tw jo a true = min (pcv tw jo a b) jo := by
            unfold pcv
            cases a <;> cases b <;> simp <;> omega
          refine ⟨jR, pR a b, fun u => ?_, fun u => ⟨rng (by omega) (by omega), rng (by omega) (by omega), fun _ => ?_, fun q => absurd q w⟩⟩
          · have := go em
            rw [em, show min (pcv tw jo a b) jo = pcv tw jo a b by omega] at this
            exact this
          · have := go em
            rw [em, show min (pcv tw jo a b) jo = jo by omega] at this
            exact this
        · -- one twice
          have go : Jt mX12_costOf d 0 t Q 17 [rv 321, iv v, iv ((K : Int) + 1), iv tw, iv jo, iv (pcv tw jo true b), iv i, iv (k + 1)] [] σ := by
            refine ih (k + 1) true b (by omega) (by omega) ?_ ?_
            · exact ⟨fun _ => ⟨i, i0, Or.inr ⟨rfl, by omega⟩, by rw [← w] at z; exact z⟩, fun _ => rfl⟩
            · rw [hb]
              constructor
              · rintro ⟨x, y, y0, yx, h, e⟩; exact ⟨x, y, y0, yx, by omega, e⟩
              · rintro ⟨x, y, y0, yx, h, e⟩
                rcases h with h | ⟨h1, h2⟩
                · exact ⟨x, y, y0, yx, Or.inl h, e⟩
                · exact ⟨x, y, y0, yx, Or.inr ⟨h1, by omega⟩, e⟩
          have em : pcv tw jo true b = min (pcv tw jo a b) tw := by
            unfold pcv
            cases a <;> cases b <;> simp <;> omega
          refine ⟨tR, pR a b, fun u => ?_, fun u => ⟨rng (by omega) (by omega), rng (by omega) (by omega), fun q => absurd w q, fun _ => ?_⟩⟩
          · rw [em, show min (pcv tw jo a b) tw = pcv tw jo a b by omega] at go
            exact go
          · rw [em, show min (pcv tw jo a b) tw = tw by omega] at go
            exact go
  have outer : ∀ (c : Nat) (i : Int) (a b : Bool), 0 ≤ i → i + c = (K : Int) + 1 → (a = true ↔ ∃ x, 0 ≤ x ∧ x < i ∧ f x + f x = v) → (b = true ↔ ∃ x y, 0 ≤ y ∧ y < x ∧ x < i ∧ f x + f y = v) → Jt mX12_costOf d 0 t Q 8 [rv 321, iv v, iv ((K : Int) + 1), iv tw, iv jo, iv (pcv tw jo a b), iv i, uv] [] σ := by
    intro c
    induction c with
    | zero =>
      intro i a b i0 hi ha hb
      have ea : a = dblB f K v := by
        cases a with
        | true =>
          obtain ⟨x, x0, h, e⟩ := ha.mp rfl
          exact (dblB_iff.mpr ⟨x, x0, by omega, e⟩).symm
        | false =>
          cases w : dblB f K v with
          | false => rfl
          | true =>
            obtain ⟨x, x0, h, e⟩ := dblB_iff.mp w
            exact ha.mpr ⟨x, x0, by omega, e⟩
      have eb : b = srrB f K v := by
        cases b with
        | true =>
          obtain ⟨x, y, y0, yx, h, e⟩ := hb.mp rfl
          exact (srrB_iff.mpr ⟨x, y, y0, yx, by omega, e⟩).symm
        | false =>
          cases w : srrB f K v with
          | false => rfl
          | true =>
            obtain ⟨x, y, y0, yx, h, e⟩ := srrB_iff.mp w
            exact hb.mpr ⟨x, y, y0, yx, by omega, e⟩
      rw [ea, eb]
      exact b_X12_costOf_8 ⟨rng (by omega) (by omega), rng (by omega) (by omega), fun _ => kk', fun z => absurd z (by omega)⟩
    | succ c ih =>
      intro i a b i0 hi ha hb
      refine b_X12_costOf_8 ⟨rng (by omega) (by omega), rng (by omega) (by omega), fun z => absurd z (by omega), fun _ => ?_⟩
      refine inner i i0 (by omega) (fun a' b' ha' hb' => ih (i + 1) a' b' (by omega) (by omega) ha' hb') (i + 1).toNat 0 a b (by omega) (by omega) ?_ ?_
      · rw [ha]
        constructor
        · rintro ⟨x, x0, h, e⟩; exact ⟨x, x0, Or.inl h, e⟩
        · rintro ⟨x, x0, h, e⟩; exact ⟨x, x0, by omega, e⟩
      · rw [hb]
        constructor
        · rintro ⟨x, y, y0, yx, h, e⟩; exact ⟨x, y, y0, yx, Or.inl h, e⟩
        · rintro ⟨x, y, y0, yx, h, e⟩; exact ⟨x, y, y0, yx, by omega, e⟩
  have := outer (K + 1) 0 false false (by omega) (by omega) ⟨fun q => (by cases q), fun ⟨x, x0, h, _⟩ => by omega⟩ ⟨fun q => (by cases q), fun ⟨x, y, y0, yx, h, _⟩ => by omega⟩
  exact this
theorem m_leastLeft {d : Nat} {Q : Int → jM → Prop} {σ : jM} {v e : Int} (hn : 1 ≤ n ∧ n ≤ 40) (hv : 1 ≤ v ∧ v ≤ n) (kk : Q (stF n 6 v * e) σ) : Ct mX12_leastLeft d 0 t [iv v, iv n, iv e] σ Q := by
  refine c_X12_leastLeft ?_
  have loop : ∀ (F : Nat) (acc w : Int), 1 ≤ w → w ≤ 2 * n → acc + stF n F w = stF n 6 v → n ≤ w * pw2 F → Jt mX12_leastLeft d 0 t Q 5 [iv v, iv n, iv e, iv acc, iv w] [] σ := by
    intro F
    induction F with
    | zero =>
      intro acc w w1 w2 ha hw
      rw [stF, Int.add_zero] at ha
      have hw : n ≤ w * 1 := hw
      subst ha
      exact b_X12_leastLeft_5 ⟨rng (by omega) (by omega), rng (by omega) (by omega), fun _ => kk, fun z => absurd z (by omega)⟩
    | succ F ih =>
      intro acc w w1 w2 ha hw
      rw [stF] at ha
      by_cases q : n ≤ w
      · rw [if_pos q, Int.add_zero] at ha
        subst ha
        exact b_X12_leastLeft_5 ⟨rng (by omega) (by omega), rng (by omega) (by omega), fun _ => kk, fun z => absurd z (by omega)⟩
      · rw [if_neg q] at ha
        refine b_X12_leastLeft_5 ⟨rng (by omega) (by omega), rng (by omega) (by omega), fun z => absurd z q, fun _ => ih (acc + 1) (w * 2) (by omega) (by omega) (by omega) ?_⟩
        have hw : n ≤ w * (2 * pw2 F) := hw
        rw [Int.mul_assoc]
        exact hw
  exact loop 6 0 v (by omega) (by omega) (by omega) (pw64 (by omega) hn.2)
theorem m_costs {d : Nat} {Q : Int → jM → Prop} {σ0 : jM} (hn : 1 ≤ n ∧ n ≤ 40) (ht : 1 ≤ tw ∧ tw ≤ 9) (hj : 1 ≤ jo ∧ jo ≤ 9) : ∀ (F : Nat) {K : Nat} {f : Int → Int}, n - f K ≤ F + 1 → Pre f K → f K < n → ∀ (c : Nat) (b paid : Int) (σ : jM), f K + c ≤ n → (∀ i, 0 ≤ i → i ≤ (K : Int) → σ 331 i = f i) → σ 331 ((K : Int) + 1) = f K + c + 1 → σ 334 (K : Int) = paid → 0 ≤ paid → paid ≤ 1000000 → 0 ≤ b → b ≤ 1000000 → (∀ x, x ≠ 331 → x ≠ 334 → σ x = σ0 x) → (∀ σ', (∀ i, 0 ≤ i → i ≤ (K : Int) → σ' 331 i = f i) → (∀ i, i ≤ (K : Int) → σ' 334 i = σ 334 i) → (∀ x, x ≠ 331 → x ≠ 334 → σ' x = σ0 x) → Jt mX12_cost (d + 1) 0 t Q 93 [rv 321, iv n, iv tw, iv jo, iv (min tw jo), iv (min b (paid + minO (fun v => prC tw jo f K v + mc n tw jo F (wr f ((K : Int) + 1) v) (K + 1)) c (f K + 1))), iv (K : Int), uv, uv] [] σ') → Jt mX12_cost (d + 1) 0 t Q 93 [rv 321, iv n, iv tw, iv jo, iv (min tw jo), iv b, iv ((K : Int) + 1), uv, uv] [] σ := by
  intro F
  induction F with
  | zero =>
    intro K f hF p fn c
    have fk := Pre_pos p (i := (K : Int)) (by omega) (by omega)
    obtain ⟨pp, hpp⟩ : ∃ pp : Int → Int, pp = fun v => prC tw jo f K v + mc n tw jo 0 (wr f ((K : Int) + 1) v) (K + 1) := ⟨_, rfl⟩
    rw [← hpp]
    have fall : ∀ i, 0 ≤ i → i ≤ (K : Int) → (0 ≤ f i ∧ f i ≤ 100) := fun i a b => by
      have x := Pre_pos p a b
      have y := Pre_leq p a b (by omega)
      omega
    induction c with
    | zero =>
      intro b paid σ hc hf hw h4 p0 p1 b0 b1 of kf
      refine b_X12_cost_93 ⟨rng (by omega) (by omega), fun z => absurd z (by omega), fun _ => ⟨by omega, by omega, fun σ3 e3 => ⟨by omega, by omega, ?_⟩⟩⟩
      rw [show σ3 331 ((K : Int) + 1) = f K by rw [e3, up_at, hw]; omega, show (K : Int) + 1 - 1 = K by omega, show σ3 331 (K : Int) = f K by rw [e3, up_ne (Or.inr (by omega))]; exact hf K (by omega) (by omega)]
      refine ⟨rng (by omega) (by omega), rng (by omega) (by omega), fun z => absurd z (by omega), fun _ => ?_⟩
      have := kf σ3 (fun i i0 i1 => by rw [e3, up_ne (Or.inr (by omega))]; exact hf i i0 i1) (fun i _ => by rw [e3, up_row (by decide)]) (fun x h1 h2 => by rw [e3, up_row h1]; exact of x h1 h2)
      rw [minO, show min b (paid + 1000000) = b by omega] at this
      rw [show (K : Int) + 1 + -1 = K by omega]
      exact this
    | succ c ih =>
      intro b paid σ hc hf hw h4 p0 p1 b0 b1 of kf
      have ev : f K + ((c + 1 : Nat) : Int) = n := by omega
      rw [minO_last, show f K + 1 + (c : Int) = n by omega] at kf
      have c0 : c = 0 := by omega
      have ppn : pp n = prC tw jo f K n := by
        rw [hpp]
        show prC tw jo f K n + mc n tw jo 0 (wr f ((K : Int) + 1) n) (K + 1) = _
        rw [mc, if_pos (wr_eq (by omega)), Int.add_zero]
      have pl := prC_lb (tw := tw) (jo := jo) (f := f) (k := K) (v := n) ht hj
      have pu : prC tw jo f K n ≤ 1000000 := by unfold prC; split <;> split <;> omega
      refine b_X12_cost_93 ⟨rng (by omega) (by omega), fun z => absurd z (by omega), fun _ => ⟨by omega, by omega, fun σ3 e3 => ⟨by omega, by omega, ?_⟩⟩⟩
      have hf3 : ∀ i, 0 ≤ i → i ≤ (K : Int) → σ3 331 i = f i := fun i i0 i1 => by rw [e3, up_ne (Or.inr (by omega))]; exact hf i i0 i1
      have e3v : σ3 331 ((K : Int) + 1) = n := by rw [e3, up_at, hw]; omega
      have of3 : ∀ x, x ≠ 331 → x ≠ 334 → σ3 x = σ0 x := fun x h1 h2 => by rw [e3, up_row h1]; exact of x h1 h2
      have e334 : σ3 334 = σ 334 := by rw [e3, up_row (by decide)]
      rw [e3v, show (K : Int) + 1 - 1 = K by omega, hf3 K (by omega) (by omega), e334, h4]
      refine ⟨rng (by omega) (by omega), rng (by omega) (by omega), fun _ => ⟨by omega, ?_⟩, fun z => absurd z (by omega)⟩
      refine m_costOf ht hj (by omega) (by omega) (fun i a b => ⟨hf3 i a b, fall i a b⟩) (m_leastLeft hn ⟨by omega, by omega⟩ ?_)
      rw [(st_0 (n := n) (show 1 ≤ n by omega) hn.2).mpr (Int.le_refl _), Int.zero_mul]
      -- what is left of the row
      have rest : ∀ b', b' = min b (paid + pp n) → Jt mX12_cost (d + 1) 0 t Q 93 [rv 321, iv n, iv tw, iv jo, iv (min tw jo), iv b', iv ((K : Int) + 1), uv, uv] [] σ3 := fun b' hb' => by
        refine ih b' paid σ3 (by omega) hf3 (by rw [e3v]; omega) (by rw [e334]; exact h4) p0 p1 (by omega) (by omega) of3 (fun σ' g1 g2 g3 => ?_)
        have := kf σ' g1 (fun i hi => by rw [g2 i hi, e334]) g3
        rw [hb', show min (min b (paid + pp n)) (paid + minO pp c (f K + 1)) = min b (paid + min (minO pp c (f K + 1)) (pp n)) by omega]
        exact this
      refine ⟨rng (by omega) (by omega), rng (by omega) (by omega), fun z => ⟨rng (by omega) (by omega), rng (by omega) (by omega), fun y => absurd rfl y, fun _ => rest _ (by omega)⟩, fun z => rest _ (by omega)⟩
  | succ F ihF =>
    intro K f hF p fn c
    have fk := Pre_pos p (i := (K : Int)) (by omega) (by omega)
    obtain ⟨pp, hpp⟩ : ∃ pp : Int → Int, pp = fun v => prC tw jo f K v + mc n tw jo (F + 1) (wr f ((K : Int) + 1) v) (K + 1) := ⟨_, rfl⟩
    rw [← hpp]
    have fall : ∀ i, 0 ≤ i → i ≤ (K : Int) → (0 ≤ f i ∧ f i ≤ 100) := fun i a b => by
      have x := Pre_pos p a b
      have y := Pre_leq p a b (by omega)
      omega
    induction c with
    | zero =>
      intro b paid σ hc hf hw h4 p0 p1 b0 b1 of kf
      refine b_X12_cost_93 ⟨rng (by omega) (by omega), fun z => absurd z (by omega), fun _ => ⟨by omega, by omega, fun σ3 e3 => ⟨by omega, by omega, ?_⟩⟩⟩
      rw [show σ3 331 ((K : Int) + 1) = f K by rw [e3, up_at, hw]; omega, show (K : Int) + 1 - 1 = K by omega, show σ3 331 (K : Int) = f K by rw [e3, up_ne (Or.inr (by omega))]; exact hf K (by omega) (by omega)]
      refine ⟨rng (by omega) (by omega), rng (by omega) (by omega), fun z => absurd z (by omega), fun _ => ?_⟩
      have := kf σ3 (fun i i0 i1 => by rw [e3, up_ne (Or.inr (by omega))]; exact hf i i0 i1) (fun i _ => by rw [e3, up_row (by decide)]) (fun x h1 h2 => by rw [e3, up_row h1]; exact of x h1 h2)
      rw [minO, show min b (paid + 1000000) = b by omega] at this
      rw [show (K : Int) + 1 + -1 = K by omega]
      exact this
    | succ c ih =>
      intro b paid σ hc hf hw h4 p0 p1 b0 b1 of kf
      obtain ⟨v, ev⟩ : ∃ v : Int, v = f K + ((c + 1 : Nat) : Int) := ⟨_, rfl⟩
      rw [minO_last, show f K + 1 + (c : Int) = v by omega] at kf
      have ppv : pp v = prC tw jo f K v + mc n tw jo (F + 1) (wr f ((K : Int) + 1) v) (K + 1) := by rw [hpp]
      have pl := prC_lb (tw := tw) (jo := jo) (f := f) (k := K) (v := v) ht hj
      have pu : prC tw jo f K v ≤ 1000000 := by unfold prC; split <;> split <;> omega
      have mi := mc_in (n := n) ht hj (F + 1) (wr f ((K : Int) + 1) v) (K + 1)
      have fw' : wr f ((K : Int) + 1) v ((K + 1 : Nat) : Int) = v := wr_eq (by omega)
      have s0 := stF_ok (n := n) 6 v (pw64 (by omega) hn.2)
      have sm : stF n 6 v * min tw jo ≤ 6 * min tw jo := mul_mono s0.2.1 (by omega)
      have sm0 : 0 ≤ stF n 6 v * min tw jo := Int.mul_nonneg s0.1 (by omega)
      refine b_X12_cost_93 ⟨rng (by omega) (by omega), fun z => absurd z (by omega), fun _ => ⟨by omega, by omega, fun σ3 e3 => ⟨by omega, by omega, ?_⟩⟩⟩
      have hf3 : ∀ i, 0 ≤ i → i ≤ (K : Int) → σ3 331 i = f i := fun i i0 i1 => by rw [e3, up_ne (Or.inr (by omega))]; exact hf i i0 i1
      have e3v : σ3 331 ((K : Int) + 1) = v := by rw [e3, up_at, hw]; omega
      have of3 : ∀ x, x ≠ 331 → x ≠ 334 → σ3 x = σ0 x := fun x h1 h2 => by rw [e3, up_row h1]; exact of x h1 h2
      have e334 : σ3 334 = σ 334 := by rw [e3, up_row (by decide)]
      rw [e3v, show (K : Int) + 1 - 1 = K by omega, hf3 K (by omega) (by omega), e334, h4]
      refine ⟨rng (by omega) (by omega), rng (by omega) (by omega), fun _ => ⟨by omega, ?_⟩, fun z => absurd z (by omega)⟩
      refine m_costOf ht hj (by omega) (by omega) (fun i a b => ⟨hf3 i a b, fall i a b⟩) (m_leastLeft hn ⟨by omega, by omega⟩ ?_)
      -- what is left of the row
      have rest : ∀ (b' : Int) (τ : jM), b' = min b (paid + pp v) → (∀ i, 0 ≤ i → i ≤ (K : Int) → τ 331 i = f i) → τ 331 ((K : Int) + 1) = v → (∀ i, i ≤ (K : Int) → τ 334 i = σ 334 i) → (∀ x, x ≠ 331 → x ≠ 334 → τ x = σ0 x) → Jt mX12_cost (d + 1) 0 t Q 93 [rv 321, iv n, iv tw, iv jo, iv (min tw jo), iv b', iv ((K : Int) + 1), uv, uv] [] τ := fun b' τ hb' q1 q2 q3 q4 => by
        refine ih b' paid τ (by omega) q1 (by rw [q2]; omega) (by rw [q3 _ (by omega)]; exact h4) p0 p1 (by omega) (by omega) q4 (fun σ' g1 g2 g3 => ?_)
        have := kf σ' g1 (fun i hi => by rw [g2 i hi, q3 i hi]) g3
        rw [hb', show min (min b (paid + pp v)) (paid + minO pp c (f K + 1)) = min b (paid + min (minO pp c (f K + 1)) (pp v)) by omega]
        exact this
      have rest3 : ∀ b', b' = min b (paid + pp v) → Jt mX12_cost (d + 1) 0 t Q 93 [rv 321, iv n, iv tw, iv jo, iv (min tw jo), iv b', iv ((K : Int) + 1), uv, uv] [] σ3 := fun b' hb' => rest b' σ3 hb' hf3 e3v (fun i _ => by rw [e334]) of3
      refine ⟨rng (by omega) (by omega), rng (by omega) (by omega), fun z => ?_, fun z => rest3 _ ?_⟩
      · -- v is a sum
        have hs : SumP f ((K : Int) + 1) v := Classical.byContradiction (fun q => by have := prC_no (tw := tw) (jo := jo) q; omega)
        have pw := Pre_wr (by omega) p (show f K < v by omega) hs
        refine ⟨rng (by omega) (by omega), rng (by omega) (by omega), fun y => ⟨by omega, fun σ13 e13 => ⟨rng (by omega) (by omega), rng (by omega) (by omega), ?_⟩⟩, fun y => rest3 _ ?_⟩
        · have vn : v < n := by omega
          have h13 : ∀ i, 0 ≤ i → i ≤ (K : Int) → σ13 331 i = f i := fun i i0 i1 => by rw [e13, up_row (by decide)]; exact hf3 i i0 i1
          have step : ∀ (w : Int) (σ17 : jM), w = 1 + min n (2 * v) → σ17 = up σ13 331 ((K : Int) + 1 + 1) w → Jt mX12_cost (d + 1) 0 t Q 93 [rv 321, iv n, iv tw, iv jo, iv (min tw jo), iv b, iv ((K : Int) + 1 + 1), uv, uv] [] σ17 := by
            intro w σ17 hw' e17
            have h17 : ∀ i, 0 ≤ i → i ≤ ((K + 1 : Nat) : Int) → σ17 331 i = wr f ((K : Int) + 1) v i := fun i i0 i1 => by
              rw [e17, up_ne (Or.inr (by omega))]
              by_cases q : i = (K : Int) + 1
              · rw [wr_eq q, q, e13, up_row (by decide)]; exact e3v
              · rw [wr_ne q]; exact h13 i i0 (by omega)
            have r334 : ∀ i, i ≤ (K : Int) → σ17 334 i = σ 334 i := fun i hi => by rw [e17, up_row (by decide), e13, up_ne (Or.inr (by omega)), e334]
            have := ihF (K := K + 1) (f := wr f ((K : Int) + 1) v) (by rw [fw']; omega) pw (by rw [fw']; exact vn) (min n (2 * v) - v).toNat b (paid + prC tw jo f K v) σ17 (by rw [fw']; omega) h17 (by rw [fw', show ((K + 1 : Nat) : Int) + 1 = (K : Int) + 1 + 1 by omega, e17, up_at]; omega) (by rw [e17, up_row (by decide), show ((K + 1 : Nat) : Int) = (K : Int) + 1 by omega, e13, up_at]) (by omega) (by omega) b0 b1 (fun x h1 h2 => by rw [e17, up_row h1, e13, up_row h2]; exact of3 x h1 h2) (fun σ' g1 g2 g3 => ?_)
            · rw [show ((K + 1 : Nat) : Int) + 1 = (K : Int) + 1 + 1 by omega] at this
              exact this
            · rw [fw', show ((K + 1 : Nat) : Int) = (K : Int) + 1 by omega]
              refine rest _ σ' ?_ (fun i i0 i1 => by rw [g1 i i0 (by omega), wr_ne (by omega)]) (by rw [g1 ((K : Int) + 1) (by omega) (by omega), wr_at]) (fun i hi => by rw [g2 i (by omega)]; exact r334 i hi) g3
              have em : mc n tw jo (F + 1) (wr f ((K : Int) + 1) v) (K + 1) = minO (fun w => prC tw jo (wr f ((K : Int) + 1) v) (K + 1) w + mc n tw jo F (wr (wr f ((K : Int) + 1) v) (((K + 1 : Nat) : Int) + 1) w) (K + 1 + 1)) (min n (2 * v) - v).toNat (v + 1) := by
                rw [mc, if_neg (by rw [fw']; omega), fw', show (n - v).toNat = (min n (2 * v) - v).toNat + (n - min n (2 * v)).toNat by omega]
                refine minO_cut _ _ (fun x x0 x1 => ?_)
                show 1000000 ≤ prC tw jo (wr f ((K : Int) + 1) v) (K + 1) x + mc n tw jo F (wr (wr f ((K : Int) + 1) v) (((K + 1 : Nat) : Int) + 1) x) (K + 1 + 1)
                rw [prC_no]
                · have := (mc_in (n := n) ht hj F (wr (wr f ((K : Int) + 1) v) (((K + 1 : Nat) : Int) + 1) x) (K + 1 + 1)).1
                  omega
                · rintro ⟨a, c', c0, ca, ak, e⟩
                  have x1' := Pre_leq pw (i := a) (j := (K : Int) + 1) (by omega) (by omega) (by omega)
                  have x2' := Pre_leq pw (i := c') (j := (K : Int) + 1) (by omega) (by omega) (by omega)
                  rw [wr_at] at x1' x2'
                  omega
              rw [ppv, em, show ((K + 1 : Nat) : Int) = (K : Int) + 1 by omega]
              omega
          exact ⟨fun u => ⟨by omega, fun σ17 e17 => step _ σ17 (by omega) e17⟩, fun u => ⟨by omega, fun σ19 e19 => step _ σ19 (by omega) e19⟩⟩
        · rw [ppv, mc, if_pos (by rw [fw']; exact y)]
          omega
      · -- it isn't worth it
        rw [ppv]
        by_cases hs : SumP f ((K : Int) + 1) v
        · have pw := Pre_wr (by omega) p (show f K < v by omega) hs
          have lb := L0_mc (n := n) ht hj hn.2 (F + 1) (f := wr f ((K : Int) + 1) v) (k := K + 1) pw (by rw [fw']; omega)
          rw [fw'] at lb
          omega
        · have := prC_no (tw := tw) (jo := jo) hs
          omega
theorem a_cost {a b c : Int} {σ : jM} (d : Nat) (I : I0 L σ) (hK : K1 σ) (hR : KR σ) (ha : inR a) (hb : inR b) (hc : inR c) {Q : Int → jM → Prop} (k : ∀ r σ1, inR r → (∀ (d2 : Nat) Q2, (∀ r' σ2, SameT L σ r r' σ2 → Q2 r' σ2) → Ct mX12_cost (d2 + 11) 0 t [rv 321, iv a, iv b, iv c] σ1 Q2) → Q r σ1) : Ct mX11_cost (d + 50) 0 t [rv 1, iv a, iv b, iv c] σ Q := by
  have same : ∀ {r : Int} {σ1 σ2 : jM}, (∀ x, x ≠ 286 → σ1 x = σ x) → (∀ x, x ≠ 331 → x ≠ 334 → σ2 x = σ1 x) → SameT L σ r r σ2 := fun {r σ1 σ2} o1 o2 => ⟨rfl, I0_fr I (fun x hx => by rw [o2 x (by omega) (by omega), o1 x (by omega)]), K1_same hK (fun x x0 x1 => by rw [o2 x (by omega) (by omega), o1 x (by omega)]), KR_same hR (by rw [o2 332 (by omega) (by omega), o1 332 (by omega)]), fun x hx => by rw [o2 x (by omega) (by omega), o1 x (by omega)]⟩
  have bad : (a < 1 ∨ 40 < a ∨ b < 1 ∨ 9 < b ∨ c < 1 ∨ 9 < c) → Q (-1) σ := fun hbad => k _ σ ⟨by decide, by decide⟩ (fun d2 Q2 k2 => by
    have fin : Q2 (-1) σ := k2 _ _ (same (fun _ _ => rfl) (fun _ _ _ => rfl))
    refine c_X12_cost (m_isIn ha ⟨by decide, by decide⟩ ⟨by decide, by decide⟩ ⟨b01_R, fun _ => fin, fun z => m_isIn hb ⟨by decide, by decide⟩ ⟨by decide, by decide⟩ ⟨b01_R, fun _ => fin, fun y => m_isIn hc ⟨by decide, by decide⟩ ⟨by decide, by decide⟩ ⟨b01_R, fun x => ?_, fun _ => fin⟩⟩⟩)
    have z1 := inB_t (b01_1 z)
    have y1 := inB_t (b01_1 y)
    have x1 := inB_t (b01_1 x)
    omega)
  refine c_X11_cost ⟨ha, fun z => bad (by omega), fun a1 => ⟨ha, fun z => bad (by omega), fun a2 => ⟨hb, fun z => bad (by omega), fun b1 => ⟨hb, fun z => bad (by omega), fun b2 => ⟨hc, fun z => bad (by omega), fun c1 => ⟨hc, fun c2 => ?_, fun z => bad (by omega)⟩⟩⟩⟩⟩⟩
  have pos : 0 ≤ a * (b + c) := Int.mul_nonneg (by omega) (by omega)
  have ub : a * (b + c) ≤ 40 * (b + c) := mul_mono a2 (by omega)
  have mu := mc_ub (n := a) (tw := b) (jo := c) ⟨b1, b2⟩ ⟨c1, c2⟩ (a - 1).toNat (f := f1) (k := 0) Pre_f1 a1 (by show a - 1 ≤ _; omega)
  have f1k : f1 ((0 : Nat) : Int) = 1 := rfl
  rw [f1k] at mu
  have e1 : (a - 1) * (b + c) = a * (b + c) - (b + c) := by rw [Int.sub_mul, Int.one_mul]
  have mi := mc_in (n := a) (tw := b) (jo := c) ⟨b1, b2⟩ ⟨c1, c2⟩ (a - 1).toNat f1 0
  refine c_X5_least (fun σ1 e1' σ2 e2 σ3 e3 σ4 e4 => ?_)
  have s30 : σ3 286 0 = a := by rw [e3, up_ne (by decide), e2, up_ne (by decide), e1', up_at]
  rw [s30] at e4
  have s40 : σ4 286 0 = a := by rw [e4, up_ne (by decide)]; exact s30
  have s41 : σ4 286 1 = b := by rw [e4, up_ne (by decide), e3, up_ne (by decide), e2, up_at]
  have s42 : σ4 286 2 = c := by rw [e4, up_ne (by decide), e3, up_at]
  have s43 : σ4 286 3 = a * (b + c) := by rw [e4, up_at]
  have o4 : ∀ x, x ≠ 286 → σ4 x = σ x := fun x hx => by rw [e4, up_row hx, e3, up_row hx, e2, up_row hx, e1', up_row hx]
  have bs : BS f1 ((0 : Nat) : Int) 2 0 := by
    refine ⟨fun s hs => ?_, fun s hs => ?_⟩
    · have h2 : tb 2 s = decide (s = 1) := by
        have : ∀ q : Fin 64, tb 2 q.val = decide (q.val = 1) := by decide +kernel
        exact this ⟨s, hs⟩
      rw [h2, decide_eq_true_eq]
      constructor
      · intro e; exact ⟨0, by omega, by omega, by show (1 : Int) = s; omega⟩
      · rintro ⟨i, _, _, e⟩
        have : (1 : Int) = s := e
        omega
    · rw [tb_0]
      exact ⟨fun h => (by cases h), fun ⟨i, j, a, b, c, _⟩ => by omega⟩
  refine Ct_le (h_spend (t := t) (n := a) (tw := b) (jo := c) ⟨a1, a2⟩ ⟨b1, b2⟩ ⟨c1, c2⟩ (a - 1).toNat (d := d) (f := f1) (k := 0) (b := a * (b + c)) (paid := 0) (last := 1) (ls := 1) rfl rfl (by show a - 1 ≤ _; omega) Pre_f1 a1 bs s40 s41 s42 s43 pos (by omega) (by omega) pos (fun _ => by have : 1 * (b + c) ≤ a * (b + c) := mul_mono a1 (by omega); omega) (fun σ5 o5 _ _ _ h53 => ?_)) (by omega)
  rw [h53, Int.zero_add, show min (a * (b + c)) (mc a b c (a - 1).toNat f1 0) = mc a b c (a - 1).toNat f1 0 by omega]
  have o15 : ∀ x, x ≠ 286 → σ5 x = σ x := fun x hx => by rw [o5 x hx, o4 x hx]
  refine k _ σ5 (rng (by omega) (by omega)) (fun d2 Q2 k2 => ?_)
  have fin : ∀ σ', (∀ x, x ≠ 331 → x ≠ 334 → σ' x = σ5 x) → Q2 (mc a b c (a - 1).toNat f1 0) σ' := fun σ' o' => k2 _ _ (same o15 o')
  -- the search
  have go : ∀ (e : Int) (τ : jM), e = min b c → (∀ x, x ≠ 331 → x ≠ 334 → τ x = σ5 x) → τ 331 0 = 1 → τ 334 0 = 0 → ¬ a = 1 → Jt mX12_cost (d2 + 11) 0 t Q2 82 [rv 321, iv a, iv b, iv c, iv e, iv 1000000, uv, uv, uv] [iv 1] τ := by
    intro e τ he ot h0 h4 hne
    subst he
    refine b_X12_cost_82 ⟨by omega, fun σ2 e2 => ?_⟩
    obtain ⟨F, hF⟩ : ∃ F, (a - 1).toNat = F + 1 := ⟨(a - 1).toNat - 1, by omega⟩
    have f10 : f1 ((0 : Nat) : Int) = 1 := rfl
    have := m_costs (t := t) (n := a) (tw := b) (jo := c) (d := d2 + 10) (Q := Q2) (σ0 := σ5) ⟨a1, a2⟩ ⟨b1, b2⟩ ⟨c1, c2⟩ F (K := 0) (f := f1) (by rw [f10]; omega) Pre_f1 (by rw [f10]; omega) (a - 1).toNat 1000000 0 σ2 (by rw [f10]; omega) (fun i i0 i1 => by
      have : i = 0 := by omega
      subst this
      rw [e2, up_ne (by decide)]; exact h0) (by rw [f10, show ((0 : Nat) : Int) + 1 = 1 by omega, e2, up_at]; omega) (by rw [show ((0 : Nat) : Int) = 0 by omega, e2, up_row (by decide)]; exact h4) (by omega) (by omega) (by omega) (by omega) (fun x x1 x2 => by rw [e2, up_row x1]; exact ot x x1 x2) (fun σ' _ _ o' => ?_)
    · exact this
    · refine b_X12_cost_93 ⟨in0, fun _ => ?_, fun z => absurd z (by decide)⟩
      have em : mc a b c (a - 1).toNat f1 0 = minO (fun v => prC b c f1 0 v + mc a b c F (wr f1 (((0 : Nat) : Int) + 1) v) (0 + 1)) (a - 1).toNat (1 + 1) := by
        rw [hF, mc, if_neg (by rw [f10]; omega), f10, hF]
      have := fin σ' o'
      rw [em] at this mi
      rw [Int.zero_add, f10, show min (1000000 : Int) (minO (fun v => prC b c f1 0 v + mc a b c F (wr f1 (((0 : Nat) : Int) + 1) v) (0 + 1)) (a - 1).toNat (1 + 1)) = minO (fun v => prC b c f1 0 v + mc a b c F (wr f1 (((0 : Nat) : Int) + 1) v) (0 + 1)) (a - 1).toNat (1 + 1) by omega]
      exact this
  have go1 : ∀ (e : Int) (τ : jM), (∀ x, x ≠ 331 → x ≠ 334 → τ x = σ5 x) → a = 1 → Jt mX12_cost (d2 + 11) 0 t Q2 82 [rv 321, iv a, iv b, iv c, iv e, iv 0, uv, uv, uv] [iv 0] τ := by
    intro e τ ot h1
    refine b_X12_cost_82 ⟨by omega, fun σ2 e2 => b_X12_cost_93 ⟨in0, fun _ => ?_, fun z => absurd z (by decide)⟩⟩
    have := fin σ2 (fun x h1 h2 => by rw [e2, up_row h1]; exact ot x h1 h2)
    subst h1
    exact this
  refine c_X12_cost (m_isIn ha ⟨by decide, by decide⟩ ⟨by decide, by decide⟩ ⟨b01_R, fun u => (by have := inB_f (b01_0.mp u); omega), fun _ => m_isIn hb ⟨by decide, by decide⟩ ⟨by decide, by decide⟩ ⟨b01_R, fun u => (by have := inB_f (b01_0.mp u); omega), fun _ => m_isIn hc ⟨by decide, by decide⟩ ⟨by decide, by decide⟩ ⟨b01_R, fun _ => ⟨hb, hc, fun u => ⟨ha, fun w => ⟨by omega, fun σ11 e11 => ⟨by omega, fun σ13 e13 => ⟨ha, fun v => go _ σ13 (by omega) (fun x h1 h2 => by rw [e13, up_row h2, e11, up_row h1]) (by rw [e13, up_row (by decide), e11, up_at]) (by rw [e13, up_at]) v, fun v => absurd v w⟩⟩⟩, fun w => ⟨by omega, fun σ11 e11 => ⟨by omega, fun σ13 e13 => ⟨ha, fun v => absurd w v, fun v => go1 _ σ13 (fun x h1 h2 => by rw [e13, up_row h2, e11, up_row h1]) v⟩⟩⟩⟩, fun u => ⟨ha, fun w => ⟨by omega, fun σ11 e11 => ⟨by omega, fun σ13 e13 => ⟨ha, fun v => go _ σ13 (by omega) (fun x h1 h2 => by rw [e13, up_row h2, e11, up_row h1]) (by rw [e13, up_row (by decide), e11, up_at]) (by rw [e13, up_at]) v, fun v => absurd v w⟩⟩⟩, fun w => ⟨by omega, fun σ11 e11 => ⟨by omega, fun σ13 e13 => ⟨ha, fun v => absurd w v, fun v => go1 _ σ13 (fun x h1 h2 => by rw [e13, up_row h2, e11, up_row h1]) v⟩⟩⟩⟩⟩, fun u => (by have := inB_f (b01_0.mp u); omega)⟩⟩⟩)
end CR
