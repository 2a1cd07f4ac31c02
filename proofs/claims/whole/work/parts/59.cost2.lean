/-! ===== cost alike ===== -/
theorem pw2_add : ∀ (a b : Nat), pw2 (a + b) = pw2 a * pw2 b
  | 0, b => by
    rw [Nat.zero_add]
    show pw2 b = 1 * pw2 b
    omega
  | a + 1, b => by
    rw [show a + 1 + b = (a + b) + 1 by omega]
    show 2 * pw2 (a + b) = 2 * pw2 a * pw2 b
    rw [pw2_add a b, Int.mul_assoc]
/-- the class's bits: what is there, and the sums of unlike ones -/
def BS (f : Int → Int) (k : Int) (th pa : Int) : Prop := (∀ s : Nat, s < 64 → (tb th s = true ↔ ∃ i, 0 ≤ i ∧ i ≤ k ∧ f i = s)) ∧ (∀ s : Nat, s < 64 → (tb pa s = true ↔ ∃ i j, 0 ≤ j ∧ j < i ∧ i ≤ k ∧ f i + f j = s))
theorem BS_wr {f : Int → Int} {k : Nat} {th pa : Int} {v : Nat} (h : BS f k th pa) (hv : v < 64) (hp : ∀ i, 0 ≤ i → i ≤ (k : Int) → 0 ≤ f i) : BS (wr f ((k : Int) + 1) v) ((k + 1 : Nat) : Int) (l_or th (l_shl 1 (v : Int))) (l_or pa (l_shl th (v : Int))) := by
  refine ⟨fun s hs => ?_, fun s hs => ?_⟩
  · rw [tb_or, tb_shl hv, tb_1, Bool.or_eq_true, h.1 s hs]
    constructor
    · rintro (⟨i, a, b, e⟩ | x)
      · exact ⟨i, a, by omega, by rw [wr_ne (by omega)]; exact e⟩
      · simp at x
        exact ⟨(k : Int) + 1, by omega, by omega, by rw [wr_at]; omega⟩
    · rintro ⟨i, a, b, e⟩
      by_cases q : i = (k : Int) + 1
      · rw [wr_eq q] at e
        right
        have : s = v := by omega
        subst this
        simp [hs]
      · rw [wr_ne q] at e
        exact Or.inl ⟨i, a, by omega, e⟩
  · rw [tb_or, tb_shl hv, Bool.or_eq_true, h.2 s hs]
    constructor
    · rintro (⟨i, j, a, b, c, e⟩ | x)
      · exact ⟨i, j, a, b, by omega, by rw [wr_ne (by omega), wr_ne (by omega)]; exact e⟩
      · simp only [Bool.and_eq_true, Bool.not_eq_true', decide_eq_true_eq, decide_eq_false_iff_not] at x
        obtain ⟨i, a, b, e⟩ := (h.1 (s - v) (by omega)).mp x.2.2
        exact ⟨(k : Int) + 1, i, a, by omega, by omega, by rw [wr_at, wr_ne (by omega)]; omega⟩
    · rintro ⟨i, j, a, b, c, e⟩
      by_cases q : i = (k : Int) + 1
      · rw [wr_eq q, wr_ne (by omega)] at e
        have := hp j a (by omega)
        right
        simp only [Bool.and_eq_true, Bool.not_eq_true', decide_eq_true_eq, decide_eq_false_iff_not]
        exact ⟨hs, by omega, (h.1 (s - v) (by omega)).mpr ⟨j, a, by omega, by omega⟩⟩
      · rw [wr_ne q, wr_ne (by omega)] at e
        exact Or.inl ⟨i, j, a, b, by omega, e⟩
section CO
variable {t : Int} {n tw jo : Int}
theorem h_doublingsFrom {d : Nat} {Q : Int → jM → Prop} {σ : jM} {f : Int → Int} {k : Nat} {th pa : Int} (hn : 1 ≤ n ∧ n ≤ 40) (h0 : σ 286 0 = n) (p : Pre f k) (hb : BS f k th pa) (kk : Q (dlF n f k) σ) : Ct mX5_doublingsFrom d 0 t [rv 286, jv th] σ Q := by
  refine c_X5_doublingsFrom ?_
  rw [h0]
  have loop : ∀ (N : Nat) (c : Nat) (v : Int), v ≤ N → 1 ≤ v → v * pw2 c = n → (∀ c' : Nat, c' < c → DPb n f k c' = false) → Jt mX5_doublingsFrom d 0 t Q 8 [rv 286, jv th, uv, iv (c : Int), iv v] [] σ := by
    intro N
    induction N with
    | zero => intro c v h1 h2; omega
    | succ N ih =>
      intro c v h1 h2 h3 no
      have pc := pw2_pos c
      have vn : v * 1 ≤ v * pw2 c := Int.mul_le_mul_of_nonneg_left pc (by omega)
      obtain ⟨w, hw⟩ : ∃ w : Nat, v = (w : Int) := ⟨v.toNat, by omega⟩
      subst hw
      have bit : l_and (l_ushr th (w : Int)) 1 = 1 ↔ ∃ i, 0 ≤ i ∧ i ≤ (k : Int) ∧ f i = w := by
        rw [and1, tb_ushr (by omega), Nat.zero_add]
        exact hb.1 w (by omega)
      have dp : DPb n f k c = true ↔ ∃ i, 0 ≤ i ∧ i ≤ (k : Int) ∧ f i = w := by
        rw [DPb_iff, Int.toNat_natCast]
        constructor
        · rintro ⟨i, a, b, e⟩
          exact ⟨i, a, b, Int.eq_of_mul_eq_mul_right (by omega) (e.trans h3.symm)⟩
        · rintro ⟨i, a, b, e⟩
          exact ⟨i, a, b, by rw [e]; exact h3⟩
      -- none below c
      have low : dlF n f k ≠ -1 → (c : Int) ≤ dlF n f k := fun hne => by
        rcases dlF_in (n := n) (f := f) (k := k) with e | ⟨e0, e1, e2⟩
        · exact absurd e hne
        · rcases Int.lt_or_le (dlF n f k) c with q | q
          · have := no (dlF n f k).toNat (by omega)
            rw [show (((dlF n f k).toNat : Nat) : Int) = dlF n f k by omega, e2] at this
            cases this
          · exact q
      refine b_X5_doublingsFrom_8 ⟨rng (by omega) (by omega), fun z => absurd z (by omega), fun _ => ⟨l_and_L, fun z => ⟨rng (by omega) (by omega), ?_⟩, fun z => ?_⟩⟩
      · rw [tm (by omega), td (by omega)]
        have nb : ¬ ∃ i, 0 ≤ i ∧ i ≤ (k : Int) ∧ f i = w := fun q => z (bit.mpr q)
        refine ⟨rng (by omega) (by omega), fun y => ⟨rng (by omega) (by omega), ?_⟩, fun y => ?_⟩
        · have := ih (c + 1) ((w : Int) / 2) (by omega) (by omega) (by
            show (w : Int) / 2 * (2 * pw2 c) = n
            rw [← Int.mul_assoc, show (w : Int) / 2 * 2 = w by omega]
            exact h3) (fun c' hc' => by
            rcases Nat.lt_or_ge c' c with q | q
            · exact no c' q
            · have : c' = c := by omega
              subst this
              cases e : DPb n f k c' with
              | false => rfl
              | true => exact absurd (dp.mp e) nb)
          rw [show ((c + 1 : Nat) : Int) = (c : Int) + 1 by omega] at this
          exact this
        · have : dlF n f k = -1 := by
            rcases dlF_in (n := n) (f := f) (k := k) with e | ⟨e0, e1, e2⟩
            · exact e
            · exfalso
              have lo := low (by omega)
              rcases Int.lt_or_eq_of_le lo with q | q
              · obtain ⟨i, a, b, e⟩ := DPb_iff.mp e2
                rw [show (dlF n f k).toNat = ((dlF n f k).toNat - c - 1 + 1) + c by omega, pw2_add, ← Int.mul_assoc] at e
                have e' := Int.eq_of_mul_eq_mul_right (by omega) (e.trans h3.symm)
                have e' : f i * (2 * pw2 ((dlF n f k).toNat - c - 1)) = w := e'
                rw [← Int.mul_assoc, Int.mul_comm (f i) 2, Int.mul_assoc] at e'
                omega
              · rw [← q] at e2
                exact nb (dp.mp e2)
          rw [this] at kk
          exact kk
      · have hd := dp.mpr (bit.mp z)
        have := dlF_min p hn.2 (by omega) hd
        have := low this.1
        rw [show dlF n f k = (c : Int) by omega] at kk
        exact kk
  have := loop n.toNat 0 n (by omega) hn.1 (by show n * 1 = n; omega) (fun c' h => absurd h (by omega))
  exact this
theorem h_leastFrom {d : Nat} {Q : Int → jM → Prop} {σ : jM} {f : Int → Int} {k : Nat} {th pa : Int} (hn : 1 ≤ n ∧ n ≤ 40) (ht : 1 ≤ tw ∧ tw ≤ 9) (hj : 1 ≤ jo ∧ jo ≤ 9) (h0 : σ 286 0 = n) (h1 : σ 286 1 = tw) (h2 : σ 286 2 = jo) (p : Pre f k) (hf : f k ≤ n) (hb : BS f k th pa) {last : Int} (hl : f k = last) (kk : Q (LBf n tw jo f k) σ) : Ct mX5_leastFrom (d + 1) 0 t [rv 286, iv last, jv th] σ Q := by
  subst hl
  refine c_X5_leastFrom ?_
  have fk := Pre_pos p (i := (k : Int)) (by omega) (by omega)
  have s0 := stF_ok (n := n) 6 (f k) (pw64 (show 1 ≤ f k by omega) hn.2)
  have loop : ∀ (F : Nat) (acc v : Int), 1 ≤ v → v ≤ 2 * n → 0 ≤ acc → acc + stF n F v = stF n 6 (f k) → n ≤ v * pw2 F → Jt mX5_leastFrom (d + 1) 0 t Q 10 [rv 286, iv (f k), jv th, uv, iv acc, iv v, uv] [] σ := by
    have fin : ∀ (acc v : Int), n ≤ v → v ≤ 2 * n → acc = stF n 6 (f k) → Jt mX5_leastFrom (d + 1) 0 t Q 10 [rv 286, iv (f k), jv th, uv, iv acc, iv v, uv] [] σ := by
      intro acc v hv hv2 ea
      subst ea
      refine b_X5_leastFrom_10 ⟨rng (by omega) (by omega), ?_⟩
      rw [h0, h1, h2]
      have tR : inR tw := rng (by omega) (by omega)
      have jR : inR jo := rng (by omega) (by omega)
      unfold LBf at kk
      refine ⟨rng (by omega) (by omega), fun _ => ⟨rng (by omega) (by omega), fun z => ⟨tR, jR, ?_⟩, fun z => ⟨jR, tR, fun y => ?_, fun y => ⟨tR, jR, ?_⟩⟩⟩, fun z => absurd z (by omega)⟩
      · rw [if_pos (Or.inl z)] at kk; exact kk
      · rw [if_neg (by omega)] at kk
        refine h_doublingsFrom (pa := pa) hn h0 p hb ?_
        have di := dlF_in (n := n) (f := f) (k := k)
        have m1 : (stF n 6 (f k) - 1) * tw ≤ 6 * tw := mul_mono (by omega) (by omega)
        have m2 : 0 ≤ (stF n 6 (f k) - 1) * tw := Int.mul_nonneg (by omega) (by omega)
        refine ⟨rng (by omega) (by omega), fun w => ⟨?_, rng (by omega) (by omega), ?_⟩, fun w => ?_⟩
        · rw [h1]
          have m3 : dlF n f k * tw ≤ 7 * tw := mul_mono (by omega) (by omega)
          have m4 : 0 ≤ dlF n f k * tw := Int.mul_nonneg (by omega) (by omega)
          exact rng (by omega) (by omega)
        · rw [if_neg w] at kk
          rw [h1]; exact kk
        · rw [if_pos w] at kk; exact kk
      · rw [if_pos (Or.inr y)] at kk; exact kk
    intro F
    induction F with
    | zero =>
      intro acc v v1 v2 a0 ha hv
      rw [stF, Int.add_zero] at ha
      exact fin acc v (by have : n ≤ v * 1 := hv; omega) v2 ha
    | succ F ih =>
      intro acc v v1 v2 a0 ha hv
      rw [stF] at ha
      by_cases q : n ≤ v
      · rw [if_pos q, Int.add_zero] at ha
        exact fin acc v q v2 ha
      · rw [if_neg q] at ha
        refine b_X5_leastFrom_10 ⟨rng (by omega) (by omega), ?_⟩
        rw [h0]
        refine ⟨rng (by omega) (by omega), fun z => absurd z q, fun _ => ih (acc + 1) (v * 2) (by omega) (by omega) (by omega) (by omega) ?_⟩
        have hv : n ≤ v * (2 * pw2 F) := hv
        rw [Int.mul_assoc]
        exact hv
  rw [show max (f k) 1 = f k by omega]
  exact ⟨rng (by omega) (by omega), loop 6 0 (f k) (by omega) (by omega) (by omega) (by omega) (pw64 (by omega) hn.2)⟩
theorem h_spend (hn : 1 ≤ n ∧ n ≤ 40) (ht : 1 ≤ tw ∧ tw ≤ 9) (hj : 1 ≤ jo ∧ jo ≤ 9) : ∀ (F : Nat) {d : Nat} {Q : Int → jM → Prop} {σ : jM} {f : Int → Int} {k : Nat} {th pa b paid last ls : Int}, f k = last → ls = (k : Int) + 1 → n - f k ≤ F → Pre f k → f k ≤ n → BS f k th pa → σ 286 0 = n → σ 286 1 = tw → σ 286 2 = jo → σ 286 3 = b → 0 ≤ b → b ≤ 800 → 0 ≤ paid → paid ≤ b → (f k = n → paid < b) → (∀ σ', (∀ x, x ≠ 286 → σ' x = σ x) → σ' 286 0 = n → σ' 286 1 = tw → σ' 286 2 = jo → σ' 286 3 = min b (paid + mc n tw jo F f k) → Q 0 σ') → Ct mX5_spend (d + F + 3) 9 t [rv 286, iv last, jv th, jv pa, iv paid, iv ls] σ Q := by
  intro F
  induction F with
  | zero =>
    intro d Q σ f k th pa b paid last ls hl hls hF p hf hb h0 h1 h2 h3 b0 b8 p0 pb hpn kk
    subst hl
    subst hls
    have e : f k = n := by omega
    refine c_X5_spend ⟨rng (by omega) (by omega), ?_⟩
    rw [h0]
    refine ⟨rng (by omega) (by omega), fun z => absurd e z, fun _ σ5 e5 => ?_⟩
    refine kk σ5 (fun x hx => by rw [e5, up_row hx]) (by rw [e5, up_ne (by decide)]; exact h0) (by rw [e5, up_ne (by decide)]; exact h1) (by rw [e5, up_ne (by decide)]; exact h2) ?_
    rw [e5, up_at, mc, if_pos e]
    have := hpn e
    omega
  | succ F ih =>
    intro d Q σ f k th pa b paid last ls hl hls hF p hf hb h0 h1 h2 h3 b0 b8 p0 pb hpn kk
    subst hl
    subst hls
    have fk := Pre_pos p (i := (k : Int)) (by omega) (by omega)
    have fp : ∀ i, 0 ≤ i → i ≤ (k : Int) → 0 ≤ f i := fun i a b => by have := Pre_pos p a b; omega
    refine c_X5_spend ⟨rng (by omega) (by omega), ?_⟩
    rw [h0]
    refine ⟨rng (by omega) (by omega), fun z => ⟨rng (by omega) (by omega), rng (by omega) (by omega), ?_⟩, fun z σ5 e5 => ?_⟩
    · obtain ⟨pp, hpp⟩ : ∃ pp : Int → Int, pp = fun v => prC tw jo f k v + mc n tw jo F (wr f ((k : Int) + 1) v) (k + 1) := ⟨_, rfl⟩
      have hM : mc n tw jo (F + 1) f k = minO pp (n - f k).toNat (f k + 1) := by rw [mc, if_neg z, hpp]
      have hM2 : minO pp (n - f k).toNat (f k + 1) = minO pp (min n (2 * f k) - f k).toNat (f k + 1) := by
        rw [show (n - f k).toNat = (min n (2 * f k) - f k).toNat + (n - min n (2 * f k)).toNat by omega]
        refine minO_cut _ _ (fun x x0 x1 => ?_)
        rw [hpp]
        show 1000000 ≤ prC tw jo f k x + mc n tw jo F (wr f ((k : Int) + 1) x) (k + 1)
        rw [prC_no]
        · have := (mc_in (n := n) ht hj F (wr f ((k : Int) + 1) x) (k + 1)).1
          omega
        · rintro ⟨a, c, c0, ca, ak, e⟩
          have x1' := Pre_leq p (i := a) (j := (k : Int)) (by omega) (by omega) (by omega)
          have x2' := Pre_leq p (i := c) (j := (k : Int)) (by omega) (by omega) (by omega)
          omega
      have loop : ∀ (c : Nat) (b' : Int) (τ : jM), f k + c ≤ n → (∀ x, x ≠ 286 → τ x = σ x) → τ 286 0 = n → τ 286 1 = tw → τ 286 2 = jo → τ 286 3 = b' → 0 ≤ b' → b' ≤ b → (∀ σ', (∀ x, x ≠ 286 → σ' x = σ x) → σ' 286 0 = n → σ' 286 1 = tw → σ' 286 2 = jo → σ' 286 3 = min b' (paid + minO pp c (f k + 1)) → Q 0 σ') → Jt mX5_spend (d + (F + 1) + 3) 9 t Q 27 [rv 286, iv (f k), jv th, uv, jv pa, uv, iv paid, iv ((k : Int) + 1), iv (f k + c), uv, uv, uv, uv, uv] [] τ := by
        intro c
        induction c with
        | zero =>
          intro b' τ hc ot t0 t1 t2 t3 c0 c1 k2
          refine b_X5_spend_27 ⟨rng (by omega) (by omega), rng (by omega) (by omega), fun _ => k2 τ ot t0 t1 t2 ?_, fun w => absurd w (by omega)⟩
          rw [t3, minO]
          omega
        | succ c ihc =>
          intro b' τ hc ot t0 t1 t2 t3 c0 c1 k2
          obtain ⟨v, hv⟩ : ∃ v : Nat, (v : Int) = f k + ((c + 1 : Nat) : Int) := ⟨(f k + ((c + 1 : Nat) : Int)).toNat, by omega⟩
          rw [← hv]
          rw [minO_last, show f k + 1 + (c : Int) = (v : Int) by omega] at k2
          have ppv : pp (v : Int) = prC tw jo f k v + mc n tw jo F (wr f ((k : Int) + 1) v) (k + 1) := by rw [hpp]
          have dv : dblB f k v = true ↔ (Int.tmod (v : Int) 2 = 0 ∧ l_and (l_ushr th (Int.tdiv (v : Int) 2)) 1 = 1) := by
            rw [tm (by omega), td (by omega), dblB_iff, show (v : Int) / 2 = ((v / 2 : Nat) : Int) by omega, and1, tb_ushr (by omega), Nat.zero_add, hb.1 (v / 2) (by omega)]
            constructor
            · rintro ⟨i, a, b, e⟩; exact ⟨by omega, i, a, b, by omega⟩
            · rintro ⟨q, i, a, b, e⟩; exact ⟨i, a, b, by omega⟩
          have sv : srrB f k v = true ↔ l_and (l_ushr pa (v : Int)) 1 = 1 := by
            rw [srrB_iff, and1, tb_ushr (by omega), Nat.zero_add, hb.2 v (by omega)]
          -- on to the next
          have next : ∀ (τ' : jM) (a e : Int), (∀ x, x ≠ 286 → τ' x = σ x) → τ' 286 0 = n → τ' 286 1 = tw → τ' 286 2 = jo → τ' 286 3 = min b' (paid + pp v) → Jt mX5_spend (d + (F + 1) + 3) 9 t Q 194 [rv 286, iv (f k), jv th, uv, jv pa, uv, iv paid, iv ((k : Int) + 1), iv (v : Int), iv a, iv e, uv, uv, uv] [] τ' := by
            intro τ' a e ot' u0 u1 u2 u3
            have pv0 : 0 ≤ pp v := by
              rw [ppv]
              have x1 := prC_lb (tw := tw) (jo := jo) (f := f) (k := k) (v := (v : Int)) ht hj
              have x2 := (mc_in (n := n) ht hj F (wr f ((k : Int) + 1) v) (k + 1)).1
              omega
            refine b_X5_spend_194 ?_
            rw [show (v : Int) + -1 = f k + (c : Int) by omega]
            refine ihc (min b' (paid + pp v)) τ' (by omega) ot' u0 u1 u2 u3 (by omega) (by omega) (fun σ' g0 g1 g2 g3 g4 => k2 σ' g0 g1 g2 g3 ?_)
            rw [g4]
            omega
          -- v is no sum
          have no : dblB f k v = false → srrB f k v = false → ∀ a e, Jt mX5_spend (d + (F + 1) + 3) 9 t Q 194 [rv 286, iv (f k), jv th, uv, jv pa, uv, iv paid, iv ((k : Int) + 1), iv (v : Int), iv a, iv e, uv, uv, uv] [] τ := fun hd hs a e => by
            refine next τ a e ot t0 t1 t2 ?_
            rw [t3, ppv]
            have x2 := (mc_in (n := n) ht hj F (wr f ((k : Int) + 1) v) (k + 1)).1
            unfold prC
            rw [hd, hs]
            simp only [Bool.false_eq_true, if_false]
            omega
          -- v is one
          have yes : (dblB f k v = true ∨ srrB f k v = true) → ∀ a e, Jt mX5_spend (d + (F + 1) + 3) 9 t Q 139 [rv 286, iv (f k), jv th, uv, jv pa, uv, iv paid, iv ((k : Int) + 1), iv (v : Int), iv a, iv e, uv, uv, uv] [iv (prC tw jo f k v)] τ := fun hds a e => by
            have hs : SumP f ((k : Int) + 1) v := by
              rcases hds with h | h
              · obtain ⟨i, x, y, q⟩ := dblB_iff.mp h
                exact ⟨i, i, x, by omega, by omega, q⟩
              · obtain ⟨i, j, x, y, w, q⟩ := srrB_iff.mp h
                exact ⟨i, j, x, by omega, by omega, q⟩
            have pw := Pre_wr (by omega) p (show f k < (v : Int) by omega) hs
            have fw' : wr f ((k : Int) + 1) v ((k + 1 : Nat) : Int) = v := wr_eq (by omega)
            have bw := BS_wr hb (show v < 64 by omega) fp
            have lb := LB_mc (n := n) ht hj hn.2 F (f := wr f ((k : Int) + 1) v) (k := k + 1) pw (by rw [fw']; omega)
            have x1 := prC_lb (tw := tw) (jo := jo) (f := f) (k := k) (v := (v : Int)) ht hj
            have x3 : prC tw jo f k v ≤ 9 := by
              unfold prC
              rcases hds with h | h
              · rw [if_pos h]; split <;> omega
              · rw [h]; simp only [if_true]; split <;> omega
            have lb0 : 0 ≤ LBf n tw jo (wr f ((k : Int) + 1) v) (k + 1) ∧ LBf n tw jo (wr f ((k : Int) + 1) v) (k + 1) ≤ 100 := by
              have s0 := stF_ok (n := n) 6 (v : Int) (pw64 (by omega) hn.2)
              have y1 : stF n 6 (v : Int) * min tw jo ≤ 6 * min tw jo := mul_mono s0.2.1 (by omega)
              have y2 : 0 ≤ stF n 6 (v : Int) * min tw jo := Int.mul_nonneg s0.1 (by omega)
              unfold LBf
              rw [fw']
              split
              · omega
              · rename_i q
                have y3 : (stF n 6 (v : Int) - 1) * tw ≤ 6 * tw := mul_mono (by omega) (by omega)
                have y4 : 0 ≤ (stF n 6 (v : Int) - 1) * tw := Int.mul_nonneg (by omega) (by omega)
                split
                · omega
                · rename_i r
                  have y5 : 0 ≤ dlF n (wr f ((k : Int) + 1) v) (k + 1) * tw := Int.mul_nonneg (by have := dlF_in (n := n) (f := wr f ((k : Int) + 1) v) (k := k + 1); omega) (by omega)
                  omega
            refine b_X5_spend_139 ?_
            refine h_leastFrom (d := d + F + 2) (f := wr f ((k : Int) + 1) v) (k := k + 1) (last := (v : Int)) hn ht hj t0 t1 t2 pw (by rw [fw']; omega) bw fw' ?_
            refine ⟨rng (by omega) (by omega), by rw [t3]; exact rng (by omega) (by omega), fun w => ?_, fun w => ?_⟩
            · refine next τ a e ot t0 t1 t2 ?_
              rw [t3] at w
              rw [t3, ppv]
              omega
            · rw [t3] at w
              refine ih (d := d) (f := wr f ((k : Int) + 1) v) (k := k + 1) (b := b') (paid := paid + prC tw jo f k v) (last := (v : Int)) (ls := (k : Int) + 1 + 1) fw' (by omega) (by rw [fw']; omega) pw (by rw [fw']; omega) bw t0 t1 t2 t3 c0 (by omega) (by omega) (by omega) (fun _ => by omega) (fun σ' g0 g1 g2 g3 g4 => ?_)
              refine next σ' a e (fun x hx => by rw [g0 x hx]; exact ot x hx) g1 g2 g3 ?_
              rw [g4, ppv]
              omega
          -- what it costs
          have at99 : ∀ a e : Int, (a = 0 ∨ a = 1) → (e = 0 ∨ e = 1) → (a = 1 ↔ dblB f k v = true) → (e = 1 ↔ srrB f k v = true) → (a = 1 ∨ e = 1) → Jt mX5_spend (d + (F + 1) + 3) 9 t Q 99 [rv 286, iv (f k), jv th, uv, jv pa, uv, iv paid, iv ((k : Int) + 1), iv (v : Int), iv a, iv e, uv, uv, uv] [] τ := by
            intro a e ha he ea ee hae
            have ys := yes (hae.elim (fun q => Or.inl (ea.mp q)) (fun q => Or.inr (ee.mp q))) a e
            have aR : inR a := by rcases ha with q | q <;> rw [q] <;> exact ⟨by decide, by decide⟩
            have eR : inR e := by rcases he with q | q <;> rw [q] <;> exact ⟨by decide, by decide⟩
            unfold prC at ys
            refine b_X5_spend_99 ⟨aR, fun w => b_X5_spend_123 ⟨aR, fun _ => ?_, fun q => absurd w q⟩, fun w => ⟨eR, fun u => b_X5_spend_123 ⟨aR, fun q => absurd q w, fun _ => ?_⟩, fun u => ⟨by rw [t1]; exact rng (by omega) (by omega), by rw [t2]; exact rng (by omega) (by omega), ?_⟩⟩⟩
            · have d0 : ¬ dblB f k v = true := fun q => by have := ea.mpr q; omega
              have s1 : srrB f k v = true := ee.mp (hae.resolve_left (by omega))
              rw [if_neg d0, if_pos s1] at ys
              rw [t2]; exact ys
            · have d1 : dblB f k v = true := ea.mp (by omega)
              have s0 : ¬ srrB f k v = true := fun q => by have := ee.mpr q; omega
              rw [if_pos d1, if_neg s0] at ys
              rw [t1]; exact ys
            · have d1 : dblB f k v = true := ea.mp (by omega)
              have s1 : srrB f k v = true := ee.mp (by omega)
              rw [if_pos d1, if_pos s1] at ys
              rw [t1, t2]; exact ys
          have leaf : ∀ a e : Int, (a = 0 ∨ a = 1) → (e = 0 ∨ e = 1) → (a = 1 ↔ dblB f k v = true) → (e = 1 ↔ srrB f k v = true) → ((¬ a = 0 → Jt mX5_spend (d + (F + 1) + 3) 9 t Q 99 [rv 286, iv (f k), jv th, uv, jv pa, uv, iv paid, iv ((k : Int) + 1), iv (v : Int), iv a, iv e, uv, uv, uv] [] τ) ∧ (a = 0 → ((¬ e = 0 → Jt mX5_spend (d + (F + 1) + 3) 9 t Q 99 [rv 286, iv (f k), jv th, uv, jv pa, uv, iv paid, iv ((k : Int) + 1), iv (v : Int), iv a, iv e, uv, uv, uv] [] τ) ∧ (e = 0 → Jt mX5_spend (d + (F + 1) + 3) 9 t Q 194 [rv 286, iv (f k), jv th, uv, jv pa, uv, iv paid, iv ((k : Int) + 1), iv (v : Int), iv a, iv e, uv, uv, uv] [] τ)))) := fun a e ha he ea ee => ⟨fun q => at99 a e ha he ea ee (by omega), fun q => ⟨fun r => at99 a e ha he ea ee (by omega), fun r => no (by cases w : dblB f k v with | false => rfl | true => exact absurd (ea.mpr w) (by omega)) (by cases w : srrB f k v with | false => rfl | true => exact absurd (ee.mpr w) (by omega)) a e⟩⟩
          have i00 : ∀ {P : Prop}, ¬ P → ((0 : Int) = 1 ↔ P) := fun h => ⟨fun q => absurd q (by decide), fun q => absurd q h⟩
          have i11 : ∀ {P : Prop}, P → ((1 : Int) = 1 ↔ P) := fun h => ⟨fun _ => h, fun _ => rfl⟩
          have kpos := fk
          refine b_X5_spend_27 ⟨rng (by omega) (by omega), rng (by omega) (by omega), fun w => absurd w (by omega), fun _ => ⟨rng (by omega) (by omega), fun w => absurd w (by omega), fun _ => ⟨rng (by omega) (by omega), ?_, fun w => ⟨l_and_L, fun u => leaf 0 0 (Or.inl rfl) (Or.inl rfl) (i00 (fun q => w (dv.mp q).1)) (i00 (fun q => u (sv.mp q))), fun u => leaf 0 1 (Or.inl rfl) (Or.inr rfl) (i00 (fun q => w (dv.mp q).1)) (i11 (sv.mpr u))⟩, fun w => ⟨rng (by omega) (by omega), l_and_L, fun y => ⟨l_and_L, fun u => leaf 0 0 (Or.inl rfl) (Or.inl rfl) (i00 (fun q => y (dv.mp q).2)) (i00 (fun q => u (sv.mp q))), fun u => leaf 0 1 (Or.inl rfl) (Or.inr rfl) (i00 (fun q => y (dv.mp q).2)) (i11 (sv.mpr u))⟩, fun y => ⟨l_and_L, fun u => leaf 1 0 (Or.inr rfl) (Or.inl rfl) (i11 (dv.mpr ⟨w, y⟩)) (i00 (fun q => u (sv.mp q))), fun u => leaf 1 1 (Or.inr rfl) (Or.inr rfl) (i11 (dv.mpr ⟨w, y⟩)) (i11 (sv.mpr u))⟩⟩⟩⟩⟩
          rw [tm (by omega)]
          exact rng (by omega) (by omega)
      have := loop (min n (2 * f k) - f k).toNat b σ (by omega) (fun _ _ => rfl) h0 h1 h2 h3 b0 (Int.le_refl _) (fun σ' g0 g1 g2 g3 g4 => kk σ' g0 g1 g2 g3 (by rw [hM, hM2]; exact g4))
      rw [show f k + (((min n (2 * f k) - f k).toNat : Nat) : Int) = min n (2 * f k) by omega] at this
      exact this
    · refine kk σ5 (fun x hx => by rw [e5, up_row hx]) (by rw [e5, up_ne (by decide)]; exact h0) (by rw [e5, up_ne (by decide)]; exact h1) (by rw [e5, up_ne (by decide)]; exact h2) ?_
      rw [e5, up_at, mc, if_pos z]
      have := hpn z
      omega
end CO
