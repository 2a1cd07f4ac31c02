/-! ===== the class's sets of bits ===== -/
theorem least_bit {x : Int} : ∀ (n : Nat), tb x n = true → ∃ b, b ≤ n ∧ tb x b = true ∧ ∀ j, j < b → tb x j = false := by
  intro n
  induction n using Nat.strongRecOn with
  | ind n ih =>
    intro h
    by_cases hj : ∃ j, j < n ∧ tb x j = true
    · obtain ⟨j, a, b⟩ := hj
      obtain ⟨c, c1, c2, c3⟩ := ih j a b
      exact ⟨c, by omega, c2, c3⟩
    · refine ⟨n, Nat.le_refl _, h, fun j a => ?_⟩
      cases e : tb x j with
      | false => rfl
      | true => exact absurd ⟨j, a, e⟩ hj
/-- the bits say what the first m are and what their sums are -/
def BitM (f : Int → Int) (m : Int) (a b c : Int) : Prop := inL a ∧ inL b ∧ inL c ∧ (∀ s : Nat, s < 64 → (tb a s = true ↔ ∃ i, 0 ≤ i ∧ i < m ∧ f i = s)) ∧ (∀ s : Nat, s < 64 → (tb b s = true ↔ SumP f m s)) ∧ (∀ s : Nat, s < 64 → (tb c s = true ↔ SumP f m (64 + s)))
theorem BitM_0 {f : Int → Int} : BitM f 0 0 0 0 := by
  refine ⟨⟨by decide, by decide⟩, ⟨by decide, by decide⟩, ⟨by decide, by decide⟩, fun s _ => ?_, fun s _ => ?_, fun s _ => ?_⟩
  · rw [tb_0]
    exact ⟨fun h => (by cases h), fun ⟨i, a, b, _⟩ => absurd b (by omega)⟩
  · rw [tb_0]
    exact ⟨fun h => (by cases h), fun ⟨i, j, a, b, c, _⟩ => absurd c (by omega)⟩
  · rw [tb_0]
    exact ⟨fun h => (by cases h), fun ⟨i, j, a, b, c, _⟩ => absurd c (by omega)⟩
theorem SumP_wr {f : Int → Int} {m v s : Int} (hm : 0 ≤ m) : SumP (wr f m v) (m + 1) s ↔ (SumP f m s ∨ v + v = s ∨ ∃ i, 0 ≤ i ∧ i < m ∧ v + f i = s) := by
  constructor
  · rintro ⟨i, j, a, b, c, e⟩
    by_cases hi : i = m
    · rw [wr_eq hi] at e
      by_cases hj : j = m
      · rw [wr_eq hj] at e; exact Or.inr (Or.inl e)
      · rw [wr_ne hj] at e; exact Or.inr (Or.inr ⟨j, a, by omega, e⟩)
    · rw [wr_ne hi, wr_ne (by omega)] at e
      exact Or.inl ⟨i, j, a, b, by omega, e⟩
  · rintro (⟨i, j, a, b, c, e⟩ | e | ⟨i, a, b, e⟩)
    · exact ⟨i, j, a, b, by omega, by rw [wr_ne (by omega), wr_ne (by omega)]; exact e⟩
    · exact ⟨m, m, hm, by omega, by omega, by rw [wr_at]; exact e⟩
    · exact ⟨m, i, a, by omega, by omega, by rw [wr_at, wr_ne (by omega)]; exact e⟩
theorem In_wr {f : Int → Int} {m v s : Int} (hm : 0 ≤ m) : (∃ i, 0 ≤ i ∧ i < m + 1 ∧ wr f m v i = s) ↔ (v = s ∨ ∃ i, 0 ≤ i ∧ i < m ∧ f i = s) := by
  constructor
  · rintro ⟨i, a, b, e⟩
    by_cases hi : i = m
    · rw [wr_eq hi] at e; exact Or.inl e
    · rw [wr_ne hi] at e; exact Or.inr ⟨i, a, by omega, e⟩
  · rintro (e | ⟨i, a, b, e⟩)
    · exact ⟨m, hm, by omega, by rw [wr_at]; exact e⟩
    · exact ⟨i, a, by omega, by rw [wr_ne (by omega)]; exact e⟩
theorem BitM_lo {f : Int → Int} {m v a b c : Int} (hm : 0 ≤ m) (h : BitM f m a b c) (hv : 1 ≤ v ∧ v < 64) (hf : ∀ i, 0 ≤ i → i < m → (1 ≤ f i ∧ f i < v)) : BitM (wr f m v) (m + 1) (l_or a (l_shl 1 v)) (l_or b (l_shl (l_or a (l_shl 1 v)) v)) (l_or c (l_ushr (l_or a (l_shl 1 v)) (64 - v))) := by
  obtain ⟨h1, h2, h3, h4, h5, h6⟩ := h
  obtain ⟨w, hw⟩ : ∃ w : Nat, v = w := ⟨v.toNat, by omega⟩
  subst hw
  have hA : ∀ s : Nat, s < 64 → (tb (l_or a (l_shl 1 (w : Int))) s = true ↔ ((w : Int) = s ∨ ∃ i, 0 ≤ i ∧ i < m ∧ f i = s)) := by
    intro s hs
    rw [tb_or, tb_shl (by omega), tb_1, Bool.or_eq_true, h4 s hs]
    constructor
    · rintro (x | x)
      · exact Or.inr x
      · simp at x
        left
        omega
    · rintro (x | x)
      · right
        have : s = w := by omega
        subst this
        simp [hs]
      · exact Or.inl x
  refine ⟨l_or_L, l_or_L, l_or_L, fun s hs => ?_, fun s hs => ?_, fun s hs => ?_⟩
  · rw [In_wr hm]
    exact hA s hs
  · rw [tb_or, tb_shl (by omega), Bool.or_eq_true, h5 s hs, SumP_wr hm]
    refine or_congr Iff.rfl ?_
    constructor
    · intro x
      simp only [Bool.and_eq_true, Bool.not_eq_true', decide_eq_true_eq, decide_eq_false_iff_not] at x
      rcases (hA (s - w) (by omega)).mp x.2.2 with y | ⟨i, i0, i1, e⟩
      · left; omega
      · right; exact ⟨i, i0, i1, by omega⟩
    · intro x
      simp only [Bool.and_eq_true, Bool.not_eq_true', decide_eq_true_eq, decide_eq_false_iff_not]
      rcases x with x | ⟨i, i0, i1, e⟩
      · exact ⟨hs, by omega, (hA (s - w) (by omega)).mpr (Or.inl (by omega))⟩
      · have := hf i i0 i1
        exact ⟨hs, by omega, (hA (s - w) (by omega)).mpr (Or.inr ⟨i, i0, i1, by omega⟩)⟩
  · rw [tb_or, show (64 : Int) - (w : Int) = ((64 - w : Nat) : Int) by omega, tb_ushr (by omega), Bool.or_eq_true, h6 s hs, SumP_wr hm]
    refine or_congr Iff.rfl ?_
    constructor
    · intro x
      have h64 : s + (64 - w) < 64 := by
        rcases Nat.lt_or_ge (s + (64 - w)) 64 with y | y
        · exact y
        · rw [tb_ge y] at x; cases x
      rcases (hA (s + (64 - w)) h64).mp x with y | ⟨i, i0, i1, e⟩
      · left; omega
      · right; exact ⟨i, i0, i1, by omega⟩
    · intro x
      rcases x with x | ⟨i, i0, i1, e⟩
      · exact (hA (s + (64 - w)) (by omega)).mpr (Or.inl (by omega))
      · have := hf i i0 i1
        exact (hA (s + (64 - w)) (by omega)).mpr (Or.inr ⟨i, i0, i1, by omega⟩)
theorem BitM_hi {f : Int → Int} {m v a b c : Int} (hm : 0 ≤ m) (h : BitM f m a b c) (hv : 64 ≤ v ∧ v < 128) (hf : ∀ i, 0 ≤ i → i < m → (1 ≤ f i ∧ f i < v)) : BitM (wr f m v) (m + 1) a b (l_or c (l_shl a (v - 64))) := by
  obtain ⟨h1, h2, h3, h4, h5, h6⟩ := h
  obtain ⟨w, hw⟩ : ∃ w : Nat, v = 64 + w := ⟨(v - 64).toNat, by omega⟩
  subst hw
  refine ⟨h1, h2, l_or_L, fun s hs => ?_, fun s hs => ?_, fun s hs => ?_⟩
  · rw [In_wr hm, h4 s hs]
    constructor
    · exact fun x => Or.inr x
    · rintro (x | x)
      · omega
      · exact x
  · rw [SumP_wr hm, h5 s hs]
    constructor
    · exact fun x => Or.inl x
    · rintro (x | x | ⟨i, i0, i1, e⟩)
      · exact x
      · omega
      · have := hf i i0 i1; omega
  · rw [tb_or, show (64 : Int) + (w : Int) - 64 = (w : Int) by omega, tb_shl (by omega), Bool.or_eq_true, h6 s hs, SumP_wr hm]
    refine or_congr Iff.rfl ?_
    constructor
    · intro x
      simp only [Bool.and_eq_true, Bool.not_eq_true', decide_eq_true_eq, decide_eq_false_iff_not] at x
      obtain ⟨i, i0, i1, e⟩ := (h4 (s - w) (by omega)).mp x.2.2
      exact Or.inr ⟨i, i0, i1, by omega⟩
    · intro x
      simp only [Bool.and_eq_true, Bool.not_eq_true', decide_eq_true_eq, decide_eq_false_iff_not]
      rcases x with x | ⟨i, i0, i1, e⟩
      · omega
      · have := hf i i0 i1
        exact ⟨hs, by omega, (h4 (s - w) (by omega)).mpr ⟨i, i0, i1, by omega⟩⟩
/-- the class's rows hold the first k + 1 of f -/
def SetC (σ : jM) (f : Int → Int) (k : Int) : Prop := ∀ j, 0 ≤ j → j ≤ k → (σ 276 j = f j ∧ BitM f (j + 1) (σ 277 j) (σ 278 j) (σ 279 j))
/-- nothing but the four rows above k -/
def offQ (k : Int) (σ σ' : jM) : Prop := (∀ x, x < 276 ∨ 279 < x → σ' x = σ x) ∧ ∀ x j, 276 ≤ x → x ≤ 279 → j ≤ k → σ' x j = σ x j
theorem offQ_rf {k : Int} {σ : jM} : offQ k σ σ := ⟨fun _ _ => rfl, fun _ _ _ _ _ => rfl⟩
theorem offQ_tr {k : Int} {σ σ1 σ2 : jM} (a : offQ k σ σ1) (b : offQ k σ1 σ2) : offQ k σ σ2 := ⟨fun x h => (b.1 x h).trans (a.1 x h), fun x j h1 h2 h3 => (b.2 x j h1 h2 h3).trans (a.2 x j h1 h2 h3)⟩
theorem offQ_le {k k' : Int} {σ σ' : jM} (h : k ≤ k') (a : offQ k' σ σ') : offQ k σ σ' := ⟨a.1, fun x j h1 h2 h3 => a.2 x j h1 h2 (by omega)⟩
theorem BitM_agr {f g : Int → Int} {m a b c : Int} (e : ∀ i, 0 ≤ i → i < m → f i = g i) (h : BitM f m a b c) : BitM g m a b c := by
  obtain ⟨h1, h2, h3, h4, h5, h6⟩ := h
  refine ⟨h1, h2, h3, fun s hs => ?_, fun s hs => (h5 s hs).trans (SumP_agr e), fun s hs => (h6 s hs).trans (SumP_agr e)⟩
  rw [h4 s hs]
  constructor
  · rintro ⟨i, a, b, c⟩; exact ⟨i, a, b, by rw [← e i a b]; exact c⟩
  · rintro ⟨i, a, b, c⟩; exact ⟨i, a, b, by rw [e i a b]; exact c⟩
theorem SetC_off {k : Int} {σ σ' : jM} {f : Int → Int} (h : SetC σ f k) (o : offQ k σ σ') : SetC σ' f k := fun j j0 j1 => by
  rw [o.2 276 j (by omega) (by omega) j1, o.2 277 j (by omega) (by omega) j1, o.2 278 j (by omega) (by omega) j1, o.2 279 j (by omega) (by omega) j1]
  exact h j j0 j1
theorem SetC_agr {k : Int} {σ : jM} {f g : Int → Int} (e : agK f g k) (h : SetC σ f k) : SetC σ g k := fun j j0 j1 => by
  have := h j j0 j1
  exact ⟨by rw [← e j j0 j1]; exact this.1, BitM_agr (fun i i0 i1 => e i i0 (by omega)) this.2⟩
section QS
variable {d : Nat} {t : Int} {Q : Int → jM → Prop} {σ : jM}
theorem q_put {f : Int → Int} {k v : Int} (hk : 0 ≤ k ∧ k < 24) (hs : SetC σ f (k - 1)) (hf : ∀ i, 0 ≤ i → i < k → (1 ≤ f i ∧ f i < v)) (hv : 1 ≤ v ∧ v < 128) (kk : ∀ σ', SetC σ' (wr f k v) k → offQ (k - 1) σ σ' → Q 0 σ') : Ct mX0_put d 9 t [rv 275, iv k, iv v] σ Q := by
  have hkR : inR k := rng (by omega) (by omega)
  -- the end: what is stored
  have fin : ∀ a b c, BitM (wr f k v) (k + 1) a b c → Jt mX0_put d 9 t Q 98 [rv 275, iv k, iv v, jv a, uv, jv b, uv, jv c, uv] [] σ := by
    intro a b c hb
    refine b_X0_put_98 ⟨hk, fun σ2 e2 => ⟨hk, fun σ4 e4 => ⟨hk, fun σ6 e6 => ⟨hk, fun σ8 e8 => ?_⟩⟩⟩⟩
    have r1 : ∀ j, j ≠ k → ∀ x, σ8 x j = σ x j := fun j hj x => by
      rw [e8, up_ne (Or.inr hj), e6, up_ne (Or.inr hj), e4, up_ne (Or.inr hj), e2, up_ne (Or.inr hj)]
    refine kk σ8 (fun j j0 j1 => ?_) ⟨fun x hx => ?_, fun x j x0 x1 j1 => r1 j (by omega) x⟩
    · by_cases ej : j = k
      · subst ej
        rw [wr_at]
        have a1 : σ8 276 j = v := by rw [e8, up_row (by decide), e6, up_row (by decide), e4, up_row (by decide), e2, up_at]
        have a2 : σ8 277 j = a := by rw [e8, up_row (by decide), e6, up_row (by decide), e4, up_at]
        have a3 : σ8 278 j = b := by rw [e8, up_row (by decide), e6, up_at]
        have a4 : σ8 279 j = c := by rw [e8, up_at]
        rw [a1, a2, a3, a4]
        exact ⟨rfl, hb⟩
      · rw [r1 j ej, r1 j ej, r1 j ej, r1 j ej, wr_ne ej]
        have := hs j j0 (by omega)
        exact ⟨this.1, BitM_agr (fun i i0 i1 => (wr_ne (by omega)).symm) this.2⟩
    · rw [e8, up_row (by omega), e6, up_row (by omega), e4, up_row (by omega), e2, up_row (by omega)]
  -- the middle: v below 64 or not
  have mid : ∀ a b c, BitM f k a b c → Jt mX0_put d 9 t Q 51 [rv 275, iv k, iv v, jv a, uv, jv b, uv, uv, uv] [jv c] σ := by
    intro a b c hb
    refine b_X0_put_51 ⟨rng (by omega) (by omega), fun z => fin _ _ _ (BitM_hi hk.1 hb ⟨z, hv.2⟩ hf), fun z => fin _ _ _ (BitM_lo hk.1 hb ⟨hv.1, z⟩ hf)⟩
  rcases Int.lt_or_eq_of_le hk.1 with h | h
  · have b0 := (hs (k - 1) (by omega) (by omega)).2
    rw [show k - 1 + 1 = k by omega] at b0
    exact c_X0_put ⟨hkR, fun z => absurd z (by omega), fun _ => ⟨by omega, hkR, fun z => absurd z (by omega), fun _ => ⟨by omega, hkR, fun z => absurd z (by omega), fun _ => ⟨by omega, mid _ _ _ b0⟩⟩⟩⟩
  · have b0 : BitM f k 0 0 0 := by rw [← h]; exact BitM_0
    exact c_X0_put ⟨hkR, fun _ => ⟨hkR, fun _ => ⟨hkR, fun _ => mid _ _ _ b0, fun z => absurd z (by omega)⟩, fun z => absurd z (by omega)⟩, fun z => absurd z (by omega)⟩
theorem q_isSum {f : Int → Int} {k v : Int} (hk : 0 ≤ k ∧ k < 24) (hs : SetC σ f k) (hv : 0 ≤ v ∧ v < 128) (k1 : SumP f (k + 1) v → Q 1 σ) (k0 : ¬ SumP f (k + 1) v → Q 0 σ) : Ct mX0_isSum d 0 t [rv 275, iv k, iv v] σ Q := by
  obtain ⟨_, h1, h2, h3, h4, h5, h6⟩ := hs k hk.1 (by omega)
  refine c_X0_isSum ⟨rng (by omega) (by omega), fun z => ⟨hk, l_and_L, fun y => k0 (fun s => y ?_), fun y => k1 ?_⟩, fun z => ⟨hk, l_and_L, fun y => k0 (fun s => y ?_), fun y => k1 ?_⟩⟩
  · obtain ⟨w, hw⟩ : ∃ w : Nat, v = 64 + w := ⟨(v - 64).toNat, by omega⟩
    subst hw
    rw [show (64 : Int) + (w : Int) - 64 = w by omega, and1, tb_ushr (by omega), Nat.zero_add]
    exact (h6 w (by omega)).mpr s
  · obtain ⟨w, hw⟩ : ∃ w : Nat, v = 64 + w := ⟨(v - 64).toNat, by omega⟩
    subst hw
    rw [show (64 : Int) + (w : Int) - 64 = w by omega, and1, tb_ushr (by omega), Nat.zero_add] at y
    exact (h6 w (by omega)).mp y
  · obtain ⟨w, hw⟩ : ∃ w : Nat, v = w := ⟨v.toNat, by omega⟩
    subst hw
    rw [and1, tb_ushr (by omega), Nat.zero_add]
    exact (h5 w (by omega)).mpr s
  · obtain ⟨w, hw⟩ : ∃ w : Nat, v = w := ⟨v.toNat, by omega⟩
    subst hw
    rw [and1, tb_ushr (by omega), Nat.zero_add] at y
    exact (h5 w (by omega)).mp y
theorem q_isLink {f : Int → Int} {k v : Int} (hk : 0 ≤ k ∧ k < 24) (hs : SetC σ f k) (hv : inR v) (k1 : (∃ i, 0 ≤ i ∧ i ≤ k ∧ f i = v) → Q 1 σ) (k0 : (v < 64 → ¬ ∃ i, 0 ≤ i ∧ i ≤ k ∧ f i = v) → Q 0 σ) (hp : ∀ i, 0 ≤ i → i ≤ k → 0 ≤ f i) : Ct mX0_isLink d 0 t [rv 275, iv k, iv v] σ Q := by
  obtain ⟨_, h1, h2, h3, h4, h5, h6⟩ := hs k hk.1 (by omega)
  refine c_X0_isLink ⟨hv, fun z => k0 (fun _ ⟨i, a, b, c⟩ => by have := hp i a b; omega), fun z => ⟨hv, fun y => k0 (fun x => absurd x (by omega)), fun y => ⟨hk, l_and_L, fun x => k0 (fun _ s => x ?_), fun x => k1 ?_⟩⟩⟩
  · obtain ⟨w, hw⟩ : ∃ w : Nat, v = w := ⟨v.toNat, by omega⟩
    subst hw
    rw [and1, tb_ushr (by omega), Nat.zero_add]
    obtain ⟨i, a, b, c⟩ := s
    exact (h4 w (by omega)).mpr ⟨i, a, by omega, c⟩
  · obtain ⟨w, hw⟩ : ∃ w : Nat, v = w := ⟨v.toNat, by omega⟩
    subst hw
    rw [and1, tb_ushr (by omega), Nat.zero_add] at x
    obtain ⟨i, a, b, c⟩ := (h4 w (by omega)).mp x
    exact ⟨i, a, by omega, c⟩
/-- the next sum -/
def NextS (f : Int → Int) (k v r : Int) : Prop := (v ≤ r ∧ r < 128 ∧ SumP f (k + 1) r ∧ ∀ x, v ≤ x → x < r → ¬ SumP f (k + 1) x) ∨ (r = 1000 ∧ ∀ x, v ≤ x → x < 128 → ¬ SumP f (k + 1) x)
theorem q_sumFrom {f : Int → Int} {k v : Int} (hk : 0 ≤ k ∧ k < 24) (hs : SetC σ f k) (hv : 0 ≤ v ∧ v ≤ 2000) (kk : ∀ r, NextS f k v r → Q r σ) : Ct mX0_sumFrom (d + 2) 0 t [rv 275, iv k, iv v] σ Q := by
  obtain ⟨_, h1, h2, h3, h4, h5, h6⟩ := hs k hk.1 (by omega)
  have hvR : inR v := rng (by omega) (by omega)
  -- the sums from 64 on
  have high : ∀ w : Nat, w < 64 → (∀ x, v ≤ x → x < 64 + w → ¬ SumP f (k + 1) x) → v ≤ 64 + w → ((inL (l_ushr (σ 279 k) w)) ∧ (((l_ushr (σ 279 k) w) = 0 → (Q 1000 σ)) ∧ (¬ (l_ushr (σ 279 k) w) = 0 → (((0 : Int) ≤ k ∧ k < 24) ∧ (Ct mJ13_numberOfTrailingZeros_95d88 (d + 1) 0 t [jv (l_ushr (σ 279 k) w)] σ (fun r5 σ5 => (Q ((64 + (w : Int)) + r5) σ5))))))) := by
    intro w hw hno hvw
    refine ⟨l_ushr_L, fun z => kk 1000 (Or.inr ⟨rfl, fun x x0 x1 s => ?_⟩), fun z => ⟨hk, ?_⟩⟩
    · rcases Int.lt_or_le x (64 + w) with y | y
      · exact hno x x0 y s
      · obtain ⟨b, hb⟩ : ∃ b : Nat, x = 64 + b := ⟨(x - 64).toNat, by omega⟩
        subst hb
        have := (h6 b (by omega)).mpr s
        have e : tb (l_ushr (σ 279 k) w) (b - w) = true := by rw [tb_ushr hw, show b - w + w = b by omega]; exact this
        rw [z, tb_0] at e
        cases e
    · obtain ⟨i, i1, i2⟩ := (ne0_tb l_ushr_L).mp z
      obtain ⟨b, b1, b2, b3⟩ := least_bit i i2
      refine ntz_long (b := b) (by omega) b3 b2 (kk _ (Or.inl ?_))
      rw [tb_ushr hw] at b2
      have hbw : b + w < 64 := by
        rcases Nat.lt_or_ge (b + w) 64 with y | y
        · exact y
        · rw [tb_ge y] at b2; cases b2
      have sb := (h6 (b + w) hbw).mp b2
      rw [show (64 : Int) + ((b + w : Nat) : Int) = 64 + (w : Int) + b by omega] at sb
      refine ⟨by omega, by omega, sb, fun x x0 x1 s => ?_⟩
      rcases Int.lt_or_le x (64 + w) with y | y
      · exact hno x x0 y s
      · obtain ⟨j, hj⟩ : ∃ j : Nat, x = 64 + w + j := ⟨(x - 64 - w).toNat, by omega⟩
        subst hj
        have := (h6 (j + w) (by omega)).mpr (by rw [show (64 : Int) + ((j + w : Nat) : Int) = 64 + (w : Int) + j by omega]; exact s)
        have e := b3 j (by omega)
        rw [tb_ushr hw, this] at e
        cases e
  refine c_X0_sumFrom ⟨hvR, fun z => ⟨hvR, ?_⟩, fun z => ⟨hk, l_ushr_L, fun y => ⟨hvR, ?_⟩, fun y => ⟨hk, ?_⟩⟩⟩
  · rw [show max v 64 = v by omega]
    refine ⟨rng (by omega) (by omega), fun y => kk 1000 (Or.inr ⟨rfl, fun x x0 x1 => absurd x1 (by omega)⟩), fun y => ⟨hk, ?_⟩⟩
    have := high (v - 64).toNat (by omega) (fun x x0 x1 => absurd x1 (by omega)) (by omega)
    rw [show (((v - 64).toNat : Nat) : Int) = v - 64 by omega] at this
    exact this
  · rw [show max v 64 = 64 by omega]
    refine ⟨⟨by decide, by decide⟩, fun x => absurd x (by decide), fun _ => ⟨hk, ?_⟩⟩
    obtain ⟨w, hw⟩ : ∃ w : Nat, v = w := ⟨v.toNat, by omega⟩
    have := high 0 (by omega) (fun x x0 x1 s => by
      obtain ⟨b, hb⟩ : ∃ b : Nat, x = b := ⟨x.toNat, by omega⟩
      subst hb
      have s1 := (h5 b (by omega)).mpr s
      have e : tb (l_ushr (σ 278 k) v) (b - w) = true := by rw [hw, tb_ushr (by omega), show b - w + w = b by omega]; exact s1
      rw [y, tb_0] at e
      cases e) (by omega)
    exact this
  · obtain ⟨w, hw⟩ : ∃ w : Nat, v = w := ⟨v.toNat, by omega⟩
    obtain ⟨i, i1, i2⟩ := (ne0_tb l_ushr_L).mp y
    obtain ⟨b, b1, b2, b3⟩ := least_bit i i2
    refine ntz_long (b := b) (by omega) b3 b2 (kk _ (Or.inl ?_))
    rw [hw, tb_ushr (by omega)] at b2
    have hbw : b + w < 64 := by
      rcases Nat.lt_or_ge (b + w) 64 with y | y
      · exact y
      · rw [tb_ge y] at b2; cases b2
    have sb := (h5 (b + w) hbw).mp b2
    rw [show ((b + w : Nat) : Int) = v + b by omega] at sb
    refine ⟨by omega, by omega, sb, fun x x0 x1 s => ?_⟩
    obtain ⟨j, hj⟩ : ∃ j : Nat, x = v + j := ⟨(x - v).toNat, by omega⟩
    subst hj
    have := (h5 (j + w) (by omega)).mpr (by rw [show ((j + w : Nat) : Int) = v + j by omega]; exact s)
    have e := b3 j (by omega)
    rw [hw, tb_ushr (by omega), this] at e
    cases e
end QS
