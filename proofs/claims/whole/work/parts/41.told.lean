/-! ===== wrong, needless, star, steps alike ===== -/
/-- v is the sum of two of the first m -/
def SumP (f : Int → Int) (m v : Int) : Prop := ∃ i k, 0 ≤ k ∧ k ≤ i ∧ i < m ∧ f i + f k = v
/-- the first m lie in 0 .. 99999 -/
def smallR (f : Int → Int) (m : Int) : Prop := ∀ i, 0 ≤ i → i < m → (0 ≤ f i ∧ f i ≤ 99999)
section TO
variable {d : Nat} {t : Int} {L : LT} {σ : jM} {Q : Int → jM → Prop}
theorem m_isSum {v m : Int} (hv : inR v) (hm : 0 ≤ m ∧ m ≤ 44) (hs : smallR (σ 331) m) (k1 : SumP (σ 331) m v → Q 1 σ) (k0 : ¬ SumP (σ 331) m v → Q 0 σ) : Ct mX12_isSum d 0 t [rv 321, iv v, iv m] σ Q := by
  refine c_X12_isSum ?_
  have inner : ∀ (i : Int), 0 ≤ i → i < m → ((∀ k, 0 ≤ k → k ≤ i → σ 331 i + σ 331 k ≠ v) → Jt mX12_isSum d 0 t Q 2 [rv 321, iv v, iv m, iv (i + 1), uv] [] σ) → ∀ (j : Nat) (k : Int), 0 ≤ k → k + j = i + 1 → (∀ x, 0 ≤ x → x < k → σ 331 i + σ 331 x ≠ v) → Jt mX12_isSum d 0 t Q 10 [rv 321, iv v, iv m, iv i, iv k] [] σ := by
    intro i i0 im nx j
    induction j with
    | zero =>
      intro k h0 h1 no
      exact b_X12_isSum_10 ⟨rng (by omega) (by omega), rng (by omega) (by omega), fun _ => nx (fun x x0 x1 => no x x0 (by omega)), fun z => absurd z (by omega)⟩
    | succ j ih =>
      intro k h0 h1 no
      have g1 := hs i i0 im
      have g2 := hs k h0 (by omega)
      refine b_X12_isSum_10 ⟨rng (by omega) (by omega), rng (by omega) (by omega), fun z => absurd z (by omega), fun z => ⟨by omega, by omega, rng (by omega) (by omega), hv, fun y => ?_, fun y => k1 ⟨i, k, h0, z, im, y⟩⟩⟩
      refine ih (k + 1) (by omega) (by omega) (fun x x0 x1 => ?_)
      by_cases e : x = k
      · rw [e]; exact y
      · exact no x x0 (by omega)
  have outer : ∀ (j : Nat) (i : Int), 0 ≤ i → i + j = m → (∀ x k, 0 ≤ k → k ≤ x → x < i → σ 331 x + σ 331 k ≠ v) → Jt mX12_isSum d 0 t Q 2 [rv 321, iv v, iv m, iv i, uv] [] σ := by
    intro j
    induction j with
    | zero =>
      intro i h0 h1 no
      exact b_X12_isSum_2 ⟨rng (by omega) (by omega), rng (by omega) (by omega), fun _ => k0 (fun ⟨x, k, a, b, c, e⟩ => no x k a b (by omega) e), fun z => absurd z (by omega)⟩
    | succ j ih =>
      intro i h0 h1 no
      refine b_X12_isSum_2 ⟨rng (by omega) (by omega), rng (by omega) (by omega), fun z => absurd z (by omega), fun z => ?_⟩
      refine inner i h0 z (fun ni => ih (i + 1) (by omega) (by omega) (fun x k a b c => ?_)) (i + 1).toNat 0 (by omega) (by omega) (fun x x0 x1 => absurd x1 (by omega))
      by_cases e : x = i
      · rw [e]; exact ni k a (by omega)
      · exact no x k a b (by omega)
  exact outer m.toNat 0 (by omega) (by omega) (fun x k _ _ c => absurd c (by omega))
/-- the number at i is wrong if the one at l isn't there -/
def lastOf (l i : Int) : Int := if i - 1 = l then i - 2 else i - 1
def WrC (T : Int → Int) (l i : Int) : Prop := T i ≤ T (lastOf l i) ∨ ¬ ∃ a b, 0 ≤ a ∧ a ≤ b ∧ b < i ∧ a ≠ l ∧ b ≠ l ∧ T a + T b = T i
def WrM (f : Int → Int) (k : Int) : Prop := f k ≤ f (k - 1) ∨ ¬ SumP f k (f k)
theorem h_isSumWithout {i l n : Int} (hl : inR l) (hn12 : n ≤ 12) (hi : 0 ≤ i ∧ i < n) (hs : smallR (σ 130) n) (k1 : (∃ a b, 0 ≤ a ∧ a ≤ b ∧ b < i ∧ a ≠ l ∧ b ≠ l ∧ σ 130 a + σ 130 b = σ 130 i) → Q 1 σ) (k0 : (¬ ∃ a b, 0 ≤ a ∧ a ≤ b ∧ b < i ∧ a ≠ l ∧ b ≠ l ∧ σ 130 a + σ 130 b = σ 130 i) → Q 0 σ) : Ct mX9_isSumWithout d 0 t [rv 129, iv i, iv l] σ Q := by
  refine c_X9_isSumWithout okl_129 ?_
  have gi := hs i hi.1 hi.2
  have inner : ∀ (a : Int), 0 ≤ a → a < i → ((∀ b, a ≤ b → b < i → a ≠ l → b ≠ l → σ 130 a + σ 130 b ≠ σ 130 i) → Jt mX9_isSumWithout d 0 t Q 2 [rv 129, iv i, iv l, iv (a + 1), uv] [] σ) → ∀ (j : Nat) (b : Int), a ≤ b → b + j = i → (∀ x, a ≤ x → x < b → a ≠ l → x ≠ l → σ 130 a + σ 130 x ≠ σ 130 i) → Jt mX9_isSumWithout d 0 t Q 10 [rv 129, iv i, iv l, iv a, iv b] [] σ := by
    intro a a0 ai nx j
    induction j with
    | zero =>
      intro b h0 h1 no
      exact b_X9_isSumWithout_10 okl_129 ⟨rng (by omega) (by omega), rng (by omega) (by omega), fun _ => nx (fun x x0 x1 => no x x0 (by omega)), fun z => absurd z (by omega)⟩
    | succ j ih =>
      intro b h0 h1 no
      have g1 := hs a a0 (by omega)
      have g2 := hs b (by omega) (by omega)
      have next : (a ≠ l → b ≠ l → σ 130 a + σ 130 b ≠ σ 130 i) → Jt mX9_isSumWithout d 0 t Q 10 [rv 129, iv i, iv l, iv a, iv (b + 1)] [] σ := by
        intro y
        refine ih (b + 1) (by omega) (by omega) (fun x x0 x1 n1 n2 => ?_)
        by_cases e : x = b
        · rw [e]; exact y n1 (by rw [← e]; exact n2)
        · exact no x x0 (by omega) n1 n2
      refine b_X9_isSumWithout_10 okl_129 ⟨rng (by omega) (by omega), rng (by omega) (by omega), fun z => absurd z (by omega), fun z => ⟨rng (by omega) (by omega), hl, fun y => next (fun n1 => absurd y n1), fun y => ⟨rng (by omega) (by omega), hl, fun x => next (fun _ n2 => absurd x n2), fun x => ⟨⟨by omega, by omega⟩, ⟨by omega, by omega⟩, ⟨by omega, by omega⟩, ?_⟩⟩⟩⟩
      exact ⟨rng (by show _ ≤ σ 130 a + σ 130 b; omega) (by show σ 130 a + σ 130 b < _; omega), rng (by show _ ≤ σ 130 i; omega) (by show σ 130 i < _; omega), fun w => next (fun _ _ => w), fun w => k1 ⟨a, b, a0, h0, z, y, x, w⟩⟩
  have outer : ∀ (j : Nat) (a : Int), 0 ≤ a → a + j = i → (∀ x b, 0 ≤ x → x ≤ b → b < i → x < a → x ≠ l → b ≠ l → σ 130 x + σ 130 b ≠ σ 130 i) → Jt mX9_isSumWithout d 0 t Q 2 [rv 129, iv i, iv l, iv a, uv] [] σ := by
    intro j
    induction j with
    | zero =>
      intro a h0 h1 no
      exact b_X9_isSumWithout_2 okl_129 ⟨rng (by omega) (by omega), rng (by omega) (by omega), fun _ => k0 (fun ⟨x, b, q1, q2, q3, q4, q5, q6⟩ => no x b q1 q2 q3 (by omega) q4 q5 q6), fun z => absurd z (by omega)⟩
    | succ j ih =>
      intro a h0 h1 no
      refine b_X9_isSumWithout_2 okl_129 ⟨rng (by omega) (by omega), rng (by omega) (by omega), fun z => absurd z (by omega), fun z => ?_⟩
      refine inner a h0 z (fun ni => ih (a + 1) (by omega) (by omega) (fun x b q1 q2 q3 q4 q5 q6 => ?_)) (i - a).toNat a (by omega) (by omega) (fun x x0 x1 => absurd x1 (by omega))
      by_cases e : x = a
      · rw [e]; exact ni b (by omega) q3 (by rw [← e]; exact q5) q6
      · exact no x b q1 q2 q3 (by omega) q5 q6
  exact outer i.toNat 0 (by omega) (by omega) (fun x b q1 q2 q3 q4 => absurd q4 (by omega))
theorem h_wrongWithout {l n : Int} (hl : l = -1 ∨ (1 ≤ l ∧ l < 12)) (hn : σ 129 1 = n) (hn2 : 1 ≤ n ∧ n ≤ 12) (hs : smallR (σ 130) n) (k1 : ∀ i, 1 ≤ i → i < n → i ≠ l → WrC (σ 130) l i → (∀ j, 1 ≤ j → j < i → j ≠ l → ¬ WrC (σ 130) l j) → Q i σ) (k0 : (∀ j, 1 ≤ j → j < n → j ≠ l → ¬ WrC (σ 130) l j) → Q (-1) σ) : Ct mX9_wrongWithout (d + 1) 0 t [rv 129, iv l] σ Q := by
  refine c_X9_wrongWithout okl_129 ?_
  have hlR : inR l := rng (by omega) (by omega)
  have loop : ∀ (j : Nat) (i : Int), 1 ≤ i → i + j = n → (∀ x, 1 ≤ x → x < i → x ≠ l → ¬ WrC (σ 130) l x) → Jt mX9_wrongWithout (d + 1) 0 t Q 4 [rv 129, iv l, iv (lastOf l i), iv i] [] σ := by
    intro j
    induction j with
    | zero =>
      intro i h0 h1 no
      refine b_X9_wrongWithout_4 okl_129 ?_
      rw [hn]
      exact ⟨rng (by omega) (by omega), rng (by omega) (by omega), fun _ => k0 (fun x x0 x1 => no x x0 (by omega)), fun z => absurd z (by omega)⟩
    | succ j ih =>
      intro i h0 h1 no
      have hlast : 0 ≤ lastOf l i ∧ lastOf l i < n := by unfold lastOf; split <;> omega
      have g1 := hs i (by omega) (by omega)
      have g2 := hs (lastOf l i) hlast.1 hlast.2
      refine b_X9_wrongWithout_4 okl_129 ?_
      rw [hn]
      refine ⟨rng (by omega) (by omega), rng (by omega) (by omega), fun z => absurd z (by omega), fun z => ⟨rng (by omega) (by omega), hlR, fun y => ⟨⟨by omega, by omega⟩, ⟨hlast.1, by omega⟩, rng (by show _ ≤ σ 130 i; omega) (by show σ 130 i < _; omega), rng (by show _ ≤ σ 130 (lastOf l i); omega) (by show σ 130 (lastOf l i) < _; omega), fun x => ?_, fun x => ?_⟩, fun y => ?_⟩⟩
      · exact k1 i h0 z y (Or.inl x) no
      · refine h_isSumWithout hlR hn2.2 ⟨by omega, z⟩ hs (fun w => ⟨⟨by decide, by decide⟩, fun _ => ?_, fun u => absurd u (by decide)⟩) (fun w => ⟨in0, fun u => absurd rfl u, fun _ => k1 i h0 z y (Or.inr w) no⟩)
        have e : lastOf l (i + 1) = i := by unfold lastOf; rw [if_neg (by omega)]; omega
        have := ih (i + 1) (by omega) (by omega) (fun q q0 q1 q2 => by
          by_cases eq : q = i
          · rw [eq]
            intro hw
            rcases hw with hw | hw
            · have x' : σ 130 (lastOf l i) < σ 130 i := x
              omega
            · exact hw w
          · exact no q q0 (by omega) q2)
        rw [e] at this
        exact this
      · have e : lastOf l (i + 1) = lastOf l i := by unfold lastOf; rw [if_pos (by omega), if_neg (by omega)]; omega
        have := ih (i + 1) (by omega) (by omega) (fun q q0 q1 q2 => no q q0 (by omega) q2)
        rw [e] at this
        exact this
  have e0 : lastOf l 1 = 0 := by unfold lastOf; rw [if_neg (by omega)]; omega
  have := loop (n - 1).toNat 1 (by omega) (by omega) (fun x x0 x1 => absurd x1 (by omega))
  rw [e0] at this
  exact this
theorem m_wrongOf {n : Int} (hn2 : 0 ≤ n ∧ n ≤ 44) (hs : smallR (σ 331) n) (k1 : ∀ i, 1 ≤ i → i < n → WrM (σ 331) i → (∀ j, 1 ≤ j → j < i → ¬ WrM (σ 331) j) → Q i σ) (k0 : (∀ j, 1 ≤ j → j < n → ¬ WrM (σ 331) j) → Q (-1) σ) : Ct mX12_wrongOf (d + 1) 0 t [rv 321, iv n] σ Q := by
  refine c_X12_wrongOf ?_
  have loop : ∀ (j : Nat) (i : Int), 1 ≤ i → i ≤ n → i + j = n → (∀ x, 1 ≤ x → x < i → ¬ WrM (σ 331) x) → Jt mX12_wrongOf (d + 1) 0 t Q 2 [rv 321, iv n, iv i] [] σ := by
    intro j
    induction j with
    | zero =>
      intro i h0 _ h1 no
      exact b_X12_wrongOf_2 ⟨rng (by omega) (by omega), rng (by omega) (by omega), fun _ => k0 (fun x x0 x1 => no x x0 (by omega)), fun z => absurd z (by omega)⟩
    | succ j ih =>
      intro i h0 _ h1 no
      have g1 := hs i (by omega) (by omega)
      have g2 := hs (i - 1) (by omega) (by omega)
      refine b_X12_wrongOf_2 ⟨rng (by omega) (by omega), rng (by omega) (by omega), fun z => absurd z (by omega), fun z => ⟨by omega, by omega, rng (by omega) (by omega), rng (by omega) (by omega), fun x => k1 i h0 z (Or.inl x) no, fun x => ⟨by omega, ?_⟩⟩⟩
      refine m_isSum (rng (by omega) (by omega)) (by omega) (fun q q0 q1 => hs q q0 (by omega)) (fun w => ⟨⟨by decide, by decide⟩, fun _ => ?_, fun u => absurd u (by decide)⟩) (fun w => ⟨in0, fun u => absurd rfl u, fun _ => k1 i h0 z (Or.inr w) no⟩)
      refine ih (i + 1) (by omega) (by omega) (by omega) (fun q q0 q1 => ?_)
      by_cases eq : q = i
      · rw [eq]
        intro hw
        rcases hw with hw | hw
        · omega
        · exact hw w
      · exact no q q0 (by omega)
  rcases Int.lt_or_le n 1 with h | h
  · exact b_X12_wrongOf_2 ⟨⟨by decide, by decide⟩, rng (by omega) (by omega), fun _ => k0 (fun x x0 x1 => absurd x1 (by omega)), fun z => absurd z (by omega)⟩
  · exact loop (n - 1).toNat 1 (by omega) h (by omega) (fun x x0 x1 => absurd x1 (by omega))
/-- leaving out the place l -/
def skp (l k : Int) : Int := if l < 0 then k else if k < l then k else k + 1
theorem m_layTold {l n : Int} (hl : l = -1 ∨ (1 ≤ l ∧ l < n)) (hn : σ 322 4 = n) (hn2 : 1 ≤ n ∧ n ≤ 12) (k : ∀ σ', (∀ x, x ≠ 331 → σ' x = σ x) → (∀ j, 0 ≤ j → j < (if l < 0 then n else n - 1) → σ' 331 j = σ 322 (30 + skp l j)) → Q (if l < 0 then n else n - 1) σ') : Ct mX12_layTold d 0 t [rv 321, iv l] σ Q := by
  refine c_X12_layTold ?_
  have hlR : inR l := rng (by omega) (by omega)
  have loop : ∀ (j : Nat) (i : Int) (τ : jM), 0 ≤ i → i + j = n → (∀ x, x ≠ 331 → τ x = σ x) → (∀ x, 0 ≤ x → x < (if l < 0 ∨ i ≤ l then i else i - 1) → τ 331 x = σ 322 (30 + skp l x)) → Jt mX12_layTold d 0 t Q 4 [rv 321, iv l, iv (if l < 0 ∨ i ≤ l then i else i - 1), iv i] [] τ := by
    intro j
    induction j with
    | zero =>
      intro i τ h0 h1 r1 r2
      have e322 : τ 322 = σ 322 := r1 322 (by decide)
      have ei : (if l < 0 ∨ i ≤ l then i else i - 1) = (if l < 0 then n else n - 1) := by
        by_cases q : l < 0
        · rw [if_pos (Or.inl q), if_pos q]; omega
        · rw [if_neg (by omega), if_neg q]; omega
      rw [ei] at r2 ⊢
      refine b_X12_layTold_4 ⟨by decide, ?_⟩
      rw [e322, hn]
      exact ⟨rng (by omega) (by omega), rng (by omega) (by omega), fun _ => k τ r1 r2, fun z => absurd z (by omega)⟩
    | succ j ih =>
      intro i τ h0 h1 r1 r2
      have e322 : τ 322 = σ 322 := r1 322 (by decide)
      refine b_X12_layTold_4 ⟨by decide, ?_⟩
      rw [e322, hn]
      refine ⟨rng (by omega) (by omega), rng (by omega) (by omega), fun z => absurd z (by omega), fun z => ⟨rng (by omega) (by omega), hlR, fun y => ⟨by omega, by split <;> omega, fun σ6 e6 => ?_⟩, fun y => ?_⟩⟩
      · have em : (if l < 0 ∨ i + 1 ≤ l then i + 1 else i + 1 - 1) = (if l < 0 ∨ i ≤ l then i else i - 1) + 1 := by
          by_cases q : l < 0 ∨ i ≤ l
          · rw [if_pos q, if_pos (by omega)]
          · rw [if_neg q, if_neg (by omega)]; omega
        have := ih (i + 1) σ6 (by omega) (by omega) (fun x hx => by rw [e6, up_row hx]; exact r1 x hx) (fun x x0 x1 => by
          rw [em] at x1
          by_cases ex : x = (if l < 0 ∨ i ≤ l then i else i - 1)
          · rw [e6, up_eq rfl ex]
            have : skp l x = i := by
              rw [ex]
              unfold skp
              by_cases q : l < 0
              · rw [if_pos q, if_pos (Or.inl q)]
              · rw [if_neg q]
                by_cases q2 : i ≤ l
                · rw [if_pos (Or.inr q2), if_pos (by omega)]
                · rw [if_neg (by omega), if_neg (by omega)]; omega
            rw [this]
          · rw [e6, up_ne (Or.inr ex)]; exact r2 x x0 (by omega))
        rw [em] at this
        exact this
      · have em : (if l < 0 ∨ i + 1 ≤ l then i + 1 else i + 1 - 1) = (if l < 0 ∨ i ≤ l then i else i - 1) := by
          rw [if_neg (by omega), if_pos (by omega)]; omega
        have := ih (i + 1) τ (by omega) (by omega) r1 (by rw [em]; exact r2)
        rw [em] at this
        exact this
  have := loop n.toNat 0 σ (by omega) (by omega) (fun _ _ => rfl) (fun x x0 x1 => absurd x1 (by split <;> omega))
  rw [if_pos (by omega)] at this
  exact this
/-- both find the same places wrong -/
theorem Wr_eq {T f : Int → Int} {l n k : Int} (hl : l = -1 ∨ (1 ≤ l ∧ l < n)) (hf : ∀ j, 0 ≤ j → j < (if l < 0 then n else n - 1) → f j = T (skp l j)) (hk : 1 ≤ k ∧ k < (if l < 0 then n else n - 1)) : WrM f k ↔ WrC T l (skp l k) := by
  have s1 : ∀ j, 0 ≤ j → (skp l j ≠ l ∧ 0 ≤ skp l j) := fun j j0 => by
    unfold skp
    split
    · omega
    · split <;> omega
  have s2 : ∀ i j, i < j → skp l i < skp l j := fun i j h => by
    unfold skp
    split
    · omega
    · split
      · split <;> omega
      · rw [if_neg (by omega)]; omega
  have s2' : ∀ i j, i ≤ j → skp l i ≤ skp l j := fun i j h => by
    rcases Int.lt_or_eq_of_le h with h | h
    · exact Int.le_of_lt (s2 i j h)
    · rw [h]; exact Int.le_refl _
  have s3 : ∀ x, 0 ≤ x → x ≠ l → ∃ j, 0 ≤ j ∧ skp l j = x := fun x x0 xl => by
    by_cases q : l < 0
    · exact ⟨x, x0, by unfold skp; rw [if_pos q]⟩
    · by_cases q2 : x < l
      · exact ⟨x, x0, by unfold skp; rw [if_neg q, if_pos q2]⟩
      · exact ⟨x - 1, by omega, by unfold skp; rw [if_neg q, if_neg (by omega)]; omega⟩
  have last : lastOf l (skp l k) = skp l (k - 1) := by
    unfold lastOf skp
    by_cases q : l < 0
    · rw [if_pos q, if_pos q, if_neg (by omega)]
    · rw [if_neg q, if_neg q]
      by_cases q2 : k < l
      · rw [if_pos q2, if_neg (by omega), if_pos (by omega)]
      · rw [if_neg q2]
        by_cases q3 : k = l
        · rw [if_pos (by omega), if_pos (by omega)]; omega
        · rw [if_neg (by omega), if_neg (by omega)]; omega
  unfold WrM WrC
  rw [last, hf k (by omega) hk.2, hf (k - 1) (by omega) (by omega)]
  have ex : SumP f k (T (skp l k)) ↔ ∃ a b, 0 ≤ a ∧ a ≤ b ∧ b < skp l k ∧ a ≠ l ∧ b ≠ l ∧ T a + T b = T (skp l k) := by
    constructor
    · rintro ⟨i, j, j0, ji, ik, e⟩
      rw [hf i (by omega) (by omega), hf j j0 (by omega)] at e
      exact ⟨skp l j, skp l i, (s1 j j0).2, s2' j i ji, s2 i k ik, (s1 j j0).1, (s1 i (by omega)).1, by omega⟩
    · rintro ⟨a, b, a0, ab, bk, al, bl, e⟩
      obtain ⟨j, j0, ej⟩ := s3 a a0 al
      obtain ⟨i, i0, ei⟩ := s3 b (by omega) bl
      subst ej ei
      have ik : i < k := by
        rcases Int.lt_or_le i k with h | h
        · exact h
        · have := s2' k i h; omega
      have ji : j ≤ i := by
        rcases Int.lt_or_le i j with h | h
        · have := s2 i j h; omega
        · exact h
      exact ⟨i, j, j0, ji, ik, by rw [hf i i0 (by omega), hf j j0 (by omega)]; omega⟩
  rw [ex]
theorem h_stands {m v n : Int} (hv : inR v) (hm : 0 ≤ m ∧ m ≤ n) (hn : n ≤ 12) (hs : smallR (σ 130) n) (k1 : (∃ a, 0 ≤ a ∧ a < m ∧ σ 130 a = v) → Q 1 σ) (k0 : (¬ ∃ a, 0 ≤ a ∧ a < m ∧ σ 130 a = v) → Q 0 σ) : Ct mX9_stands d 0 t [rv 129, iv m, iv v] σ Q := by
  refine c_X9_stands okl_129 ?_
  have loop : ∀ (j : Nat) (i : Int), 0 ≤ i → i + j = m → (∀ x, 0 ≤ x → x < i → σ 130 x ≠ v) → Jt mX9_stands d 0 t Q 2 [rv 129, iv m, iv v, iv i] [] σ := by
    intro j
    induction j with
    | zero =>
      intro i h0 h1 no
      exact b_X9_stands_2 okl_129 ⟨rng (by omega) (by omega), rng (by omega) (by omega), fun _ => k0 (fun ⟨a, a0, a1, e⟩ => no a a0 (by omega) e), fun z => absurd z (by omega)⟩
    | succ j ih =>
      intro i h0 h1 no
      have g := hs i h0 (by omega)
      refine b_X9_stands_2 okl_129 ⟨rng (by omega) (by omega), rng (by omega) (by omega), fun z => absurd z (by omega), fun z => ⟨⟨h0, by omega⟩, rng (by show _ ≤ σ 130 i; omega) (by show σ 130 i < _; omega), hv, fun y => ?_, fun y => k1 ⟨i, h0, z, y⟩⟩⟩
      refine ih (i + 1) (by omega) (by omega) (fun x x0 x1 => ?_)
      by_cases e : x = i
      · rw [e]; exact y
      · exact no x x0 (by omega)
  exact loop m.toNat 0 (by omega) (by omega) (fun x x0 x1 => absurd x1 (by omega))
theorem m_isThere {m v : Int} (hv : inR v) (hm : 0 ≤ m ∧ m ≤ 44) (hs : smallR (σ 331) m) (k1 : (∃ a, 0 ≤ a ∧ a < m ∧ σ 331 a = v) → Q 1 σ) (k0 : (¬ ∃ a, 0 ≤ a ∧ a < m ∧ σ 331 a = v) → Q 0 σ) : Ct mX12_isThere d 0 t [rv 321, iv v, iv m] σ Q := by
  refine c_X12_isThere ?_
  have loop : ∀ (j : Nat) (i : Int), 0 ≤ i → i + j = m → (∀ x, 0 ≤ x → x < i → σ 331 x ≠ v) → Jt mX12_isThere d 0 t Q 2 [rv 321, iv v, iv m, iv i] [] σ := by
    intro j
    induction j with
    | zero =>
      intro i h0 h1 no
      exact b_X12_isThere_2 ⟨rng (by omega) (by omega), rng (by omega) (by omega), fun _ => k0 (fun ⟨a, a0, a1, e⟩ => no a a0 (by omega) e), fun z => absurd z (by omega)⟩
    | succ j ih =>
      intro i h0 h1 no
      have g := hs i h0 (by omega)
      refine b_X12_isThere_2 ⟨rng (by omega) (by omega), rng (by omega) (by omega), fun z => absurd z (by omega), fun z => ⟨by omega, rng (by omega) (by omega), hv, fun y => ?_, fun y => k1 ⟨i, h0, z, y⟩⟩⟩
      refine ih (i + 1) (by omega) (by omega) (fun x x0 x1 => ?_)
      by_cases e : x = i
      · rw [e]; exact y
      · exact no x x0 (by omega)
  exact loop m.toNat 0 (by omega) (by omega) (fun x x0 x1 => absurd x1 (by omega))
end TO
section TQ
variable {t : Int} {L : LT} {σ : jM}
theorem I0_line {σ2 : jM} (I : I0 L σ) (e : ∀ x, x ≠ 331 → σ2 x = σ x) : I0 L σ2 ∧ frK σ σ2 :=
  I0_step I I.1.1 I.1.2.2.1 rfl offN_rf (e 322 (by decide)) ⟨fun x _ _ h3 => e x (by omega), fun j _ => by rw [e 321 (by decide)]⟩
/-- what is told, as the class has it -/
theorem told_C (I : I0 L σ) : σ 129 1 = σ 322 4 ∧ (1 ≤ σ 322 4 ∧ σ 322 4 ≤ 12) ∧ smallR (σ 130) (σ 322 4) ∧ (∀ i, 0 ≤ i → i < σ 322 4 → σ 130 i = σ 322 (30 + i)) := by
  have a3 := I.1.1.2.2.1
  have b3 := I.1.2.2.1.2.2.1
  have e : ∀ i, 0 ≤ i → i < σ 322 4 → σ 130 i = σ 322 (30 + i) := a3.2
  refine ⟨a3.1, ⟨b3.1, b3.2.1⟩, fun i i0 i1 => ?_, e⟩
  have g := b3.2.2.2 i i0 i1
  rw [e i i0 i1]
  omega
/-- the reference's wrong over what is told but the one at l, told by the class's words -/
theorem m_wrongBut {d : Nat} {l : Int} {Q : Int → jM → Prop} {τ : jM} (I : I0 L σ) (ot : ∀ x, x ≠ 331 → τ x = σ x) (hl : l = -1 ∨ (1 ≤ l ∧ l < σ 322 4)) (k1 : ∀ i τ', (∀ x, x ≠ 331 → τ' x = σ x) → (1 ≤ i ∧ i < (if l < 0 then σ 322 4 else σ 322 4 - 1)) → WrC (σ 130) l (skp l i) → (∀ j, 1 ≤ j → j < i → ¬ WrC (σ 130) l (skp l j)) → Q i τ') (k0 : ∀ τ', (∀ x, x ≠ 331 → τ' x = σ x) → (∀ j, 0 ≤ j → j < (if l < 0 then σ 322 4 else σ 322 4 - 1) → τ' 331 j = σ 130 (skp l j)) → (∀ j, 1 ≤ j → j < (if l < 0 then σ 322 4 else σ 322 4 - 1) → ¬ WrC (σ 130) l (skp l j)) → Q (-1) τ') : Ct mX12_layTold (d + 1) 0 t [rv 321, iv l] τ (fun r1 σ1 => Ct mX12_wrongOf (d + 1) 0 t [rv 321, iv r1] σ1 (fun r2 σ2 => Q r2 σ2)) := by
  obtain ⟨c1, c2, c3, c4⟩ := told_C I
  have e322 : τ 322 = σ 322 := ot 322 (by decide)
  refine m_layTold (n := σ 322 4) hl (by rw [e322]) c2 (fun τ1 o1 h1 => ?_)
  have o1' : ∀ x, x ≠ 331 → τ1 x = σ x := fun x hx => by rw [o1 x hx]; exact ot x hx
  have hskp : ∀ j, 0 ≤ j → j < (if l < 0 then σ 322 4 else σ 322 4 - 1) → 0 ≤ skp l j ∧ skp l j < σ 322 4 := fun j j0 j1 => by
    unfold skp
    by_cases q : l < 0
    · rw [if_pos q] at j1 ⊢; omega
    · rw [if_neg q] at j1 ⊢
      split <;> omega
  have h1' : ∀ j, 0 ≤ j → j < (if l < 0 then σ 322 4 else σ 322 4 - 1) → τ1 331 j = σ 130 (skp l j) := fun j j0 j1 => by
    rw [h1 j j0 j1, e322]
    have := hskp j j0 j1
    exact (c4 _ this.1 this.2).symm
  have sm : smallR (τ1 331) (if l < 0 then σ 322 4 else σ 322 4 - 1) := fun j j0 j1 => by
    rw [h1' j j0 j1]
    have := hskp j j0 j1
    exact c3 _ this.1 this.2
  refine m_wrongOf (by split <;> omega) sm (fun i i0 i1 hw hb => k1 i τ1 o1' ⟨i0, i1⟩ ((Wr_eq hl h1' ⟨i0, i1⟩).mp hw) (fun j j0 j1 hj => hb j j0 j1 ((Wr_eq hl h1' ⟨j0, by omega⟩).mpr hj))) (fun hb => k0 τ1 o1' h1' (fun j j0 j1 hj => hb j j0 j1 ((Wr_eq hl h1' ⟨j0, j1⟩).mpr hj)))
theorem skp_m1 {k : Int} : skp (-1) k = k := by unfold skp; rw [if_pos (by omega)]
/-- wrong on both sides: one answer -/
theorem m_wrong {d : Nat} {Q : Int → jM → Prop} {τ : jM} (I : I0 L σ) (ot : ∀ x, x ≠ 331 → τ x = σ x) (k1 : ∀ i τ', (∀ x, x ≠ 331 → τ' x = σ x) → (1 ≤ i ∧ i < σ 322 4) → WrC (σ 130) (-1) i → (∀ j, 1 ≤ j → j < i → ¬ WrC (σ 130) (-1) j) → Q i τ') (k0 : ∀ τ', (∀ x, x ≠ 331 → τ' x = σ x) → (∀ j, 0 ≤ j → j < σ 322 4 → τ' 331 j = σ 130 j) → (∀ j, 1 ≤ j → j < σ 322 4 → ¬ WrC (σ 130) (-1) j) → Q (-1) τ') : Ct mX12_wrong (d + 2) 0 t [rv 321] τ Q := by
  refine c_X12_wrong (m_wrongBut (d := d) I ot (Or.inl rfl) (fun i τ' o h w b => ?_) (fun τ' o h b => ?_))
  · rw [if_pos (by omega)] at h
    rw [skp_m1] at w
    exact k1 i τ' o h w (fun j j0 j1 hj => b j j0 j1 (by rw [skp_m1]; exact hj))
  · rw [if_pos (by omega)] at h b
    exact k0 τ' o (fun j j0 j1 => by rw [h j j0 j1, skp_m1]) (fun j j0 j1 hj => b j j0 j1 (by rw [skp_m1]; exact hj))
theorem a_wrong (d : Nat) (I : I0 L σ) {Q : Int → jM → Prop} (k : ∀ r σ1, (∀ (d2 : Nat) Q2, (∀ r' σ2, Same L σ r r' σ2 → Q2 r' σ2) → Ct mX12_wrong (d2 + 11) 0 t [rv 321] σ1 Q2) → Q r σ1) : Ct mX11_wrong (d + 11) 0 t [rv 1] σ Q := by
  obtain ⟨c1, c2, c3, c4⟩ := told_C I
  refine c_X11_wrong (h_wrongWithout (d := d + 9) (Or.inl rfl) c1 c2 c3 (fun i i0 i1 _ hw hb => ?_) (fun hb => ?_))
  · refine k _ σ (fun d2 Q2 k2 => m_wrong (d := d2 + 9) I (fun _ _ => rfl) (fun j τ' o h w b => ?_) (fun τ' o h b => ?_))
    · have : j = i := by
        rcases Int.lt_trichotomy j i with h1 | h1 | h1
        · exact absurd w (hb j h.1 h1 (by omega))
        · exact h1
        · exact absurd hw (b i i0 h1)
      subst this
      exact k2 _ _ ⟨rfl, rng (by omega) (by omega), I0_line I o⟩
    · exact absurd hw (b i i0 i1)
  · refine k _ σ (fun d2 Q2 k2 => m_wrong (d := d2 + 9) I (fun _ _ => rfl) (fun j τ' o h w b => ?_) (fun τ' o h b => ?_))
    · exact absurd w (hb j h.1 h.2 (by omega))
    · exact k2 _ _ ⟨rfl, ⟨by decide, by decide⟩, I0_line I o⟩
theorem a_needless (d : Nat) (I : I0 L σ) {Q : Int → jM → Prop} (k : ∀ r σ1, (∀ (d2 : Nat) Q2, (∀ r' σ2, Same L σ r r' σ2 → Q2 r' σ2) → Ct mX12_needless (d2 + 11) 0 t [rv 321] σ1 Q2) → Q r σ1) : Ct mX11_needless (d + 11) 0 t [rv 1] σ Q := by
  obtain ⟨c1, c2, c3, c4⟩ := told_C I
  refine c_X11_needless (h_wrongWithout (d := d + 9) (Or.inl rfl) c1 c2 c3 (fun i i0 i1 _ hw hb => ⟨rng (by omega) (by omega), fun z => absurd z (by omega), fun _ => ?_⟩) (fun hb => ⟨⟨by decide, by decide⟩, fun _ => ?_, fun z => absurd rfl z⟩))
  · refine k _ σ (fun d2 Q2 k2 => c_X12_needless (m_wrong (d := d2 + 8) I (fun _ _ => rfl) (fun j τ' o h w b => ⟨rng (by omega) (by omega), fun z => absurd z (by omega), fun _ => k2 _ _ ⟨rfl, ⟨by decide, by decide⟩, I0_line I o⟩⟩) (fun τ' o h b => absurd hw (b i i0 i1))))
  · -- the bits, place by place
    have loop : ∀ (j : Nat) (i b : Int), 1 ≤ i → (i + j = σ 322 4 - 1 ∨ (σ 322 4 = 1 ∧ j = 0 ∧ i = 1)) → inR b → (∀ r, inR r → (∀ (d2 : Nat) Q2, (∀ σ2, (∀ x, x ≠ 331 → σ2 x = σ x) → Q2 r σ2) → ∀ τ, (∀ x, x ≠ 331 → τ x = σ x) → Jt mX12_needless (d2 + 11) 0 t Q2 14 [rv 321, iv b, iv i] [] τ) → Q r σ) → Jt mX11_needless (d + 11) 0 t Q 21 [rv 1, iv b, iv i] [] σ := by
      intro j
      induction j with
      | zero =>
        intro i b i0 hi hb k1
        refine b_X11_needless_21 ?_
        rw [c1]
        refine ⟨rng (by omega) (by omega), rng (by omega) (by omega), fun _ => k1 b hb (fun d2 Q2 k2 τ ot => b_X12_needless_14 ⟨by decide, ?_⟩), fun z => absurd z (by omega)⟩
        rw [ot 322 (by decide)]
        exact ⟨rng (by omega) (by omega), rng (by omega) (by omega), fun _ => k2 τ ot, fun z => absurd z (by omega)⟩
      | succ j ih =>
        intro i b i0 hi hb k1
        have hil : 1 ≤ i ∧ i < σ 322 4 - 1 := by omega
        have back : ∀ x, 1 ≤ x → x < σ 322 4 → x ≠ i → ∃ y, 1 ≤ y ∧ y < σ 322 4 - 1 ∧ skp i y = x := fun x x0 x1 xi => by
          by_cases q : x < i
          · exact ⟨x, x0, by omega, by unfold skp; rw [if_neg (by omega), if_pos q]⟩
          · exact ⟨x - 1, by omega, by omega, by unfold skp; rw [if_neg (by omega), if_neg (by omega)]; omega⟩
        have forth : ∀ y, 1 ≤ y → y < σ 322 4 - 1 → (1 ≤ skp i y ∧ skp i y < σ 322 4 ∧ skp i y ≠ i) := fun y y0 y1 => by
          unfold skp
          rw [if_neg (by omega)]
          split <;> omega
        refine b_X11_needless_21 ?_
        rw [c1]
        refine ⟨rng (by omega) (by omega), rng (by omega) (by omega), fun z => absurd z (by omega), fun z => ?_⟩
        refine h_wrongWithout (d := d + 9) (Or.inr ⟨i0, by omega⟩) c1 c2 c3 (fun w w0 w1 wi hw hbw => ⟨rng (by omega) (by omega), fun _ => ?_, fun y => absurd y (by omega)⟩) (fun hbw => ⟨⟨by decide, by decide⟩, fun y => absurd rfl y, fun _ => ?_⟩)
        · refine ih (i + 1) b (by omega) (by omega) hb (fun r hr kk => k1 r hr (fun d2 Q2 k2 τ ot => b_X12_needless_14 ⟨by decide, ?_⟩))
          rw [ot 322 (by decide)]
          refine ⟨rng (by omega) (by omega), rng (by omega) (by omega), fun z => absurd z (by omega), fun _ => ?_⟩
          refine m_wrongBut (d := d2 + 9) I ot (Or.inr ⟨i0, by omega⟩) (fun y τ' o h w' b' => ?_) (fun τ' o h b' => ?_)
          · rw [if_neg (by omega)] at h
            refine ⟨rng (by omega) (by omega), fun _ => ?_, fun u => absurd u (by omega)⟩
            rw [i_or_0 hb]
            exact kk d2 Q2 k2 τ' o
          · rw [if_neg (by omega)] at b'
            obtain ⟨y, y0, y1, ey⟩ := back w w0 w1 wi
            exact absurd (by rw [ey]; exact hw) (b' y y0 y1)
        · refine ih (i + 1) _ (by omega) (by omega) i_or_R (fun r hr kk => k1 r hr (fun d2 Q2 k2 τ ot => b_X12_needless_14 ⟨by decide, ?_⟩))
          rw [ot 322 (by decide)]
          refine ⟨rng (by omega) (by omega), rng (by omega) (by omega), fun z => absurd z (by omega), fun _ => ?_⟩
          refine m_wrongBut (d := d2 + 9) I ot (Or.inr ⟨i0, by omega⟩) (fun y τ' o h w' b' => ?_) (fun τ' o h b' => ?_)
          · rw [if_neg (by omega)] at h
            have := forth y h.1 h.2
            exact absurd w' (hbw _ this.1 this.2.1 this.2.2)
          · exact ⟨⟨by decide, by decide⟩, fun u => absurd rfl u, fun _ => kk d2 Q2 k2 τ' o⟩
    have start : (1 : Int) + (σ 322 4 - 2).toNat = σ 322 4 - 1 ∨ (σ 322 4 = 1 ∧ (σ 322 4 - 2).toNat = 0 ∧ (1 : Int) = 1) := by omega
    refine loop (σ 322 4 - 2).toNat 1 0 (by omega) start in0 (fun r hr kk => k r σ (fun d2 Q2 k2 => c_X12_needless (m_wrong (d := d2 + 8) I (fun _ _ => rfl) (fun j τ' o h w b => absurd w (hb j h.1 h.2 (by omega))) (fun τ' o h b => ⟨⟨by decide, by decide⟩, fun _ => ?_, fun z => absurd rfl z⟩))))
    exact kk d2 Q2 (fun σ2 o2 => k2 _ _ ⟨rfl, hr, I0_line I o2⟩) τ' o
theorem a_star (d : Nat) (I : I0 L σ) {Q : Int → jM → Prop} (k : ∀ r σ1, (r = 0 ∨ r = 1) → (∀ (d2 : Nat) Q2, (∀ r' σ2, Same L σ r r' σ2 → Q2 r' σ2) → Ct mX12_star (d2 + 11) 0 t [rv 321] σ1 Q2) → Q r σ1) : Ct mX11_star (d + 11) 0 t [rv 1] σ Q := by
  obtain ⟨c1, c2, c3, c4⟩ := told_C I
  refine c_X11_star (h_wrongWithout (d := d + 9) (Or.inl rfl) c1 c2 c3 (fun i i0 i1 _ hw hb => ⟨rng (by omega) (by omega), fun _ => ?_, fun z => absurd z (by omega)⟩) (fun hb => ⟨⟨by decide, by decide⟩, fun z => absurd rfl z, fun _ => ?_⟩))
  · exact k _ σ (Or.inl rfl) (fun d2 Q2 k2 => c_X12_star (m_wrong (d := d2 + 8) I (fun _ _ => rfl) (fun j τ' o h w b => ⟨rng (by omega) (by omega), fun z => absurd z (by omega), fun _ => k2 _ _ ⟨rfl, in0, I0_line I o⟩⟩) (fun τ' o h b => absurd hw (b i i0 i1))))
  · refine c_X9_goesByTheLast okl_129 ?_
    have loop : ∀ (j : Nat) (i : Int), 1 ≤ i → i + j = σ 322 4 → (∀ r, (r = 0 ∨ r = 1) → (∀ (d2 : Nat) Q2 τ, (∀ x, x ≠ 331 → τ x = σ x) → (∀ j, 0 ≤ j → j < σ 322 4 → τ 331 j = σ 130 j) → Q2 r τ → Jt mX12_star (d2 + 11) 0 t Q2 12 [rv 321, iv i] [] τ) → (inR r ∧ ((r = 0 → Q 0 σ) ∧ (¬ r = 0 → Q 1 σ)))) → Jt mX9_goesByTheLast (d + 9 + 1) 0 t (fun r3 σ3 => ((inR r3) ∧ ((r3 = 0 → (Q 0 σ3)) ∧ (¬ r3 = 0 → (Q 1 σ3))))) 2 [rv 129, iv i] [] σ := by
      intro j
      induction j with
      | zero =>
        intro i i0 hi k1
        refine b_X9_goesByTheLast_2 okl_129 ?_
        rw [c1]
        refine ⟨rng (by omega) (by omega), rng (by omega) (by omega), fun _ => k1 1 (Or.inr rfl) (fun d2 Q2 τ ot hl q => b_X12_star_12 ⟨by decide, ?_⟩), fun z => absurd z (by omega)⟩
        rw [ot 322 (by decide)]
        exact ⟨rng (by omega) (by omega), rng (by omega) (by omega), fun _ => q, fun z => absurd z (by omega)⟩
      | succ j ih =>
        intro i i0 hi k1
        have g1 := c3 i (by omega) (by omega)
        have g2 := c3 (i - 1) (by omega) (by omega)
        have sm : ∀ τ : jM, (∀ j, 0 ≤ j → j < σ 322 4 → τ 331 j = σ 130 j) → smallR (τ 331) i := fun τ hl x x0 x1 => by rw [hl x x0 (by omega)]; exact c3 x x0 (by omega)
        refine b_X9_goesByTheLast_2 okl_129 ?_
        rw [c1]
        refine ⟨rng (by omega) (by omega), rng (by omega) (by omega), fun z => absurd z (by omega), fun z => ⟨⟨by omega, by omega⟩, ⟨by omega, by omega⟩, ?_⟩⟩
        refine h_stands (n := σ 322 4) (rng (by show _ ≤ σ 130 i - σ 130 (i - 1); omega) (by show σ 130 i - σ 130 (i - 1) < _; omega)) ⟨by omega, by omega⟩ c2.2 c3 (fun ex => ⟨⟨by decide, by decide⟩, fun _ => ?_, fun u => absurd u (by decide)⟩) (fun ex => ⟨in0, fun u => absurd rfl u, fun _ => ?_⟩)
        · refine ih (i + 1) (by omega) (by omega) (fun r hr kk => k1 r hr (fun d2 Q2 τ ot hl q => b_X12_star_12 ⟨by decide, ?_⟩))
          rw [ot 322 (by decide), hl i (by omega) (by omega), hl (i - 1) (by omega) (by omega)]
          refine ⟨rng (by omega) (by omega), rng (by omega) (by omega), fun z => absurd z (by omega), fun _ => ⟨by omega, by omega, ?_⟩⟩
          refine m_isThere (rng (by omega) (by omega)) (by omega) (sm τ hl) (fun _ => ⟨⟨by decide, by decide⟩, fun _ => kk d2 Q2 τ ot hl q, fun u => absurd u (by decide)⟩) (fun nx => absurd ?_ nx)
          obtain ⟨a, a0, a1, ea⟩ := ex
          exact ⟨a, a0, a1, by rw [hl a a0 (by omega)]; exact ea⟩
        · refine k1 0 (Or.inl rfl) (fun d2 Q2 τ ot hl q => b_X12_star_12 ⟨by decide, ?_⟩)
          rw [ot 322 (by decide), hl i (by omega) (by omega), hl (i - 1) (by omega) (by omega)]
          refine ⟨rng (by omega) (by omega), rng (by omega) (by omega), fun z => absurd z (by omega), fun _ => ⟨by omega, by omega, ?_⟩⟩
          refine m_isThere (rng (by omega) (by omega)) (by omega) (sm τ hl) (fun nx => absurd ?_ ex) (fun _ => ⟨in0, fun u => absurd rfl u, fun _ => q⟩)
          obtain ⟨a, a0, a1, ea⟩ := nx
          exact ⟨a, a0, a1, by rw [← hl a a0 (by omega)]; exact ea⟩
    refine loop (σ 322 4 - 1).toNat 1 (by omega) (by omega) (fun r hr kk => ?_)
    have key : ∀ r', r' = r → Q r' σ := fun r' er => by
      subst er
      exact k r' σ hr (fun d2 Q2 k2 => c_X12_star (m_wrong (d := d2 + 8) I (fun _ _ => rfl) (fun j τ' o h w b => absurd w (hb j h.1 h.2 (by omega))) (fun τ' o h b => ⟨⟨by decide, by decide⟩, fun _ => kk d2 Q2 τ' o h (k2 _ _ ⟨rfl, rng (by omega) (by omega), I0_line I o⟩), fun z => absurd rfl z⟩)))
    exact ⟨rng (by omega) (by omega), fun z => key 0 z.symm, fun z => key 1 (by omega)⟩
theorem a_steps {p : Int} (d : Nat) (I : I0 L σ) (hp : p = 0 ∨ p = 1) {Q : Int → jM → Prop} (k : ∀ r σ1, (∀ (d2 : Nat) Q2, (∀ r' σ2, Same L σ r r' σ2 → Q2 r' σ2) → Ct mX12_steps (d2 + 11) 0 t [rv 321, iv p] σ1 Q2) → Q r σ1) : Ct mX11_steps (d + 11) 0 t [rv 1, iv p] σ Q := by
  obtain ⟨c1, c2, c3, c4⟩ := told_C I
  have hpR : inR p := rng (by omega) (by omega)
  refine c_X11_steps (h_wrongWithout (d := d + 9) (Or.inl rfl) c1 c2 c3 (fun i i0 i1 _ hw hb => ⟨rng (by omega) (by omega), fun z => absurd z (by omega), fun _ => ?_⟩) (fun hb => ⟨⟨by decide, by decide⟩, fun _ => ?_, fun z => absurd rfl z⟩))
  · exact k _ σ (fun d2 Q2 k2 => c_X12_steps (m_wrong (d := d2 + 8) I (fun _ _ => rfl) (fun j τ' o h w b => ⟨rng (by omega) (by omega), fun z => absurd z (by omega), fun _ => k2 _ _ ⟨rfl, ⟨by decide, by decide⟩, I0_line I o⟩⟩) (fun τ' o h b => absurd hw (b i i0 i1))))
  · refine c_X9_doublings okl_129 ?_
    -- n: the class's count; w: the reference's count of what is asked for
    have loop : ∀ (j : Nat) (i n w : Int), 1 ≤ i → i + j = σ 322 4 → (0 ≤ n ∧ n ≤ i - 1) → (w = if p = 0 then i - 1 - n else n) → (∀ r, (0 ≤ r ∧ r ≤ σ 322 4 - 1) → (∀ (d2 : Nat) Q2 τ, (∀ x, x ≠ 331 → τ x = σ x) → (∀ j, 0 ≤ j → j < σ 322 4 → τ 331 j = σ 130 j) → Q2 (if p = 0 then σ 322 4 - 1 - r else r) τ → Jt mX12_steps (d2 + 11) 0 t Q2 14 [rv 321, iv p, iv w, iv i] [] τ) → ((inR p) ∧ ((p = 0 → (Q (((σ 129 1) - 1) - r) σ)) ∧ (¬ p = 0 → (Q r σ))))) → Jt mX9_doublings (d + 9 + 1) 0 t (fun r3 σ3 => ((inR p) ∧ ((p = 0 → (Q (((σ3 129 1) - 1) - r3) σ3)) ∧ (¬ p = 0 → (Q r3 σ3))))) 4 [rv 129, iv n, iv i] [] σ := by
      intro j
      induction j with
      | zero =>
        intro i n w i0 hi hn hw k1
        refine b_X9_doublings_4 okl_129 ?_
        rw [c1]
        refine ⟨rng (by omega) (by omega), rng (by omega) (by omega), fun _ => ?_, fun z => absurd z (by omega)⟩
        have := k1 n (by omega) (fun d2 Q2 τ ot hl q => b_X12_steps_14 ⟨by decide, by
          rw [ot 322 (by decide)]
          refine ⟨rng (by omega) (by omega), rng (by omega) (by omega), fun _ => ?_, fun z => absurd z (by omega)⟩
          rw [hw, show i - 1 - n = σ 322 4 - 1 - n by omega]
          exact q⟩)
        rw [c1] at this
        exact this
      | succ j ih =>
        intro i n w i0 hi hn hw k1
        have g1 := c3 i (by omega) (by omega)
        have sm : ∀ τ : jM, (∀ j, 0 ≤ j → j < σ 322 4 → τ 331 j = σ 130 j) → smallR (τ 331) i := fun τ hl x x0 x1 => by rw [hl x x0 (by omega)]; exact c3 x x0 (by omega)
        -- the reference's step, told by whether it is a doubling
        have mstep : ∀ (d2 : Nat) Q2 (τ : jM), (∀ x, x ≠ 331 → τ x = σ x) → (∀ j, 0 ≤ j → j < σ 322 4 → τ 331 j = σ 130 j) → ((σ 130 i % 2 = 0 ∧ ∃ a, 0 ≤ a ∧ a < i ∧ σ 130 a = σ 130 i / 2) → Jt mX12_steps (d2 + 11) 0 t Q2 14 [rv 321, iv p, iv (if p = 1 then w + 1 else w), iv (i + 1)] [] τ) → (¬ (σ 130 i % 2 = 0 ∧ ∃ a, 0 ≤ a ∧ a < i ∧ σ 130 a = σ 130 i / 2) → Jt mX12_steps (d2 + 11) 0 t Q2 14 [rv 321, iv p, iv (if p = 0 then w + 1 else w), iv (i + 1)] [] τ) → Jt mX12_steps (d2 + 11) 0 t Q2 14 [rv 321, iv p, iv w, iv i] [] τ := by
          intro d2 Q2 τ ot hl y n'
          refine b_X12_steps_14 ⟨by decide, ?_⟩
          rw [ot 322 (by decide), hl i (by omega) (by omega), tm g1.1, td g1.1]
          have noc : (¬ (σ 130 i % 2 = 0 ∧ ∃ a, 0 ≤ a ∧ a < i ∧ σ 130 a = σ 130 i / 2)) → (¬ (0 : Int) = p → Jt mX12_steps (d2 + 11) 0 t Q2 14 [rv 321, iv p, iv (w + 0), iv (i + 1)] [] τ) ∧ ((0 : Int) = p → Jt mX12_steps (d2 + 11) 0 t Q2 14 [rv 321, iv p, iv (w + 1), iv (i + 1)] [] τ) := by
            intro hno
            have := n' hno
            refine ⟨fun u => ?_, fun u => ?_⟩
            · rw [if_neg (fun q => u q.symm)] at this
              rw [Int.add_zero]; exact this
            · rw [if_pos u.symm] at this; exact this
          refine ⟨rng (by omega) (by omega), rng (by omega) (by omega), fun z => absurd z (by omega), fun _ => ⟨by omega, rng (by omega) (by omega), rng (by omega) (by omega), fun u => ⟨hpR, noc (fun q => u q.1)⟩, fun u => ⟨by omega, rng (by omega) (by omega), ?_⟩⟩⟩
          refine m_isThere (rng (by omega) (by omega)) (by omega) (sm τ hl) (fun ex => ⟨⟨by decide, by decide⟩, fun q => absurd q (by decide), fun _ => ⟨hpR, ?_⟩⟩) (fun ex => ⟨in0, fun _ => ⟨hpR, noc (fun q => ex ?_)⟩, fun q => absurd rfl q⟩)
          · obtain ⟨a, a0, a1, ea⟩ := ex
            have := y ⟨u, a, a0, a1, by rw [← hl a a0 (by omega)]; exact ea⟩
            refine ⟨fun v => ?_, fun v => ?_⟩
            · rw [if_neg (fun q => v q.symm)] at this
              rw [Int.add_zero]; exact this
            · rw [if_pos v.symm] at this; exact this
          · obtain ⟨_, a, a0, a1, ea⟩ := q
            exact ⟨a, a0, a1, by rw [hl a a0 (by omega)]; exact ea⟩
        have no' : ¬ (σ 130 i % 2 = 0 ∧ ∃ a, 0 ≤ a ∧ a < i ∧ σ 130 a = σ 130 i / 2) → Jt mX9_doublings (d + 9 + 1) 0 t (fun r3 σ3 => ((inR p) ∧ ((p = 0 → (Q (((σ3 129 1) - 1) - r3) σ3)) ∧ (¬ p = 0 → (Q r3 σ3))))) 4 [rv 129, iv n, iv (i + 1)] [] σ := fun hno =>
          ih (i + 1) n (if p = 0 then w + 1 else w) (by omega) (by omega) (by omega) (by rw [hw]; split <;> omega) (fun r hr kk => k1 r hr (fun d2 Q2 τ ot hl q => mstep d2 Q2 τ ot hl (fun y => absurd y hno) (fun _ => kk d2 Q2 τ ot hl q)))
        refine b_X9_doublings_4 okl_129 ?_
        rw [c1]
        show _ ∧ _
        rw [show σ (129 + 1) = σ 130 from rfl, tm g1.1, td g1.1]
        refine ⟨rng (by omega) (by omega), rng (by omega) (by omega), fun z => absurd z (by omega), fun z => ⟨⟨by omega, by omega⟩, rng (by omega) (by omega), rng (by omega) (by omega), fun u => no' (fun q => u q.1), fun u => ⟨⟨by omega, by omega⟩, rng (by omega) (by omega), ?_⟩⟩⟩
        refine h_stands (n := σ 322 4) (rng (by omega) (by omega)) ⟨by omega, by omega⟩ c2.2 c3 (fun ex => ⟨⟨by decide, by decide⟩, fun q => absurd q (by decide), fun _ => ?_⟩) (fun ex => ⟨in0, fun _ => no' (fun q => ex q.2), fun q => absurd rfl q⟩)
        exact ih (i + 1) (n + 1) (if p = 1 then w + 1 else w) (by omega) (by omega) (by omega) (by rw [hw]; rcases hp with rfl | rfl <;> simp <;> omega) (fun r hr kk => k1 r hr (fun d2 Q2 τ ot hl q => mstep d2 Q2 τ ot hl (fun _ => kk d2 Q2 τ ot hl q) (fun y => absurd ⟨u, ex⟩ y)))
    refine loop (σ 322 4 - 1).toNat 1 0 0 (by omega) (by omega) (by omega) (by split <;> omega) (fun r hr kk => ?_)
    have key : ∀ r', r' = (if p = 0 then σ 322 4 - 1 - r else r) → Q r' σ := fun r' er => by
      refine k r' σ (fun d2 Q2 k2 => c_X12_steps (m_wrong (d := d2 + 8) I (fun _ _ => rfl) (fun j τ' o h w b => absurd w (hb j h.1 h.2 (by omega))) (fun τ' o h b => ⟨⟨by decide, by decide⟩, fun _ => kk d2 Q2 τ' o h (k2 _ _ ⟨er.symm, ?_, I0_line I o⟩), fun z => absurd rfl z⟩)))
      rw [er]
      split <;> exact rng (by omega) (by omega)
    refine ⟨hpR, fun z => key _ (by rw [if_pos z, c1]), fun z => key _ (by rw [if_neg z])⟩
end TQ
