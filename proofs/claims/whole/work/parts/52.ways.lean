/-! ===== how many shortest chains: the class's tally ===== -/
theorem sumO_congr {p q : Int → Int} : ∀ (c : Nat) (v : Int), (∀ x, v ≤ x → x < v + c → p x = q x) → sumO p c v = sumO q c v
  | 0, _, _ => rfl
  | c + 1, v, h => by
    rw [sumO, sumO, h v (by omega) (by omega), sumO_congr c (v + 1) (fun x a b => h x (by omega) (by omega))]
theorem sumO_add {p q : Int → Int} : ∀ (c : Nat) (v : Int), sumO (fun x => p x + q x) c v = sumO p c v + sumO q c v
  | 0, _ => rfl
  | c + 1, v => by
    rw [sumO, sumO, sumO, sumO_add c (v + 1)]
    omega
theorem sumO_pt {a c : Int} : ∀ (n : Nat) (v : Int), sumO (fun x => if x = a then c else 0) n v = if v ≤ a ∧ a < v + n then c else 0
  | 0, v => by rw [sumO, if_neg (by omega)]
  | n + 1, v => by
    rw [sumO, sumO_pt n (v + 1)]
    by_cases h : v = a
    · rw [if_pos h, if_neg (by omega), if_pos (by omega)]
      omega
    · rw [if_neg h]
      by_cases h2 : v + 1 ≤ a ∧ a < v + 1 + n
      · rw [if_pos h2, if_pos (by omega)]; omega
      · rw [if_neg h2, if_neg (by omega)]; omega
theorem sumO_swap {p : Int → Int → Int} {m : Nat} {w : Int} : ∀ (c : Nat) (v : Int), sumO (fun x => sumO (fun i => p x i) m w) c v = sumO (fun i => sumO (fun x => p x i) c v) m w
  | 0, v => by
    rw [sumO]
    exact (sumO_zero m w (fun x _ _ => by rw [sumO])).symm
  | c + 1, v => by
    rw [sumO, sumO_swap c (v + 1), ← sumO_add]
    exact sumO_congr m w (fun i _ _ => by rw [sumO])
def p120 : Nat → Int
  | 0 => 1
  | l + 1 => 120 * p120 l
theorem p120_pos : ∀ l, 1 ≤ p120 l
  | 0 => by rw [p120]; omega
  | l + 1 => by have := p120_pos l; rw [p120]; omega
theorem sumO_bd {p : Int → Int} {B : Int} (h : ∀ x, 0 ≤ p x ∧ p x ≤ B) (hB : 0 ≤ B) : ∀ (c : Nat) (v : Int), 0 ≤ sumO p c v ∧ sumO p c v ≤ c * B
  | 0, v => by rw [sumO]; omega
  | c + 1, v => by
    have a := sumO_bd h hB c (v + 1)
    have b := h v
    rw [sumO]
    have e : ((c + 1 : Nat) : Int) * B = c * B + B := by rw [show ((c + 1 : Nat) : Int) = (c : Int) + 1 by omega, Int.add_mul, Int.one_mul]
    omega
theorem sumO_bd' {p : Int → Int} {B : Int} (hB : 0 ≤ B) : ∀ (c : Nat) (v : Int), (∀ x, v ≤ x → x < v + c → 0 ≤ p x ∧ p x ≤ B) → 0 ≤ sumO p c v ∧ sumO p c v ≤ c * B
  | 0, v, _ => by rw [sumO]; omega
  | c + 1, v, h => by
    have a := sumO_bd' hB c (v + 1) (fun x x0 x1 => h x (by omega) (by omega))
    have b := h v (by omega) (by omega)
    rw [sumO]
    have e : ((c + 1 : Nat) : Int) * B = c * B + B := by rw [show ((c + 1 : Nat) : Int) = (c : Int) + 1 by omega, Int.add_mul, Int.one_mul]
    omega
theorem NN_bd {n : Int} (hn : n ≤ 120) : ∀ (l : Nat) {f : Int → Int} {k : Nat}, 0 ≤ f k → 0 ≤ NN n l f k ∧ NN n l f k ≤ p120 l
  | 0, f, k, _ => by rw [NN, p120]; split <;> omega
  | l + 1, f, k, h0 => by
    have pl := p120_pos l
    rw [NN, p120]
    have := sumO_bd' (p := fun v => if sumB f (k + 1) v then NN n l (wr f ((k : Int) + 1) v) (k + 1) else 0) (B := p120 l) (by omega) (n - f k).toNat (f k + 1) (fun v v0 v1 => by
      by_cases hs : sumB f (k + 1) v = true
      · simp only [hs, if_true]
        exact NN_bd hn l (by show 0 ≤ wr f ((k : Int) + 1) v ((k + 1 : Nat) : Int); rw [wr_eq (by omega)]; omega)
      · simp only [hs]
        exact ⟨Int.le_refl 0, by show (0 : Int) ≤ _; omega⟩)
    have c1 : (((n - f k).toNat : Nat) : Int) * p120 l ≤ 120 * p120 l := Int.mul_le_mul_of_nonneg_right (by omega) (by omega)
    omega
theorem p120_9 : ∀ l : Fin 10, p120 l.val ≤ 5159780352000000000 := by decide +kernel
/-- the last two of a shortest chain -/
def EN (n : Int) (f : Int → Int) (k : Nat) : Int := (if n % 2 = 0 ∧ f k < n / 2 ∧ sumB f (k + 1) (n / 2) = true then 1 else 0) + sumO (fun i => if f k < n - f i ∧ sumB f (k + 1) (n - f i) = true then 1 else 0) (k + 1) 0
theorem NN_1 {n : Int} {f : Int → Int} {k : Nat} : NN n 1 f k = if f k < n ∧ sumB f (k + 1) n = true then 1 else 0 := by
  rw [NN]
  have e : ∀ v, (if sumB f (k + 1) v = true then NN n 0 (wr f ((k : Int) + 1) v) (k + 1) else 0) = if v = n then (if sumB f (k + 1) n = true then (1 : Int) else 0) else 0 := fun v => by
    rw [NN, show wr f ((k : Int) + 1) v ((k + 1 : Nat) : Int) = v from wr_eq (by omega)]
    by_cases ev : v = n
    · subst ev
      simp
    · simp [ev]
  rw [sumO_congr _ _ (fun x _ _ => e x), sumO_pt]
  by_cases h : f k < n
  · rw [if_pos (by omega)]
    simp [h]
  · rw [if_neg (by omega), if_neg (fun q => h q.1)]
theorem NN_2 {n : Int} {f : Int → Int} {k : Nat} (p : Pre f k) (hn : ¬ SumP f ((k : Int) + 1) n) : NN n 2 f k = EN n f k := by
  have f0 : ∀ i, 0 ≤ i → i ≤ (k : Int) → 1 ≤ f i := fun i a b => by have := Pre_pos p a b; omega
  have e : ∀ v, f k + 1 ≤ v → v < f k + 1 + ((n - f k).toNat : Nat) → (if sumB f (k + 1) v = true then NN n 1 (wr f ((k : Int) + 1) v) (k + 1) else 0) = (if v + v = n then (if sumB f (k + 1) v = true then (1 : Int) else 0) else 0) + sumO (fun i => if v = n - f i then (if sumB f (k + 1) v = true then (1 : Int) else 0) else 0) (k + 1) 0 := by
    intro v v0 v1
    have fk := f0 k (by omega) (by omega)
    by_cases hs : sumB f (k + 1) v = true
    · simp only [hs, if_true]
      rw [NN_1, show wr f ((k : Int) + 1) v ((k + 1 : Nat) : Int) = v from wr_eq (by omega)]
      have hvn : v < n := by
        rcases Int.lt_or_le v n with q | q
        · exact q
        · have : v = n := by omega
          subst this
          exact absurd (sumB_iff.mp hs) hn
      have key : sumB (wr f ((k : Int) + 1) v) (k + 1 + 1) n = true ↔ (v + v = n ∨ ∃ i, 0 ≤ i ∧ i ≤ (k : Int) ∧ v = n - f i) := by
        rw [sumB_iff]
        constructor
        · rintro ⟨a, b, b0, ba, ak, e⟩
          by_cases ea : a = (k : Int) + 1
          · rw [wr_eq ea] at e
            by_cases eb : b = (k : Int) + 1
            · rw [wr_eq eb] at e; exact Or.inl e
            · rw [wr_ne eb] at e; exact Or.inr ⟨b, b0, by omega, by omega⟩
          · rw [wr_ne ea, wr_ne (by omega)] at e
            exact absurd ⟨a, b, b0, ba, by omega, e⟩ hn
        · rintro (q | ⟨i, i0, i1, q⟩)
          · exact ⟨(k : Int) + 1, (k : Int) + 1, by omega, by omega, by omega, by rw [wr_at]; exact q⟩
          · exact ⟨(k : Int) + 1, i, i0, by omega, by omega, by rw [wr_at, wr_ne (by omega)]; omega⟩
      by_cases h2 : v + v = n
      · rw [if_pos ⟨hvn, key.mpr (Or.inl h2)⟩, if_pos h2, sumO_zero]
        · rfl
        · intro i i0 i1
          have := Pre_leq p (i := i) (j := (k : Int)) i0 (by omega) (by omega)
          rw [if_neg (by omega)]
      · rw [if_neg h2]
        by_cases h3 : ∃ i, 0 ≤ i ∧ i ≤ (k : Int) ∧ v = n - f i
        · rw [if_pos ⟨hvn, key.mpr (Or.inr h3)⟩]
          obtain ⟨j, j0, j1, ej⟩ := h3
          rw [sumO_congr (q := fun i => if i = j then (1 : Int) else 0) _ _ (fun i i0 i1 => ?_), sumO_pt, if_pos (by omega)]
          · rfl
          · by_cases ij : i = j
            · rw [if_pos ij, ij, if_pos ej]
            · rw [if_neg ij, if_neg (fun q => ?_)]
              rcases Int.lt_or_le i j with w | w
              · have := Pre_lt p i0 w j1; omega
              · have := Pre_lt p j0 (show j < i by omega) (by omega); omega
        · rw [if_neg (fun q => (key.mp q.2).elim h2 h3), sumO_zero]
          · rfl
          · intro i i0 i1
            rw [if_neg (fun q => h3 ⟨i, i0, by omega, q⟩)]
    · have hs' : sumB f (k + 1) v = false := by simpa using hs
      simp only [hs']
      rw [sumO_zero]
      · simp
      · intro i _ _; simp
  rw [NN, sumO_congr _ _ e, sumO_add, sumO_swap]
  unfold EN
  have fk := f0 k (by omega) (by omega)
  congr 1
  · by_cases hp : n % 2 = 0
    · rw [sumO_congr (q := fun x => if x = n / 2 then (if sumB f (k + 1) (n / 2) = true then (1 : Int) else 0) else 0) _ _ (fun x _ _ => ?_), sumO_pt]
      · by_cases h : f k < n / 2
        · rw [if_pos (by omega)]
          simp [hp, h]
        · rw [if_neg (by omega), if_neg (fun q => h q.2.1)]
      · by_cases hx : x = n / 2
        · subst hx
          rw [if_pos (by omega), if_pos rfl]
        · rw [if_neg (by omega), if_neg hx]
    · rw [if_neg (fun q => hp q.1)]
      exact sumO_zero _ _ (fun x _ _ => by rw [if_neg (by omega)])
  · refine sumO_congr _ _ (fun i i0 i1 => ?_)
    have fi := f0 i i0 (by omega)
    rw [sumO_congr (q := fun x => if x = n - f i then (if sumB f (k + 1) (n - f i) = true then (1 : Int) else 0) else 0) _ _ (fun x _ _ => ?_), sumO_pt]
    · by_cases h : f k < n - f i
      · rw [if_pos (by omega)]
        simp [h]
      · rw [if_neg (by omega), if_neg (fun q => h q.1)]
    · by_cases hx : x = n - f i
      · rw [if_pos hx, if_pos hx, hx]
      · rw [if_neg hx, if_neg hx]
section WY
variable {t : Int}
theorem q_endings {d : Nat} {Q : Int → jM → Prop} {σ : jM} {n : Int} {f : Int → Int} {k : Nat} (hk : k < 24) (hn : 1 ≤ n ∧ n ≤ 120) (sc : SetC σ f k) (p : Pre f k) (hf : f k ≤ n) (kk : Q (EN n f k) σ) : Ct mX0_endings (d + 1) 1 t [rv 275, iv (k : Int), iv n] σ Q := by
  have f1' : ∀ i, 0 ≤ i → i ≤ (k : Int) → (σ 276 i = f i ∧ 1 ≤ f i ∧ f i ≤ n) := fun i a b => by
    have x := Pre_pos p a b
    have y := Pre_leq p a b (by omega)
    exact ⟨(sc i a b).1, by omega, by omega⟩
  have fk := f1' k (by omega) (by omega)
  have loop : ∀ (c : Nat) (i acc : Int), 0 ≤ i → i + c = (k : Int) + 1 → Q (acc + sumO (fun i => if f k < n - f i ∧ sumB f (k + 1) (n - f i) = true then 1 else 0) c i) σ → Jt mX0_endings (d + 1) 1 t Q 38 [rv 275, iv (k : Int), iv n, jv acc, uv, iv i] [] σ := by
    intro c
    induction c with
    | zero =>
      intro i acc i0 hi q
      rw [sumO, Int.add_zero] at q
      exact b_X0_endings_38 ⟨rng (by omega) (by omega), rng (by omega) (by omega), fun _ => q, fun z => absurd z (by omega)⟩
    | succ c ih =>
      intro i acc i0 hi q
      have fi := f1' i i0 (by omega)
      rw [sumO] at q
      refine b_X0_endings_38 ⟨rng (by omega) (by omega), rng (by omega) (by omega), fun z => absurd z (by omega), fun _ => ⟨by omega, by omega, ?_⟩⟩
      rw [fi.1, fk.1]
      refine ⟨rng (by omega) (by omega), rng (by omega) (by omega), fun z => ?_, fun z => ⟨by omega, ?_⟩⟩
      · rw [if_neg (fun w => by omega), Int.zero_add] at q
        exact ih (i + 1) acc (by omega) (by omega) q
      · refine q_isSum (f := f) (by omega) sc (by omega) (fun s => ⟨⟨by decide, by decide⟩, fun w => absurd w (by decide), fun _ => ?_⟩) (fun s => ⟨in0, fun _ => ?_, fun w => absurd rfl w⟩)
        · rw [if_pos ⟨z, sumB_iff.mpr s⟩] at q
          exact ih (i + 1) (acc + 1) (by omega) (by omega) (by rw [Int.add_assoc]; exact q)
        · rw [if_neg (fun w => s (sumB_iff.mp w.2)), Int.zero_add] at q
          exact ih (i + 1) acc (by omega) (by omega) q
  unfold EN at kk
  refine c_X0_endings ?_
  rw [tm (by omega), td (by omega)]
  refine ⟨rng (by omega) (by omega), rng (by omega) (by omega), fun z => ?_, fun z => ⟨rng (by omega) (by omega), by omega, rng (by omega) (by omega), ?_⟩⟩
  · rw [if_neg (fun w => z w.1)] at kk
    exact loop (k + 1) 0 0 (by omega) (by omega) kk
  · rw [fk.1]
    refine ⟨rng (by omega) (by omega), fun y => ?_, fun y => ⟨rng (by omega) (by omega), ?_⟩⟩
    · rw [if_neg (fun w => by omega)] at kk
      exact loop (k + 1) 0 0 (by omega) (by omega) kk
    · refine q_isSum (f := f) (by omega) sc (by omega) (fun s => ⟨⟨by decide, by decide⟩, fun w => absurd w (by decide), fun _ => ?_⟩) (fun s => ⟨in0, fun _ => ?_, fun w => absurd rfl w⟩)
      · rw [if_pos ⟨z, y, sumB_iff.mpr s⟩] at kk
        exact loop (k + 1) 0 1 (by omega) (by omega) kk
      · rw [if_neg (fun w => s (sumB_iff.mp w.2.2))] at kk
        exact loop (k + 1) 0 0 (by omega) (by omega) kk
theorem q_tally {n : Int} {J : Nat} (hJ : J < 24) (hn : 1 ≤ n ∧ n ≤ 120) (hNS : ∀ g, 1 ≤ J → Pre g ((J : Int) - 1) → g ((J : Int) - 1) = n → False) : ∀ (l : Nat) {d : Nat} {Q : Int → jM → Prop} {σ : jM} {f : Int → Int} {k : Nat}, σ 275 6 = J → k + (l + 2) = J → Pre f k → SetC σ f k → f k < n → (∀ σ', offQ k σ σ' → Q (NN n (l + 2) f k) σ') → Ct mX0_tally (d + l + 3) 1 t [rv 275, iv (k : Int), iv n] σ Q := by
  intro l
  induction l with
  | zero =>
    intro d Q σ f k h6 hkl p sc fn kk
    refine c_X0_tally ?_
    rw [h6]
    refine ⟨rng (by omega) (by omega), fun z => absurd z (by omega), fun _ => ?_⟩
    refine q_endings (d := d + 1) (by omega) hn sc p (by omega) ?_
    rw [← NN_2 p (fun s => hNS (wr f ((k : Int) + 1) n) (by omega) (by rw [show (J : Int) - 1 = (k : Int) + 1 by omega]; exact Pre_wr (by omega) p fn s) (by rw [show (J : Int) - 1 = (k : Int) + 1 by omega, wr_at]))]
    exact kk σ offQ_rf
  | succ l ih =>
    intro d Q σ f k h6 hkl p sc fn kk
    have f1' := Pre_pos p (i := (k : Int)) (by omega) (by omega)
    refine c_X0_tally ?_
    rw [h6, show σ 276 (k : Int) = f k from (sc k (by omega) (by omega)).1, show (J : Int) - (k : Int) = ((l + 2 : Nat) : Int) + 1 by omega]
    refine ⟨rng (by omega) (by omega), fun _ => ⟨by omega, ?_⟩, fun z => absurd z (by omega)⟩
    refine q_leastNext (d := d + l + 2) hn (by omega) (fun r hr hg => ⟨rng (by omega) (by omega), rng (by omega) (by omega), ?_⟩)
    obtain ⟨pv, hpv⟩ : ∃ pv : Int → Int, pv = fun v => if sumB f (k + 1) v then NN n (l + 2) (wr f ((k : Int) + 1) v) (k + 1) else 0 := ⟨_, rfl⟩
    have hR : NN n (l + 1 + 2) f k = sumO pv (n - f k).toNat (f k + 1) := by rw [show l + 1 + 2 = (l + 2) + 1 by omega, NN, hpv]
    have pv_no : ∀ v, ¬ SumP f ((k : Int) + 1) v → pv v = 0 := fun v hs => by
      rw [hpv]
      have : sumB f (k + 1) v = false := by
        cases e : sumB f (k + 1) v with
        | false => rfl
        | true => exact absurd (sumB_iff.mp e) hs
      simp only [this]
      rfl
    have pv_yes : ∀ v, SumP f ((k : Int) + 1) v → pv v = NN n (l + 2) (wr f ((k : Int) + 1) v) (k + 1) := fun v hs => by
      rw [hpv]
      have : sumB f (k + 1) v = true := sumB_iff.mpr hs
      simp only [this]
      rfl
    have low_no : ∀ x, f k + 1 ≤ x → x < max (f k + 1) r → pv x = 0 := fun x x0 x1 => by
      by_cases hs : SumP f ((k : Int) + 1) x
      · rw [pv_yes x hs]
        refine NN_not (l + 2) (Pre_wr (by omega) p (by omega) hs) (fun g a b c => ?_)
        have gk : g ((k : Int) + 1) = x := by rw [← c ((k : Int) + 1) (by omega) (by omega), wr_at]
        have := growthL_ok (n := n) (g := g) (k := (k : Int) + 1) (l := l + 2) (by omega) (by rw [show (k : Int) + 1 + ((l + 2 : Nat) : Int) = ((k + 1 + (l + 2) : Nat) : Int) by omega]; exact a) (by rw [show (k : Int) + 1 + ((l + 2 : Nat) : Int) = ((k + 1 + (l + 2) : Nat) : Int) by omega]; exact b)
        rw [gk] at this
        have := hg x (by omega)
        omega
      · exact pv_no x hs
    have pv_n : pv n = 0 := by
      by_cases hs : SumP f ((k : Int) + 1) n
      · rw [pv_yes n hs, show l + 2 = (l + 1) + 1 by omega, NN, show wr f ((k : Int) + 1) n ((k + 1 : Nat) : Int) = n from wr_eq (by omega), show (n - n).toNat = 0 by omega]
        rfl
      · exact pv_no n hs
    -- on to the next sum
    have skip : ∀ w r', f k + 1 ≤ w → w ≤ n + 1 → NextS f k w r' → sumO pv (n + 1 - w).toNat w = sumO pv (n + 1 - r').toNat r' := by
      intro w r' w0 w1 hv
      rcases hv with ⟨a1, a2, a3, a4⟩ | ⟨a1, a2⟩
      · rcases Int.lt_or_le (n + 1) r' with q | q
        · rw [show (n + 1 - r').toNat = 0 by omega, sumO_zero]
          · rfl
          · exact fun x x0 x1 => pv_no x (a4 x x0 (by omega))
        · rw [show (n + 1 - w).toNat = (r' - w).toNat + (n + 1 - r').toNat by omega, sumO_skip _ _ _ (fun x x0 x1 => pv_no x (a4 x x0 (by omega))), show w + (((r' - w).toNat : Nat) : Int) = r' by omega]
      · rw [show (n + 1 - r').toNat = 0 by omega, sumO_zero]
        · rfl
        · exact fun x x0 x1 => pv_no x (a2 x x0 (by omega))
    have loop : ∀ (N : Nat) (v low acc : Int) (σ1 : jM), 1002 ≤ v + N → v ≤ 1001 → f k + 1 ≤ v → NN n (l + 1 + 2) f k = acc + sumO pv (n + 1 - v).toNat v → offQ k σ σ1 → Jt mX0_tally (d + (l + 1) + 3) 1 t Q 44 [rv 275, iv (k : Int), iv n, iv (((l + 2 : Nat) : Int) + 1), jv acc, uv, iv low, iv v] [] σ1 := by
      intro N
      induction N with
      | zero => intro v low acc σ1 h1 h2; omega
      | succ N ihN =>
        intro v0 low acc σ1 h1 h2 h3 hT0 o1
        -- from n on nothing is counted
        have nil : ∀ v, n ≤ v → sumO pv (n + 1 - v).toNat v = 0 := fun v hv => by
          refine sumO_zero _ _ (fun x x0 x1 => ?_)
          rw [show x = n by omega]
          exact pv_n
        refine b_X0_tally_44 ⟨rng (by omega) (by omega), rng (by omega) (by omega), fun y => ?_, fun y0 => ?_⟩
        · rw [nil v0 y, Int.add_zero] at hT0
          rw [← hT0]
          exact kk σ1 o1
        · refine q_sumFrom (d := d + l + 1) (by omega) (SetC_off sc o1) (by omega) (fun v hv => ?_)
          have hT : NN n (l + 1 + 2) f k = acc + sumO pv (n + 1 - v).toNat v := by
            rw [← skip v0 v h3 (by omega) hv]
            exact hT0
          have hvv : v0 ≤ v ∧ (v < 128 ∨ v = 1000) := by
            rcases hv with ⟨a1, a2, a3, a4⟩ | ⟨a1, a2⟩
            · exact ⟨a1, Or.inl a2⟩
            · exact ⟨by omega, Or.inr a1⟩
          have hsv : v < 128 → SumP f ((k : Int) + 1) v := fun q => by
            rcases hv with ⟨a1, a2, a3, a4⟩ | ⟨a1, a2⟩
            · exact a3
            · omega
          have hv0 := hvv.1
          have hv1 := hvv.2
          rw [show max v0 v = v by omega]
          refine ⟨rng (by omega) (by omega), rng (by omega) (by omega), rng (by omega) (by omega), rng (by omega) (by omega), fun y => ?_, fun y => ?_⟩
          · refine ihN (v + 1) low acc σ1 (by omega) (by omega) (by omega) ?_ o1
            rw [nil (v + 1) (by omega), hT, nil v y]
          · have hs := hsv (by omega)
            refine q_put (f := f) (k := (k : Int) + 1) (by omega) (by rw [show (k : Int) + 1 - 1 = k by omega]; exact SetC_off sc o1) (fun i i0 i1 => ?_) (by omega) (fun σ3 s3 o3 => ?_)
            · have a := Pre_pos p i0 (by omega : i ≤ (k : Int))
              have b := Pre_leq p i0 (by omega : i ≤ (k : Int)) (by omega)
              omega
            · rw [show (k : Int) + 1 - 1 = k by omega] at o3
              have e275 : σ3 275 = σ 275 := by rw [o3.1 275 (by omega), o1.1 275 (by omega)]
              refine ih (d := d) (σ := σ3) (f := wr f ((k : Int) + 1) v) (k := k + 1) (by rw [e275]; exact h6) (by omega) (Pre_wr (by omega) p (by omega) hs) s3 (by show wr f ((k : Int) + 1) v ((k + 1 : Nat) : Int) < n; rw [wr_eq (by omega)]; omega) (fun σ4 o4 => ?_)
              have o4' : offQ k σ σ4 := offQ_tr o1 (offQ_tr o3 (offQ_le (by omega) o4))
              refine ihN (v + 1) low _ σ4 (by omega) (by omega) (by omega) ?_ o4'
              rw [hT, show (n + 1 - v).toNat = (n + 1 - (v + 1)).toNat + 1 by omega, sumO, pv_yes v hs]
              omega
    refine loop 1002 _ _ 0 σ (by omega) (by omega) (by omega) ?_ offQ_rf
    rw [Int.zero_add, hR]
    rw [show (n - f k).toNat = (max (f k + 1) r - (f k + 1)).toNat + (n + 1 - max (f k + 1) r).toNat by omega, sumO_skip _ _ _ (fun x x0 x1 => low_no x x0 (by omega)), show f k + 1 + (((max (f k + 1) r - (f k + 1)).toNat : Nat) : Int) = max (f k + 1) r by omega]
theorem q_waysOf {d : Nat} {Q : Int → jM → Prop} {σ : jM} {n : Int} (hn : inR n) (hK : K1 σ) (kb : (n < 1 ∨ 120 < n) → Q (-1) σ) (kg : 1 ≤ n → n ≤ 120 → ∀ (J : Nat) (g : Int → Int) (σ' : jM), J ≤ 9 → Lst (Pn n) n J g → K1 σ' → offC σ σ' → Q (NN n J f1 0) σ') : Ct mX0_waysOf (d + 30) 1 t [rv 275, iv n] σ Q := by
  have bd : ∀ J : Nat, J ≤ 9 → 1 ≤ n → n ≤ 120 → inL (NN n J f1 0) := fun J hJ a b => by
    have x := NN_bd (n := n) b J (f := f1) (k := 0) (by decide)
    have y := p120_9 ⟨J, by omega⟩
    simp only at y
    exact ⟨by omega, by omega⟩
  refine c_X0_waysOf ⟨hn, fun z => kb (Or.inl z), fun z => ⟨hn, fun y => ⟨by omega, ?_⟩, fun y => kb (Or.inr y)⟩⟩
  -- it is sought
  have seek : Ct mX0_joiningsOf (d + 29) 0 t [rv 275, iv n] σ (fun r4 σ4 => (∀ σ5 : jM, σ5 = up σ4 275 6 r4 → (Ct mX0_put (d + 29) 9 t [rv 275, iv 0, iv 1] σ5 (fun r6 σ6 => ((inR (σ6 275 6)) ∧ ((2 ≤ (σ6 275 6) → (Ct mX0_tally (d + 29) 1 t [rv 275, iv 0, iv n] σ6 (fun r8 σ8 => (((0 : Int) ≤ n ∧ n < 121) ∧ (∀ σ10 : jM, σ10 = up σ8 283 n r8 → (((0 : Int) ≤ n ∧ n < 121) ∧ (Q (σ10 283 n) σ10))))))) ∧ ((σ6 275 6) < 2 → (((0 : Int) ≤ n ∧ n < 121) ∧ (∀ σ12 : jM, σ12 = up σ6 283 n 1 → (((0 : Int) ≤ n ∧ n < 121) ∧ (Q (σ12 283 n) σ12))))))))))) := by
    refine q_joiningsOf (d := d) hn hK (fun w => by omega) (fun _ _ J g σ4 hr K4 o4 σ5 e5 => ?_)
    have hJ := hr.1
    have hL := hr.2.1
    obtain ⟨pg, og⟩ := Lst_Pre (by omega) hL
    have hs0 : SetC σ5 f1 (0 - 1) := fun j a b => absurd b (by omega)
    refine q_put (f := f1) (k := 0) (v := 1) (by omega) hs0 (fun i a b => absurd b (by omega)) (by omega) (fun σ6 s6 o6 => ?_)
    have s6' : SetC σ6 f1 0 := SetC_agr (fun i a b => by
      have : i = 0 := by omega
      subst this
      rw [wr_at]; rfl) s6
    have b6 : σ6 275 6 = (J : Int) := by rw [o6.1 275 (by omega), e5, up_at]
    have oF6 : offF σ4 σ6 := ⟨fun x hx => by rw [o6.1 x (by omega), e5, up_row (by omega)], fun j _ h6 => by rw [o6.1 275 (by omega), e5, up_ne (Or.inr h6)]⟩
    -- the end
    have fin : ∀ (τ : jM) (r : Int), offF σ4 τ → r = NN n J f1 0 → ∀ σ10, σ10 = up τ 283 n r → Q (σ10 283 n) σ10 := by
      intro τ r oτ er σ10 e10
      have Kτ := K1_F K4 oτ
      rw [show σ10 283 n = NN n J f1 0 by rw [e10, up_at, er]]
      refine kg z y J g σ10 hJ hL ⟨?_, ?_, ?_⟩ (fun x hx => by rw [e10, up_row (by omega), oτ.1 x (by omega)]; exact o4 x hx)
      · intro q q0 q1
        have := Kτ.1 q q0 q1
        unfold okRow at this ⊢
        rw [e10, up_row (by decide), up_row (by decide)]
        exact this
      · intro q q0 q1
        by_cases eq : q = n
        · subst eq
          exact Or.inr ⟨J, g, hL, by rw [e10, up_at, er]⟩
        · rw [e10, up_ne (Or.inr eq)]
          exact Kτ.2.1 q q0 q1
      · have := Kτ.2.2
        unfold KD okMade at this ⊢
        rw [e10, up_row (by decide), up_row (by decide), up_row (by decide)]
        exact this
    rw [b6]
    refine ⟨rng (by omega) (by omega), fun w => ?_, fun w => ⟨by omega, fun σ12 e12 => ⟨by omega, fin σ6 1 oF6 ?_ σ12 e12⟩⟩⟩
    · have gn : g (J : Int) = n := og.1
      have gp := Pre_pos pg (i := (J : Int)) (by omega) (by omega)
      refine Ct_le (q_tally (J := J) (n := n) (by omega) ⟨z, y⟩ (fun h hJ1 a b => ?_) (J - 2) (d := d) (f := f1) (k := 0) b6 (by omega) Pre_f1 s6' (by show (1 : Int) < n; omega) (fun σ8 o8 => ⟨by omega, fun σ10 e10 => ⟨by omega, fin σ8 _ (offF_tr oF6 ⟨fun x hx => o8.1 x (by omega), fun j _ _ => by rw [o8.1 275 (by omega)]⟩) ?_ σ10 e10⟩⟩)) (by omega)
      · exact Lst_min (j := J - 1) (by omega) hL (by omega) (by rw [show ((J - 1 : Nat) : Int) = (J : Int) - 1 by omega]; exact a) ((OkPn (by omega)).mpr (by rw [show ((J - 1 : Nat) : Int) = (J : Int) - 1 by omega]; exact b))
      · rw [show J - 2 + 2 = J by omega]
    · rcases (show J = 0 ∨ J = 1 by omega) with e | e
      · subst e
        have : n = 1 := by rw [← og.1]; exact pg.1
        subst this
        rfl
      · subst e
        have g1 := (pg.2 1 (by omega) (by omega)).2
        obtain ⟨a, b, b0, ba, a1, e⟩ := g1
        have : n = 2 := by
          rw [← og.1]
          have ha : a = 0 := by omega
          have hb : b = 0 := by omega
          rw [ha, hb, pg.1] at e
          exact e.symm
        subst this
        rfl
  rcases hK.2.1 n z y with e | ⟨J, g, hL, e⟩
  · rw [e]
    exact ⟨⟨by decide, by decide⟩, fun w => absurd rfl w, fun _ => seek⟩
  · obtain ⟨J', g', hJ', hL'⟩ := ex_single ⟨z, y⟩
    obtain ⟨rfl, rfl⟩ := Lst_uq hL hL'
    refine ⟨by rw [e]; exact bd J hJ' z y, fun w => ⟨by omega, by rw [e]; exact kg z y J g σ hJ' hL hK offC_rf⟩, fun w => seek⟩
end WY
