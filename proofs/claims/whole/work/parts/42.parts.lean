/-! ===== halves, parts alike ===== -/
def hvF : Nat → Int → Int
  | 0, _ => 0
  | f + 1, v => if v ≤ 1 then 0 else 1 + v % 2 + hvF f (v / 2)
def pw2 : Nat → Int
  | 0 => 1
  | k + 1 => 2 * pw2 k
theorem pw2_pos : ∀ k, 1 ≤ pw2 k
  | 0 => by show (1 : Int) ≤ 1; omega
  | k + 1 => by have := pw2_pos k; show 1 ≤ 2 * pw2 k; omega
theorem hvF_in : ∀ (f : Nat) (v : Int), 0 ≤ hvF f v ∧ hvF f v ≤ 2 * f
  | 0, _ => by rw [hvF]; omega
  | f + 1, v => by
    rw [hvF]
    split
    · omega
    · have := hvF_in f (v / 2)
      omega
/-- the least number from p on that divides v, v itself if none does up to its root -/
def lpF : Nat → Int → Int → Int
  | 0, v, _ => v
  | f + 1, v, p => if v < p * p then v else if v % p = 0 then p else lpF f v (p + 1)
def lp (v : Int) : Int := lpF 1000 v 2
theorem sq_big {p : Int} (h : 1002 ≤ p) : 1000000 < p * p := by
  have := Int.mul_le_mul h h (by omega) (by omega)
  omega
theorem lpF_in {v : Int} (hv : 2 ≤ v) : ∀ (f : Nat) (p : Int), 2 ≤ p → (lpF f v p = v ∨ (2 ≤ lpF f v p ∧ lpF f v p * lpF f v p ≤ v ∧ v % lpF f v p = 0))
  | 0, _, _ => Or.inl rfl
  | f + 1, p, hp => by
    rw [lpF]
    split
    · exact Or.inl rfl
    · split
      · rename_i h1 h2; exact Or.inr ⟨hp, by omega, h2⟩
      · exact lpF_in hv f (p + 1) (by omega)
theorem lp_in {v : Int} (hv : 2 ≤ v) : lp v = v ∨ (2 ≤ lp v ∧ lp v < v ∧ lp v * lp v ≤ v ∧ v % lp v = 0 ∧ 2 ≤ v / lp v ∧ v / lp v < v ∧ 2 * (v / lp v) ≤ v ∧ v = lp v * (v / lp v)) := by
  rcases lpF_in hv 1000 2 (by omega) with h | ⟨h1, h2, h3⟩
  · exact Or.inl h
  · refine Or.inr ?_
    have h1 : 2 ≤ lp v := h1
    have h2 : lp v * lp v ≤ v := h2
    have h3 : v % lp v = 0 := h3
    have e : v = lp v * (v / lp v) := by
      have := Int.mul_ediv_add_emod v (lp v)
      omega
    have lt : lp v < v := by
      have := Int.mul_le_mul h1 (Int.le_refl (lp v)) (by omega) (by omega)
      omega
    have q1 : lp v ≤ v / lp v := (Int.le_ediv_iff_mul_le (by omega)).mpr h2
    have q2 : 2 * (v / lp v) ≤ v := by
      have := Int.mul_le_mul h1 (Int.le_refl (v / lp v)) (by omega) (by omega)
      omega
    exact ⟨h1, lt, h2, h3, by omega, by omega, q2, e⟩
/-- how many joinings a number takes by its parts -/
def ppF : Nat → Int → Int
  | 0, _ => 0
  | f + 1, v => if v ≤ 1 then 0 else if lp v = v then 1 + ppF f (v - 1) else ppF f (lp v) + ppF f (v / lp v)
theorem ppF_st : ∀ (f g : Nat) (v : Int), v ≤ f → f ≤ g → ppF g v = ppF f v
  | 0, 0, _, _, _ => rfl
  | 0, g + 1, v, h, _ => by rw [ppF, ppF, if_pos (by omega)]
  | f + 1, 0, _, _, h => absurd h (by omega)
  | f + 1, g + 1, v, h, h2 => by
    rw [ppF, ppF]
    by_cases hv : v ≤ 1
    · rw [if_pos hv, if_pos hv]
    · rw [if_neg hv, if_neg hv]
      rcases lp_in (v := v) (by omega) with e | ⟨a1, a2, a3, a4, a5, a6, a7, a8⟩
      · rw [if_pos e, if_pos e, ppF_st f g _ (by omega) (by omega)]
      · rw [if_neg (by omega), if_neg (by omega), ppF_st f g _ (by omega) (by omega), ppF_st f g _ (by omega) (by omega)]
def pp (v : Int) : Int := ppF v.toNat v
theorem pp_1 {v : Int} (h : v ≤ 1) : pp v = 0 := by
  unfold pp
  cases v.toNat with
  | zero => rfl
  | succ f => rw [ppF, if_pos h]
theorem pp_p {v : Int} (h : 1 < v) (e : lp v = v) : pp v = 1 + pp (v - 1) := by
  unfold pp
  obtain ⟨f, hf⟩ : ∃ f, v.toNat = f + 1 := ⟨v.toNat - 1, by omega⟩
  rw [hf, ppF, if_neg (by omega), if_pos e, ppF_st (v - 1).toNat f (v - 1) (by omega) (by omega)]
theorem pp_c {v : Int} (h : 1 < v) (e : lp v ≠ v) : pp v = pp (lp v) + pp (v / lp v) := by
  rcases lp_in (v := v) (by omega) with e' | ⟨a1, a2, a3, a4, a5, a6, a7, a8⟩
  · exact absurd e' e
  · unfold pp
    obtain ⟨f, hf⟩ : ∃ f, v.toNat = f + 1 := ⟨v.toNat - 1, by omega⟩
    rw [hf, ppF, if_neg (by omega), if_neg e, ppF_st (lp v).toNat f (lp v) (by omega) (by omega), ppF_st (v / lp v).toNat f (v / lp v) (by omega) (by omega)]
theorem ppF_in : ∀ (f : Nat) (v : Int), 0 ≤ ppF f v ∧ (1 ≤ v → ppF f v ≤ v - 1)
  | 0, v => by rw [ppF]; omega
  | f + 1, v => by
    rw [ppF]
    by_cases hv : v ≤ 1
    · rw [if_pos hv]; omega
    · rw [if_neg hv]
      rcases lp_in (v := v) (by omega) with e | ⟨a1, a2, a3, a4, a5, a6, a7, a8⟩
      · rw [if_pos e]
        have := ppF_in f (v - 1)
        omega
      · rw [if_neg (by omega)]
        have x1 := ppF_in f (lp v)
        have x2 := ppF_in f (v / lp v)
        have x3 : (lp v - 1) * 1 ≤ (lp v - 1) * (v / lp v - 1) := Int.mul_le_mul_of_nonneg_left (by omega) (by omega)
        have x4 : (lp v - 1) * (v / lp v - 1) = lp v * (v / lp v) - lp v - (v / lp v) + 1 := by
          rw [Int.sub_mul, Int.mul_sub]; omega
        omega
theorem pp_in {v : Int} : 0 ≤ pp v ∧ (1 ≤ v → pp v ≤ v - 1) := ppF_in _ v
section HP
variable {d : Nat} {t : Int} {L : LT} {σ : jM} {Q : Int → jM → Prop}
theorem h_halves {n : Int} (hn : inR n) (kb : (n < 1 ∨ 1000000 < n) → Q (-1) σ) (kg : 1 ≤ n → n ≤ 1000000 → Q (hvF 20 n) σ) : Ct mX11_halves d 0 t [rv 1, iv n] σ Q := by
  refine c_X11_halves ⟨hn, fun z => kb (Or.inl z), fun z => ⟨hn, fun y => ?_, fun y => kb (Or.inr y)⟩⟩
  have loop : ∀ (f : Nat) (v acc : Int), 0 ≤ v → v < pw2 f → v ≤ 1000000 → Q (acc + hvF f v) σ → Jt mX11_halves d 0 t Q 17 [rv 1, iv n, iv acc, iv v] [] σ := by
    intro f
    induction f with
    | zero =>
      intro v acc v0 vf vm k
      rw [hvF, Int.add_zero] at k
      have : v < 1 := vf
      exact b_X11_halves_17 ⟨rng (by omega) (by omega), fun _ => k, fun x => absurd x (by omega)⟩
    | succ f ih =>
      intro v acc v0 vf vm k
      have vf : v < 2 * pw2 f := vf
      rw [hvF] at k
      refine b_X11_halves_17 ⟨rng (by omega) (by omega), fun x => ?_, fun x => ⟨rng (by omega) (by omega), rng (by omega) (by omega), ?_⟩⟩
      · rw [if_pos x, Int.add_zero] at k; exact k
      · rw [if_neg (by omega)] at k
        rw [tm v0, td v0]
        exact ih (v / 2) _ (by omega) (by omega) (by omega) (by rw [show acc + (1 + v % 2) + hvF f (v / 2) = acc + (1 + v % 2 + hvF f (v / 2)) by omega]; exact k)
  exact loop 20 n 0 (by omega) (by show n < 1048576; omega) y (by rw [Int.zero_add]; exact kg z y)
theorem m_halves {n : Int} (hn : inR n) (kb : (n < 1 ∨ 1000000 < n) → Q (-1) σ) (kg : 1 ≤ n → n ≤ 1000000 → Q (hvF 20 n) σ) : Ct mX12_halves (d + 1) 0 t [rv 321, iv n] σ Q := by
  refine c_X12_halves (m_isIn hn ⟨by decide, by decide⟩ ⟨by decide, by decide⟩ ⟨b01_R, fun z => ?_, fun z => kb (by have := inB_f (b01_0.mp z); omega)⟩)
  have hin := inB_t (b01_1 z)
  have loop : ∀ (f : Nat) (v acc : Int), 0 ≤ v → v < pw2 f → v ≤ 1000000 → Q (acc + hvF f v) σ → Jt mX12_halves (d + 1) 0 t Q 17 [rv 321, iv n, iv acc, iv v] [] σ := by
    intro f
    induction f with
    | zero =>
      intro v acc v0 vf vm k
      rw [hvF, Int.add_zero] at k
      have : v < 1 := vf
      exact b_X12_halves_17 ⟨rng (by omega) (by omega), fun _ => k, fun x => absurd x (by omega)⟩
    | succ f ih =>
      intro v acc v0 vf vm k
      have vf : v < 2 * pw2 f := vf
      rw [hvF] at k
      refine b_X12_halves_17 ⟨rng (by omega) (by omega), fun x => ?_, fun x => ⟨rng (by omega) (by omega), ?_⟩⟩
      · rw [if_pos x, Int.add_zero] at k; exact k
      · rw [if_neg (by omega)] at k
        rw [tm v0, td v0]
        refine ⟨rng (by omega) (by omega), fun u => ?_, fun u => ⟨rng (by omega) (by omega), ?_⟩⟩
        · refine b_X12_halves_17 ⟨rng (by omega) (by omega), fun w => absurd w (by omega), fun w => ⟨rng (by omega) (by omega), ?_⟩⟩
          rw [tm (by omega), td (by omega)]
          refine ⟨rng (by omega) (by omega), fun w => absurd w (by omega), fun w => ⟨rng (by omega) (by omega), ?_⟩⟩
          rw [show (v - 1) / 2 = v / 2 by omega]
          exact ih (v / 2) _ (by omega) (by omega) (by omega) (by rw [show acc + 1 + 1 + hvF f (v / 2) = acc + (1 + v % 2 + hvF f (v / 2)) by omega]; exact k)
        · exact ih (v / 2) _ (by omega) (by omega) (by omega) (by rw [show acc + 1 + hvF f (v / 2) = acc + (1 + v % 2 + hvF f (v / 2)) by omega]; exact k)
  exact loop 20 n 0 (by omega) (by show n < 1048576; omega) hin.2 (by rw [Int.zero_add]; exact kg hin.1 hin.2)
theorem h_leastPrime {v : Int} (hv : 2 ≤ v ∧ v ≤ 1000000) (k : Q (lp v) σ) : Ct mX11_leastPrime (d + 1) 0 t [iv v] σ Q := by
  refine c_X11_leastPrime ?_
  have hr : inR v := rng (by omega) (by omega)
  have loop : ∀ (f : Nat) (p : Int), 2 ≤ p → p + f = 1002 → Q (lpF f v p) σ → Jt mX11_leastPrime (d + 1) 0 t Q 2 [iv v, iv p] [] σ := by
    intro f
    induction f with
    | zero =>
      intro p p0 hp k
      have sb := sq_big (p := p) (by omega)
      have sb2 : p * p ≤ 1002 * 1002 := Int.mul_le_mul (by omega) (by omega) (by omega) (by omega)
      refine b_X11_leastPrime_2 ⟨rng (by omega) (by omega), hr, fun _ => ⟨hr, ?_⟩, fun x => absurd x (by omega)⟩
      rw [show max v 2 = v by omega]
      exact k
    | succ f ih =>
      intro p p0 hp k
      rw [lpF] at k
      have sb1 : 0 ≤ p * p := Int.mul_nonneg (by omega) (by omega)
      have sb2 : p * p ≤ 1002 * 1002 := Int.mul_le_mul (by omega) (by omega) (by omega) (by omega)
      refine b_X11_leastPrime_2 ⟨rng (by omega) (by omega), hr, fun x => ⟨hr, ?_⟩, fun x => ⟨hr, rng (by omega) (by omega), by omega, ?_⟩⟩
      · rw [if_pos x] at k
        rw [show max v 2 = v by omega]
        exact k
      · rw [if_neg (by omega)] at k
        rw [tm (by omega)]
        have m1 := Int.emod_nonneg v (show p ≠ 0 by omega)
        have m2 := Int.emod_lt_of_pos v (show 0 < p by omega)
        refine ⟨rng (by omega) (by omega), fun u => ?_, fun u => ?_⟩
        · rw [if_neg u] at k; exact ih (p + 1) (by omega) (by omega) k
        · rw [if_pos u] at k; exact k
  exact loop 1000 2 (by omega) (by omega) k
theorem m_leastPrime {v : Int} (hv : 2 ≤ v ∧ v ≤ 1000000) (k : Q (lp v) σ) : Ct mX12_leastPrime d 0 t [iv v] σ Q := by
  refine c_X12_leastPrime ?_
  have hr : inR v := rng (by omega) (by omega)
  have loop : ∀ (f : Nat) (p : Int), 2 ≤ p → p + f = 1002 → Q (lpF f v p) σ → Jt mX12_leastPrime d 0 t Q 2 [iv v, iv p] [] σ := by
    intro f
    induction f with
    | zero =>
      intro p p0 hp k
      have sb := sq_big (p := p) (by omega)
      have sb2 : p * p ≤ 1002 * 1002 := Int.mul_le_mul (by omega) (by omega) (by omega) (by omega)
      exact b_X12_leastPrime_2 ⟨rng (by omega) (by omega), hr, fun _ => k, fun x => absurd x (by omega)⟩
    | succ f ih =>
      intro p p0 hp k
      rw [lpF] at k
      have sb1 : 0 ≤ p * p := Int.mul_nonneg (by omega) (by omega)
      have sb2 : p * p ≤ 1002 * 1002 := Int.mul_le_mul (by omega) (by omega) (by omega) (by omega)
      refine b_X12_leastPrime_2 ⟨rng (by omega) (by omega), hr, fun x => ?_, fun x => ⟨hr, rng (by omega) (by omega), by omega, ?_⟩⟩
      · rw [if_pos x] at k
        exact k
      · rw [if_neg (by omega)] at k
        rw [tm (by omega)]
        have m1 := Int.emod_nonneg v (show p ≠ 0 by omega)
        have m2 := Int.emod_lt_of_pos v (show 0 < p by omega)
        refine ⟨rng (by omega) (by omega), fun u => ?_, fun u => ?_⟩
        · rw [if_neg u] at k; exact ih (p + 1) (by omega) (by omega) k
        · rw [if_pos u] at k; exact k
  exact loop 1000 2 (by omega) (by omega) k
def bd : Nat → Int
  | 0 => 4
  | l + 1 => bd l * bd l
theorem bd_pos : ∀ l, 4 ≤ bd l
  | 0 => by show (4 : Int) ≤ 4; omega
  | l + 1 => by
    have := bd_pos l
    have := Int.mul_le_mul this this (by omega) (by omega)
    show 4 ≤ bd l * bd l
    omega
theorem h_byParts : ∀ (l : Nat) {d : Nat} {Q : Int → jM → Prop} {n p : Int}, 1 ≤ n → n ≤ 1000000 → n < bd l → (l : Int) ≤ p → p ≤ 12 → Q (pp n) σ → Ct mX11_byParts (d + l + 2) 0 t [iv n, iv p] σ Q := by
  intro l
  induction l with
  | zero =>
    intro d Q n p hn1 hn2 hb hp hp2 k
    have hb : n < 4 := hb
    refine c_X11_byParts ?_
    have loop : ∀ (f : Nat) (v acc i : Int), v ≤ f + 1 → 1 ≤ v → v < 4 → 0 ≤ i → i + f < 64 → Q (acc + pp v) σ → Jt mX11_byParts (d + 0 + 2) 0 t Q 7 [iv n, iv p, iv acc, iv v, iv i, uv] [] σ := by
      intro f
      induction f with
      | zero =>
        intro v acc i h0 h1 h2 h3 h4 k
        rw [pp_1 (by omega), Int.add_zero] at k
        exact b_X11_byParts_7 ⟨rng (by omega) (by omega), fun x => absurd x (by omega), fun x => ⟨rng (by omega) (by omega), fun _ => k, fun u => absurd u (by omega)⟩⟩
      | succ f ih =>
        intro v acc i h0 h1 h2 h3 h4 k
        refine b_X11_byParts_7 ⟨rng (by omega) (by omega), fun x => absurd x (by omega), fun x => ⟨rng (by omega) (by omega), fun u => ?_, fun u => ?_⟩⟩
        · rw [pp_1 (by omega), Int.add_zero] at k; exact k
        · have e : lp v = v := by
            rcases lp_in (v := v) (by omega) with e | ⟨a1, a2, a3, a4, a5, a6, a7, a8⟩
            · exact e
            · have := Int.mul_le_mul a1 a1 (by omega) (by omega)
              omega
          refine h_leastPrime (d := d) (by omega) ?_
          rw [e]
          refine ⟨rng (by omega) (by omega), rng (by omega) (by omega), fun w => absurd rfl w, fun _ => ?_⟩
          rw [pp_p u e] at k
          exact ih (v + -1) (acc + 1) (i + 1) (by omega) (by omega) (by omega) (by omega) (by omega) (by rw [show acc + 1 + pp (v + -1) = acc + (1 + pp (v - 1)) by rw [show v + -1 = v - 1 by omega]; omega]; exact k)
    exact loop 3 n 0 0 (by omega) hn1 (by omega) (by omega) (by omega) (by rw [Int.zero_add]; exact k)
  | succ l ihl =>
    intro d Q n p hn1 hn2 hb hp hp2 k
    refine c_X11_byParts ?_
    -- two steps at most halve what is left
    have loop : ∀ (f : Nat) (v acc i : Int), 1 ≤ v → v < pw2 f → v ≤ 1000000 → v < bd (l + 1) → 0 ≤ i → i + 2 * f < 64 → Q (acc + pp v) σ → Jt mX11_byParts (d + (l + 1) + 2) 0 t Q 7 [iv n, iv p, iv acc, iv v, iv i, uv] [] σ := by
      intro f
      induction f with
      | zero =>
        intro v acc i h1 h2 h3 h4 h5 h6 k
        have : v < 1 := h2
        omega
      | succ f ih =>
        intro v acc i h1 h2 h3 h4 h5 h6 k
        have h2 : v < 2 * pw2 f := h2
        have comp : ∀ (v acc i : Int), 1 < v → v < 2 * pw2 f → v ≤ 1000000 → v < bd (l + 1) → 0 ≤ i → i + 2 * f < 63 → lp v ≠ v → Q (acc + pp v) σ → Jt mX11_byParts (d + (l + 1) + 2) 0 t Q 7 [iv n, iv p, iv acc, iv v, iv i, uv] [] σ := by
          intro v acc i h1 h2 h3 h4 h5 h6 hne k
          rcases lp_in (v := v) (by omega) with e | ⟨a1, a2, a3, a4, a5, a6, a7, a8⟩
          · exact absurd e hne
          · have a9 : lp v < bd l := by
              rcases Int.lt_or_le (lp v) (bd l) with x | x
              · exact x
              · have b1 := bd_pos l
                have := Int.mul_le_mul x x (by omega) (by omega)
                have h4 : v < bd l * bd l := h4
                omega
            refine b_X11_byParts_7 ⟨rng (by omega) (by omega), fun x => absurd x (by omega), fun x => ⟨rng (by omega) (by omega), fun u => absurd u (by omega), fun u => ?_⟩⟩
            refine h_leastPrime (d := d + (l + 1)) (by omega) ⟨rng (by omega) (by omega), rng (by omega) (by omega), fun w => ⟨rng (by omega) (by omega), fun y => absurd y (by omega), fun y => ?_⟩, fun w => absurd w hne⟩
            refine Ct_le (ihl (d := d) (n := lp v) (p := p - 1) (by omega) (by omega) a9 (by omega) (by omega) ⟨rng (by omega) (by omega), rng (by omega) (by omega), by omega, ?_⟩) (by omega)
            rw [td (by omega)]
            rw [pp_c h1 hne] at k
            exact ih (v / lp v) _ (i + 1) (by omega) (by omega) (by omega) (by omega) (by omega) (by omega) (by rw [show acc + pp (lp v) + pp (v / lp v) = acc + (pp (lp v) + pp (v / lp v)) by omega]; exact k)
        by_cases hv1 : v ≤ 1
        · rw [pp_1 hv1, Int.add_zero] at k
          exact b_X11_byParts_7 ⟨rng (by omega) (by omega), fun x => absurd x (by omega), fun x => ⟨rng (by omega) (by omega), fun _ => k, fun u => absurd u (by omega)⟩⟩
        · by_cases hne : lp v = v
          · rw [pp_p (by omega) hne] at k
            refine b_X11_byParts_7 ⟨rng (by omega) (by omega), fun x => absurd x (by omega), fun x => ⟨rng (by omega) (by omega), fun u => absurd u hv1, fun u => ?_⟩⟩
            refine h_leastPrime (d := d + (l + 1)) (by omega) ?_
            rw [hne]
            refine ⟨rng (by omega) (by omega), rng (by omega) (by omega), fun w => absurd rfl w, fun _ => ?_⟩
            rw [show v + -1 = v - 1 by omega]
            have k' : Q (acc + 1 + pp (v - 1)) σ := by rw [show acc + 1 + pp (v - 1) = acc + (1 + pp (v - 1)) by omega]; exact k
            by_cases hw1 : v - 1 ≤ 1
            · rw [pp_1 hw1, Int.add_zero] at k'
              exact b_X11_byParts_7 ⟨rng (by omega) (by omega), fun x => absurd x (by omega), fun x => ⟨rng (by omega) (by omega), fun _ => k', fun u => absurd u (by omega)⟩⟩
            · by_cases hwe : lp (v - 1) = v - 1
              · -- two primes in a row: 3 and 2
                have hv3 : v = 3 := by
                  -- v odd or v - 1 odd is even above 2
                  rcases Int.emod_two_eq v with e | e
                  · -- v even and prime: v = 2
                    exfalso
                    have l2 : lp v = 2 := by
                      show lpF 1000 v 2 = 2
                      rw [lpF, if_neg (by omega), if_pos (by omega)]
                    omega
                  · rcases (show v = 3 ∨ 4 ≤ v - 1 by omega) with x | x
                    · exact x
                    · exfalso
                      have l2 : lp (v - 1) = 2 := by
                        show lpF 1000 (v - 1) 2 = 2
                        rw [lpF, if_neg (by omega), if_pos (by omega)]
                      omega
                subst hv3
                rw [pp_p (by omega) hwe, pp_1 (by omega)] at k'
                refine b_X11_byParts_7 ⟨rng (by omega) (by omega), fun x => absurd x (by omega), fun x => ⟨⟨by decide, by decide⟩, fun u => absurd u (by decide), fun u => ?_⟩⟩
                refine h_leastPrime (d := d + (l + 1)) (by omega) ?_
                rw [hwe]
                refine ⟨⟨by decide, by decide⟩, ⟨by decide, by decide⟩, fun w => absurd rfl w, fun _ => ?_⟩
                exact b_X11_byParts_7 ⟨rng (by omega) (by omega), fun x => by rw [show acc + 1 + (1 + 0) = acc + 1 + 1 by omega] at k'; exact k', fun x => ⟨⟨by decide, by decide⟩, fun _ => by rw [show acc + 1 + (1 + 0) = acc + 1 + 1 by omega] at k'; exact k', fun u => absurd u (by decide)⟩⟩
              · exact comp (v - 1) (acc + 1) (i + 1) (by omega) (by omega) (by omega) (by omega) (by omega) (by omega) hwe k'
          · exact comp v acc i (by omega) h2 h3 h4 h5 (by omega) hne k
    exact loop 20 n 0 0 hn1 (by show n < 1048576; omega) hn2 hb (by omega) (by omega) (by rw [Int.zero_add]; exact k)
end HP
