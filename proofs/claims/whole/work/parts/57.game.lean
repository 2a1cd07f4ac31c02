/-! ===== the game alike ===== -/
def sumG (m v : Nat) : Bool := anyN (fun i => m.testBit (i - 1) && m.testBit (v - i - 1)) (v / 2) 1
def wp (n : Nat) : Nat → Nat → Nat → Int
  | 0, _, _ => -1
  | F + 1, m, last => lowF (fun v => sumG m v.toNat && (decide (v.toNat = n) || decide (wp n F (m ||| 2 ^ (v.toNat - 1)) v.toNat = -1))) (n - last) ((last : Int) + 1)
theorem wp_fuel {n : Nat} : ∀ (F F' m last : Nat), n - last ≤ F → n - last ≤ F' → wp n F m last = wp n F' m last
  | 0, 0, _, _, _, _ => rfl
  | 0, F' + 1, m, last, h, _ => by
    rw [wp, wp, show n - last = 0 by omega]
    rfl
  | F + 1, 0, m, last, _, h => by
    rw [wp, wp, show n - last = 0 by omega]
    rfl
  | F + 1, F' + 1, m, last, h, h' => by
    rw [wp, wp]
    refine lowF_congr _ _ (fun j j0 j1 => ?_)
    rw [wp_fuel F F' (m ||| 2 ^ (j.toNat - 1)) j.toNat (by omega) (by omega)]
theorem wp_in {n F m last : Nat} : wp n F m last = -1 ∨ ((last : Int) + 1 ≤ wp n F m last ∧ wp n F m last ≤ n) := by
  cases F with
  | zero => exact Or.inl rfl
  | succ F =>
    rw [wp]
    rcases lowF_in (p := fun v => sumG m v.toNat && (decide (v.toNat = n) || decide (wp n F (m ||| 2 ^ (v.toNat - 1)) v.toNat = -1))) (n - last) ((last : Int) + 1) with h | ⟨h1, h2, _⟩
    · exact Or.inl h
    · right; omega
theorem shr_bit {m s : Nat} (h : m < 2147483648) (hs : s < 32) : tc (i_shr (m : Int) (s : Int)) 0 = m.testBit s := by
  rw [i_shr_nat (by omega) (by omega) hs]
  have e : (m : Int) / ((2 ^ s : Nat) : Int) = ((m / 2 ^ s : Nat) : Int) := (Int.natCast_ediv m (2 ^ s)).symm
  have le : m / 2 ^ s ≤ m := Nat.div_le_self _ _
  obtain ⟨q, hq⟩ : ∃ q, q = m / 2 ^ s := ⟨_, rfl⟩
  rw [e, ← hq, tc_nat (by omega) (by rw [← hq] at le; omega), hq, Int.toNat_natCast, ← Nat.shiftRight_eq_div_pow, Nat.testBit_shiftRight, Nat.add_zero]
theorem or_nat {a b : Nat} (ha : a < 2147483648) (hb : b < 2147483648) : i_or (a : Int) (b : Int) = ((a ||| b : Nat) : Int) := by
  have hab : a ||| b < 2147483648 := Nat.or_lt_two_pow (n := 31) ha hb
  refine tc_ext i_or_R (rng (by omega) (by omega)) (fun i _ => ?_)
  rw [tc_or, tc_nat (by omega) (by omega), tc_nat (by omega) (by omega), tc_nat (by omega) (by omega), Int.toNat_natCast, Int.toNat_natCast, Int.toNat_natCast, Nat.testBit_or]
theorem shl_nat {s : Nat} (h : s < 24) : i_shl 1 (s : Int) = ((2 ^ s : Nat) : Int) := by
  rw [← pw2_cast]
  exact shl1 ⟨s, h⟩
theorem pow_lt {s : Nat} (h : s < 24) : 2 ^ s < 2147483648 := Nat.lt_of_lt_of_le (Nat.pow_lt_pow_right (by decide) h) (by decide)
theorem dbl_bit {m i : Nat} (h : 1 ≤ i) : (2 * m).testBit i = m.testBit (i - 1) := by
  obtain ⟨j, hj⟩ : ∃ j, i = j + 1 := ⟨i - 1, by omega⟩
  subst hj
  rw [Nat.testBit_succ, show 2 * m / 2 = m by omega, Nat.add_sub_cancel]
theorem dbl_or {m v : Nat} (h : 1 ≤ v) : 2 * m ||| 2 ^ v = 2 * (m ||| 2 ^ (v - 1)) := by
  apply Nat.eq_of_testBit_eq
  intro i
  rcases Nat.eq_zero_or_pos i with e | e
  · subst e
    rw [Nat.testBit_or, Nat.testBit_two_pow]
    have a : (2 * m).testBit 0 = false := by simp
    have b : (2 * (m ||| 2 ^ (v - 1))).testBit 0 = false := by simp
    rw [a, b]
    simp
    omega
  · rw [Nat.testBit_or, dbl_bit e, dbl_bit e, Nat.testBit_or, Nat.testBit_two_pow, Nat.testBit_two_pow]
    congr 1
    apply decide_eq_decide.mpr
    omega
section GA
variable {t : Int} {L : LT} {σ : jM}
theorem h_isSumG {d : Nat} {m v : Nat} {Q : Int → jM → Prop} (hm : 2 * m < 2147483648) (hv : v ≤ 30) (k1 : sumG m v = true → Q 1 σ) (k0 : sumG m v = false → Q 0 σ) : Ct mX11_isSum d 0 t [iv ((2 * m : Nat) : Int), iv (v : Int)] σ Q := by
  refine c_X11_isSum ?_
  have loop : ∀ (c : Nat) (i : Nat), 1 ≤ i → i + c = v / 2 + 1 → (∀ x, 1 ≤ x → x < i → ¬ (m.testBit (x - 1) && m.testBit (v - x - 1)) = true) → Jt mX11_isSum d 0 t Q 2 [iv ((2 * m : Nat) : Int), iv (v : Int), iv (i : Int)] [] σ := by
    intro c
    induction c with
    | zero =>
      intro i i0 hi no
      refine b_X11_isSum_2 ⟨rng (by omega) (by omega), rng (by omega) (by omega), fun _ => k0 ?_, fun z => absurd z (by omega)⟩
      cases e : sumG m v with
      | false => rfl
      | true =>
        obtain ⟨x, a, b, h⟩ := (anyN_iff _ _).mp e
        exact absurd h (no x a (by omega))
    | succ c ih =>
      intro i i0 hi no
      have bit : i_and (i_and (i_shr ((2 * m : Nat) : Int) (i : Int)) (i_shr ((2 * m : Nat) : Int) ((v : Int) - (i : Int)))) 1 = 1 ↔ (m.testBit (i - 1) && m.testBit (v - i - 1)) = true := by
        rw [andc1, tc_and, shr_bit hm (by omega), show (v : Int) - (i : Int) = ((v - i : Nat) : Int) by omega, shr_bit hm (by omega), dbl_bit i0, dbl_bit (by omega)]
      refine b_X11_isSum_2 ⟨rng (by omega) (by omega), rng (by omega) (by omega), fun z => absurd z (by omega), fun _ => ⟨i_and_R, fun z => ?_, fun z => k1 ((anyN_iff _ _).mpr ⟨i, i0, by omega, bit.mp z⟩)⟩⟩
      have := ih (i + 1) (by omega) (by omega) (fun x x0 x1 => ?_)
      · rw [show ((i + 1 : Nat) : Int) = (i : Int) + 1 by omega] at this
        exact this
      · by_cases e : x = i
        · rw [e]; exact fun q => z (bit.mpr q)
        · exact no x x0 (by omega)
  exact loop (v / 2) 1 (by omega) (by omega) (fun x x0 x1 => absurd x1 (by omega))
theorem h_win {n : Nat} (hn : n ≤ 12) : ∀ (F : Nat) {d m last : Nat} {Q : Int → jM → Prop}, n - last ≤ F → m < 2 ^ n → last ≤ n → Q (wp n F m last) σ → Ct mX11_winningPlay (d + F + 1) 0 t [iv ((2 * m : Nat) : Int), iv (last : Int), iv (n : Int)] σ Q := by
  have pn : 2 ^ n ≤ 4096 := Nat.pow_le_pow_right (by decide) hn
  intro F
  induction F with
  | zero =>
    intro d m last Q h hm hl k
    rw [wp] at k
    exact c_X11_winningPlay (b_X11_winningPlay_4 ⟨rng (by omega) (by omega), rng (by omega) (by omega), fun _ => k, fun z => absurd z (by omega)⟩)
  | succ F ih =>
    intro d m last Q h hm hl k
    refine c_X11_winningPlay ?_
    rw [wp] at k
    obtain ⟨p, hp⟩ : ∃ p : Int → Bool, p = fun v => sumG m v.toNat && (decide (v.toNat = n) || decide (wp n F (m ||| 2 ^ (v.toNat - 1)) v.toNat = -1)) := ⟨_, rfl⟩
    rw [← hp] at k
    have loop : ∀ (c : Nat) (v : Nat), last < v → v + c = n + 1 → Q (lowF p c (v : Int)) σ → Jt mX11_winningPlay (d + (F + 1) + 1) 0 t Q 4 [iv ((2 * m : Nat) : Int), iv (last : Int), iv (n : Int), iv (v : Int)] [] σ := by
      intro c
      induction c with
      | zero =>
        intro v v0 hv kk
        exact b_X11_winningPlay_4 ⟨rng (by omega) (by omega), rng (by omega) (by omega), fun _ => kk, fun z => absurd z (by omega)⟩
      | succ c ihc =>
        intro v v0 hv kk
        have pv : p (v : Int) = (sumG m v && (decide (v = n) || decide (wp n F (m ||| 2 ^ (v - 1)) v = -1))) := by subst hp; rfl
        rw [lowF, pv] at kk
        have next : (sumG m v && (decide (v = n) || decide (wp n F (m ||| 2 ^ (v - 1)) v = -1))) = false → Jt mX11_winningPlay (d + (F + 1) + 1) 0 t Q 4 [iv ((2 * m : Nat) : Int), iv (last : Int), iv (n : Int), iv ((v : Int) + 1)] [] σ := fun e => by
          rw [e] at kk
          have := ihc (v + 1) (by omega) (by omega) kk
          rw [show ((v + 1 : Nat) : Int) = (v : Int) + 1 by omega] at this
          exact this
        refine b_X11_winningPlay_4 ⟨rng (by omega) (by omega), rng (by omega) (by omega), fun z => absurd z (by omega), fun _ => h_isSumG (by omega) (by omega) (fun s => ⟨⟨by decide, by decide⟩, fun z => absurd z (by decide), fun _ => ⟨rng (by omega) (by omega), rng (by omega) (by omega), fun z => ?_, fun z => ?_⟩⟩) (fun s => ⟨in0, fun _ => next (by rw [s]; rfl), fun z => absurd rfl z⟩)⟩
        · rw [s, decide_eq_true (show v = n by omega)] at kk
          exact kk
        · rw [shl_nat (by omega), or_nat (by omega) (pow_lt (by omega)), dbl_or (by omega)]
          have wi := wp_in (n := n) (F := F) (m := m ||| 2 ^ (v - 1)) (last := v)
          refine ih (d := d) (m := m ||| 2 ^ (v - 1)) (last := v) (by omega) (Nat.or_lt_two_pow hm (Nat.pow_lt_pow_right (by decide) (by omega))) (by omega) ⟨rng (by omega) (by omega), fun w => next ?_, fun w => ?_⟩
          · rw [s, decide_eq_false (show ¬ v = n by omega), decide_eq_false w]; rfl
          · rw [s, decide_eq_true w] at kk
            simp at kk
            exact kk
    have := loop (n - last) (last + 1) (by omega) (by omega) (by rw [show ((last + 1 : Nat) : Int) = (last : Int) + 1 by omega]; exact k)
    rw [show ((last + 1 : Nat) : Int) = (last : Int) + 1 by omega] at this
    exact this
theorem m_has {d : Nat} {m s : Nat} {Q : Int → jM → Prop} (hm : m < 2147483648) (hs : s < 32) (k : Q (b01 (m.testBit s)) σ) : Ct mX12_has d 0 t [iv (m : Int), iv (s : Int)] σ Q := by
  refine c_X12_has ⟨i_and_R, fun z => ?_, fun z => ?_⟩
  · rw [andc1, shr_bit hm hs] at z
    have : m.testBit s = false := by simpa using z
    rw [this] at k; exact k
  · rw [andc1, shr_bit hm hs] at z
    rw [z] at k; exact k
theorem m_isSumIn {d : Nat} {m v : Nat} {Q : Int → jM → Prop} (hm : m < 2147483648) (hv : v ≤ 30) (k1 : sumG m v = true → Q 1 σ) (k0 : sumG m v = false → Q 0 σ) : Ct mX12_isSumIn (d + 1) 0 t [iv (m : Int), iv (v : Int)] σ Q := by
  refine c_X12_isSumIn ?_
  have loop : ∀ (c : Nat) (i : Nat), 1 ≤ i → i + c = v / 2 + 1 → (∀ x, 1 ≤ x → x < i → ¬ (m.testBit (x - 1) && m.testBit (v - x - 1)) = true) → Jt mX12_isSumIn (d + 1) 0 t Q 2 [iv (m : Int), iv (v : Int), iv (i : Int)] [] σ := by
    intro c
    induction c with
    | zero =>
      intro i i0 hi no
      refine b_X12_isSumIn_2 ⟨rng (by omega) (by omega), rng (by omega) (by omega), fun _ => k0 ?_, fun z => absurd z (by omega)⟩
      cases e : sumG m v with
      | false => rfl
      | true =>
        obtain ⟨x, a, b, h⟩ := (anyN_iff _ _).mp e
        exact absurd h (no x a (by omega))
    | succ c ih =>
      intro i i0 hi no
      have next : ¬ (m.testBit (i - 1) && m.testBit (v - i - 1)) = true → Jt mX12_isSumIn (d + 1) 0 t Q 2 [iv (m : Int), iv (v : Int), iv ((i : Int) + 1)] [] σ := fun z => by
        have := ih (i + 1) (by omega) (by omega) (fun x x0 x1 => ?_)
        · rw [show ((i + 1 : Nat) : Int) = (i : Int) + 1 by omega] at this
          exact this
        · by_cases e : x = i
          · rw [e]; exact z
          · exact no x x0 (by omega)
      refine b_X12_isSumIn_2 ⟨rng (by omega) (by omega), rng (by omega) (by omega), fun z => absurd z (by omega), fun _ => ?_⟩
      rw [show (i : Int) - 1 = ((i - 1 : Nat) : Int) by omega, show (v : Int) - (i : Int) - 1 = ((v - i - 1 : Nat) : Int) by omega]
      refine m_has hm (by omega) ⟨b01_R, fun z => next (by rw [b01_0.mp z]; simp), fun z => m_has hm (by omega) ⟨b01_R, fun y => next (by rw [b01_0.mp y]; simp), fun y => k1 ((anyN_iff _ _).mpr ⟨i, i0, by omega, by rw [b01_1 z, b01_1 y]; rfl⟩)⟩⟩
  exact loop (v / 2) 1 (by omega) (by omega) (fun x x0 x1 => absurd x1 (by omega))
def isTop (m last : Nat) : Prop := 1 ≤ last ∧ m.testBit (last - 1) = true ∧ ∀ i, last ≤ i → m.testBit i = false
theorem top_ex {m : Nat} (h : m.testBit 0 = true) : ∀ b, m < 2 ^ b → ∃ last, isTop m last
  | 0, hb => by
    have : m = 0 := by omega
    subst this
    simp at h
  | b + 1, hb => by
    by_cases e : m.testBit b = true
    · exact ⟨b + 1, by omega, e, fun i hi => Nat.testBit_lt_two_pow (Nat.lt_of_lt_of_le hb (Nat.pow_le_pow_right (by decide) hi))⟩
    · refine top_ex h b (Nat.lt_pow_two_of_testBit _ (fun i hi => ?_))
      rcases Nat.lt_or_eq_of_le hi with q | q
      · exact Nat.testBit_lt_two_pow (Nat.lt_of_lt_of_le hb (Nat.pow_le_pow_right (by decide) q))
      · rw [← q]; simpa using e
theorem top_lt {m last : Nat} (h : isTop m last) : m < 2 ^ last := Nat.lt_pow_two_of_testBit _ h.2.2
theorem top_or {m last v : Nat} (h : isTop m last) (hv : last < v) : isTop (m ||| 2 ^ (v - 1)) v := by
  refine ⟨by omega, ?_, fun i hi => ?_⟩
  · rw [Nat.testBit_or, Nat.testBit_two_pow]; simp
  · rw [Nat.testBit_or, Nat.testBit_two_pow, h.2.2 i (by omega)]
    simp
    omega
theorem top_uq {m a b : Nat} (ha : isTop m a) (hb : isTop m b) : a = b := by
  rcases Nat.lt_trichotomy a b with q | q | q
  · have := ha.2.2 (b - 1) (by omega)
    rw [hb.2.1] at this; cases this
  · exact q
  · have := hb.2.2 (a - 1) (by omega)
    rw [ha.2.1] at this; cases this
/-- the reference's table of who wins, above s -/
def WN (n s : Nat) (σ : jM) : Prop := ∀ s' : Nat, s < s' → s' < 2 ^ (n - 1) → s'.testBit 0 = true → ∀ last, isTop s' last → σ 340 (s' : Int) = b01 (!decide (wp n n s' last = -1))
theorem m_playOf {d : Nat} {n m last : Nat} {Q : Int → jM → Prop} (hn : 2 ≤ n ∧ n ≤ 12) (hm : m < 2 ^ (n - 1)) (h0 : m.testBit 0 = true) (ht : isTop m last) (hw : WN n m σ) (k : Q (wp n n m last) σ) : Ct mX12_playOf (d + 3) 0 t [rv 321, iv (m : Int), iv (n : Int)] σ Q := by
  have pn : 2 ^ (n - 1) ≤ 2048 := Nat.pow_le_pow_right (by decide) (show n - 1 ≤ 11 by omega)
  have ln : last < n := by
    rcases Nat.lt_or_ge last n with q | q
    · exact q
    · have := Nat.testBit_lt_two_pow (x := m) (i := last - 1) (Nat.lt_of_lt_of_le hm (Nat.pow_le_pow_right (by decide) (by omega)))
      rw [ht.2.1] at this; cases this
  have l1 := ht.1
  rw [wp_fuel n (n + 1) m last (by omega) (by omega), wp] at k
  obtain ⟨p, hp⟩ : ∃ p : Int → Bool, p = fun v => sumG m v.toNat && (decide (v.toNat = n) || decide (wp n n (m ||| 2 ^ (v.toNat - 1)) v.toNat = -1)) := ⟨_, rfl⟩
  rw [← hp] at k
  refine c_X12_playOf ?_
  have second : ∀ (c : Nat) (v : Nat), last < v → v + c = n + 1 → Q (lowF p c (v : Int)) σ → Jt mX12_playOf (d + 3) 0 t Q 36 [rv 321, iv (m : Int), iv (n : Int), iv (last : Int), iv (v : Int)] [] σ := by
    intro c
    induction c with
    | zero =>
      intro v v0 hv kk
      exact b_X12_playOf_36 ⟨rng (by omega) (by omega), rng (by omega) (by omega), fun _ => kk, fun z => absurd z (by omega)⟩
    | succ c ihc =>
      intro v v0 hv kk
      have pv : p (v : Int) = (sumG m v && (decide (v = n) || decide (wp n n (m ||| 2 ^ (v - 1)) v = -1))) := by subst hp; rfl
      rw [lowF, pv] at kk
      have next : (sumG m v && (decide (v = n) || decide (wp n n (m ||| 2 ^ (v - 1)) v = -1))) = false → Jt mX12_playOf (d + 3) 0 t Q 36 [rv 321, iv (m : Int), iv (n : Int), iv (last : Int), iv ((v : Int) + 1)] [] σ := fun e => by
        rw [e] at kk
        have := ihc (v + 1) (by omega) (by omega) kk
        rw [show ((v + 1 : Nat) : Int) = (v : Int) + 1 by omega] at this
        exact this
      refine b_X12_playOf_36 ⟨rng (by omega) (by omega), rng (by omega) (by omega), fun z => absurd z (by omega), fun _ => m_isSumIn (d := d + 1) (by omega) (by omega) (fun s => ⟨⟨by decide, by decide⟩, fun z => absurd z (by decide), fun _ => ⟨rng (by omega) (by omega), rng (by omega) (by omega), fun z => ?_, fun z => ?_⟩⟩) (fun s => ⟨in0, fun _ => next (by rw [s]; rfl), fun z => absurd rfl z⟩)⟩
      · rw [s, decide_eq_true (show v = n by omega)] at kk
        exact kk
      · rw [show (v : Int) - 1 = ((v - 1 : Nat) : Int) by omega, shl_nat (by omega), or_nat (by omega) (pow_lt (by omega))]
        have lt2 : m ||| 2 ^ (v - 1) < 2 ^ (n - 1) := Nat.or_lt_two_pow hm (Nat.pow_lt_pow_right (by decide) (by omega))
        have gt : m < m ||| 2 ^ (v - 1) := Nat.lt_of_lt_of_le (top_lt ht) (Nat.le_trans (Nat.pow_le_pow_right (by decide) (show last ≤ v - 1 by omega)) Nat.right_le_or)
        have e := hw (m ||| 2 ^ (v - 1)) gt lt2 (by rw [Nat.testBit_or, h0]; rfl) v (top_or ht v0)
        rw [e]
        refine ⟨⟨by omega, by omega⟩, b01_R, fun w => next ?_, fun w => ?_⟩
        · have := b01_1 w
          simp at this
          rw [s, decide_eq_false (show ¬ v = n by omega), decide_eq_false this]; rfl
        · have := b01_0.mp w
          simp at this
          rw [s, decide_eq_true this] at kk
          simp at kk
          exact kk
  have sec := second (n - last) (last + 1) (by omega) (by omega) (by rw [show ((last + 1 : Nat) : Int) = (last : Int) + 1 by omega]; exact k)
  rw [show ((last + 1 : Nat) : Int) = (last : Int) + 1 by omega] at sec
  have first : ∀ (c : Nat) (v : Nat) (top : Int), 1 ≤ v → v + c = n → (last < v → top = last) → Jt mX12_playOf (d + 3) 0 t Q 5 [rv 321, iv (m : Int), iv (n : Int), iv top, iv (v : Int)] [] σ := by
    intro c
    induction c with
    | zero =>
      intro v top v0 hv ht'
      have := ht' (by omega)
      subst this
      exact b_X12_playOf_5 ⟨rng (by omega) (by omega), rng (by omega) (by omega), fun _ => sec, fun z => absurd z (by omega)⟩
    | succ c ihc =>
      intro v top v0 hv ht'
      refine b_X12_playOf_5 ⟨rng (by omega) (by omega), rng (by omega) (by omega), fun z => absurd z (by omega), fun _ => ?_⟩
      rw [show (v : Int) - 1 = ((v - 1 : Nat) : Int) by omega]
      refine m_has (by omega) (by omega) ⟨b01_R, fun z => ?_, fun z => ?_⟩
      · have := ihc (v + 1) top (by omega) (by omega) (fun q => ?_)
        · rw [show ((v + 1 : Nat) : Int) = (v : Int) + 1 by omega] at this
          exact this
        · rcases Nat.lt_or_eq_of_le (show last ≤ v by omega) with w | w
          · exact ht' w
          · have := b01_0.mp z
            rw [← w, ht.2.1] at this; cases this
      · have := ihc (v + 1) (v : Int) (by omega) (by omega) (fun q => ?_)
        · rw [show ((v + 1 : Nat) : Int) = (v : Int) + 1 by omega] at this
          exact this
        · rcases Nat.lt_or_eq_of_le (show last ≤ v by omega) with w | w
          · have a := b01_1 z
            rw [ht.2.2 (v - 1) (by omega)] at a; cases a
          · rw [w]
  exact first (n - 1) 1 1 (by omega) (by omega) (fun q => by omega)
theorem WN_up {n s : Nat} {σ' : jM} {b : Int} (hw : WN n (s + 1) σ) (e : σ' = up σ 340 ((s + 1 : Nat) : Int) b) (hb : (s + 1).testBit 0 = true → ∀ last, isTop (s + 1) last → b = b01 (!decide (wp n n (s + 1) last = -1))) : WN n s σ' := fun s' h1 h2 h3 last h4 => by
  by_cases q : s' = s + 1
  · subst q
    rw [e, up_at]
    exact hb h3 last h4
  · rw [e, up_ne (Or.inr (by omega))]
    exact hw s' (by omega) h2 h3 last h4
theorem m_playFirst {d : Nat} {n : Nat} {Q : Int → jM → Prop} (hn : 2 ≤ n ∧ n ≤ 12) (k : ∀ σ', (∀ x, x ≠ 340 → σ' x = σ x) → Q (wp n n 1 1) σ') : Ct mX12_playFirst (d + 4) 0 t [rv 321, iv (n : Int)] σ Q := by
  have pn : 2 ^ (n - 1) ≤ 2048 := Nat.pow_le_pow_right (by decide) (show n - 1 ≤ 11 by omega)
  have pn2 : 2 ≤ 2 ^ (n - 1) := Nat.le_trans (show 2 ≤ 2 ^ 1 by decide) (Nat.pow_le_pow_right (by decide) (by omega))
  refine c_X12_playFirst ?_
  rw [show (n : Int) - 1 = ((n - 1 : Nat) : Int) by omega, shl_nat (by omega)]
  have loop : ∀ (s : Nat) (τ : jM), 1 ≤ s → s < 2 ^ (n - 1) → WN n s τ → (∀ x, x ≠ 340 → τ x = σ x) → Jt mX12_playFirst (d + 4) 0 t Q 8 [rv 321, iv (n : Int), iv (s : Int)] [] τ := by
    intro s
    induction s with
    | zero => intro τ h; omega
    | succ s ih =>
      intro τ s0 s1 hw ot
      rcases Nat.eq_zero_or_pos s with q | q
      · subst q
        exact b_X12_playFirst_8 ⟨⟨by decide, by decide⟩, fun _ => m_playOf (d := d) (m := 1) (last := 1) hn (by omega) (by decide) ⟨by omega, by decide, fun i hi => Nat.testBit_lt_two_pow (Nat.lt_of_lt_of_le (show 1 < 2 ^ 1 by decide) (Nat.pow_le_pow_right (by decide) hi))⟩ hw (k τ ot), fun z => absurd z (by decide)⟩
      · have nx : ∀ (σ6 : jM) (b : Int), σ6 = up τ 340 ((s + 1 : Nat) : Int) b → ((s + 1).testBit 0 = true → ∀ last, isTop (s + 1) last → b = b01 (!decide (wp n n (s + 1) last = -1))) → Jt mX12_playFirst (d + 4) 0 t Q 8 [rv 321, iv (n : Int), iv (((s + 1 : Nat) : Int) + -1)] [] σ6 := fun σ6 b e6 hb => by
          rw [show ((s + 1 : Nat) : Int) + -1 = (s : Int) by omega]
          exact ih σ6 q (by omega) (WN_up hw e6 hb) (fun x hx => by rw [e6, up_row hx]; exact ot x hx)
        refine b_X12_playFirst_8 ⟨rng (by omega) (by omega), fun z => absurd z (by omega), fun _ => m_has (m := s + 1) (s := 0) (by omega) (by omega) ⟨b01_R, fun z => ⟨by omega, fun σ6 e6 => nx σ6 0 e6 (fun h => by rw [h] at z; cases z)⟩, fun z => ?_⟩⟩
        have h0 := b01_1 z
        obtain ⟨last, hl⟩ := top_ex h0 (n - 1) s1
        have wi := wp_in (n := n) (F := n) (m := s + 1) (last := last)
        refine m_playOf (d := d) (m := s + 1) (last := last) hn s1 h0 hl hw ⟨rng (by omega) (by omega), fun w => ⟨by omega, fun σ6 e6 => nx σ6 0 e6 (fun _ l2 hl2 => ?_)⟩, fun w => ⟨by omega, fun σ6 e6 => nx σ6 1 e6 (fun _ l2 hl2 => ?_)⟩⟩
        · rw [top_uq hl2 hl, w]; rfl
        · rw [top_uq hl2 hl, decide_eq_false w]; rfl
  have := loop (2 ^ (n - 1) - 1) σ (by omega) (by omega) (fun s' h1 h2 => by omega) (fun _ _ => rfl)
  rw [show ((2 ^ (n - 1) - 1 : Nat) : Int) = ((2 ^ (n - 1) : Nat) : Int) - 1 by omega] at this
  exact this
theorem m_isGame {d : Nat} {n : Int} {Q : Int → jM → Prop} (hn : inR n) (k : Q (b01 (inB n 2 12)) σ) : Ct mX12_isGame (d + 1) 0 t [iv n] σ Q :=
  c_X12_isGame (m_isIn hn ⟨by decide, by decide⟩ ⟨by decide, by decide⟩ ⟨b01_2, k⟩)
theorem a_game {n : Int} (d : Nat) (I : I0 L σ) (hn : inR n) {Q : Int → jM → Prop} (k : ∀ r σ1, (∀ (d2 : Nat) Q2, (∀ r' σ2, Same L σ r r' σ2 → Q2 r' σ2) → Ct mX12_game (d2 + 11) 0 t [rv 321, iv n] σ1 Q2) → Q r σ1) : Ct mX11_game (d + 20) 0 t [rv 1, iv n] σ Q := by
  have bad : (n < 2 ∨ 12 < n) → Q (-1) σ := fun hb => k _ σ (fun d2 Q2 k2 => c_X12_game (m_isGame (d := d2 + 9) hn ⟨b01_R, fun z => by have := inB_t (b01_1 z); omega, fun _ => same0 I ⟨by decide, by decide⟩ k2⟩))
  refine c_X11_game ⟨hn, fun z => bad (by omega), fun z => ⟨hn, fun y => ?_, fun y => bad (by omega)⟩⟩
  obtain ⟨m, em⟩ : ∃ m : Nat, n = (m : Int) := ⟨n.toNat, by omega⟩
  subst em
  have wi := wp_in (n := m) (F := m) (m := 1) (last := 1)
  have ref : ∀ (r : Int), r = (if wp m m 1 1 = -1 then 0 else 1) → ∀ (d2 : Nat) (Q2 : Int → jM → Prop), (∀ r' σ2, Same L σ r r' σ2 → Q2 r' σ2) → Ct mX12_game (d2 + 11) 0 t [rv 321, iv (m : Int)] σ Q2 := by
    intro r hr d2 Q2 k2
    refine c_X12_game (m_isGame (d := d2 + 9) hn ⟨b01_R, fun _ => m_playFirst (d := d2 + 6) (by omega) (fun σ2 o2 => ⟨rng (by omega) (by omega), fun w => ?_, fun w => ?_⟩), fun u => by have := inB_f (b01_0.mp u); omega⟩)
    · rw [if_neg w] at hr
      subst hr
      exact k2 _ _ ⟨rfl, ⟨by decide, by decide⟩, I0_scr (c := 340) I (by omega) o2⟩
    · rw [if_pos w] at hr
      subst hr
      exact k2 _ _ ⟨rfl, ⟨by decide, by decide⟩, I0_scr (c := 340) I (by omega) o2⟩
  refine Ct_le (h_win (n := m) (by omega) m (d := d) (m := 1) (last := 1) (by omega) (Nat.one_lt_two_pow (by omega)) (by omega) ⟨rng (by omega) (by omega), fun w => k 1 σ (ref 1 (by rw [if_neg w])), fun w => k 0 σ (ref 0 (by rw [if_pos w]))⟩) (by omega)
theorem a_play {n : Int} (d : Nat) (I : I0 L σ) (hn : inR n) {Q : Int → jM → Prop} (k : ∀ r σ1, (∀ (d2 : Nat) Q2, (∀ r' σ2, Same L σ r r' σ2 → Q2 r' σ2) → Ct mX12_play (d2 + 11) 0 t [rv 321, iv n] σ1 Q2) → Q r σ1) : Ct mX11_play (d + 20) 0 t [rv 1, iv n] σ Q := by
  have bad : (n < 2 ∨ 12 < n) → Q (-1) σ := fun hb => k _ σ (fun d2 Q2 k2 => c_X12_play (m_isGame (d := d2 + 9) hn ⟨b01_R, fun _ => same0 I ⟨by decide, by decide⟩ k2, fun z => by have := inB_t (b01_1 z); omega⟩))
  refine c_X11_play ⟨hn, fun z => bad (by omega), fun z => ⟨hn, fun y => ?_, fun y => bad (by omega)⟩⟩
  obtain ⟨m, em⟩ : ∃ m : Nat, n = (m : Int) := ⟨n.toNat, by omega⟩
  subst em
  have wi := wp_in (n := m) (F := m) (m := 1) (last := 1)
  refine Ct_le (h_win (n := m) (by omega) m (d := d) (m := 1) (last := 1) (by omega) (Nat.one_lt_two_pow (by omega)) (by omega) (k _ σ (fun d2 Q2 k2 => ?_))) (by omega)
  exact c_X12_play (m_isGame (d := d2 + 9) hn ⟨b01_R, fun u => (by have := inB_f (b01_0.mp u); omega), fun _ => m_playFirst (d := d2 + 6) (by omega) (fun σ2 o2 => k2 _ _ ⟨rfl, rng (by omega) (by omega), I0_scr (c := 340) I (by omega) o2⟩)⟩)
end GA
