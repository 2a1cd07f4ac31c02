/-! ===== chains of sums ===== -/
def exB (p : Int → Bool) : Nat → Bool
  | 0 => false
  | n + 1 => p n || exB p n
theorem exB_iff {p : Int → Bool} : ∀ {n : Nat}, exB p n = true ↔ ∃ i : Int, 0 ≤ i ∧ i < n ∧ p i = true
  | 0 => ⟨fun h => absurd h (by rw [exB]; decide), fun ⟨i, a, b, _⟩ => absurd b (by omega)⟩
  | n + 1 => by
    rw [exB, Bool.or_eq_true, exB_iff (n := n)]
    constructor
    · rintro (h | ⟨i, a, b, c⟩)
      · exact ⟨n, by omega, by omega, h⟩
      · exact ⟨i, a, by omega, c⟩
    · rintro ⟨i, a, b, c⟩
      by_cases e : i = n
      · left; rw [← e]; exact c
      · right; exact ⟨i, a, by omega, c⟩
def sumB (f : Int → Int) (m : Nat) (v : Int) : Bool := exB (fun i => exB (fun k => decide (f i + f k = v)) (i.toNat + 1)) m
theorem sumB_iff {f : Int → Int} {m : Nat} {v : Int} : sumB f m v = true ↔ SumP f m v := by
  unfold sumB
  rw [exB_iff]
  constructor
  · rintro ⟨i, a, b, c⟩
    rw [exB_iff] at c
    obtain ⟨k, x, y, z⟩ := c
    exact ⟨i, k, x, by omega, b, of_decide_eq_true z⟩
  · rintro ⟨i, k, x, y, b, z⟩
    exact ⟨i, by omega, b, exB_iff.mpr ⟨k, x, by omega, decide_eq_true z⟩⟩
theorem SumP_agr {f g : Int → Int} {m v : Int} (h : ∀ i, 0 ≤ i → i < m → f i = g i) : SumP f m v ↔ SumP g m v := by
  constructor
  · rintro ⟨i, k, a, b, c, e⟩
    exact ⟨i, k, a, b, c, by rw [← h i (by omega) c, ← h k a (by omega)]; exact e⟩
  · rintro ⟨i, k, a, b, c, e⟩
    exact ⟨i, k, a, b, c, by rw [h i (by omega) c, h k a (by omega)]; exact e⟩
def lowO {α : Type} (p : Int → Option α) : Nat → Int → Option α
  | 0, _ => none
  | c + 1, v => match p v with
    | some g => some g
    | none => lowO p c (v + 1)
theorem lowO_none {α : Type} {p : Int → Option α} : ∀ (c : Nat) (v : Int), (∀ x, v ≤ x → x < v + c → p x = none) → lowO p c v = none
  | 0, _, _ => rfl
  | c + 1, v, h => by
    rw [lowO, h v (by omega) (by omega)]
    exact lowO_none c (v + 1) (fun x a b => h x (by omega) (by omega))
theorem lowO_skip {α : Type} {p : Int → Option α} : ∀ (j c : Nat) (v : Int), (∀ x, v ≤ x → x < v + j → p x = none) → lowO p (j + c) v = lowO p c (v + j)
  | 0, c, v, _ => by rw [Nat.zero_add, show v + ((0 : Nat) : Int) = v by omega]
  | j + 1, c, v, h => by
    rw [show j + 1 + c = (j + c) + 1 by omega, lowO, h v (by omega) (by omega)]
    show lowO p (j + c) (v + 1) = _
    rw [lowO_skip j c (v + 1) (fun x a b => h x (by omega) (by omega)), show v + 1 + (j : Int) = v + ((j + 1 : Nat) : Int) by omega]
theorem lowO_some {α : Type} {p : Int → Option α} {g : α} : ∀ (c : Nat) (v : Int), lowO p c v = some g → ∃ x, v ≤ x ∧ x < v + c ∧ p x = some g
  | 0, _, h => by rw [lowO] at h; cases h
  | c + 1, v, h => by
    rw [lowO] at h
    cases e : p v with
    | some g' =>
      rw [e] at h
      exact ⟨v, by omega, by omega, by rw [e]; exact h⟩
    | none =>
      rw [e] at h
      obtain ⟨x, a, b, c⟩ := lowO_some c (v + 1) h
      exact ⟨x, by omega, by omega, c⟩
theorem lowO_allnone {α : Type} {p : Int → Option α} : ∀ (c : Nat) (v : Int), lowO p c v = none → ∀ x, v ≤ x → x < v + c → p x = none
  | 0, _, _, x, a, b => absurd b (by omega)
  | c + 1, v, h, x, a, b => by
    rw [lowO] at h
    cases e : p v with
    | some g' => rw [e] at h; cases h
    | none =>
      rw [e] at h
      by_cases ex : x = v
      · rw [ex]; exact e
      · exact lowO_allnone c (v + 1) h x (by omega) (by omega)
def sumO (p : Int → Int) : Nat → Int → Int
  | 0, _ => 0
  | c + 1, v => p v + sumO p c (v + 1)
theorem sumO_skip {p : Int → Int} : ∀ (j c : Nat) (v : Int), (∀ x, v ≤ x → x < v + j → p x = 0) → sumO p (j + c) v = sumO p c (v + j)
  | 0, c, v, _ => by rw [Nat.zero_add, show v + ((0 : Nat) : Int) = v by omega]
  | j + 1, c, v, h => by
    rw [show j + 1 + c = (j + c) + 1 by omega, sumO, h v (by omega) (by omega), sumO_skip j c (v + 1) (fun x a b => h x (by omega) (by omega)), show v + 1 + (j : Int) = v + ((j + 1 : Nat) : Int) by omega, Int.zero_add]
theorem sumO_zero {p : Int → Int} : ∀ (c : Nat) (v : Int), (∀ x, v ≤ x → x < v + c → p x = 0) → sumO p c v = 0
  | 0, _, _ => rfl
  | c + 1, v, h => by
    rw [sumO, h v (by omega) (by omega), sumO_zero c (v + 1) (fun x a b => h x (by omega) (by omega))]
    rfl
/-- the last is n, and all that is wanted is there -/
def okB (P : Int → Bool) (n : Int) (f : Int → Int) (k : Nat) : Bool := decide (f k = n) && !(exB (fun x => P x && !(exB (fun j => decide (f j = x)) (k + 1))) (n.toNat + 1))
def OkP (P : Int → Bool) (n : Int) (f : Int → Int) (k : Int) : Prop := f k = n ∧ ∀ x, 0 ≤ x → x ≤ n → P x = true → ∃ j, 0 ≤ j ∧ j ≤ k ∧ f j = x
theorem okB_iff {P : Int → Bool} {n : Int} {f : Int → Int} {k : Nat} (hn0 : 0 ≤ n) : okB P n f k = true ↔ OkP P n f k := by
  unfold okB OkP
  rw [Bool.and_eq_true, decide_eq_true_eq, Bool.not_eq_true']
  refine and_congr Iff.rfl ?_
  constructor
  · intro h x x0 xn px
    apply Classical.byContradiction
    intro hn
    have : exB (fun x => P x && !(exB (fun j => decide (f j = x)) (k + 1))) (n.toNat + 1) = true := by
      refine exB_iff.mpr ⟨x, x0, by omega, ?_⟩
      rw [px, Bool.true_and, Bool.not_eq_true']
      cases e : exB (fun j => decide (f j = x)) (k + 1) with
      | false => rfl
      | true =>
        obtain ⟨j, a, b, c⟩ := exB_iff.mp e
        exact absurd ⟨j, a, by omega, of_decide_eq_true c⟩ hn
    rw [this] at h
    cases h
  · intro h
    cases e : exB (fun x => P x && !(exB (fun j => decide (f j = x)) (k + 1))) (n.toNat + 1) with
    | false => rfl
    | true =>
      obtain ⟨x, x0, x1, px⟩ := exB_iff.mp e
      rw [Bool.and_eq_true, Bool.not_eq_true'] at px
      obtain ⟨j, a, b, c⟩ := h x x0 (by omega) px.1
      rw [exB_iff.mpr ⟨j, a, by omega, decide_eq_true c⟩] at px
      cases px.2
/-- what begins a chain -/
def Pre (f : Int → Int) (k : Int) : Prop := f 0 = 1 ∧ ∀ i, 1 ≤ i → i ≤ k → (f (i - 1) < f i ∧ SumP f i (f i))
def agK (f g : Int → Int) (k : Int) : Prop := ∀ i, 0 ≤ i → i ≤ k → f i = g i
theorem Pre_agr {f g : Int → Int} {k : Int} (h : agK f g k) (k0 : 0 ≤ k) (p : Pre f k) : Pre g k := by
  refine ⟨by rw [← h 0 (by omega) k0]; exact p.1, fun i i0 i1 => ?_⟩
  have := p.2 i i0 i1
  rw [← h i (by omega) i1, ← h (i - 1) (by omega) (by omega)]
  exact ⟨this.1, (SumP_agr (fun x a b => h x a (by omega))).mp this.2⟩
theorem Pre_le {f : Int → Int} {k j : Int} (h : j ≤ k) (p : Pre f k) : Pre f j := ⟨p.1, fun i a b => p.2 i a (by omega)⟩
theorem Pre_mono {f : Int → Int} {k : Int} (p : Pre f k) : ∀ (c : Nat) (i : Int), 0 ≤ i → i + c ≤ k → f i + c ≤ f (i + c)
  | 0, i, _, _ => by rw [show i + ((0 : Nat) : Int) = i by omega]; omega
  | c + 1, i, h0, h1 => by
    have := Pre_mono p c i h0 (by omega)
    have q := (p.2 (i + (c + 1 : Nat)) (by omega) h1).1
    rw [show i + ((c + 1 : Nat) : Int) - 1 = i + (c : Int) by omega] at q
    omega
theorem Pre_lt {f : Int → Int} {k i j : Int} (p : Pre f k) (h0 : 0 ≤ i) (h1 : i < j) (h2 : j ≤ k) : f i < f j := by
  have := Pre_mono p (j - i).toNat i h0 (by omega)
  rw [show i + ((j - i).toNat : Int) = j by omega] at this
  omega
theorem Pre_leq {f : Int → Int} {k i j : Int} (p : Pre f k) (h0 : 0 ≤ i) (h1 : i ≤ j) (h2 : j ≤ k) : f i ≤ f j := by
  rcases Int.lt_or_eq_of_le h1 with h | h
  · exact Int.le_of_lt (Pre_lt p h0 h h2)
  · rw [h]; exact Int.le_refl _
theorem Pre_pos {f : Int → Int} {k i : Int} (p : Pre f k) (h0 : 0 ≤ i) (h2 : i ≤ k) : i + 1 ≤ f i := by
  have := Pre_mono p i.toNat 0 (by omega) (by omega)
  rw [show (0 : Int) + (i.toNat : Int) = i by omega, p.1] at this
  omega
theorem Pre_dbl {f : Int → Int} {k i : Int} (p : Pre f k) (h0 : 0 ≤ i) (h1 : i + 1 ≤ k) : f (i + 1) ≤ 2 * f i := by
  obtain ⟨a, b, b0, ba, ai, e⟩ := (p.2 (i + 1) (by omega) h1).2
  have x1 := Pre_leq p (i := a) (j := i) (by omega) (by omega) (by omega)
  have x2 := Pre_leq p (i := b) (j := i) (by omega) (by omega) (by omega)
  omega
theorem Pre_grow {f : Int → Int} {k : Int} (p : Pre f k) : ∀ (c : Nat) (i : Int), 0 ≤ i → i + c ≤ k → f (i + c) ≤ f i * pw2 c
  | 0, i, _, _ => by
    rw [show i + ((0 : Nat) : Int) = i by omega]
    show f i ≤ f i * 1
    omega
  | c + 1, i, h0, h1 => by
    have a := Pre_grow p c i h0 (by omega)
    have b := Pre_dbl p (i := i + c) (by omega) (by omega)
    rw [show i + (c : Int) + 1 = i + ((c + 1 : Nat) : Int) by omega] at b
    show _ ≤ f i * (2 * pw2 c)
    have e : f i * (2 * pw2 c) = 2 * (f i * pw2 c) := by rw [Int.mul_left_comm]
    omega
/-- an odd last one is no double -/
theorem Pre_odd {f : Int → Int} {k : Int} (p : Pre f k) (c : Nat) (i : Int) (h0 : 0 ≤ i) (h1 : i + (c + 2 : Nat) ≤ k) (ho : f (i + (c + 2 : Nat)) % 2 = 1) : f (i + (c + 2 : Nat)) ≤ f i * (3 * pw2 c) := by
  obtain ⟨a, b, b0, ba, ai, e⟩ := (p.2 (i + (c + 2 : Nat)) (by omega) h1).2
  have g1 := Pre_grow p (c + 1) i h0 (by omega)
  have g0 := Pre_grow p c i h0 (by omega)
  have hba : b < a := by
    rcases Int.lt_or_eq_of_le ba with h | h
    · exact h
    · rw [h] at e; omega
  have x1 := Pre_leq p (i := a) (j := i + (c + 1 : Nat)) (by omega) (by omega) (by omega)
  have x2 := Pre_leq p (i := b) (j := i + c) (by omega) (by omega) (by omega)
  have e1 : f i * pw2 (c + 1) = 2 * (f i * pw2 c) := by
    show f i * (2 * pw2 c) = _
    rw [Int.mul_left_comm]
  have e3 : f i * (3 * pw2 c) = 3 * (f i * pw2 c) := by rw [Int.mul_left_comm]
  omega
theorem Pre_wr {f : Int → Int} {k : Int} {v : Int} (k0 : 0 ≤ k) (p : Pre f k) (hv : f k < v) (hs : SumP f (k + 1) v) : Pre (wr f (k + 1) v) (k + 1) := by
  have ag : ∀ i, i ≤ k → wr f (k + 1) v i = f i := fun i h => wr_ne (by omega)
  refine ⟨by rw [ag 0 k0]; exact p.1, fun i i0 i1 => ?_⟩
  by_cases e : i = k + 1
  · subst e
    rw [wr_at, show k + 1 - 1 = k by omega, ag k (by omega)]
    exact ⟨hv, (SumP_agr (fun x a b => (ag x (by omega)).symm)).mp hs⟩
  · rw [ag i (by omega), ag (i - 1) (by omega)]
    have := p.2 i i0 (by omega)
    exact ⟨this.1, (SumP_agr (fun x a b => (ag x (by omega)).symm)).mp this.2⟩
/-- the lowest chain that goes on from the first k + 1 by l more, to n, with all that P wants -/
def DD (P : Int → Bool) (n : Int) : Nat → (Int → Int) → Nat → Option (Int → Int)
  | 0, f, k => if okB P n f k then some f else none
  | l + 1, f, k => lowO (fun v => if sumB f (k + 1) v then DD P n l (wr f ((k : Int) + 1) v) (k + 1) else none) (n - f k).toNat (f k + 1)
theorem DD_sound {P : Int → Bool} {n : Int} (hn : 0 ≤ n) : ∀ (l : Nat) {f g : Int → Int} {k : Nat}, Pre f k → DD P n l f k = some g → Pre g (k + l : Nat) ∧ OkP P n g (k + l : Nat) ∧ agK f g k
  | 0, f, g, k, p, h => by
    rw [DD] at h
    by_cases e : okB P n f k = true
    · rw [if_pos e] at h
      cases h
      exact ⟨p, (okB_iff hn).mp e, fun _ _ _ => rfl⟩
    · rw [if_neg e] at h
      cases h
  | l + 1, f, g, k, p, h => by
    rw [DD] at h
    obtain ⟨v, v0, v1, e⟩ := lowO_some _ _ h
    by_cases hs : sumB f (k + 1) v = true
    · rw [if_pos hs] at e
      have p' : Pre (wr f ((k : Int) + 1) v) ((k + 1 : Nat) : Int) := Pre_wr (by omega) p (by omega) (sumB_iff.mp hs)
      obtain ⟨a, b, c⟩ := DD_sound hn l p' e
      refine ⟨by rw [show k + (l + 1) = k + 1 + l by omega]; exact a, by rw [show k + (l + 1) = k + 1 + l by omega]; exact b, fun i i0 i1 => ?_⟩
      rw [← c i i0 (by omega), wr_ne (by omega)]
    · rw [if_neg hs] at e
      cases e
theorem DD_none {P : Int → Bool} {n : Int} (hn : 0 ≤ n) : ∀ (l : Nat) {f g : Int → Int} {k : Nat}, DD P n l f k = none → Pre g (k + l : Nat) → OkP P n g (k + l : Nat) → agK f g k → False
  | 0, f, g, k, h, p, ok, ag => by
    rw [DD] at h
    have : okB P n f k = true := (okB_iff hn).mpr ⟨by rw [ag k (by omega) (by omega)]; exact ok.1, fun x x0 x1 px => by
      obtain ⟨j, a, b, c⟩ := ok.2 x x0 x1 px
      exact ⟨j, a, b, by rw [ag j a b]; exact c⟩⟩
    rw [if_pos this] at h
    cases h
  | l + 1, f, g, k, h, p, ok, ag => by
    rw [DD] at h
    have p1 := p.2 ((k : Int) + 1) (by omega) (by omega)
    rw [show (k : Int) + 1 - 1 = k by omega] at p1
    have gn : g ((k : Int) + 1) ≤ n := by
      have := Pre_leq p (i := (k : Int) + 1) (j := ((k + (l + 1) : Nat) : Int)) (by omega) (by omega) (by omega)
      rw [ok.1] at this
      exact this
    have fk := ag k (by omega) (by omega)
    have hv := lowO_allnone _ _ h (g ((k : Int) + 1)) (by omega) (by omega)
    have hs : sumB f (k + 1) (g ((k : Int) + 1)) = true := sumB_iff.mpr ((SumP_agr (fun x a b => (ag x a (by omega)).symm)).mp p1.2)
    rw [if_pos hs] at hv
    refine DD_none hn l (f := wr f ((k : Int) + 1) (g ((k : Int) + 1))) (g := g) (k := k + 1) hv (by rw [show k + 1 + l = k + (l + 1) by omega]; exact p) (by rw [show k + 1 + l = k + (l + 1) by omega]; exact ok) (fun i i0 i1 => ?_)
    by_cases e : i = (k : Int) + 1
    · rw [e, wr_at]
    · rw [wr_ne e]; exact ag i i0 (by omega)
/-- what can't go on -/
theorem DD_not {P : Int → Bool} {n : Int} (hn : 0 ≤ n) {l : Nat} {f : Int → Int} {k : Nat} (p : Pre f k) (h : ∀ g, Pre g (k + l : Nat) → OkP P n g (k + l : Nat) → agK f g k → False) : DD P n l f k = none := by
  cases e : DD P n l f k with
  | none => rfl
  | some g =>
    obtain ⟨a, b, c⟩ := DD_sound hn l p e
    exact (h g a b c).elim
def NN (n : Int) : Nat → (Int → Int) → Nat → Int
  | 0, f, k => if f k = n then 1 else 0
  | l + 1, f, k => sumO (fun v => if sumB f (k + 1) v then NN n l (wr f ((k : Int) + 1) v) (k + 1) else 0) (n - f k).toNat (f k + 1)
theorem NN_not {n : Int} : ∀ (l : Nat) {f : Int → Int} {k : Nat}, Pre f k → (∀ g, Pre g (k + l : Nat) → g (k + l : Nat) = n → agK f g k → False) → NN n l f k = 0
  | 0, f, k, p, h => by
    have hne : ¬ f k = n := fun e => h f p e (fun _ _ _ => rfl)
    rw [NN, if_neg hne]
  | l + 1, f, k, p, h => by
    rw [NN]
    refine sumO_zero _ _ (fun v v0 v1 => ?_)
    by_cases hs : sumB f (k + 1) v = true
    · rw [if_pos hs]
      refine NN_not l (Pre_wr (by omega) p (by omega) (sumB_iff.mp hs)) (fun g a b c => h g ?_ ?_ (fun i i0 i1 => ?_))
      · rw [show k + (l + 1) = k + 1 + l by omega]; exact a
      · rw [show k + (l + 1) = k + 1 + l by omega]; exact b
      · rw [← c i i0 (by omega), wr_ne (by omega)]
    · rw [if_neg hs]
