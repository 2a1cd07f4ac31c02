/-! ===== the fewest joinings: they are there ===== -/
def f1 : Int → Int := fun _ => 1
/-- the lowest of the shortest chains -/
def Lst (P : Int → Bool) (n : Int) (J : Nat) (g : Int → Int) : Prop := DD P n J f1 0 = some g ∧ ∀ j, j < J → DD P n j f1 0 = none
theorem Lst_uq {P : Int → Bool} {n : Int} {J J' : Nat} {g g' : Int → Int} (h : Lst P n J g) (h' : Lst P n J' g') : J = J' ∧ g = g' := by
  rcases Nat.lt_trichotomy J J' with x | x | x
  · have := h'.2 J x; rw [h.1] at this; cases this
  · subst x
    have := h.1.symm.trans h'.1
    exact ⟨rfl, Option.some.inj this⟩
  · have := h.2 J' x; rw [h'.1] at this; cases this
theorem Pre_f1 : Pre f1 ((0 : Nat) : Int) := ⟨rfl, fun i a b => absurd b (by omega)⟩
theorem Lst_ex {P : Int → Bool} {n : Int} (hn : 0 ≤ n) : ∀ (J : Nat) {g : Int → Int}, Pre g J → OkP P n g J → ∃ J0 g0, J0 ≤ J ∧ Lst P n J0 g0 := by
  intro J
  induction J using Nat.strongRecOn with
  | ind J ih =>
    intro g p ok
    by_cases h : ∃ j, j < J ∧ DD P n j f1 0 ≠ none
    · obtain ⟨j, j1, hj⟩ := h
      cases e : DD P n j f1 0 with
      | none => exact absurd e hj
      | some g' =>
        obtain ⟨a, b, c⟩ := DD_sound hn j Pre_f1 e
        rw [Nat.zero_add] at a b
        obtain ⟨J0, g0, x, y⟩ := ih j j1 a b
        exact ⟨J0, g0, by omega, y⟩
    · cases e : DD P n J f1 0 with
      | some g' =>
        refine ⟨J, g', Nat.le_refl _, e, fun j hj => ?_⟩
        cases e2 : DD P n j f1 0 with
        | none => rfl
        | some g2 => exact absurd ⟨j, hj, by rw [e2]; exact fun q => by cases q⟩ h
      | none =>
        exfalso
        refine DD_none hn J (k := 0) e (by rw [Nat.zero_add]; exact p) (by rw [Nat.zero_add]; exact ok) (fun i a b => ?_)
        have : i = 0 := by omega
        subst this
        exact p.1.symm
theorem Lst_Pre {P : Int → Bool} {n : Int} {J : Nat} {g : Int → Int} (hn : 0 ≤ n) (h : Lst P n J g) : Pre g J ∧ OkP P n g J := by
  obtain ⟨a, b, _⟩ := DD_sound hn J Pre_f1 h.1
  rw [Nat.zero_add] at a b
  exact ⟨a, b⟩
/-- no shorter one -/
theorem Lst_min {P : Int → Bool} {n : Int} {J j : Nat} {g h : Int → Int} (hn : 0 ≤ n) (l : Lst P n J g) (hj : j < J) (p : Pre h j) (ok : OkP P n h j) : False := by
  refine DD_none hn j (k := 0) (l.2 j hj) (by rw [Nat.zero_add]; exact p) (by rw [Nat.zero_add]; exact ok) (fun i a b => ?_)
  have : i = 0 := by omega
  subst this
  exact p.1.symm
def tabC : List (List Int) := [[], [1], [1, 2], [1, 2, 3], [1, 2, 4], [1, 2, 4, 5], [1, 2, 4, 6], [1, 2, 4, 6, 7], [1, 2, 4, 8], [1, 2, 4, 8, 9], [1, 2, 4, 8, 10], [1, 2, 4, 8, 10, 11], [1, 2, 4, 8, 12], [1, 2, 4, 8, 12, 13], [1, 2, 4, 8, 12, 14], [1, 2, 4, 5, 10, 15], [1, 2, 4, 8, 16], [1, 2, 4, 8, 16, 17], [1, 2, 4, 8, 16, 18], [1, 2, 4, 8, 16, 18, 19], [1, 2, 4, 8, 16, 20], [1, 2, 4, 8, 16, 20, 21], [1, 2, 4, 8, 16, 20, 22], [1, 2, 4, 5, 9, 18, 23], [1, 2, 4, 8, 16, 24], [1, 2, 4, 8, 16, 24, 25], [1, 2, 4, 8, 16, 24, 26], [1, 2, 4, 8, 9, 18, 27], [1, 2, 4, 8, 16, 24, 28], [1, 2, 4, 8, 16, 24, 28, 29], [1, 2, 4, 8, 10, 20, 30], [1, 2, 4, 8, 10, 20, 30, 31], [1, 2, 4, 8, 16, 32], [1, 2, 4, 8, 16, 32, 33], [1, 2, 4, 8, 16, 32, 34], [1, 2, 4, 8, 16, 32, 34, 35], [1, 2, 4, 8, 16, 32, 36], [1, 2, 4, 8, 16, 32, 36, 37], [1, 2, 4, 8, 16, 32, 36, 38], [1, 2, 4, 8, 12, 13, 26, 39], [1, 2, 4, 8, 16, 32, 40], [1, 2, 4, 8, 16, 32, 40, 41], [1, 2, 4, 8, 16, 32, 40, 42], [1, 2, 4, 8, 9, 17, 34, 43], [1, 2, 4, 8, 16, 32, 40, 44], [1, 2, 4, 8, 9, 18, 36, 45], [1, 2, 4, 8, 10, 18, 36, 46], [1, 2, 4, 8, 12, 13, 26, 39, 47], [1, 2, 4, 8, 16, 32, 48], [1, 2, 4, 8, 16, 32, 48, 49], [1, 2, 4, 8, 16, 32, 48, 50], [1, 2, 4, 8, 16, 17, 34, 51], [1, 2, 4, 8, 16, 32, 48, 52], [1, 2, 4, 8, 16, 32, 48, 52, 53], [1, 2, 4, 8, 16, 18, 36, 54], [1, 2, 4, 8, 16, 18, 36, 54, 55], [1, 2, 4, 8, 16, 32, 48, 56], [1, 2, 4, 8, 16, 32, 48, 56, 57], [1, 2, 4, 8, 16, 32, 48, 56, 58], [1, 2, 4, 8, 16, 17, 34, 51, 59], [1, 2, 4, 8, 16, 20, 40, 60], [1, 2, 4, 8, 16, 20, 40, 60, 61], [1, 2, 4, 8, 16, 20, 40, 60, 62], [1, 2, 4, 8, 16, 20, 21, 42, 63], [1, 2, 4, 8, 16, 32, 64], [1, 2, 4, 8, 16, 32, 64, 65], [1, 2, 4, 8, 16, 32, 64, 66], [1, 2, 4, 8, 16, 32, 64, 66, 67], [1, 2, 4, 8, 16, 32, 64, 68], [1, 2, 4, 8, 16, 32, 64, 68, 69], [1, 2, 4, 8, 16, 32, 64, 68, 70], [1, 2, 4, 8, 16, 32, 64, 68, 70, 71], [1, 2, 4, 8, 16, 32, 64, 72], [1, 2, 4, 8, 16, 32, 64, 72, 73], [1, 2, 4, 8, 16, 32, 64, 72, 74], [1, 2, 4, 8, 16, 24, 25, 50, 75], [1, 2, 4, 8, 16, 32, 64, 72, 76], [1, 2, 4, 8, 9, 17, 34, 68, 77], [1, 2, 4, 8, 16, 24, 26, 52, 78], [1, 2, 4, 8, 16, 24, 26, 52, 78, 79], [1, 2, 4, 8, 16, 32, 64, 80], [1, 2, 4, 8, 16, 32, 64, 80, 81], [1, 2, 4, 8, 16, 32, 64, 80, 82], [1, 2, 4, 8, 16, 17, 33, 66, 83], [1, 2, 4, 8, 16, 32, 64, 80, 84], [1, 2, 4, 8, 16, 17, 34, 68, 85], [1, 2, 4, 8, 16, 18, 34, 68, 86], [1, 2, 4, 8, 16, 24, 28, 29, 58, 87], [1, 2, 4, 8, 16, 32, 64, 80, 88], [1, 2, 4, 8, 16, 32, 64, 80, 88, 89], [1, 2, 4, 8, 16, 18, 36, 72, 90], [1, 2, 4, 8, 16, 24, 25, 50, 75, 91], [1, 2, 4, 8, 16, 20, 36, 72, 92], [1, 2, 4, 8, 16, 20, 36, 72, 92, 93], [1, 2, 4, 8, 16, 24, 26, 52, 78, 94], [1, 2, 4, 8, 16, 20, 21, 37, 74, 95], [1, 2, 4, 8, 16, 32, 64, 96], [1, 2, 4, 8, 16, 32, 64, 96, 97], [1, 2, 4, 8, 16, 32, 64, 96, 98], [1, 2, 4, 8, 16, 32, 33, 66, 99], [1, 2, 4, 8, 16, 32, 64, 96, 100], [1, 2, 4, 8, 16, 32, 64, 96, 100, 101], [1, 2, 4, 8, 16, 32, 34, 68, 102], [1, 2, 4, 8, 16, 32, 34, 68, 102, 103], [1, 2, 4, 8, 16, 32, 64, 96, 104], [1, 2, 4, 8, 16, 32, 64, 96, 104, 105], [1, 2, 4, 8, 16, 32, 64, 96, 104, 106], [1, 2, 4, 8, 16, 32, 33, 66, 99, 107], [1, 2, 4, 8, 16, 32, 36, 72, 108], [1, 2, 4, 8, 16, 32, 36, 72, 108, 109], [1, 2, 4, 8, 16, 32, 36, 72, 108, 110], [1, 2, 4, 8, 16, 32, 36, 37, 74, 111], [1, 2, 4, 8, 16, 32, 64, 96, 112], [1, 2, 4, 8, 16, 32, 64, 96, 112, 113], [1, 2, 4, 8, 16, 32, 64, 96, 112, 114], [1, 2, 4, 8, 16, 32, 33, 66, 99, 115], [1, 2, 4, 8, 16, 32, 64, 96, 112, 116], [1, 2, 4, 8, 16, 17, 34, 50, 100, 117], [1, 2, 4, 8, 16, 32, 34, 68, 102, 118], [1, 2, 4, 8, 16, 17, 34, 68, 102, 119], [1, 2, 4, 8, 16, 32, 40, 80, 120]]
def tabF (n : Nat) : Int → Int := fun i => (tabC.getD n []).getD i.toNat 0
def tabL (n : Nat) : Nat := (tabC.getD n []).length - 1
def preB (f : Int → Int) : Nat → Bool
  | 0 => decide (f 0 = 1)
  | k + 1 => preB f k && (decide (f k < f ((k : Int) + 1)) && sumB f (k + 1) (f ((k : Int) + 1)))
theorem preB_ok {f : Int → Int} : ∀ {k : Nat}, preB f k = true → Pre f k
  | 0, h => ⟨of_decide_eq_true h, fun i a b => absurd b (by omega)⟩
  | k + 1, h => by
    rw [preB, Bool.and_eq_true, Bool.and_eq_true] at h
    have ih := preB_ok h.1
    refine ⟨ih.1, fun i a b => ?_⟩
    by_cases e : i = (k : Int) + 1
    · subst e
      rw [show (k : Int) + 1 - 1 = k by omega]
      exact ⟨of_decide_eq_true h.2.1, sumB_iff.mp h.2.2⟩
    · exact ih.2 i a (by omega)
theorem tab_ok : ∀ n : Fin 121, n.val ≠ 0 → (preB (tabF n.val) (tabL n.val) && decide (tabF n.val (tabL n.val) = n.val) && decide (tabL n.val ≤ 9)) = true := by decide +kernel
def Pn (n : Int) : Int → Bool := fun x => decide (x = n)
theorem OkPn {n : Int} {g : Int → Int} {k : Int} (k0 : 0 ≤ k) : OkP (Pn n) n g k ↔ g k = n := by
  constructor
  · exact fun h => h.1
  · intro h
    refine ⟨h, fun x _ _ px => ⟨k, k0, by omega, ?_⟩⟩
    rw [of_decide_eq_true px]
    exact h
theorem ex_single {n : Int} (h : 1 ≤ n ∧ n ≤ 120) : ∃ J g, J ≤ 9 ∧ Lst (Pn n) n J g := by
  have t := tab_ok ⟨n.toNat, by omega⟩ (by show n.toNat ≠ 0; omega)
  rw [Bool.and_eq_true, Bool.and_eq_true, decide_eq_true_eq, decide_eq_true_eq] at t
  obtain ⟨J0, g0, a, b⟩ := Lst_ex (P := Pn n) (n := n) (by omega) (tabL n.toNat) (preB_ok t.1.1) ((OkPn (by omega)).mpr (by rw [t.1.2]; show ((n.toNat : Nat) : Int) = n; omega))
  exact ⟨J0, g0, by have := t.2; simp only at this; omega, b⟩
/-! ===== a set in which each is a sum of two lower ones is a chain ===== -/
def cntB (S : Int → Bool) : Nat → Nat
  | 0 => 0
  | x + 1 => cntB S x + if S ((x : Int) + 1) then 1 else 0
theorem set_chain {S : Int → Bool} (h1 : S 1 = true) (hs : ∀ x, 2 ≤ x → x ≤ 40 → S x = true → ∃ a b, 1 ≤ a ∧ a < x ∧ 1 ≤ b ∧ b < x ∧ S a = true ∧ S b = true ∧ a + b = x) : ∀ (x : Nat), 1 ≤ x → x ≤ 40 → ∃ (g : Int → Int) (k : Nat), Pre g k ∧ k + 1 = cntB S x ∧ (∀ y, (1 ≤ y ∧ y ≤ (x : Int) ∧ S y = true) ↔ ∃ j, 0 ≤ j ∧ j ≤ (k : Int) ∧ g j = y)
  | 0, h, _ => absurd h (by omega)
  | 1, _, _ => by
    refine ⟨f1, 0, Pre_f1, by rw [cntB, cntB]; simp [h1], fun y => ⟨fun ⟨a, b, c⟩ => ⟨0, by omega, by omega, by show (1 : Int) = y; omega⟩, fun ⟨j, a, b, c⟩ => ?_⟩⟩
    have : (1 : Int) = y := c
    subst this
    exact ⟨by omega, by omega, h1⟩
  | x + 2, _, hx => by
    obtain ⟨g, k, p, c, e⟩ := set_chain h1 hs (x + 1) (by omega) (by omega)
    by_cases hS : S (((x + 1 : Nat) : Int) + 1) = true
    · obtain ⟨a, b, a0, a1, b0, b1, sa, sb, eab⟩ := hs _ (by omega) (by omega) hS
      obtain ⟨ja, ja0, ja1, ea⟩ := (e a).mp ⟨a0, by omega, sa⟩
      obtain ⟨jb, jb0, jb1, eb⟩ := (e b).mp ⟨b0, by omega, sb⟩
      have gk : g k < ((x + 1 : Nat) : Int) + 1 := by
        have := (e (g k)).mpr ⟨k, by omega, by omega, rfl⟩
        omega
      have hsum : SumP g ((k : Int) + 1) (((x + 1 : Nat) : Int) + 1) := by
        rcases Int.lt_or_le ja jb with q | q
        · exact ⟨jb, ja, ja0, by omega, by omega, by omega⟩
        · exact ⟨ja, jb, jb0, q, by omega, by omega⟩
      refine ⟨wr g ((k : Int) + 1) (((x + 1 : Nat) : Int) + 1), k + 1, Pre_wr (by omega) p gk hsum, by rw [cntB, if_pos hS]; omega, fun y => ?_⟩
      constructor
      · rintro ⟨y0, y1, sy⟩
        by_cases ey : y = ((x + 1 : Nat) : Int) + 1
        · exact ⟨(k : Int) + 1, by omega, by omega, by rw [wr_at, ey]⟩
        · obtain ⟨j, q0, q1, q2⟩ := (e y).mp ⟨y0, by omega, sy⟩
          exact ⟨j, q0, by omega, by rw [wr_ne (by omega)]; exact q2⟩
      · rintro ⟨j, q0, q1, q2⟩
        by_cases ej : j = (k : Int) + 1
        · rw [wr_eq ej] at q2
          subst q2
          exact ⟨by omega, by omega, hS⟩
        · rw [wr_ne ej] at q2
          have := (e y).mpr ⟨j, q0, by omega, q2⟩
          exact ⟨this.1, by omega, this.2.2⟩
    · refine ⟨g, k, p, by rw [cntB, if_neg hS]; omega, fun y => ?_⟩
      rw [← e y]
      constructor
      · rintro ⟨y0, y1, sy⟩
        refine ⟨y0, ?_, sy⟩
        rcases Int.lt_or_eq_of_le y1 with q | q
        · omega
        · exact absurd (by rw [show ((x + 1 : Nat) : Int) + 1 = y by omega]; exact sy) hS
      · rintro ⟨y0, y1, sy⟩
        exact ⟨y0, by omega, sy⟩
/-- the powers of two; what a number is when its lowest bits go -/
def pw40 (x : Int) : Bool := decide (x = 1) || decide (x = 2) || decide (x = 4) || decide (x = 8) || decide (x = 16) || decide (x = 32)
def cutB (o x : Int) : Bool := decide (0 < x) && (decide (x = o) || decide (x = o - o % 2) || decide (x = o - o % 4) || decide (x = o - o % 8) || decide (x = o - o % 16) || decide (x = o - o % 32))
def lowbit (x : Int) : Int := if x % 2 = 1 then 1 else if x % 4 = 2 then 2 else if x % 8 = 4 then 4 else if x % 16 = 8 then 8 else if x % 32 = 16 then 16 else 32
theorem cut_ok : ∀ (o : Fin 41) (x : Fin 41), o.val ≠ 0 → cutB (o.val : Int) (x.val : Int) = true → (pw40 x.val = true ∨ (pw40 (lowbit x.val) = true ∧ cutB o.val ((x.val : Int) - lowbit x.val) = true ∧ (decide (1 ≤ lowbit (x.val : Int)) && decide (lowbit (x.val : Int) < (x.val : Int))) = true)) := by decide +kernel
theorem pw_ok : ∀ (x : Fin 41), 2 ≤ x.val → pw40 (x.val : Int) = true → (pw40 ((x.val : Int) / 2) = true ∧ (x.val : Int) / 2 + (x.val : Int) / 2 = x.val) := by decide +kernel
theorem cnt_cut : ∀ (o : Fin 41), cntB (fun x => cutB (o.val : Int) x && !pw40 x) 40 ≤ 4 := by decide +kernel
theorem cnt_pw : cntB pw40 40 = 6 := by decide +kernel
theorem cnt_or {S T : Int → Bool} : ∀ (x : Nat), cntB (fun y => S y || T y) x ≤ cntB S x + cntB T x
  | 0 => Nat.le_refl _
  | x + 1 => by
    have := cnt_or (S := S) (T := T) x
    rw [cntB, cntB, cntB]
    cases S ((x : Int) + 1) <;> cases T ((x : Int) + 1) <;> simp <;> omega
theorem cnt_mono {S T : Int → Bool} (h : ∀ y, S y = true → T y = true) : ∀ (x : Nat), cntB S x ≤ cntB T x
  | 0 => Nat.le_refl _
  | x + 1 => by
    have := cnt_mono h x
    rw [cntB, cntB]
    cases e : S ((x : Int) + 1) with
    | false => simp; split <;> omega
    | true => rw [h _ e]; simp; omega
theorem cnt_le {S : Int → Bool} {x y : Nat} (h : x ≤ y) : cntB S x ≤ cntB S y := by
  induction y with
  | zero => rw [Nat.le_zero.mp h]; exact Nat.le_refl _
  | succ y ih =>
    rcases Nat.lt_or_ge x (y + 1) with q | q
    · have := ih (by omega)
      rw [cntB]
      omega
    · rw [Nat.le_antisymm h q]; exact Nat.le_refl _
/-- four numbers to 40 are in a chain of no more than 21 joinings -/
theorem ex_four {o : Int → Int} {n : Int} {P : Int → Bool} (ho : ∀ i, 0 ≤ i → i < 4 → (1 ≤ o i ∧ o i ≤ 40)) (hn : 1 ≤ n ∧ n ≤ 40) (hnp : ∃ i, 0 ≤ i ∧ i < 4 ∧ o i = n) (hP : ∀ x, P x = true → x = 1 ∨ ∃ i, 0 ≤ i ∧ i < 4 ∧ o i = x) : ∃ J g, J ≤ 21 ∧ Lst P n J g := by
  obtain ⟨S, hS⟩ : ∃ S : Int → Bool, S = fun x => pw40 x || ((cutB (o 0) x && !pw40 x) || ((cutB (o 1) x && !pw40 x) || ((cutB (o 2) x && !pw40 x) || (cutB (o 3) x && !pw40 x)))) := ⟨_, rfl⟩
  have Sp : ∀ x, pw40 x = true → S x = true := fun x h => by rw [hS]; simp [h]
  have i4 : ∀ i : Int, 0 ≤ i → i < 4 → (i = 0 ∨ i = 1 ∨ i = 2 ∨ i = 3) := fun i a b => by omega
  have Sc : ∀ i x, 0 ≤ i → i < 4 → cutB (o i) x = true → S x = true := fun i x a b h => by
    rw [hS]
    cases e : pw40 x with
    | true => simp [e]
    | false =>
      rcases i4 i a b with rfl | rfl | rfl | rfl <;> simp [h, e]
  have Sx : ∀ x, S x = true → pw40 x = true ∨ ∃ i, 0 ≤ i ∧ i < 4 ∧ cutB (o i) x = true := fun x h => by
    rw [hS] at h
    simp only [Bool.or_eq_true, Bool.and_eq_true] at h
    rcases h with h | h | h | h | h
    · exact Or.inl h
    · exact Or.inr ⟨0, by omega, by omega, h.1⟩
    · exact Or.inr ⟨1, by omega, by omega, h.1⟩
    · exact Or.inr ⟨2, by omega, by omega, h.1⟩
    · exact Or.inr ⟨3, by omega, by omega, h.1⟩
  have fin41 : ∀ x : Int, 0 ≤ x → x ≤ 40 → ∃ y : Fin 41, (y.val : Int) = x := fun x a b => ⟨⟨x.toNat, by omega⟩, by show ((x.toNat : Nat) : Int) = x; omega⟩
  have hs : ∀ x, 2 ≤ x → x ≤ 40 → S x = true → ∃ a b, 1 ≤ a ∧ a < x ∧ 1 ≤ b ∧ b < x ∧ S a = true ∧ S b = true ∧ a + b = x := by
    intro x x0 x1 sx
    obtain ⟨y, ey⟩ := fin41 x (by omega) x1
    have pwc : pw40 x = true → ∃ a b, 1 ≤ a ∧ a < x ∧ 1 ≤ b ∧ b < x ∧ S a = true ∧ S b = true ∧ a + b = x := fun h => by
      have := pw_ok y (by omega) (by rw [ey]; exact h)
      rw [ey] at this
      exact ⟨x / 2, x / 2, by omega, by omega, by omega, by omega, Sp _ this.1, Sp _ this.1, this.2⟩
    rcases Sx x sx with h | ⟨i, i0, i1, h⟩
    · exact pwc h
    · obtain ⟨z, ez⟩ := fin41 (o i) (by have := ho i i0 i1; omega) (ho i i0 i1).2
      have := cut_ok z y (by have := ho i i0 i1; omega) (by rw [ez, ey]; exact h)
      rw [ez, ey] at this
      rcases this with q | ⟨q1, q2, q3⟩
      · exact pwc q
      · rw [Bool.and_eq_true, decide_eq_true_eq, decide_eq_true_eq] at q3
        exact ⟨x - lowbit x, lowbit x, by omega, by omega, by omega, by omega, Sc i _ i0 i1 q2, Sp _ q1, by omega⟩
  obtain ⟨g, k, p, c, e⟩ := set_chain (S := S) (Sp 1 (by decide)) hs n.toNat (by omega) (by omega)
  have hcnt : cntB S n.toNat ≤ 22 := by
    have a1 := cnt_le (S := S) (show n.toNat ≤ 40 by omega)
    have q : ∀ i, 0 ≤ i → i < 4 → cntB (fun x => cutB (o i) x && !pw40 x) 40 ≤ 4 := fun i i0 i1 => by
      obtain ⟨z, ez⟩ := fin41 (o i) (by have := ho i i0 i1; omega) (ho i i0 i1).2
      have := cnt_cut z
      rw [ez] at this
      exact this
    have q0 := q 0 (by omega) (by omega)
    have q1 := q 1 (by omega) (by omega)
    have q2 := q 2 (by omega) (by omega)
    have q3 := q 3 (by omega) (by omega)
    have b1 : cntB S 40 ≤ 22 := by
      rw [hS]
      refine Nat.le_trans (cnt_or 40) ?_
      refine Nat.le_trans (Nat.add_le_add_left (cnt_or 40) _) ?_
      refine Nat.le_trans (Nat.add_le_add_left (Nat.add_le_add_left (cnt_or 40) _) _) ?_
      refine Nat.le_trans (Nat.add_le_add_left (Nat.add_le_add_left (Nat.add_le_add_left (cnt_or 40) _) _) _) ?_
      have := cnt_pw
      omega
    omega
  have inS : ∀ i, 0 ≤ i → i < 4 → S (o i) = true := fun i i0 i1 => Sc i _ i0 i1 (by
    have := ho i i0 i1
    unfold cutB
    simp
    omega)
  obtain ⟨i, i0, i1, ei⟩ := hnp
  obtain ⟨jn, a, b, ejn⟩ := (e n).mp ⟨hn.1, by omega, by rw [← ei]; exact inS i i0 i1⟩
  have gkn : g k = n := by
    have x1 := (e (g k)).mpr ⟨k, by omega, by omega, rfl⟩
    have x2 := Pre_leq p a b (by omega)
    omega
  obtain ⟨J0, g0, x, y⟩ := Lst_ex (P := P) (n := n) (by omega) k p ⟨gkn, fun x x0 x1 px => by
    rcases hP x px with q | ⟨i, i0, i1, q⟩
    · exact ⟨0, by omega, by omega, by rw [q]; exact p.1⟩
    · have h := (e x).mp ⟨by have := ho i i0 i1; omega, by omega, by rw [← q]; exact inS i i0 i1⟩
      exact h⟩
  exact ⟨J0, g0, by omega, y⟩
