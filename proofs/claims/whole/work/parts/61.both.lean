/-! ===== both alike ===== -/
def chM (n a : Nat) : Nat → Nat → Nat → Nat → Bool
  | 0, last, H, _ => Nat.beq last n && H.testBit a
  | l + 1, last, H, S => anyN (fun v => S.testBit v && (Nat.ble n (v * 2 ^ l) && chM n a l v (H ||| (1 <<< v)) (S ||| ((H ||| (1 <<< v)) <<< v)))) (n - last) (last + 1)
theorem chM_iff {n a : Nat} : ∀ (l : Nat) {f : Int → Int} {k last H S : Nat}, Pre f k → BitN f k H S → f k = (last : Int) → (chM n a l last H S = true ↔ ∃ g, Pre g (k + l : Nat) ∧ g (k + l : Nat) = (n : Int) ∧ (∃ j, 0 ≤ j ∧ j ≤ ((k + l : Nat) : Int) ∧ g j = (a : Int)) ∧ agK f g k)
  | 0, f, k, last, H, S, p, hb, e => by
    rw [chM, Bool.and_eq_true, hb.1 a]
    constructor
    · rintro ⟨h, h2⟩
      have := Nat.eq_of_beq_eq_true h
      exact ⟨f, p, by rw [Nat.add_zero, e, this], h2, fun _ _ _ => rfl⟩
    · rintro ⟨g, a', b, ⟨j, j0, j1, ej⟩, c⟩
      have := c k (by omega) (by omega)
      rw [Nat.add_zero] at b
      have : last = n := by omega
      rw [this]
      exact ⟨Nat.beq_refl n, j, j0, j1, by rw [c j j0 j1]; exact ej⟩
  | l + 1, f, k, last, H, S, p, hb, e => by
    have fp : ∀ i, 0 ≤ i → i ≤ (k : Int) → 0 ≤ f i := fun i a b => by have := Pre_pos p a b; omega
    rw [chM, anyN_iff]
    constructor
    · rintro ⟨v, v0, v1, h⟩
      rw [Bool.and_eq_true, Bool.and_eq_true] at h
      have hs := (hb.2 v).mp h.1
      have p' : Pre (wr f ((k : Int) + 1) v) ((k + 1 : Nat) : Int) := Pre_wr (by omega) p (by omega) hs
      obtain ⟨g, a', b, b2, c⟩ := (chM_iff l p' (BitN_wr hb fp) (wr_eq (by omega))).mp h.2.2
      refine ⟨g, by rw [show k + (l + 1) = k + 1 + l by omega]; exact a', by rw [show k + (l + 1) = k + 1 + l by omega]; exact b, by rw [show k + (l + 1) = k + 1 + l by omega]; exact b2, fun i i0 i1 => ?_⟩
      rw [← c i i0 (by omega), wr_ne (by omega)]
    · rintro ⟨g, a', b, b2, c⟩
      have p1 := a'.2 ((k : Int) + 1) (by omega) (by omega)
      rw [show (k : Int) + 1 - 1 = k by omega] at p1
      have ck := c k (by omega) (by omega)
      have gn : g ((k : Int) + 1) ≤ n := by
        have := Pre_leq a' (i := (k : Int) + 1) (j := ((k + (l + 1) : Nat) : Int)) (by omega) (by omega) (by omega)
        rw [b] at this
        exact this
      have gr := Pre_grow a' l ((k : Int) + 1) (by omega) (by omega)
      rw [show (k : Int) + 1 + (l : Int) = ((k + (l + 1) : Nat) : Int) by omega, b, pw2_cast] at gr
      obtain ⟨v, hv⟩ : ∃ v : Nat, g ((k : Int) + 1) = (v : Int) := ⟨(g ((k : Int) + 1)).toNat, by omega⟩
      refine ⟨v, by omega, by omega, ?_⟩
      have hs : SumP f ((k : Int) + 1) v := by
        rw [← hv]
        exact (SumP_agr (fun x x0 x1 => (c x x0 (by omega)).symm)).mp p1.2
      have p' : Pre (wr f ((k : Int) + 1) v) ((k + 1 : Nat) : Int) := Pre_wr (by omega) p (by omega) hs
      rw [Bool.and_eq_true, Bool.and_eq_true]
      refine ⟨(hb.2 v).mpr hs, Nat.ble_eq.mpr ?_, (chM_iff l p' (BitN_wr hb fp) (wr_eq (by omega))).mpr ⟨g, by rw [show k + 1 + l = k + (l + 1) by omega]; exact a', by rw [show k + 1 + l = k + (l + 1) by omega]; exact b, by rw [show k + 1 + l = k + (l + 1) by omega]; exact b2, fun i i0 i1 => ?_⟩⟩
      · rw [hv] at gr
        have : ((v * 2 ^ l : Nat) : Int) = (v : Int) * ((2 ^ l : Nat) : Int) := Int.natCast_mul v (2 ^ l)
        omega
      · by_cases q : i = (k : Int) + 1
        · rw [wr_eq q, q, hv]
        · rw [wr_ne q]; exact c i i0 (by omega)
theorem BitN_f1 : BitN f1 ((0 : Nat) : Int) 2 4 := by
  have h2 : (2 : Nat) = 2 ^ 1 := rfl
  have h4 : (4 : Nat) = 2 ^ 2 := rfl
  refine ⟨fun s => ?_, fun s => ?_⟩
  · rw [h2, Nat.testBit_two_pow, decide_eq_true_eq]
    constructor
    · intro e; exact ⟨0, by omega, by omega, by show (1 : Int) = s; omega⟩
    · rintro ⟨i, _, _, e⟩
      have : (1 : Int) = s := e
      omega
  · rw [h4, Nat.testBit_two_pow, decide_eq_true_eq]
    constructor
    · intro e; exact ⟨0, 0, by omega, by omega, by omega, by show (1 : Int) + 1 = s; omega⟩
    · rintro ⟨i, j, _, _, _, e⟩
      have : (1 : Int) + 1 = s := e
      omega
theorem chM_ok {n a l : Nat} (h : a ≤ n) : chM n a l 1 2 4 = true ↔ ∃ g, Pre g l ∧ OkP (P2 (a : Int) (n : Int)) (n : Int) g l := by
  rw [chM_iff l Pre_f1 BitN_f1 rfl]
  constructor
  · rintro ⟨g, p, e, ⟨j, j0, j1, ej⟩, _⟩
    rw [Nat.zero_add] at p e j1
    refine ⟨g, p, e, fun x x0 x1 px => ?_⟩
    unfold P2 at px
    rw [Bool.or_eq_true, decide_eq_true_eq, decide_eq_true_eq] at px
    rcases px with q | q
    · exact ⟨j, j0, j1, by rw [q]; exact ej⟩
    · exact ⟨l, by omega, by omega, by rw [q]; exact e⟩
  · rintro ⟨g, p, ok⟩
    refine ⟨g, by rw [Nat.zero_add]; exact p, by rw [Nat.zero_add]; exact ok.1, by rw [Nat.zero_add]; exact ok.2 a (by omega) (by omega) (by unfold P2; simp), fun i i0 i1 => ?_⟩
    have : i = 0 := by omega
    subst this
    exact p.1.symm
/-- rye and wheat as one number: what the reference takes -/
def Cok (n rye wheat : Int) (l : Nat) (v : Int) : Prop := v % 10 ≤ rye ∧ v / 10 - v % 10 ≤ wheat ∧ v % 10 ≤ v / 10 ∧ n / 10 ≤ (v / 10) * pw2 l ∧ (v = n ↔ l = 0)
def EB (n rye wheat : Int) : Nat → (Int → Int) → Nat → Prop
  | 0, _, _ => True
  | l + 1, f, k => ∃ v, f k < v ∧ v ≤ n ∧ Cok n rye wheat l v ∧ SumP f ((k : Int) + 1) v ∧ EB n rye wheat l (wr f ((k : Int) + 1) v) (k + 1)
def cbL (n rye wheat : Nat) : Nat → Nat → Nat → Nat → Bool
  | 0, _, _, _ => true
  | l + 1, last, H, S => anyN (fun v => S.testBit v && (Nat.ble (v % 10) rye && (Nat.ble (v / 10) (wheat + v % 10) && (Nat.ble (v % 10) (v / 10) && (Nat.ble (n / 10) (v / 10 * 2 ^ l) && ((Nat.beq v n == Nat.beq l 0) && cbL n rye wheat l v (H ||| (1 <<< v)) (S ||| ((H ||| (1 <<< v)) <<< v)))))))) (n - last) (last + 1)
theorem beq_iff {a b c d : Nat} : (Nat.beq a b == Nat.beq c d) = true ↔ (a = b ↔ c = d) := by
  rw [beq_iff_eq]
  have h : ∀ x y : Nat, Nat.beq x y = true ↔ x = y := fun x y => ⟨Nat.eq_of_beq_eq_true, fun e => by rw [e]; exact Nat.beq_refl y⟩
  have h1 := h a b
  have h2 := h c d
  cases e1 : Nat.beq a b <;> cases e2 : Nat.beq c d <;> rw [e1] at h1 <;> rw [e2] at h2 <;> simp at h1 h2 <;> simp [h1, h2]
theorem cbL_iff {n rye wheat : Nat} : ∀ (l : Nat) {f : Int → Int} {k last H S : Nat}, (∀ i, 0 ≤ i → i ≤ (k : Int) → 0 ≤ f i) → BitN f k H S → f k = (last : Int) → (cbL n rye wheat l last H S = true ↔ EB n rye wheat l f k)
  | 0, f, k, last, H, S, _, _, _ => by rw [cbL, EB]; exact ⟨fun _ => trivial, fun _ => rfl⟩
  | l + 1, f, k, last, H, S, fp, hb, e => by
    rw [cbL, EB, anyN_iff]
    have cok : ∀ v : Nat, Cok n rye wheat l v ↔ (v % 10 ≤ rye ∧ v / 10 ≤ wheat + v % 10 ∧ v % 10 ≤ v / 10 ∧ n / 10 ≤ v / 10 * 2 ^ l ∧ (v = n ↔ l = 0)) := fun v => by
      unfold Cok
      rw [pw2_cast]
      have e1 : ((v : Int) / 10) * ((2 ^ l : Nat) : Int) = ((v / 10 * 2 ^ l : Nat) : Int) := by
        rw [Int.natCast_mul]
        rfl
      rw [e1]
      constructor
      · rintro ⟨a, b, c, g, h⟩; exact ⟨by omega, by omega, by omega, by omega, ⟨fun q => h.mp (by omega), fun q => by have := h.mpr q; omega⟩⟩
      · rintro ⟨a, b, c, g, h⟩; exact ⟨by omega, by omega, by omega, by omega, ⟨fun q => h.mp (by omega), fun q => by have := h.mpr q; omega⟩⟩
    have fw' : ∀ v : Nat, (∀ i, 0 ≤ i → i ≤ ((k + 1 : Nat) : Int) → 0 ≤ wr f ((k : Int) + 1) v i) := fun v i i0 i1 => by
      by_cases q : i = (k : Int) + 1
      · rw [wr_eq q]; omega
      · rw [wr_ne q]; exact fp i i0 (by omega)
    constructor
    · rintro ⟨v, v0, v1, h⟩
      simp only [Bool.and_eq_true] at h
      obtain ⟨h1, h2, h3, h4, h5, h6, h7⟩ := h
      exact ⟨v, by omega, by omega, (cok v).mpr ⟨Nat.ble_eq.mp h2, Nat.ble_eq.mp h3, Nat.ble_eq.mp h4, Nat.ble_eq.mp h5, beq_iff.mp h6⟩, (hb.2 v).mp h1, (cbL_iff l (fw' v) (BitN_wr hb fp) (wr_eq (by omega))).mp h7⟩
    · rintro ⟨v', v0, v1, hc, hs, he⟩
      have fk := fp k (by omega) (by omega)
      obtain ⟨v, hv⟩ : ∃ v : Nat, v' = (v : Int) := ⟨v'.toNat, by omega⟩
      subst hv
      obtain ⟨c1, c2, c3, c4, c5⟩ := (cok v).mp hc
      refine ⟨v, by omega, by omega, ?_⟩
      simp only [Bool.and_eq_true]
      exact ⟨(hb.2 v).mpr hs, Nat.ble_eq.mpr c1, Nat.ble_eq.mpr c2, Nat.ble_eq.mpr c3, Nat.ble_eq.mpr c4, beq_iff.mpr c5, (cbL_iff l (fw' v) (BitN_wr hb fp) (wr_eq (by omega))).mpr he⟩
def f2 : Int → Int := fun i => if i = 0 then 10 else 11
def cbB (rye wheat further : Nat) : Bool := cbL (10 * (rye + wheat) + rye) rye wheat further 11 3072 7340032
theorem cbB_iff {rye wheat further : Nat} : cbB rye wheat further = true ↔ EB ((10 * (rye + wheat) + rye : Nat) : Int) rye wheat further f2 1 := by
  unfold cbB
  refine cbL_iff further (fun i a b => by unfold f2; split <;> omega) ⟨fun s => ?_, fun s => ?_⟩ rfl
  · rw [show (3072 : Nat) = 2 ^ 10 ||| 2 ^ 11 by decide, Nat.testBit_or, Nat.testBit_two_pow, Nat.testBit_two_pow, Bool.or_eq_true, decide_eq_true_eq, decide_eq_true_eq]
    unfold f2
    constructor
    · rintro (e | e)
      · exact ⟨0, by omega, by omega, by simp; omega⟩
      · exact ⟨1, by omega, by omega, by simp; omega⟩
    · rintro ⟨i, a, b, e⟩
      split at e <;> omega
  · rw [show (7340032 : Nat) = 2 ^ 20 ||| (2 ^ 21 ||| 2 ^ 22) by decide, Nat.testBit_or, Nat.testBit_or, Nat.testBit_two_pow, Nat.testBit_two_pow, Nat.testBit_two_pow, Bool.or_eq_true, Bool.or_eq_true, decide_eq_true_eq, decide_eq_true_eq, decide_eq_true_eq]
    unfold f2
    constructor
    · rintro (e | e | e)
      · exact ⟨0, 0, by omega, by omega, by omega, by simp; omega⟩
      · exact ⟨1, 0, by omega, by omega, by omega, by simp; omega⟩
      · exact ⟨1, 1, by omega, by omega, by omega, by simp; omega⟩
    · rintro ⟨i, j, a, b, c, e⟩
      have e : (if i = 0 then (10 : Int) else 11) + (if j = 0 then (10 : Int) else 11) = s := e
      split at e <;> split at e <;> omega
def tabJ : List Nat := [0, 0, 1, 2, 2, 3, 3, 4, 3, 4, 0, 0, 1, 2, 2, 3, 3, 4, 3, 4, 1, 1, 1, 2, 2, 3, 3, 4, 3, 4, 2, 2, 2, 2, 3, 3, 3, 4, 4, 4, 2, 2, 2, 3, 2, 3, 3, 4, 3, 4, 3, 3, 3, 3, 3, 3, 4, 4, 4, 4, 3, 3, 3, 3, 3, 4, 3, 4, 4, 4, 4, 4, 4, 4, 4, 4, 4, 4, 5, 5, 3, 3, 3, 4, 3, 4, 4, 5, 3, 4, 4, 4, 4, 4, 4, 4, 4, 5, 4, 4]
def bothJ (r w : Nat) : Nat := tabJ.getD (10 * r + w) 0
/-- by the kernel: both of them, and none shorter -/
theorem both_tab : ∀ (r w : Fin 10), 1 ≤ r.val → 1 ≤ w.val → (chM (max r.val w.val) (min r.val w.val) (bothJ r.val w.val) 1 2 4 && (!anyN (fun j => chM (max r.val w.val) (min r.val w.val) j 1 2 4) (bothJ r.val w.val) 0 && (cbB r.val w.val (bothJ r.val w.val + 1) && !anyN (fun j => cbB r.val w.val j) (bothJ r.val w.val) 1))) = true := by decide +kernel
theorem both_tab0 : ∀ (r w : Fin 10), 2 ≤ r.val + w.val → (r.val = 0 ∨ w.val = 0) → (chB (r.val + w.val) (bothJ r.val w.val) && (!anyN (fun j => chB (r.val + w.val) j) (bothJ r.val w.val) 0 && (cbB r.val w.val (bothJ r.val w.val) && !anyN (fun j => cbB r.val w.val j) (bothJ r.val w.val - 1) 1))) = true := by decide +kernel
theorem bothJ_le : ∀ (r w : Fin 10), bothJ r.val w.val ≤ 5 := by decide +kernel
theorem bothJ_1 : ∀ (r w : Fin 10), 2 ≤ r.val + w.val → 1 ≤ bothJ r.val w.val ∨ (1 ≤ r.val ∧ 1 ≤ w.val) := by decide +kernel
