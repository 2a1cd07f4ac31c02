/-! ===== the reference: its house, its steps ===== -/
theorem mrow_lo {A : Int → Int} {i : Int} (h : i < 20) : mrow A i = A (6 + i) := by unfold mrow; rw [if_pos h]
theorem mrow_hi {A : Int → Int} {i : Int} (h : 20 ≤ i) : mrow A i = A (2138 + i) := by unfold mrow; rw [if_neg (by omega)]
def setM (A r : Int → Int) : Int → Int := fun i => if 6 ≤ i ∧ i < 26 then r (i - 6) else if 2158 ≤ i ∧ i < 2208 then r (i - 2138) else A i
def eqr (r s : Int → Int) : Prop := ∀ i, 0 ≤ i → i < 70 → r i = s i
theorem mrow_setM {A r : Int → Int} : eqr (mrow (setM A r)) r := by
  intro i h0 h1
  by_cases h : i < 20
  · rw [mrow_lo h]
    unfold setM
    rw [if_pos (by omega), show 6 + i - 6 = i by omega]
  · rw [mrow_hi (by omega)]
    unfold setM
    rw [if_neg (by omega), if_pos (by omega), show 2138 + i - 2138 = i by omega]
theorem setM_off {A r : Int → Int} {i : Int} (h : i < 6 ∨ (26 ≤ i ∧ i < 2158) ∨ 2208 ≤ i) : setM A r i = A i := by
  unfold setM
  rw [if_neg (by omega), if_neg (by omega)]
theorem setM_mrow {A : Int → Int} : setM A (mrow A) = A := by
  funext i
  unfold setM
  by_cases h : 6 ≤ i ∧ i < 26
  · rw [if_pos h, mrow_lo (by omega), show 6 + (i - 6) = i by omega]
  · rw [if_neg h]
    by_cases h2 : 2158 ≤ i ∧ i < 2208
    · rw [if_pos h2, mrow_hi (by omega), show 2138 + (i - 2138) = i by omega]
    · rw [if_neg h2]
theorem setM_setM {A r s : Int → Int} : setM (setM A r) s = setM A s := by
  funext i
  unfold setM
  by_cases h : 6 ≤ i ∧ i < 26
  · simp only [if_pos h]
  · by_cases h2 : 2158 ≤ i ∧ i < 2208
    · simp only [if_neg h, if_pos h2]
    · simp only [if_neg h, if_neg h2]
theorem setM_congr {A r s : Int → Int} (h : eqr r s) : setM A r = setM A s := by
  funext i
  unfold setM
  by_cases h1 : 6 ≤ i ∧ i < 26
  · rw [if_pos h1, if_pos h1, h _ (by omega) (by omega)]
  · rw [if_neg h1, if_neg h1]
    by_cases h2 : 2158 ≤ i ∧ i < 2208
    · rw [if_pos h2, if_pos h2, h _ (by omega) (by omega)]
    · rw [if_neg h2, if_neg h2]
/-- a number of the house's first twenty changes -/
theorem setM_wr {A : Int → Int} {k v : Int} (h : 0 ≤ k ∧ k < 20) : wr A (6 + k) v = setM A (wr (mrow A) k v) := by
  funext i
  unfold setM
  by_cases h1 : 6 ≤ i ∧ i < 26
  · rw [if_pos h1]
    by_cases e : i = 6 + k
    · rw [wr_eq e, wr_eq (by omega)]
    · rw [wr_ne e, wr_ne (by omega), mrow_lo (by omega), show 6 + (i - 6) = i by omega]
  · rw [if_neg h1, wr_ne (by omega)]
    by_cases h2 : 2158 ≤ i ∧ i < 2208
    · rw [if_pos h2, wr_ne (by omega), mrow_hi (by omega), show 2138 + (i - 2138) = i by omega]
    · rw [if_neg h2]
theorem eqr_wr {r s : Int → Int} {k v : Int} (h : eqr r s) : eqr (wr r k v) (wr s k v) := by
  intro i h0 h1
  by_cases e : i = k
  · rw [wr_eq e, wr_eq e]
  · rw [wr_ne e, wr_ne e]; exact h i h0 h1
theorem eqr_writeR {r s : Int → Int} {v p : Int} (h : eqr r s) (hr : 0 ≤ r 3 ∧ r 3 ≤ 25) : eqr (writeR r v p) (writeR s v p) := by
  have e3 := h 3 (by omega) (by omega)
  have ep : ∀ i, 0 ≤ i → i < 70 → preR r i = preR s i := by
    intro i h0 h1
    unfold preR
    rw [e3]
    by_cases e : s 3 = 25
    · rw [if_pos e, if_pos e]
      unfold shR
      by_cases i3 : i = 3
      · rw [if_pos i3, if_pos i3]
      · rw [if_neg i3, if_neg i3]
        by_cases i4 : 20 ≤ i ∧ i < 68
        · rw [if_pos i4, if_pos i4]; exact h _ (by omega) (by omega)
        · rw [if_neg i4, if_neg i4]; exact h _ h0 h1
    · rw [if_neg e, if_neg e]; exact h i h0 h1
  have e33 := ep 3 (by omega) (by omega)
  intro i h0 h1
  unfold writeR
  rw [e33]
  by_cases a1 : i = 3
  · rw [wr_eq a1, wr_eq a1]
  · rw [wr_ne a1, wr_ne a1]
    by_cases a2 : i = 21 + 2 * preR s 3
    · rw [wr_eq a2, wr_eq a2]
    · rw [wr_ne a2, wr_ne a2]
      by_cases a3 : i = 20 + 2 * preR s 3
      · rw [wr_eq a3, wr_eq a3]
      · rw [wr_ne a3, wr_ne a3]; exact ep i h0 h1
theorem RV_congr {r s : Int → Int} (h : eqr r s) (v : RV r) : RV s := by
  obtain ⟨a, b, c, e, f, g⟩ := v
  have h0 := h 0 (by omega) (by omega)
  have h1 := h 1 (by omega) (by omega)
  have h2 := h 2 (by omega) (by omega)
  have h3 := h 3 (by omega) (by omega)
  refine ⟨by omega, by omega, by omega, by omega, fun i i0 i1 => ?_, fun i i0 i1 => ?_⟩
  · have := f i i0 i1
    rw [← h (4 + i) (by omega) (by omega), ← h (12 + i) (by omega) (by omega)]
    exact this
  · have := g i i0 (by omega)
    rw [← h (20 + 2 * i) (by omega) (by omega), ← h (21 + 2 * i) (by omega) (by omega)]
    exact this
theorem HR_congr {σ : jM} {h : Int} {r s : Int → Int} (e : eqr r s) (v : RV r) (q : HR σ h r) : HR σ h s := by
  obtain ⟨a1, a2, a3, a4, a5, a6, a7⟩ := q
  have v4 := v.2.2.2.1
  have h3 := e 3 (by omega) (by omega)
  refine ⟨by rw [← e 0 (by omega) (by omega)]; exact a1, by rw [← e 1 (by omega) (by omega)]; exact a2, by rw [← e 2 (by omega) (by omega)]; exact a3, by rw [← h3]; exact a4, a5, fun i i0 i1 => ?_, fun i i0 i1 => ?_⟩
  · rw [← e (4 + i) (by omega) (by omega), ← e (12 + i) (by omega) (by omega)]
    exact a6 i i0 i1
  · rw [← h3] at i1
    rw [← e (20 + 2 * i) (by omega) (by omega), ← e (21 + 2 * i) (by omega) (by omega)]
    exact a7 i i0 i1
/-- the shift of the book, as far as it has come -/
def shA (A : Int → Int) (a n k : Int) : Int → Int := fun i => if a ≤ i ∧ i < a + k then A (i + n) else A i
theorem shA_step {A : Int → Int} {a n k : Int} (h0 : 0 ≤ k) (hn : 0 < n) : wr (shA A a n k) (a + k) (shA A a n k (a + k + n)) = shA A a n (k + 1) := by
  funext i
  by_cases e : i = a + k
  · rw [wr_eq e]
    unfold shA
    rw [if_neg (by omega), if_pos (by omega), e]
  · rw [wr_ne e]
    unfold shA
    by_cases h : a ≤ i ∧ i < a + k
    · rw [if_pos h, if_pos (by omega)]
    · rw [if_neg h, if_neg (by omega)]
theorem shA_0 {A : Int → Int} {a n : Int} : shA A a n 0 = A := by
  funext i
  unfold shA
  rw [if_neg (by omega)]
/-- a copy of n numbers from a to b, as far as it has come -/
def cpA (A B : Int → Int) (a b k : Int) : Int → Int := fun i => if b ≤ i ∧ i < b + k then A (i - b + a) else B i
theorem cpA_step {A B : Int → Int} {a b k : Int} (h0 : 0 ≤ k) : wr (cpA A B a b k) (b + k) (A (a + k)) = cpA A B a b (k + 1) := by
  funext i
  by_cases e : i = b + k
  · rw [wr_eq e]
    unfold cpA
    rw [if_pos (by omega), show i - b + a = a + k by omega]
  · rw [wr_ne e]
    unfold cpA
    by_cases h : b ≤ i ∧ i < b + k
    · rw [if_pos h, if_pos (by omega)]
    · rw [if_neg h, if_neg (by omega)]
theorem cpA_0 {A B : Int → Int} {a b : Int} : cpA A B a b 0 = B := by
  funext i
  unfold cpA
  rw [if_neg (by omega)]
section MS
variable {d : Nat} {t : Int} {Q : Int → jM → Prop} {σ : jM}
def inB (x a b : Int) : Bool := decide (a ≤ x) && decide (x ≤ b)
theorem m_isIn {x a b : Int} (hx : inR x) (ha : inR a) (hb : inR b) (k : Q (b01 (inB x a b)) σ) : Ct mX12_isIn d 0 t [iv x, iv a, iv b] σ Q := by
  refine c_X12_isIn ⟨hx, ha, fun z => ?_, fun z => ⟨hx, hb, fun y => ?_, fun y => ?_⟩⟩
  · have e : inB x a b = false := by unfold inB; simp; omega
    rw [e] at k; exact k
  · have e : inB x a b = false := by unfold inB; simp; omega
    rw [e] at k; exact k
  · have e : inB x a b = true := by unfold inB; simp; omega
    rw [e] at k; exact k
theorem m_held {x a b : Int} (hx : inL x) (ha : inR a) (hb : inR b) (k : Q (if x < a then a else if b < x then b else x) σ) : Ct mX12_held d 0 t [jv x, iv a, iv b] σ Q := by
  have ha' : inL a := ⟨by have := ha.1; omega, by have := ha.2; omega⟩
  have hb' : inL b := ⟨by have := hb.1; omega, by have := hb.2; omega⟩
  refine c_X12_held ⟨ha, hx, ha', fun z => ⟨hb, hx, hb', fun y => ?_, fun y => ?_⟩, fun z => ?_⟩
  · rw [if_neg (by omega), if_neg (by omega)] at k; exact k
  · rw [if_neg (by omega), if_pos y] at k; exact k
  · rw [if_pos z] at k; exact k
theorem m_isCrock {c : Int} (hc : inR c) (k : Q (b01 (inB c 0 7)) σ) : Ct mX12_isCrock (d + 1) 0 t [iv c] σ Q :=
  c_X12_isCrock (m_isIn hc in0 ⟨by decide, by decide⟩ ⟨b01_2, k⟩)
theorem m_isFull {c : Int} (v : RV (mrow (σ 322))) (hc : inR c) (k : Q (b01 (fullB (mrow (σ 322)) c)) σ) : Ct mX12_isFull (d + 2) 0 t [rv 321, iv c] σ Q := by
  refine c_X12_isFull (m_isCrock hc ⟨b01_R, fun z => ?_, fun z => ?_⟩)
  · have e : fullB (mrow (σ 322)) c = false := fullB_no (by
      have := b01_0.mp z
      unfold inB at this
      simp at this
      omega)
    rw [e] at k; exact k
  · have e : 0 ≤ c ∧ c < 8 := by
      cases e : inB c 0 7 with
      | false => exact absurd (b01_0.mpr e) z
      | true => unfold inB at e; simp at e; omega
    have g := v.2.2.2.2.1 c e.1 e.2
    rw [mrow_lo (by omega), show 6 + (4 + c) = 10 + c by omega] at g
    refine ⟨by omega, rng (by omega) (by omega), fun y => ?_, fun y => ?_⟩
    · rw [fullB_no (Or.inr (Or.inr (by rw [mrow_lo (by omega), show 6 + (4 + c) = 10 + c by omega]; exact y)))] at k; exact k
    · rw [fullB_of e.1 e.2 (by rw [mrow_lo (by omega), show 6 + (4 + c) = 10 + c by omega]; exact y)] at k; exact k
theorem m_freeCrock (v : RV (mrow (σ 322))) (k : Q (crockR (mrow (σ 322)) 0) σ) : Ct mX12_freeCrock (d + 3) 0 t [rv 321] σ Q := by
  refine c_X12_freeCrock ?_
  have key : ∀ (j : Nat) (i : Int), 0 ≤ i → i + j = 8 → Q (lowF (fun i => decide (mrow (σ 322) (4 + i) = 0)) j i) σ → Jt mX12_freeCrock (d + 3) 0 t Q 2 [rv 321, iv i] [] σ := by
    intro j
    induction j with
    | zero =>
      intro i h1 h2 k
      exact b_X12_freeCrock_2 ⟨rng (by omega) (by omega), fun _ => k, fun z => absurd z (by omega)⟩
    | succ j ih =>
      intro i h1 h2 k
      rw [lowF] at k
      have g := v.2.2.2.2.1 i h1 (by omega)
      refine b_X12_freeCrock_2 ⟨rng (by omega) (by omega), fun z => absurd z (by omega), fun z => ?_⟩
      refine m_isFull v (rng (by omega) (by omega)) ⟨b01_R, fun y => ?_, fun y => ?_⟩
      · have f : fullB (mrow (σ 322)) i = true := by
          cases e : fullB (mrow (σ 322)) i with
          | true => rfl
          | false => exact absurd (b01_0.mpr e) y
        have := fullB_t f
        rw [if_neg (by simp; omega)] at k
        exact ih (i + 1) (by omega) (by omega) k
      · have f := b01_0.mp y
        have : mrow (σ 322) (4 + i) = 0 := by
          rcases Int.lt_or_eq_of_le g.1 with x | x
          · rw [fullB_of h1 z x] at f; cases f
          · exact x.symm
        rw [if_pos (by simpa using this)] at k
        exact k
  exact key 8 0 (by omega) (by omega) k
theorem m_canJoin {a b : Int} (v : RV (mrow (σ 322))) (ha : inR a) (hb : inR b) (k : Q (b01 (canB (mrow (σ 322)) a b)) σ) : Ct mX12_canJoin (d + 4) 0 t [rv 321, iv a, iv b] σ Q := by
  refine c_X12_canJoin (m_isFull (d := d + 1) v ha ⟨b01_R, fun z => ?_, fun z => ?_⟩)
  · have e : canB (mrow (σ 322)) a b = false := by unfold canB; rw [b01_0.mp z]; rfl
    rw [e] at k; exact k
  · have fa : fullB (mrow (σ 322)) a = true := by
      cases e : fullB (mrow (σ 322)) a with
      | true => rfl
      | false => exact absurd (b01_0.mpr e) z
    refine m_isFull (d := d + 1) v hb ⟨b01_R, fun y => ?_, fun y => ?_⟩
    · have e : canB (mrow (σ 322)) a b = false := by unfold canB; rw [b01_0.mp y]; simp
      rw [e] at k; exact k
    · have fb : fullB (mrow (σ 322)) b = true := by
        cases e : fullB (mrow (σ 322)) b with
        | true => rfl
        | false => exact absurd (b01_0.mpr e) y
      obtain ⟨a1, a2, a3⟩ := fullB_t fa
      obtain ⟨b1, b2, b3⟩ := fullB_t fb
      have ga := v.2.2.2.2.1 a a1 a2
      have gb := v.2.2.2.2.1 b b1 b2
      have ea : mrow (σ 322) (4 + a) = σ 322 (10 + a) := by rw [mrow_lo (by omega), show 6 + (4 + a) = 10 + a by omega]
      have eb : mrow (σ 322) (4 + b) = σ 322 (10 + b) := by rw [mrow_lo (by omega), show 6 + (4 + b) = 10 + b by omega]
      rw [← ea, ← eb]
      refine ⟨by omega, by omega, rng (by omega) (by omega), fun x => ?_, fun x => ?_⟩
      · have e : canB (mrow (σ 322)) a b = false := by unfold canB; rw [fa, fb]; simp; omega
        rw [e] at k; exact k
      · refine m_freeCrock v ⟨crockR_R, fun w => ?_, fun w => ?_⟩
        · have e : canB (mrow (σ 322)) a b = false := by unfold canB; rw [w]; simp
          rw [e] at k; exact k
        · have e : canB (mrow (σ 322)) a b = true := by unfold canB; rw [fa, fb]; simp [w]; omega
          rw [e] at k; exact k
theorem m_write {w c p : Int} (v : RV (mrow (σ 322))) (hw : σ 321 23 = 1) (k : Q 0 (sr σ 322 (setM (σ 322) (writeR (mrow (σ 322)) ((mrow (σ 322) 0 * 4 + w) * 8 + c) p)))) : Ct mX12_write d 9 t [rv 321, iv w, iv c, iv p] σ Q := by
  obtain ⟨A, hA⟩ : ∃ A, A = σ 322 := ⟨_, rfl⟩
  rw [← hA] at v k
  have v4 := v.2.2.2.1
  have e3 : mrow A 3 = A 9 := mrow_lo (by omega)
  have e0 : mrow A 0 = A 6 := mrow_lo (by omega)
  rw [e3] at v4
  refine c_X12_write ?_
  rw [hw, ← hA]
  refine ⟨⟨by decide, by decide⟩, fun _ => ⟨by decide, rng (by omega) (by omega), fun z => ?_, fun z => ?_⟩, fun z => absurd z (by decide)⟩
  · refine ⟨by decide, by decide, by omega, fun σ4 e4 => ⟨by decide, ?_⟩⟩
    have f4 : σ4 322 = wr A (2158 + 2 * A 9) ((A 6 * 4 + w) * 8 + c) := by rw [e4, up_sr, sr_at, ← hA]
    have n4 : σ4 322 9 = A 9 := by rw [f4, wr_ne (by omega)]
    rw [n4]
    refine ⟨by omega, fun σ6 e6 => ⟨by decide, by decide, fun σ8 e8 => ?_⟩⟩
    have n6 : σ6 322 9 = A 9 := by rw [e6, up_ne (by omega), n4]
    rw [n6] at e8
    have fin : σ8 = sr σ 322 (setM A (writeR (mrow A) ((mrow A 0 * 4 + w) * 8 + c) p)) := by
      rw [e8, e6, e4, up_sr, up_sr, up_sr]
      simp only [sr_at, sr_sr, ← hA]
      congr 1
      funext i
      have pre : preR (mrow A) = mrow A := by unfold preR; rw [if_neg (by rw [e3]; exact z)]
      unfold setM writeR
      rw [pre, e3, e0]
      by_cases h1 : 6 ≤ i ∧ i < 26
      · rw [if_pos h1]
        by_cases i9 : i = 9
        · rw [wr_eq i9, wr_eq (by omega)]
        · rw [wr_ne i9, wr_ne (by omega), wr_ne (by omega), wr_ne (by omega), wr_ne (by omega), wr_ne (by omega), mrow_lo (by omega), show 6 + (i - 6) = i by omega]
      · rw [if_neg h1, wr_ne (by omega)]
        by_cases h2 : 2158 ≤ i ∧ i < 2208
        · rw [if_pos h2, wr_ne (k := 3) (by omega)]
          by_cases a2 : i = 2158 + 2 * A 9 + 1
          · rw [wr_eq a2, wr_eq (by omega)]
          · rw [wr_ne a2, wr_ne (k := 21 + 2 * A 9) (by omega)]
            by_cases a3 : i = 2158 + 2 * A 9
            · rw [wr_eq a3, wr_eq (by omega)]
            · rw [wr_ne a3, wr_ne (by omega), mrow_hi (by omega), show 2138 + (i - 2138) = i by omega]
        · rw [if_neg h2, wr_ne (by omega), wr_ne (by omega)]
    rw [fin]
    exact k
  · have loop : ∀ (j : Nat) (i : Int) (τ : jM), 2 ≤ i → i + j = 50 → τ = sr σ 322 (shA A 2158 2 (i - 2)) → Jt mX12_write (d) 9 t Q 23 [rv 321, iv w, iv c, iv p, iv i] [] τ := by
      intro j
      induction j with
      | zero =>
        intro i τ i0 hi et
        have i50 : i = 50 := by omega
        have t3 : τ 322 = shA A 2158 2 48 := by rw [et, sr_at, i50]; rfl
        have t9 : τ 322 9 = 25 := by rw [t3]; unfold shA; rw [if_neg (by omega)]; exact z
        refine b_X12_write_23 ⟨rng (by omega) (by omega), fun _ => ⟨by decide, by decide, fun σ3 e3' => ⟨by decide, by decide, ?_⟩⟩, fun y => absurd y (by omega)⟩
        rw [t9] at e3'
        have f3 : σ3 322 = wr (shA A 2158 2 48) 9 24 := by rw [e3', up_sr, sr_at, t3]; rfl
        have n3 : σ3 322 9 = 24 := by rw [f3, wr_at]
        have m3 : σ3 322 6 = A 6 := by rw [f3, wr_ne (by omega)]; unfold shA; rw [if_neg (by omega)]
        rw [n3, m3]
        refine ⟨by omega, fun σ5 e5 => ⟨by decide, ?_⟩⟩
        have n5 : σ5 322 9 = 24 := by rw [e5, up_ne (by omega), n3]
        rw [n5]
        refine ⟨by omega, fun σ7 e7 => ⟨by decide, by decide, fun σ9 e9 => ?_⟩⟩
        have n7 : σ7 322 9 = 24 := by rw [e7, up_ne (by omega), n5]
        rw [n7] at e9
        have fin : σ9 = sr σ 322 (setM A (writeR (mrow A) ((mrow A 0 * 4 + w) * 8 + c) p)) := by
          rw [e9, e7, e5, e3', et, up_sr, up_sr, up_sr, up_sr]
          simp only [sr_at, sr_sr]
          congr 1
          funext q
          have pre : preR (mrow A) = shR (mrow A) := by unfold preR; rw [if_pos (by rw [e3]; exact z)]
          have p3 : shR (mrow A) 3 = 24 := by unfold shR; rw [if_pos rfl]
          unfold setM writeR
          rw [pre, p3, e0]
          by_cases h1 : 6 ≤ q ∧ q < 26
          · rw [if_pos h1]
            by_cases i9 : q = 9
            · rw [wr_eq i9, wr_eq (by omega)]
            · rw [wr_ne i9, wr_ne (by omega), wr_ne (by omega), wr_ne i9, wr_ne (by omega), wr_ne (by omega), wr_ne (by omega)]
              unfold shR shA
              rw [if_neg (by omega), if_neg (by omega), if_neg (by omega), mrow_lo (by omega), show 6 + (q - 6) = q by omega]
          · rw [if_neg h1, wr_ne (by omega)]
            by_cases h2 : 2158 ≤ q ∧ q < 2208
            · rw [if_pos h2, wr_ne (k := 3) (by omega)]
              by_cases a2 : q = 2207
              · rw [wr_eq (by omega), wr_eq (by omega)]
              · rw [wr_ne (by omega), wr_ne (k := 21 + 2 * 24) (by omega)]
                by_cases a3 : q = 2206
                · rw [wr_eq (by omega), wr_eq (by omega)]
                · rw [wr_ne (by omega), wr_ne (by omega), wr_ne (by omega)]
                  unfold shR shA
                  rw [if_pos (by omega), if_neg (by omega), if_pos (by omega), mrow_hi (by omega), show 2138 + (q - 2138 + 2) = q + 2 by omega]
            · rw [if_neg h2, wr_ne (by omega), wr_ne (by omega), wr_ne (by omega)]
              unfold shA
              rw [if_neg (by omega)]
        rw [fin]
        exact k
      | succ j ih =>
        intro i τ i0 hi et
        refine b_X12_write_23 ⟨rng (by omega) (by omega), fun y => absurd y (by omega), fun y => ⟨by omega, by omega, fun σ11 e11 => ?_⟩⟩
        refine ih (i + 1) σ11 (by omega) (by omega) ?_
        rw [e11, et, up_sr, sr_sr, sr_at, show 2158 + i - 2 = 2158 + (i - 2) by omega, show 2158 + i = 2158 + (i - 2) + 2 by omega, shA_step (by omega) (by omega), show i - 2 + 1 = i + 1 - 2 by omega]
    refine loop 48 2 σ (by omega) (by omega) ?_
    rw [show (2 : Int) - 2 = 0 by omega, shA_0, hA, sr_id]
end MS
