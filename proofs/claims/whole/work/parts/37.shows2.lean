/-! ===== is, book, ledger, oldest, fullest, can, foretold alike ===== -/
section SX
variable {t : Int} {L : LT} {σ : jM}
theorem h_allPounds {d : Nat} {h : Int} {r : Int → Int} {Q : Int → jM → Prop} (h0 : ob (GG t) h 1) (q : HR σ h r) (v : RV r) (k : Q (sumF r 8 0 0) σ) : Ct mX1_allPounds d 0 t [rv h] σ Q := by
  refine c_X1_allPounds h0 ?_
  have key : ∀ (j : Nat) (i acc : Int), 0 ≤ i → i + j = 8 → Q (sumF r j i acc) σ → Jt mX1_allPounds (d) 0 t Q 4 [rv h, iv acc, iv i] [] σ := by
    intro j
    induction j with
    | zero =>
      intro i acc i0 hi k1
      exact b_X1_allPounds_4 h0 ⟨rng (by omega) (by omega), fun _ => k1, fun z => absurd z (by omega)⟩
    | succ j ih =>
      intro i acc i0 hi k1
      rw [sumF] at k1
      refine b_X1_allPounds_4 h0 ⟨rng (by omega) (by omega), fun z => absurd z (by omega), fun z => ⟨⟨i0, z⟩, ?_⟩⟩
      rw [(q.2.2.2.2.2.1 i i0 z).1]
      exact ih (i + 1) _ (by omega) (by omega) k1
  exact key 8 0 0 (by omega) (by omega) k
theorem m_is3 {d : Nat} {w : Int} {Q : Int → jM → Prop} (v : RV (mrow (σ 322))) (hw : inR w) (k : Q (if w = 3 then bitsR (mrow (σ 322)) else if w = 4 then sumF (mrow (σ 322)) 8 0 0 else -2) σ) : Jt mX12_is (d + 11) 0 t Q 26 [rv 321, iv w, iv 0, iv 0, iv 0] [] σ := by
  have key : ∀ (j : Nat) (i b s : Int), 0 ≤ i → i + j = 8 → inR b → Q (if w = 3 then bitsF (fullB (mrow (σ 322))) j i b else if w = 4 then sumF (mrow (σ 322)) j i s else -2) σ → Jt mX12_is (d + 11) 0 t Q 26 [rv 321, iv w, iv b, iv s, iv i] [] σ := by
    intro j
    induction j with
    | zero =>
      intro i b s i0 hi hb k1
      refine b_X12_is_26 ⟨rng (by omega) (by omega), fun _ => ⟨hw, fun z => ⟨hw, fun y => ?_, fun y => ?_⟩, fun z => ?_⟩, fun z => absurd z (by omega)⟩
      · rw [if_neg z, if_neg y] at k1; exact k1
      · rw [if_neg z, if_pos y] at k1; exact k1
      · rw [if_pos z] at k1; exact k1
    | succ j ih =>
      intro i b s i0 hi hb k1
      rw [bitsF, sumF] at k1
      have e10 : mrow (σ 322) (4 + i) = σ 322 (10 + i) := by rw [mrow_lo (by omega), show 6 + (4 + i) = 10 + i by omega]
      refine b_X12_is_26 ⟨rng (by omega) (by omega), fun z => absurd z (by omega), fun z => m_isFull (d := d + 8) v (rng (by omega) (by omega)) ⟨b01_R, fun y => ⟨by omega, ?_⟩, fun y => ⟨by omega, ?_⟩⟩⟩
      · rw [b01_0.mp y, e10] at k1
        rw [i_or_0 hb]
        exact ih (i + 1) _ _ (by omega) (by omega) hb k1
      · rw [b01_1 y, e10] at k1
        exact ih (i + 1) _ _ (by omega) (by omega) i_or_R k1
  exact key 8 0 0 0 (by omega) (by omega) in0 k
theorem a_is {w : Int} (d : Nat) (I : I0 L σ) (hw : inR w) {Q : Int → jM → Prop} (k : ∀ r σ1, (∀ (d2 : Nat) Q2, (∀ r' σ2, Same L σ r r' σ2 → Q2 r' σ2) → Ct mX12_is (d2 + 11) 0 t [rv 321, iv w] σ1 Q2) → Q r σ1) : Ct mX11_is (d + 11) 0 t [rv 1, iv w] σ Q := by
  have q := I.1.1
  have va := I.1.2.2.1
  have v := va.1
  have low : ∀ r, (0 ≤ w ∧ w ≤ 2) → r = σ 322 (6 + w) → Q r σ := fun r hwr er => by
    subst er
    have e : σ 322 (6 + w) = mrow (σ 322) w := m_row (by omega)
    refine k _ σ (fun d2 Q2 k2 => c_X12_is (m_isIn hw in0 ⟨by decide, by decide⟩ ⟨b01_R, fun z => by have := inB_f (b01_0.mp z); omega, fun _ => ⟨by omega, same0 I ?_ k2⟩⟩))
    rw [e]
    rcases (show w = 0 ∨ w = 1 ∨ w = 2 by omega) with rfl | rfl | rfl
    · have := v.1; exact rng (by omega) (by omega)
    · have := v.2.1; exact rng (by omega) (by omega)
    · have := v.2.2.1; exact rng (by omega) (by omega)
  have hig : ∀ r, (w < 0 ∨ 2 < w) → r = (if w = 3 then bitsR (mrow (σ 322)) else if w = 4 then sumF (mrow (σ 322)) 8 0 0 else -2) → inR r → Q r σ := fun r hwr er hr => by
    subst er
    exact k _ σ (fun d2 Q2 k2 => c_X12_is (m_isIn hw in0 ⟨by decide, by decide⟩ ⟨b01_R, fun _ => m_is3 v hw (same0 I hr k2), fun z => by have := inB_t (b01_1 z); omega⟩))
  refine c_X11_is ⟨hw, fun z => ?_, fun z => ?_, fun z => ?_, fun z => ?_, fun z => ?_, fun z => ?_⟩
  · exact hig _ (by omega) (by rw [if_neg (by omega), if_neg (by omega)]) ⟨by decide, by decide⟩
  · exact low _ (by omega) (by rw [show σ 3 6 = mrow (σ 322) 0 from q.1.1, z, mrow_lo (by omega)])
  · exact low _ (by omega) (by rw [show σ 3 7 = mrow (σ 322) 1 from q.1.2.1, z, mrow_lo (by omega)])
  · exact low _ (by omega) (by rw [show σ 3 5 = mrow (σ 322) 2 from q.1.2.2.1, z, mrow_lo (by omega)])
  · exact h_fullBits okl_3 q.1 v (hig _ (by omega) (by rw [if_pos z]) (bitsF_R 8 0 0 in0))
  · refine h_allPounds okl_3 q.1 v (hig _ (by omega) (by rw [if_neg (by omega), if_pos z]) ?_)
    have := sumF_in v 8 0 0 (by omega) (by omega)
    exact rng (by omega) (by omega)
theorem lineR_R {r : Int → Int} {i w : Int} (v : RV r) (hi : 0 ≤ i ∧ i < r 3) : 0 ≤ lineR r i w ∧ lineR r i w < 320000 := by
  have g := v.2.2.2.2.2 i hi.1 hi.2
  unfold lineR
  split
  · omega
  · split
    · omega
    · split <;> omega
theorem a_book {i w : Int} (d : Nat) (I : I0 L σ) (hi : inR i) (hw : inR w) {Q : Int → jM → Prop} (k : ∀ r σ1, (∀ (d2 : Nat) Q2, (∀ r' σ2, Same L σ r r' σ2 → Q2 r' σ2) → Ct mX12_book (d2 + 11) 0 t [rv 321, iv i, iv w] σ1 Q2) → Q r σ1) : Ct mX11_book (d + 11) 0 t [rv 1, iv i, iv w] σ Q := by
  have q := I.1.1
  have va := I.1.2.2.1
  have v := va.1
  have v3 := v.2.2.2.1
  have e4 : σ 3 4 = mrow (σ 322) 3 := q.1.2.2.2.1
  have e9 : σ 322 9 = mrow (σ 322) 3 := by rw [mrow_lo (by omega)]; rfl
  have bad : i ≠ -1 → (i < 0 ∨ mrow (σ 322) 3 ≤ i ∨ w < 0 ∨ 3 < w) → Q (-2) σ := fun ni hb => k _ σ (fun d2 Q2 k2 => by
    refine c_X12_book ⟨hi, fun _ => ⟨by decide, ?_⟩, fun z => absurd z ni⟩
    rw [e9]
    refine m_isIn hi in0 (rng (by omega) (by omega)) ⟨b01_R, fun _ => same0 I ⟨by decide, by decide⟩ k2, fun z => ?_⟩
    refine m_isIn hw in0 ⟨by decide, by decide⟩ ⟨b01_R, fun _ => same0 I ⟨by decide, by decide⟩ k2, fun y => ?_⟩
    have := inB_t (b01_1 z)
    have := inB_t (b01_1 y)
    omega)
  refine c_X11_book ⟨hi, fun z => ⟨hi, fun y => bad z (by omega), fun y => ⟨hi, ?_⟩⟩, fun z => ?_⟩
  · rw [e4]
    refine ⟨rng (by omega) (by omega), fun x => bad z (by omega), fun x => ⟨hw, fun u => bad z (by omega), fun u => ⟨hw, fun s => ?_, fun s => bad z (by omega)⟩⟩⟩
    have lr := lineR_R (w := w) v ⟨y, x⟩
    refine h_lineShows okl_3 q.1 v ⟨y, x⟩ ⟨u, s⟩ (k _ σ (fun d2 Q2 k2 => ?_))
    refine c_X12_book ⟨hi, fun _ => ⟨by decide, ?_⟩, fun z' => absurd z' z⟩
    rw [e9]
    refine m_isIn hi in0 (rng (by omega) (by omega)) ⟨b01_R, fun z' => by have := inB_f (b01_0.mp z'); omega, fun _ => ?_⟩
    refine m_isIn hw in0 ⟨by decide, by decide⟩ ⟨b01_R, fun z' => by have := inB_f (b01_0.mp z'); omega, fun _ => ?_⟩
    exact m_lineOf v ⟨y, x⟩ ⟨u, s⟩ (same0 I (rng (by omega) (by omega)) k2)
  · rw [e4]
    refine k _ σ (fun d2 Q2 k2 => c_X12_book ⟨hi, fun y => absurd z y, fun _ => ⟨by decide, ?_⟩⟩)
    rw [e9]
    exact same0 I (rng (by omega) (by omega)) k2
theorem a_ledger {w : Int} (d : Nat) (I : I0 L σ) (hw : inR w) {Q : Int → jM → Prop} (k : ∀ r σ1, (∀ (d2 : Nat) Q2, (∀ r' σ2, Same L σ r r' σ2 → Q2 r' σ2) → Ct mX12_ledger (d2 + 11) 0 t [rv 321, iv w] σ1 Q2) → Q r σ1) : Ct mX11_ledger (d + 11) 0 t [rv 1, iv w] σ Q := by
  have q := I.1.1
  have va := I.1.2.2.1
  have v := va.1
  have v3 := v.2.2.2.1
  have e4 : σ 3 4 = mrow (σ 322) 3 := q.1.2.2.2.1
  have e9 : σ 322 9 = mrow (σ 322) 3 := by rw [mrow_lo (by omega)]; rfl
  have bad : (w < 0 ∨ 3 < w) → Q (-2) σ := fun hb => k _ σ (fun d2 Q2 k2 => c_X12_ledger (m_isIn hw in0 ⟨by decide, by decide⟩ ⟨b01_R, fun z => by have := inB_t (b01_1 z); omega, fun _ => same0 I ⟨by decide, by decide⟩ k2⟩))
  refine c_X11_ledger ⟨hw, fun z => bad (Or.inl z), fun z => ⟨hw, fun y => ?_, fun y => bad (Or.inr y)⟩⟩
  have lc : ∀ (j : Nat) (i n : Int), 0 ≤ i → i + j = mrow (σ 322) 3 → Q (ledF (mrow (σ 322)) w j i n) σ → Jt mX11_ledger (d + 11) 0 t Q 16 [rv 1, iv w, iv n, iv i] [] σ := by
    intro j
    induction j with
    | zero =>
      intro i n i0 hi k1
      refine b_X11_ledger_16 ?_
      rw [e4]
      exact ⟨rng (by omega) (by omega), rng (by omega) (by omega), fun _ => k1, fun x => absurd x (by omega)⟩
    | succ j ih =>
      intro i n i0 hi k1
      rw [ledF] at k1
      have lr := lineR_R (w := 1) v ⟨i0, (by omega : i < mrow (σ 322) 3)⟩
      refine b_X11_ledger_16 ?_
      rw [e4]
      refine ⟨rng (by omega) (by omega), rng (by omega) (by omega), fun x => absurd x (by omega), fun x => h_lineShows okl_3 q.1 v ⟨i0, x⟩ (by omega) ⟨rng (by omega) (by omega), hw, fun u => ?_, fun u => ?_⟩⟩
      · rw [if_neg u] at k1; exact ih (i + 1) n (by omega) (by omega) k1
      · rw [if_pos u] at k1; exact ih (i + 1) (n + 1) (by omega) (by omega) k1
  obtain ⟨j, hj⟩ : ∃ j : Nat, (0 : Int) + j = mrow (σ 322) 3 := ⟨(mrow (σ 322) 3).toNat, by omega⟩
  have lin := ledF_in (r := mrow (σ 322)) (w := w) j 0 0
  refine lc j 0 0 (by omega) hj (k _ σ (fun d2 Q2 k2 => c_X12_ledger (m_isIn hw in0 ⟨by decide, by decide⟩ ⟨b01_R, fun _ => ?_, fun x => by have := inB_f (b01_0.mp x); omega⟩)))
  have lm : ∀ (j : Nat) (i n : Int), 0 ≤ i → i + j = mrow (σ 322) 3 → Q2 (ledF (mrow (σ 322)) w j i n) σ → Jt mX12_ledger (d2 + 11) 0 t Q2 16 [rv 321, iv w, iv n, iv i] [] σ := by
    intro j
    induction j with
    | zero =>
      intro i n i0 hi k1
      refine b_X12_ledger_16 ⟨by decide, ?_⟩
      rw [e9]
      exact ⟨rng (by omega) (by omega), rng (by omega) (by omega), fun _ => k1, fun x => absurd x (by omega)⟩
    | succ j ih =>
      intro i n i0 hi k1
      rw [ledF] at k1
      have lr := lineR_R (w := 1) v ⟨i0, (by omega : i < mrow (σ 322) 3)⟩
      refine b_X12_ledger_16 ⟨by decide, ?_⟩
      rw [e9]
      refine ⟨rng (by omega) (by omega), rng (by omega) (by omega), fun x => absurd x (by omega), fun x => m_lineOf v ⟨i0, x⟩ (by omega) ⟨rng (by omega) (by omega), hw, fun u => ?_, fun u => ?_⟩⟩
      · rw [if_neg u] at k1
        rw [Int.add_zero]
        exact ih (i + 1) n (by omega) (by omega) k1
      · rw [if_pos u] at k1; exact ih (i + 1) (n + 1) (by omega) (by omega) k1
  exact lm j 0 0 (by omega) hj (same0 I (rng (by omega) (by omega)) k2)
theorem h_crockOfMost {d : Nat} {h p o : Int} {r : Int → Int} {Q : Int → jM → Prop} (h0 : ob (GG t) h 1) (h1 : ar (GG t) p 1 8) (q : HR σ h r) (v : RV r) (ho : o = 4 ∨ o = 12) (hp : ∀ i, 0 ≤ i → i < 8 → σ p i = r (o + i)) (k : Q (mostF r o 8 0 (-1)) σ) : Ct mX1_crockOfMost d 0 t [rv h, rv p] σ Q := by
  refine c_X1_crockOfMost h0 h1 ?_
  have rp : ∀ i, 0 ≤ i → i < 8 → inR (σ p i) := fun i i0 i1 => by
    have g := v.2.2.2.2.1 i i0 i1
    rw [hp i i0 i1]
    rcases ho with rfl | rfl <;> exact rng (by omega) (by omega)
  have key : ∀ (j : Nat) (i b : Int), 0 ≤ i → i + j = 8 → (-1 ≤ b ∧ b < 8) → Q (mostF r o j i b) σ → Jt mX1_crockOfMost (d) 0 t Q 4 [rv h, rv p, iv b, iv i] [] σ := by
    intro j
    induction j with
    | zero =>
      intro i b i0 hi hb k1
      exact b_X1_crockOfMost_4 h0 h1 ⟨rng (by omega) (by omega), fun _ => k1, fun z => absurd z (by omega)⟩
    | succ j ih =>
      intro i b i0 hi hb k1
      rw [mostF] at k1
      have g := v.2.2.2.2.1 i i0 (by omega)
      refine b_X1_crockOfMost_4 h0 h1 ⟨rng (by omega) (by omega), fun z => absurd z (by omega), fun z => ⟨rng (by omega) (by omega), ⟨by decide, by decide⟩, fun y => absurd y (by omega), fun _ => ⟨⟨i0, z⟩, ?_⟩⟩⟩
      rw [(q.2.2.2.2.2.1 i i0 z).1]
      refine ⟨rng (by omega) (by omega), fun y => ?_, fun y => ⟨rng (by omega) (by omega), fun x => ?_, fun x => ⟨⟨i0, z⟩, ⟨by omega, by omega⟩, rp i i0 z, rp b (by omega) (by omega), fun u => ?_, fun u => ?_⟩⟩⟩
      · rw [if_neg (by omega)] at k1; exact ih (i + 1) b (by omega) (by omega) hb k1
      · rw [if_pos ⟨y, Or.inl x⟩] at k1; exact ih (i + 1) i (by omega) (by omega) (by omega) k1
      · rw [hp i i0 z, hp b (by omega) (by omega)] at u
        rw [if_neg (by omega)] at k1; exact ih (i + 1) b (by omega) (by omega) hb k1
      · rw [hp i i0 z, hp b (by omega) (by omega)] at u
        rw [if_pos ⟨y, Or.inr u⟩] at k1; exact ih (i + 1) i (by omega) (by omega) (by omega) k1
  exact key 8 0 (-1) (by omega) (by omega) (by omega) k
theorem a_oldest (d : Nat) (I : I0 L σ) {Q : Int → jM → Prop} (k : ∀ r σ1, (∀ (d2 : Nat) Q2, (∀ r' σ2, Same L σ r r' σ2 → Q2 r' σ2) → Ct mX12_oldest (d2 + 11) 0 t [rv 321] σ1 Q2) → Q r σ1) : Ct mX11_oldest (d + 11) 0 t [rv 1] σ Q := by
  have q := I.1.1
  have v := I.1.2.2.1.1
  have mi := mostF_in (r := mrow (σ 322)) (o := 12) 8 0 (-1) (by omega) (by omega) (by omega)
  refine c_X11_oldest (h_crockOfMost okl_3 okl_5 q.1 v (Or.inr rfl) (fun i i0 i1 => (q.1.2.2.2.2.2.1 i i0 i1).2) (k _ σ (fun d2 Q2 k2 => c_X12_oldest ?_)))
  have key : ∀ (j : Nat) (i b : Int), 0 ≤ i → i + j = 8 → (-1 ≤ b ∧ b < 8) → Q2 (mostF (mrow (σ 322)) 12 j i b) σ → Jt mX12_oldest (d2 + 11) 0 t Q2 4 [rv 321, iv b, iv i] [] σ := by
    intro j
    induction j with
    | zero =>
      intro i b i0 hi hb k1
      exact b_X12_oldest_4 ⟨rng (by omega) (by omega), fun _ => k1, fun z => absurd z (by omega)⟩
    | succ j ih =>
      intro i b i0 hi hb k1
      rw [mostF] at k1
      have g := v.2.2.2.2.1 i i0 (by omega)
      have e18 : ∀ c, 0 ≤ c → c < 8 → σ 322 (18 + c) = mrow (σ 322) (12 + c) := fun c c0 c1 => by rw [mrow_lo (by omega), show 6 + (12 + c) = 18 + c by omega]
      refine b_X12_oldest_4 ⟨rng (by omega) (by omega), fun z => absurd z (by omega), fun z => m_isFull (d := d2 + 8) v (rng (by omega) (by omega)) ⟨b01_R, fun y => ?_, fun y => ⟨rng (by omega) (by omega), fun x => ?_, fun x => ⟨by omega, by omega, ?_⟩⟩⟩⟩
      · have : ¬ 0 < mrow (σ 322) (4 + i) := fun x => by rw [fullB_of i0 z x] at y; cases y
        rw [if_neg (by omega)] at k1; exact ih (i + 1) b (by omega) (by omega) hb k1
      · have := (fullB_t (b01_1 y)).2.2
        rw [if_pos ⟨this, Or.inl x⟩] at k1; exact ih (i + 1) i (by omega) (by omega) (by omega) k1
      · have f := (fullB_t (b01_1 y)).2.2
        have gb := v.2.2.2.2.1 b (by omega) (by omega)
        rw [e18 i i0 z, e18 b (by omega) (by omega)]
        refine ⟨rng (by omega) (by omega), rng (by omega) (by omega), fun u => ?_, fun u => ?_⟩
        · rw [if_neg (by omega)] at k1; exact ih (i + 1) b (by omega) (by omega) hb k1
        · rw [if_pos ⟨f, Or.inr u⟩] at k1; exact ih (i + 1) i (by omega) (by omega) (by omega) k1
  exact key 8 0 (-1) (by omega) (by omega) (by omega) (same0 I (rng (by omega) (by omega)) k2)
theorem a_fullest (d : Nat) (I : I0 L σ) {Q : Int → jM → Prop} (k : ∀ r σ1, (∀ (d2 : Nat) Q2, (∀ r' σ2, Same L σ r r' σ2 → Q2 r' σ2) → Ct mX12_fullest (d2 + 11) 0 t [rv 321] σ1 Q2) → Q r σ1) : Ct mX11_fullest (d + 11) 0 t [rv 1] σ Q := by
  have q := I.1.1
  have v := I.1.2.2.1.1
  have mi := mostF_in (r := mrow (σ 322)) (o := 4) 8 0 (-1) (by omega) (by omega) (by omega)
  refine c_X11_fullest (h_crockOfMost okl_3 okl_4 q.1 v (Or.inl rfl) (fun i i0 i1 => (q.1.2.2.2.2.2.1 i i0 i1).1) (k _ σ (fun d2 Q2 k2 => c_X12_fullest ?_)))
  have key : ∀ (j : Nat) (i b : Int), 0 ≤ i → i + j = 8 → (b = -1 ∨ (0 ≤ b ∧ b < 8)) → Q2 (mostF (mrow (σ 322)) 4 j i b) σ → Jt mX12_fullest (d2 + 11) 0 t Q2 4 [rv 321, iv b, iv i] [] σ := by
    intro j
    induction j with
    | zero =>
      intro i b i0 hi hb k1
      exact b_X12_fullest_4 ⟨rng (by omega) (by omega), fun _ => k1, fun z => absurd z (by omega)⟩
    | succ j ih =>
      intro i b i0 hi hb k1
      rw [mostF] at k1
      have g := v.2.2.2.2.1 i i0 (by omega)
      have e10 : ∀ c, 0 ≤ c → c < 8 → σ 322 (10 + c) = mrow (σ 322) (4 + c) := fun c c0 c1 => by rw [mrow_lo (by omega), show 6 + (4 + c) = 10 + c by omega]
      refine b_X12_fullest_4 ⟨rng (by omega) (by omega), fun z => absurd z (by omega), fun z => ⟨by omega, rng (by omega) (by omega), fun y => ⟨by omega, ?_⟩, fun y => ?_⟩⟩
      · have gb := v.2.2.2.2.1 b (by omega) (by omega)
        rw [e10 i i0 z, e10 b (by omega) (by omega)]
        refine ⟨rng (by omega) (by omega), rng (by omega) (by omega), fun u => ?_, fun u => ?_⟩
        · rw [if_neg (by omega)] at k1; exact ih (i + 1) b (by omega) (by omega) hb k1
        · rw [if_pos ⟨by omega, Or.inr u⟩] at k1; exact ih (i + 1) i (by omega) (by omega) (by omega) k1
      · rw [e10 i i0 z]
        refine ⟨rng (by omega) (by omega), fun u => ?_, fun u => ?_⟩
        · rw [if_neg (by omega)] at k1; exact ih (i + 1) b (by omega) (by omega) hb k1
        · rw [if_pos ⟨u, Or.inl y⟩] at k1; exact ih (i + 1) i (by omega) (by omega) (by omega) k1
  exact key 8 0 (-1) (by omega) (by omega) (by omega) (same0 I (rng (by omega) (by omega)) k2)
theorem a_can {n : Int} (d : Nat) (I : I0 L σ) (hn : inR n) {Q : Int → jM → Prop} (k : ∀ r σ1, (∀ (d2 : Nat) Q2, (∀ r' σ2, Same L σ r r' σ2 → Q2 r' σ2) → Ct mX12_can (d2 + 11) 0 t [rv 321, iv n] σ1 Q2) → Q r σ1) : Ct mX11_can (d + 11) 0 t [rv 1, iv n] σ Q := by
  have q := I.1.1
  have v := I.1.2.2.1.1
  have pi := pairR_in (r := mrow (σ 322)) (n := n)
  have pr : inR (pairR (mrow (σ 322)) n) := rng (by omega) (by omega)
  have bad : (n < 1 ∨ 19998 < n) → Q (-1) σ := fun hb => k _ σ (fun d2 Q2 k2 => c_X12_can (m_isIn hn ⟨by decide, by decide⟩ ⟨by decide, by decide⟩ ⟨b01_R, fun _ => ⟨fun z => absurd rfl z, fun _ => same0 I ⟨by decide, by decide⟩ k2⟩, fun z => by have := inB_t (b01_1 z); omega⟩))
  refine c_X11_can ⟨hn, fun z => bad (Or.inl z), fun z => ⟨hn, fun y => ?_, fun y => bad (Or.inr y)⟩⟩
  refine h_pairWith (d := d + 9) okl_3 q.1 v hn ⟨pr, fun x => ⟨pr, pr, k _ σ (fun d2 Q2 k2 => ?_)⟩, fun x => k _ σ (fun d2 Q2 k2 => ?_)⟩
  · refine c_X12_can (m_isIn hn ⟨by decide, by decide⟩ ⟨by decide, by decide⟩ ⟨b01_R, fun u => by have := inB_f (b01_0.mp u); omega, fun _ => m_twoFor (d := d2 + 7) v hn ⟨pr, fun _ => ⟨pr, pr, ?_⟩, fun u => absurd u x⟩⟩)
    exact same0 I i_or_R k2
  · refine c_X12_can (m_isIn hn ⟨by decide, by decide⟩ ⟨by decide, by decide⟩ ⟨b01_R, fun u => by have := inB_f (b01_0.mp u); omega, fun _ => m_twoFor (d := d2 + 7) v hn ⟨pr, fun u => absurd x u, fun _ => ?_⟩⟩)
    exact same0 I ⟨by decide, by decide⟩ k2
end SX
