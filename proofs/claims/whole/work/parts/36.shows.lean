/-! ===== what stands there: both answer alike ===== -/
theorem i_or_R {x y : Int} : inR (i_or x y) := ⟨Int32.le_toInt _, Int32.toInt_lt _⟩
theorem i_shl_R {x y : Int} : inR (i_shl x y) := ⟨Int32.le_toInt _, Int32.toInt_lt _⟩
theorem i_or_0 {x : Int} (h : inR x) : i_or x 0 = x := by
  unfold i_or
  rw [zero32, Int32.or_zero, to32 h]
theorem b01_1 {b : Bool} (h : ¬ b01 b = 0) : b = true := by
  cases b
  · exact absurd rfl h
  · rfl
theorem inB_t {x a b : Int} (h : inB x a b = true) : a ≤ x ∧ x ≤ b := by unfold inB at h; simp at h; exact h
theorem inB_f {x a b : Int} (h : inB x a b = false) : x < a ∨ b < x := by unfold inB at h; simp at h; omega
def eqA (A B : Int → Int) : Prop := ∀ i, 0 ≤ i → i < 2208 → A i = B i
theorem eqA_m {A B : Int → Int} (e : eqA A B) : eqr (mrow A) (mrow B) := by
  intro i i0 i1
  by_cases h : i < 20
  · rw [mrow_lo h, mrow_lo h]; exact e _ (by omega) (by omega)
  · rw [mrow_hi (by omega), mrow_hi (by omega)]; exact e _ (by omega) (by omega)
theorem eqA_s {A B : Int → Int} (e : eqA A B) {k : Int} (k0 : 0 ≤ k) (k1 : k < 30) : eqr (srow A k) (srow B k) := by
  intro i i0 i1
  unfold srow
  exact e _ (by omega) (by omega)
theorem AV_congr {A B : Int → Int} (e : eqA A B) (va : AV A) : AV B := by
  obtain ⟨a1, a2, a3, a4, a5, a6, a7⟩ := va
  have e0 := e 0 (by omega) (by omega)
  have e1 := e 1 (by omega) (by omega)
  have e2 := e 2 (by omega) (by omega)
  have e3 := e 3 (by omega) (by omega)
  have e4 := e 4 (by omega) (by omega)
  have e5 := e 5 (by omega) (by omega)
  refine ⟨RV_congr (eqA_m e) a1, ⟨by omega, by omega, fun k k0 k1 => RV_congr (eqA_s e k0 (by omega)) (a2.2.2 k k0 (by omega))⟩, ⟨by omega, by omega, by rw [← e 30 (by omega) (by omega)]; exact a3.2.2.1, fun i i0 i1 => by rw [← e _ (by omega) (by omega)]; exact a3.2.2.2 i i0 (by omega)⟩, ⟨by omega, by omega, fun i i0 i1 => by rw [← e _ (by omega) (by omega)]; exact a4.2.2 i i0 (by omega)⟩, ⟨by omega, by omega, fun i i0 i1 => by rw [← e _ (by omega) (by omega), ← e _ (by omega) (by omega)]; exact a5.2.2 i i0 (by omega)⟩, by omega, by omega⟩
theorem WR_congr {σ : jM} {w : Int} {A B : Int → Int} (e : eqA A B) (va : AV A) (q : WR σ w A) : WR σ w B := by
  obtain ⟨a1, a2, a3, a4, a5, a6, a7⟩ := q
  have e2 := e 2 (by omega) (by omega)
  have e3 := e 3 (by omega) (by omega)
  have e4 := e 4 (by omega) (by omega)
  have e5 := e 5 (by omega) (by omega)
  have h3 := va.2.2.1
  have h4 := va.2.2.2.1
  have h5 := va.2.2.2.2.1
  have h2 := va.2.1
  refine ⟨HR_congr (eqA_m e) va.1 a1, ?_, ⟨by rw [← e4]; exact a3.1, fun i i0 i1 => by rw [← e _ (by omega) (by omega)]; exact a3.2 i i0 (by omega)⟩, ⟨by rw [← e3]; exact a4.1, fun i i0 i1 => by rw [← e _ (by omega) (by omega)]; exact a4.2 i i0 (by omega)⟩, ⟨by rw [← e5]; exact a5.1, fun i i0 i1 => by rw [← e _ (by omega) (by omega), ← e _ (by omega) (by omega)]; exact a5.2 i i0 (by omega)⟩, by rw [← e 0 (by omega) (by omega)]; exact a6, by rw [← e 1 (by omega) (by omega)]; exact a7⟩
  rw [← e2]
  exact SR_congr a2 (fun k k0 k1 => eqA_s e k0 (by omega)) (fun k k0 k1 => h2.2.2 k k0 k1)
/-- the house and the steps as they were -/
def eqH (A B : Int → Int) : Prop := ∀ i, (i = 2 ∨ (6 ≤ i ∧ i < 26) ∨ 58 ≤ i) → A i = B i
theorem eqH_m {A B : Int → Int} (e : eqH A B) : eqr (mrow A) (mrow B) := by
  intro i i0 i1
  by_cases h : i < 20
  · rw [mrow_lo h, mrow_lo h]; exact e _ (by omega)
  · rw [mrow_hi (by omega), mrow_hi (by omega)]; exact e _ (by omega)
theorem eqH_s {A B : Int → Int} (e : eqH A B) {k : Int} (k0 : 0 ≤ k) : eqr (srow A k) (srow B k) := by
  intro i i0 i1
  unfold srow
  exact e _ (by omega)
theorem WR_rest {σ σ' : jM} {A B : Int → Int} (q : WR σ 2 A) (va : AV A) (es : ∀ x, 3 ≤ x → x ≤ 128 → σ' x = σ x) (e : eqH A B) (h3 : σ' 129 1 = B 4 ∧ ∀ i, 0 ≤ i → i < B 4 → σ' 130 i = B (30 + i)) (h4 : σ' 2 8 = B 3 ∧ ∀ i, 0 ≤ i → i < B 3 → σ' 131 i = B (26 + i)) (h5 : σ' 2 9 = B 5 ∧ ∀ i, 0 ≤ i → i < B 5 → (σ' 132 i = B (42 + 2 * i) ∧ σ' 133 i = B (43 + 2 * i))) (h6 : σ' 2 6 = B 0) (h7 : σ' 2 7 = B 1) : WR σ' 2 B := by
  refine ⟨HR_congr (eqH_m e) va.1 (HR_same q.1 (fun x x0 x1 => es x (by omega) (by omega))), ?_, h3, h4, h5, h6, h7⟩
  rw [← e 2 (by omega)]
  exact SR_congr (SR_same q.2.1 (fun x x0 x1 => es x (by omega) (by omega))) (fun k k0 _ => eqH_s e k0) (fun k k0 k1 => va.2.1.2.2 k k0 k1)
theorem AV_rest {A B : Int → Int} (va : AV A) (e : eqH A B) (h3 : 1 ≤ B 4 ∧ B 4 ≤ 12 ∧ B 30 = 1 ∧ ∀ i, 0 ≤ i → i < B 4 → (1 ≤ B (30 + i) ∧ B (30 + i) ≤ 9999)) (h4 : 0 ≤ B 3 ∧ B 3 ≤ 4 ∧ ∀ i, 0 ≤ i → i < B 3 → (1 ≤ B (26 + i) ∧ B (26 + i) ≤ 40)) (h5 : 0 ≤ B 5 ∧ B 5 ≤ 8 ∧ ∀ i, 0 ≤ i → i < B 5 → (0 ≤ B (42 + 2 * i) ∧ B (42 + 2 * i) < 8 ∧ 0 ≤ B (43 + 2 * i) ∧ B (43 + 2 * i) ≤ 10)) (h6 : 0 ≤ B 0 ∧ B 0 ≤ 4) (h7 : -1 ≤ B 1 ∧ B 1 < B 0) : AV B :=
  ⟨RV_congr (eqH_m e) va.1, ⟨by rw [← e 2 (by omega)]; exact va.2.1.1, by rw [← e 2 (by omega)]; exact va.2.1.2.1, fun k k0 k1 => RV_congr (eqH_s e k0) (va.2.1.2.2 k k0 (by rw [e 2 (by omega)]; exact k1))⟩, h3, h4, h5, h6, h7⟩
def mostF (r : Int → Int) (o : Int) : Nat → Int → Int → Int
  | 0, _, b => b
  | j + 1, i, b => mostF r o j (i + 1) (if 0 < r (4 + i) ∧ (b = -1 ∨ r (o + b) < r (o + i)) then i else b)
theorem mostF_in {r : Int → Int} {o : Int} : ∀ (j : Nat) (i b : Int), 0 ≤ i → i + j = 8 → (-1 ≤ b ∧ b < 8) → -1 ≤ mostF r o j i b ∧ mostF r o j i b < 8
  | 0, _, _, _, _, h => h
  | j + 1, i, b, h0, h1, h => by
    rw [mostF]
    refine mostF_in j (i + 1) _ (by omega) (by omega) ?_
    split
    · omega
    · exact h
def ledF (r : Int → Int) (w : Int) : Nat → Int → Int → Int
  | 0, _, n => n
  | j + 1, i, n => ledF r w j (i + 1) (if lineR r i 1 = w then n + 1 else n)
theorem ledF_in {r : Int → Int} {w : Int} : ∀ (j : Nat) (i n : Int), n ≤ ledF r w j i n ∧ ledF r w j i n ≤ n + j
  | 0, _, n => by rw [ledF]; omega
  | j + 1, i, n => by
    rw [ledF]
    have := ledF_in (r := r) (w := w) j (i + 1) (if lineR r i 1 = w then n + 1 else n)
    split at this
    · rename_i h; rw [if_pos h]; omega
    · rename_i h; rw [if_neg h]; omega
def sumF (r : Int → Int) : Nat → Int → Int → Int
  | 0, _, n => n
  | j + 1, i, n => sumF r j (i + 1) (n + r (4 + i))
theorem sumF_in {r : Int → Int} (v : RV r) : ∀ (j : Nat) (i n : Int), 0 ≤ i → i + j = 8 → n ≤ sumF r j i n ∧ sumF r j i n ≤ n + 9999 * j
  | 0, _, n, _, _ => by rw [sumF]; omega
  | j + 1, i, n, h0, h1 => by
    have g := v.2.2.2.2.1 i h0 (by omega)
    have := sumF_in v j (i + 1) (n + r (4 + i)) (by omega) (by omega)
    rw [sumF]
    omega
theorem bitsF_R {p : Int → Bool} : ∀ (j : Nat) (i acc : Int), inR acc → inR (bitsF p j i acc)
  | 0, _, _, h => h
  | j + 1, i, acc, h => by
    rw [bitsF]
    refine bitsF_R j (i + 1) _ ?_
    split
    · exact i_or_R
    · exact h
theorem pairR_in {r : Int → Int} {n : Int} : -1 ≤ pairR r n ∧ pairR r n < 64 := by
  have key : ∀ (k : Nat) (a : Int), 0 ≤ a → a + k = 8 → -1 ≤ pairO r n k a ∧ pairO r n k a < 64 := by
    intro k
    induction k with
    | zero => intro a _ _; rw [pairO]; omega
    | succ k ih =>
      intro a a0 ak
      rw [pairO]
      split
      · exact ih (a + 1) (by omega) (by omega)
      · rcases lowF_in (p := pairI r n a) (k + 1) a with e | ⟨e1, e2, _⟩
        · rename_i h; exact absurd e h
        · omega
  exact key 8 0 (by omega) (by omega)
section SW
variable {t : Int} {L : LT} {σ : jM}
/-- an answer that changes nothing -/
theorem same0 {r : Int} {Q2 : Int → jM → Prop} (I : I0 L σ) (h : inR r) (k2 : ∀ r' σ2, Same L σ r r' σ2 → Q2 r' σ2) : Q2 r σ := k2 _ _ ⟨rfl, h, I, frK_rf⟩
theorem AV_2 {A : Int → Int} {n : Int} (va : AV A) (h : 0 ≤ n ∧ n ≤ A 2) : AV (wr A 2 n) := by
  obtain ⟨a1, a2, a3, a4, a5, a6, a7⟩ := va
  have em : eqr (mrow A) (mrow (wr A 2 n)) := fun i i0 i1 => by
    by_cases h : i < 20
    · rw [mrow_lo h, mrow_lo h, wr_ne (by omega)]
    · rw [mrow_hi (by omega), mrow_hi (by omega), wr_ne (by omega)]
  refine ⟨RV_congr em a1, ⟨by rw [wr_at]; omega, by rw [wr_at]; omega, fun k k0 k1 => ?_⟩, ?_, ?_, ?_, ?_, ?_⟩
  · rw [wr_at] at k1
    refine RV_congr (fun i i0 i1 => ?_) (a2.2.2 k k0 (by omega))
    unfold srow
    rw [wr_ne (by omega)]
  · rw [wr_ne (by omega), wr_ne (by omega)]
    exact ⟨a3.1, a3.2.1, a3.2.2.1, fun i i0 i1 => by rw [wr_ne (by omega)]; exact a3.2.2.2 i i0 i1⟩
  · rw [wr_ne (by omega)]
    exact ⟨a4.1, a4.2.1, fun i i0 i1 => by rw [wr_ne (by omega)]; exact a4.2.2 i i0 i1⟩
  · rw [wr_ne (by omega)]
    exact ⟨a5.1, a5.2.1, fun i i0 i1 => by rw [wr_ne (by omega), wr_ne (by omega)]; exact a5.2.2 i i0 i1⟩
  · rw [wr_ne (by omega)]; exact a6
  · rw [wr_ne (by omega), wr_ne (by omega)]; exact a7
theorem WR_2 {τ σ' : jM} {A : Int → Int} {n : Int} (q : WR τ 2 A) (va : AV A) (hn : 0 ≤ n ∧ n ≤ A 2) (qs : SR σ' 7 n (srow A)) (o : ∀ x, (x < 7 ∨ 128 < x) → σ' x = τ x) : WR σ' 2 (wr A 2 n) := by
  obtain ⟨a1, a2, a3, a4, a5, a6, a7⟩ := q
  have em : eqr (mrow A) (mrow (wr A 2 n)) := fun i i0 i1 => by
    by_cases h : i < 20
    · rw [mrow_lo h, mrow_lo h, wr_ne (by omega)]
    · rw [mrow_hi (by omega), mrow_hi (by omega), wr_ne (by omega)]
  have e2 : σ' 2 = τ 2 := o 2 (by omega)
  have h3 := va.2.2.1
  have h4 := va.2.2.2.1
  have h5 := va.2.2.2.2.1
  refine ⟨HR_congr em va.1 (HR_same a1 (fun x x0 x1 => o x (by omega))), ?_, ?_, ?_, ?_, ?_, ?_⟩
  · rw [wr_at]
    refine SR_congr qs (fun k k0 k1 i i0 i1 => ?_) (fun k k0 k1 => va.2.1.2.2 k k0 (by omega))
    unfold srow
    rw [wr_ne (by omega)]
  · rw [o (2 + 127) (by omega), o (2 + 128) (by omega), wr_ne (by omega)]
    exact ⟨a3.1, fun i i0 i1 => by rw [wr_ne (by omega)]; exact a3.2 i i0 i1⟩
  · rw [e2, o (2 + 129) (by omega), wr_ne (by omega)]
    exact ⟨a4.1, fun i i0 i1 => by rw [wr_ne (by omega)]; exact a4.2 i i0 i1⟩
  · rw [e2, o (2 + 130) (by omega), o (2 + 131) (by omega), wr_ne (by omega)]
    exact ⟨a5.1, fun i i0 i1 => by rw [wr_ne (by omega), wr_ne (by omega)]; exact a5.2 i i0 i1⟩
  · rw [e2, wr_ne (by omega)]; exact a6
  · rw [e2, wr_ne (by omega)]; exact a7
theorem a_undo (d : Nat) (I : I0 L σ) {Q : Int → jM → Prop} (k : ∀ r σ1, (∀ (d2 : Nat) Q2, (∀ r' σ2, Same L σ r r' σ2 → Q2 r' σ2) → Ct mX12_undo (d2 + 11) 0 t [rv 321] σ1 Q2) → Q r σ1) : Ct mX11_undo (d + 11) 0 t [rv 1] σ Q := by
  have q := I.1.1
  have va := I.1.2.2.1
  have h2 : 0 ≤ σ 322 2 ∧ σ 322 2 ≤ 30 := ⟨va.2.1.1, va.2.1.2.1⟩
  refine c_X11_undo (s_takeBack (d := d + 7) okl_7 okl_3 (by omega) q.2.1 (fun z => ?_) (fun z σ1 qs qh o1 => ?_))
  · refine ⟨in0, fun _ => k _ σ (fun d2 Q2 k2 => m_undo h2 (fun _ => same0 I ⟨by decide, by decide⟩ k2) (fun y => absurd z y)), fun y => absurd rfl y⟩
  · refine ⟨⟨by decide, by decide⟩, fun y => absurd y (by decide), fun _ => ?_⟩
    rw [show σ1 7 2 = σ 322 2 - 1 from qs.2.1]
    have e322 : σ1 322 = σ 322 := o1 322 (by omega) (by omega)
    have o1' : offN σ σ1 := fun x x1 _ _ _ => o1 x (by omega) (by omega)
    refine k _ σ1 (fun d2 Q2 k2 => m_undo (by rw [e322]; exact h2) (fun y => absurd y (by rw [e322]; exact z)) (fun _ => ?_))
    rw [e322]
    have vB := AV_2 (n := σ 322 2 - 1) va (by omega)
    have vS := va.2.1.2.2 (σ 322 2 - 1) (by omega) (by omega)
    have wB : WR (fun x => if 3 ≤ x ∧ x ≤ 6 then σ x else σ1 x) 2 (wr (σ 322) 2 (σ 322 2 - 1)) := by
      refine WR_2 q va (by omega) (SR_same qs (fun x x0 x1 => ?_)) (fun x hx => ?_)
      · rw [if_neg (by omega)]
      · by_cases e : 3 ≤ x ∧ x ≤ 6
        · rw [if_pos e]
        · rw [if_neg e]; exact o1 x (by omega) (by omega)
    have w1 := WR_house (σ' := σ1) wB vB vS qh (fun x hx _ _ => by show σ1 x = if _ then _ else _; rw [if_neg (by omega)])
    refine k2 _ _ ⟨rfl, rng (by omega) (by omega), ?_⟩
    exact I0_step I w1 (AV_house vB vS) (by rw [setM_off (by omega), wr_ne (by omega)]) o1' sr_at offM_sr
theorem m_row {A : Int → Int} {i : Int} (h : i < 20) : A (6 + i) = mrow A i := (mrow_lo h).symm
theorem a_of {c w : Int} (d : Nat) (I : I0 L σ) (hc : inR c) (hw : inR w) {Q : Int → jM → Prop} (k : ∀ r σ1, (∀ (d2 : Nat) Q2, (∀ r' σ2, Same L σ r r' σ2 → Q2 r' σ2) → Ct mX12_of (d2 + 11) 0 t [rv 321, iv c, iv w] σ1 Q2) → Q r σ1) : Ct mX11_of (d + 11) 0 t [rv 1, iv c, iv w] σ Q := by
  have q := I.1.1
  have va := I.1.2.2.1
  have hn := va.2.2.2.2.2.1.2
  have h1 := va.2.2.2.2.2.2
  have bad : (c < 0 ∨ 8 ≤ c) → Q (-1) σ := fun hb => k _ σ (fun d2 Q2 k2 => c_X12_of (m_isCrock (d := d2 + 9) hc ⟨b01_R, fun z => by have := inB_t (b01_1 z); omega, fun _ => same0 I ⟨by decide, by decide⟩ k2⟩))
  refine c_X11_of ⟨hc, fun z => bad (Or.inl z), fun z => ⟨hc, fun y => ⟨hw, ?_⟩, fun y => bad (Or.inr y)⟩⟩
  have hc8 : 0 ≤ c ∧ c < 8 := ⟨z, y⟩
  have g := va.1.2.2.2.2.1 c z y
  have e1 := (q.1.2.2.2.2.2.1 c z y)
  have e10 : mrow (σ 322) (4 + c) = σ 322 (10 + c) := by rw [mrow_lo (by omega), show 6 + (4 + c) = 10 + c by omega]
  have e18 : mrow (σ 322) (12 + c) = σ 322 (18 + c) := by rw [mrow_lo (by omega), show 6 + (12 + c) = 18 + c by omega]
  have go : ∀ {d2 : Nat} {τ : jM} {P : Int → jM → Prop}, (∀ r4, ¬ r4 = 0 → inR r4 → P r4 τ) → Ct mX12_isCrock (d2 + 10) 0 t [iv c] τ P := fun {d2 τ P} h => m_isCrock (d := d2 + 9) hc (h _ (fun z0 => by have := inB_f (b01_0.mp z0); omega) b01_R)
  refine ⟨fun x => ?_, fun x => ⟨hc8, ?_⟩, fun x => ⟨hc8, ?_⟩, fun x => ?_, fun x => ?_⟩
  · exact k _ σ (fun d2 Q2 k2 => c_X12_of (go (fun r4 n4 i4 => ⟨i4, fun _ => ⟨hw, fun _ => ⟨hw, fun _ => ⟨hw, fun _ => ⟨hw, fun _ => same0 I ⟨by decide, by decide⟩ k2, fun u => absurd u (by omega)⟩, fun u => absurd u (by omega)⟩, fun u => absurd u (by omega)⟩, fun u => absurd u (by omega)⟩, fun u => absurd u n4⟩)))
  · rw [show σ 4 c = mrow (σ 322) (4 + c) from e1.1, e10]
    rw [e10] at g
    exact k _ σ (fun d2 Q2 k2 => c_X12_of (go (fun r4 n4 i4 => ⟨i4, fun _ => ⟨hw, fun u => absurd x u, fun _ => ⟨by omega, same0 I (rng (by omega) (by omega)) k2⟩⟩, fun u => absurd u n4⟩)))
  · rw [show σ 5 c = mrow (σ 322) (12 + c) from e1.2, e18]
    rw [e18] at g
    exact k _ σ (fun d2 Q2 k2 => c_X12_of (go (fun r4 n4 i4 => ⟨i4, fun _ => ⟨hw, fun _ => ⟨hw, fun u => absurd x u, fun _ => ⟨by omega, same0 I (rng (by omega) (by omega)) k2⟩⟩, fun u => absurd u (by omega)⟩, fun u => absurd u n4⟩)))
  · refine w_ruler (d := d + 9) q va (h_tiresOf (d := d + 7) (n := σ 322 0) (L := L) okl_3 (by omega) q.1 va.1 hc8 I.2.1.1 h1 hn (fun σ1 o1 => k _ σ1 (fun d2 Q2 k2 => ?_)))
    have e322 : σ1 322 = σ 322 := o1 322 (by decide) (by decide)
    have ti := tiresL_in (L := L) (k := σ 322 1) (r := mrow (σ 322)) (c := c)
    refine c_X12_of (go (fun r4 n4 i4 => ⟨i4, fun _ => ⟨hw, fun _ => ⟨hw, fun _ => ⟨hw, fun u => absurd x u, fun _ => ⟨by decide, ?_⟩⟩, fun u => absurd u (by omega)⟩, fun u => absurd u (by omega)⟩, fun u => absurd u n4⟩))
    rw [e322]
    refine m_tiresOf (d := d2 + 5) (n := σ 322 0) (L := L) (by rw [e322]; exact va.1) hc8 (TxM_same I.2.1.2.1 (o1 324 (by decide) (by decide))) h1 hn (fun σ2 o2 => ?_)
    rw [e322]
    exact k2 _ _ ⟨rfl, rng (by omega) (by omega), I0_same I o1 o2⟩
  · refine w_ruler (d := d + 9) q va (h_priceOf (d := d + 7) (n := σ 322 0) (L := L) okl_3 (by omega) q.1 va.1 hc8 I.2.1.1 h1 hn (fun σ1 o1 => k _ σ1 (fun d2 Q2 k2 => ?_)))
    have e322 : σ1 322 = σ 322 := o1 322 (by decide) (by decide)
    have ti := priceL_in (L := L) (k := σ 322 1) (r := mrow (σ 322)) (c := c) va.1 hc8
    refine c_X12_of (go (fun r4 n4 i4 => ⟨i4, fun _ => ⟨hw, fun _ => ⟨hw, fun _ => ⟨hw, fun _ => ⟨hw, fun u => absurd x u, fun _ => ?_⟩, fun u => absurd u (by omega)⟩, fun u => absurd u (by omega)⟩, fun u => absurd u (by omega)⟩, fun u => absurd u n4⟩))
    refine m_priceOf (d := d2 + 5) (n := σ 322 0) (L := L) (by rw [e322]; exact va.1) hc8 (TxM_same I.2.1.2.1 (o1 324 (by decide) (by decide))) (by rw [e322]; exact h1) hn (fun σ2 o2 => ?_)
    rw [e322]
    exact k2 _ _ ⟨rfl, rng (by omega) (by omega), I0_same I o1 o2⟩
end SW
