/-! ===== image, back, the tape alike ===== -/
theorem i_and255 {x : Int} : 0 ≤ i_and x 255 ∧ i_and x 255 ≤ 255 := by
  have e : i_and x 255 = ((Int32.ofInt x).toBitVec &&& 255#32).toInt := rfl
  have hn : ((Int32.ofInt x).toBitVec &&& 255#32).toNat ≤ 255 := by
    rw [BitVec.toNat_and]
    exact Nat.and_le_right
  rw [e, BitVec.toInt_eq_toNat_of_lt (by omega)]
  omega
/-- four bytes are added to a row of n -/
def by4 (p k : Int) : Int := i_and (i_shr p k) 255
def f4 (r : Int → Int) (n p : Int) : Int → Int := wr (wr (wr (wr r n (by4 p 24)) (n + 1) (by4 p 16)) (n + 2) (by4 p 8)) (n + 3) (by4 p 0)
def tapeOk (n : Int) (r s : Int → Int) : Prop := ∀ i, 0 ≤ i → i < n → (r i = s i ∧ 0 ≤ s i ∧ s i ≤ 255)
theorem tapeOk_wr {n v : Int} {r s : Int → Int} (h : tapeOk n r s) (hv : 0 ≤ v ∧ v ≤ 255) : tapeOk (n + 1) (wr r n v) (wr s n v) := by
  intro i i0 i1
  by_cases e : i = n
  · rw [wr_eq e, wr_eq e]; exact ⟨rfl, hv⟩
  · rw [wr_ne e, wr_ne e]; exact h i i0 (by omega)
theorem tapeOk_4 {n p : Int} {r s : Int → Int} (h : tapeOk n r s) : tapeOk (n + 4) (f4 r n p) (f4 s n p) := by
  have := tapeOk_wr (tapeOk_wr (tapeOk_wr (tapeOk_wr h (v := by4 p 24) i_and255) (v := by4 p 16) i_and255) (v := by4 p 8) i_and255) (v := by4 p 0) i_and255
  rw [show n + 1 + 1 + 1 + 1 = n + 4 by omega, show n + 1 + 1 + 1 = n + 3 by omega, show n + 1 + 1 = n + 2 by omega] at this
  exact this
section TP
variable {t : Int} {L : LT} {σ : jM}
theorem I0_tape {σ2 : jM} (I : I0 L σ) (e : ∀ x, x ≠ 271 → x ≠ 272 → x ≠ 321 → x ≠ 325 → σ2 x = σ x) (f : IF σ2) (b : σ2 321 23 = 1) : I0 L σ2 ∧ frK σ σ2 := by
  obtain ⟨⟨w1, w2, v1, v2, w3⟩, ⟨t1, t2, t3, t4⟩, _, _⟩ := I
  have hn4 : σ 322 0 ≤ 4 := v1.2.2.2.2.2.1.2
  have s322 : σ2 322 = σ 322 := e 322 (by decide) (by decide) (by decide) (by decide)
  have s323 : σ2 323 = σ 323 := e 323 (by decide) (by decide) (by decide) (by decide)
  have s324 : σ2 324 = σ 324 := e 324 (by decide) (by decide) (by decide) (by decide)
  have tx : ∀ x, 293 ≤ x → x ≤ 320 → σ2 x = σ x := fun x x0 x1 => e x (by omega) (by omega) (by omega) (by omega)
  refine ⟨⟨⟨?_, ?_, ?_, ?_, ?_⟩, ⟨?_, ?_, ?_, ?_⟩, f, b⟩, fun x hx => e x (by omega) (by omega) (by omega) (by omega)⟩
  · rw [s322]; exact WR_same w1 (fun x x0 x1 => e x (by omega) (by omega) (by omega) (by omega))
  · rw [s323]; exact WR_same w2 (fun x x0 x1 => e x (by omega) (by omega) (by omega) (by omega))
  · rw [s322]; exact v1
  · rw [s323]; exact v2
  · rw [s322, s323]; exact w3
  · rw [s322]; exact TxC_same t1 hn4 tx
  · rw [s322]; exact TxM_same t2 s324
  · rw [s322]; exact t3
  · rw [s322]; exact CLs_same t4 hn4 tx s324
theorem h_addFour {d : Nat} {p : Int} {Q : Int → jM → Prop} (h : 0 ≤ σ 271 1 ∧ σ 271 1 ≤ 296) (k : Q 0 (up (sr σ 272 (f4 (σ 272) (σ 271 1) p)) 271 1 (σ 271 1 + 4))) : Ct mX3_addFour d 9 t [rv 271, iv p] σ Q := by
  obtain ⟨n, hn⟩ : ∃ n, n = σ 271 1 := ⟨_, rfl⟩
  rw [← hn] at h k
  refine c_X3_addFour (b_X3_addFour_3 ?_)
  rw [← hn]
  refine ⟨⟨by decide, by decide⟩, fun z => absurd z (by decide), fun _ => ⟨rng (by omega) (by omega), fun z => absurd z (by omega), fun _ => ⟨⟨by omega, by omega⟩, fun σ4 e4 σ5 e5 => ?_⟩⟩⟩
  have n4 : σ4 271 1 = n := by rw [e4, up_row (by decide), hn]
  rw [n4] at e5
  have n5 : σ5 271 1 = n + 1 := by rw [e5, up_at]
  refine b_X3_addFour_3 ?_
  rw [n5]
  refine ⟨⟨by decide, by decide⟩, fun z => absurd z (by decide), fun _ => ⟨rng (by omega) (by omega), fun z => absurd z (by omega), fun _ => ⟨⟨by omega, by omega⟩, fun σ6 e6 σ7 e7 => ?_⟩⟩⟩
  have n6 : σ6 271 1 = n + 1 := by rw [e6, up_row (by decide), n5]
  rw [n6] at e7
  have n7 : σ7 271 1 = n + 2 := by rw [e7, up_at]; omega
  refine b_X3_addFour_3 ?_
  rw [n7]
  refine ⟨⟨by decide, by decide⟩, fun z => absurd z (by decide), fun _ => ⟨rng (by omega) (by omega), fun z => absurd z (by omega), fun _ => ⟨⟨by omega, by omega⟩, fun σ8 e8 σ9 e9 => ?_⟩⟩⟩
  have n8 : σ8 271 1 = n + 2 := by rw [e8, up_row (by decide), n7]
  rw [n8] at e9
  have n9 : σ9 271 1 = n + 3 := by rw [e9, up_at]; omega
  refine b_X3_addFour_3 ?_
  rw [n9]
  refine ⟨⟨by decide, by decide⟩, fun z => absurd z (by decide), fun _ => ⟨rng (by omega) (by omega), fun z => absurd z (by omega), fun _ => ⟨⟨by omega, by omega⟩, fun σ10 e10 σ11 e11 => ?_⟩⟩⟩
  have n10 : σ10 271 1 = n + 3 := by rw [e10, up_row (by decide), n9]
  rw [n10] at e11
  refine b_X3_addFour_3 ⟨⟨by decide, by decide⟩, fun _ => ?_, fun z => absurd z (by decide)⟩
  have fin : σ11 = up (sr σ 272 (f4 (σ 272) n p)) 271 1 (n + 4) := by
    rw [e11, e10, e9, e8, e7, e6, e5, e4]
    funext a j
    by_cases ha : a = 271
    · subst ha
      by_cases hj : j = 1
      · subst hj; rw [up_at, up_at]; omega
      · rw [up_ne (Or.inr hj), up_row (by decide), up_ne (Or.inr hj), up_row (by decide), up_ne (Or.inr hj), up_row (by decide), up_ne (Or.inr hj), up_row (by decide), up_ne (Or.inr hj), sr_ne (by decide)]
    · rw [up_row ha, up_row ha]
      by_cases hb : a = 272
      · subst hb
        rw [sr_at]
        unfold f4
        simp only [up_sr, sr_at, sr_ne (show (272 : Int) ≠ 271 by decide)]
        rfl
      · rw [sr_ne hb, up_row hb, up_row ha, up_row hb, up_row ha, up_row hb, up_row ha, up_row hb]
  rw [fin]
  exact k
theorem m_four {d : Nat} {p : Int} {Q : Int → jM → Prop} (h : 0 ≤ σ 321 4 ∧ σ 321 4 ≤ 296) (k : Q 0 (up (sr σ 325 (f4 (σ 325) (σ 321 4) p)) 321 4 (σ 321 4 + 4))) : Ct mX12_four d 9 t [rv 321, iv p] σ Q := by
  obtain ⟨n, hn⟩ : ∃ n, n = σ 321 4 := ⟨_, rfl⟩
  rw [← hn] at h k
  refine c_X12_four (b_X12_four_3 ?_)
  rw [← hn]
  refine ⟨⟨by decide, by decide⟩, fun z => absurd z (by decide), fun _ => ⟨⟨by omega, by omega⟩, fun σ4 e4 σ5 e5 => ?_⟩⟩
  have n4 : σ4 321 4 = n := by rw [e4, up_row (by decide), hn]
  rw [n4] at e5
  have n5 : σ5 321 4 = n + 1 := by rw [e5, up_at]
  refine b_X12_four_3 ?_
  rw [n5]
  refine ⟨⟨by decide, by decide⟩, fun z => absurd z (by decide), fun _ => ⟨⟨by omega, by omega⟩, fun σ6 e6 σ7 e7 => ?_⟩⟩
  have n6 : σ6 321 4 = n + 1 := by rw [e6, up_row (by decide), n5]
  rw [n6] at e7
  have n7 : σ7 321 4 = n + 2 := by rw [e7, up_at]; omega
  refine b_X12_four_3 ?_
  rw [n7]
  refine ⟨⟨by decide, by decide⟩, fun z => absurd z (by decide), fun _ => ⟨⟨by omega, by omega⟩, fun σ8 e8 σ9 e9 => ?_⟩⟩
  have n8 : σ8 321 4 = n + 2 := by rw [e8, up_row (by decide), n7]
  rw [n8] at e9
  have n9 : σ9 321 4 = n + 3 := by rw [e9, up_at]; omega
  refine b_X12_four_3 ?_
  rw [n9]
  refine ⟨⟨by decide, by decide⟩, fun z => absurd z (by decide), fun _ => ⟨⟨by omega, by omega⟩, fun σ10 e10 σ11 e11 => ?_⟩⟩
  have n10 : σ10 321 4 = n + 3 := by rw [e10, up_row (by decide), n9]
  rw [n10] at e11
  refine b_X12_four_3 ⟨⟨by decide, by decide⟩, fun _ => ?_, fun z => absurd z (by decide)⟩
  have fin : σ11 = up (sr σ 325 (f4 (σ 325) n p)) 321 4 (n + 4) := by
    rw [e11, e10, e9, e8, e7, e6, e5, e4]
    funext a j
    by_cases ha : a = 321
    · subst ha
      by_cases hj : j = 4
      · subst hj; rw [up_at, up_at]; omega
      · rw [up_ne (Or.inr hj), up_row (by decide), up_ne (Or.inr hj), up_row (by decide), up_ne (Or.inr hj), up_row (by decide), up_ne (Or.inr hj), up_row (by decide), up_ne (Or.inr hj), sr_ne (by decide)]
    · rw [up_row ha, up_row ha]
      by_cases hb : a = 325
      · subst hb
        rw [sr_at]
        unfold f4
        simp only [up_sr, sr_at, sr_ne (show (325 : Int) ≠ 321 by decide)]
        rfl
      · rw [sr_ne hb, up_row hb, up_row ha, up_row hb, up_row ha, up_row hb, up_row ha, up_row hb]
  rw [fin]
  exact k
/-- the class's tape has become r, of n bytes; the reference's -/
def tpC (σ τ : jM) (n : Int) (r : Int → Int) : Prop := (∀ x, x ≠ 271 → x ≠ 272 → τ x = σ x) ∧ (∀ j, j ≠ 1 → τ 271 j = σ 271 j) ∧ τ 271 1 = n ∧ τ 272 = r
def tpM (σ τ : jM) (n : Int) (r : Int → Int) : Prop := (∀ x, x ≠ 321 → x ≠ 325 → τ x = σ x) ∧ (∀ j, j ≠ 4 → τ 321 j = σ 321 j) ∧ τ 321 4 = n ∧ τ 325 = r
theorem h_addFour' {d : Nat} {n p : Int} {r : Int → Int} {σ0 : jM} {Q : Int → jM → Prop} (h : 0 ≤ n ∧ n ≤ 296) (q : tpC σ0 σ n r) (k : ∀ σ', tpC σ0 σ' (n + 4) (f4 r n p) → Q 0 σ') : Ct mX3_addFour d 9 t [rv 271, iv p] σ Q := by
  obtain ⟨q1, q2, q3, q4⟩ := q
  refine h_addFour (by rw [q3]; exact h) (k _ ⟨fun x x1 x2 => ?_, fun j hj => ?_, ?_, ?_⟩)
  · rw [up_row x1, sr_ne x2]; exact q1 x x1 x2
  · rw [up_ne (Or.inr hj), sr_ne (by decide)]; exact q2 j hj
  · rw [up_at, q3]
  · rw [up_row (by decide), sr_at, q3, q4]
theorem m_four' {d : Nat} {n p : Int} {r : Int → Int} {σ0 : jM} {Q : Int → jM → Prop} (h : 0 ≤ n ∧ n ≤ 296) (q : tpM σ0 σ n r) (k : ∀ σ', tpM σ0 σ' (n + 4) (f4 r n p) → Q 0 σ') : Ct mX12_four d 9 t [rv 321, iv p] σ Q := by
  obtain ⟨q1, q2, q3, q4⟩ := q
  refine m_four (by rw [q3]; exact h) (k _ ⟨fun x x1 x2 => ?_, fun j hj => ?_, ?_, ?_⟩)
  · rw [up_row x1, sr_ne x2]; exact q1 x x1 x2
  · rw [up_ne (Or.inr hj), sr_ne (by decide)]; exact q2 j hj
  · rw [up_at, q3]
  · rw [up_row (by decide), sr_at, q3, q4]
theorem a_feed {a b c e f : Int} (d : Nat) (I : I0 L σ) {Q : Int → jM → Prop} (k : ∀ r σ1, (∀ (d2 : Nat) Q2, (∀ r' σ2, Same L σ r r' σ2 → Q2 r' σ2) → Ct mX12_feed (d2 + 11) 0 t [rv 321, iv a, iv b, iv c, iv e, iv f] σ1 Q2) → Q r σ1) : Ct mX11_feed (d + 11) 0 t [rv 1, iv a, iv b, iv c, iv e, iv f] σ Q := by
  obtain ⟨f1, f2, f3, f4', f5⟩ := I.2.2.1
  obtain ⟨n, hn⟩ : ∃ n, n = σ 321 4 := ⟨_, rfl⟩
  rw [← hn] at f1 f2 f3
  refine c_X11_feed (c_X3_hasRoom ?_)
  rw [f1]
  refine ⟨rng (by omega) (by omega), fun z => ⟨in0, fun y => absurd rfl y, fun _ => k _ σ (fun d2 Q2 k2 => c_X12_feed ?_)⟩, fun z => ⟨⟨by decide, by decide⟩, fun _ => ?_, fun y => absurd y (by decide)⟩⟩
  · rw [← hn]
    exact ⟨rng (by omega) (by omega), fun y => absurd y (by omega), fun _ => same0 I ⟨by decide, by decide⟩ k2⟩
  · refine h_addFour' (σ0 := σ) (by omega) ⟨fun _ _ _ => rfl, fun _ _ => rfl, f1, rfl⟩ (fun σ1 q1 => ?_)
    refine h_addFour' (by omega) q1 (fun σ2 q2 => ?_)
    refine h_addFour' (by omega) q2 (fun σ3 q3 => ?_)
    refine h_addFour' (by omega) q3 (fun σ4 q4 => ?_)
    refine h_addFour' (by omega) q4 (fun σ5 q5 => ?_)
    rw [q5.2.2.1]
    have e321 : σ5 321 = σ 321 := q5.1 321 (by decide) (by decide)
    have e325 : σ5 325 = σ 325 := q5.1 325 (by decide) (by decide)
    refine k _ σ5 (fun d2 Q2 k2 => c_X12_feed ?_)
    rw [e321, ← hn]
    refine ⟨rng (by omega) (by omega), fun _ => ?_, fun y => absurd y (by omega)⟩
    refine m_four' (σ0 := σ5) (n := n) (by omega) ⟨fun _ _ _ => rfl, fun _ _ => rfl, by rw [e321, hn], rfl⟩ (fun τ1 p1 => ?_)
    refine m_four' (by omega) p1 (fun τ2 p2 => ?_)
    refine m_four' (by omega) p2 (fun τ3 p3 => ?_)
    refine m_four' (by omega) p3 (fun τ4 p4 => ?_)
    refine m_four' (by omega) p4 (fun τ5 p5 => ?_)
    rw [p5.2.2.1]
    have m271 : τ5 271 = σ5 271 := p5.1 271 (by decide) (by decide)
    have m272 : τ5 272 = σ5 272 := p5.1 272 (by decide) (by decide)
    refine k2 _ _ ⟨rfl, rng (by omega) (by omega), I0_tape I (fun x x1 x2 x3 x4 => by rw [p5.1 x x3 x4, q5.1 x x1 x2]) ?_ ?_⟩
    · unfold IF
      rw [m271, m272, p5.2.2.1, q5.2.2.1, q5.2.2.2, p5.2.2.2, q5.2.1 2 (by decide), q5.2.1 3 (by decide), p5.2.1 5 (by decide), p5.2.1 6 (by decide), e321, e325]
      refine ⟨rfl, by omega, ?_, f4', f5⟩
      exact tapeOk_4 (tapeOk_4 (tapeOk_4 (tapeOk_4 (tapeOk_4 f3))))
    · rw [p5.2.1 23 (by decide), e321]; exact I.2.2.2
theorem a_end {n : Int} (d : Nat) (I : I0 L σ) (hn : inR n) {Q : Int → jM → Prop} (k : ∀ r σ1, (∀ (d2 : Nat) Q2, (∀ r' σ2, Same L σ r r' σ2 → Q2 r' σ2) → Ct mX12_end (d2 + 11) 0 t [rv 321, iv n] σ1 Q2) → Q r σ1) : Ct mX11_end (d + 11) 0 t [rv 1, iv n] σ Q := by
  obtain ⟨f1, f2, f3, f4', f5⟩ := I.2.2.1
  have bad : (n < 0 ∨ σ 321 4 < n) → Q (-1) σ := fun hb => k _ σ (fun d2 Q2 k2 => c_X12_end (m_isIn hn in0 (rng (by omega) (by omega)) ⟨b01_R, fun z => by have := inB_t (b01_1 z); omega, fun _ => same0 I ⟨by decide, by decide⟩ k2⟩))
  refine c_X11_end ⟨hn, fun z => bad (by omega), fun z => ⟨hn, ?_⟩⟩
  rw [f1]
  refine ⟨rng (by omega) (by omega), fun y σ1 e1 => ?_, fun y => bad (by omega)⟩
  have e321 : σ1 321 = σ 321 := by rw [e1, up_row (by decide)]
  refine k _ σ1 (fun d2 Q2 k2 => c_X12_end ?_)
  rw [e321]
  refine m_isIn hn in0 (rng (by omega) (by omega)) ⟨b01_R, fun _ σ3 e3 => ?_, fun x => by have := inB_f (b01_0.mp x); omega⟩
  refine k2 _ _ ⟨rfl, hn, I0_tape I (fun x x1 x2 x3 x4 => by rw [e3, up_row x3, e1, up_row x1]) ?_ ?_⟩
  · unfold IF
    have a1 : σ3 271 = σ1 271 := by rw [e3, up_row (by decide)]
    have a2 : σ3 272 = σ 272 := by rw [e3, up_row (by decide), e1, up_row (by decide)]
    have a3 : σ3 325 = σ 325 := by rw [e3, up_row (by decide), e1, up_row (by decide)]
    have a4 : σ3 321 4 = n := by rw [e3, up_at]
    have a5 : σ3 321 5 = σ 321 5 := by rw [e3, up_ne (by decide), e321]
    have a6 : σ3 321 6 = σ 321 6 := by rw [e3, up_ne (by decide), e321]
    have a7 : σ1 271 1 = n := by rw [e1, up_at]
    have a8 : σ1 271 2 = σ 271 2 := by rw [e1, up_ne (by decide)]
    have a9 : σ1 271 3 = σ 271 3 := by rw [e1, up_ne (by decide)]
    rw [a1, a2, a3, a4, a5, a6, a7, a8, a9]
    exact ⟨rfl, by omega, fun i i0 i1 => f3 i i0 (by omega), f4', f5⟩
  · rw [e3, up_ne (by decide), e321]; exact I.2.2.2
theorem m_copy {d : Nat} {a b : Int} {Q : Int → jM → Prop} (h0 : ar (GG t) a 1 2208) (h1 : ar (GG t) b 1 2208) (hab : a ≠ b) (k : ∀ σ', (∀ x, x ≠ b → σ' x = σ x) → eqA (σ a) (σ' b) → Q 0 σ') : Ct mX12_copy d 9 t [rv a, rv b] σ Q := by
  refine c_X12_copy h0 h1 ?_
  have loop : ∀ (j : Nat) (i : Int) (τ : jM), 0 ≤ i → i + j = 2208 → (∀ x, x ≠ b → τ x = σ x) → (∀ x, 0 ≤ x → x < i → σ a x = τ b x) → Jt mX12_copy (d) 9 t Q 2 [rv a, rv b, iv i] [] τ := by
    intro j
    induction j with
    | zero =>
      intro i τ i0 hi r1 r2
      exact b_X12_copy_2 h0 h1 ⟨rng (by omega) (by omega), fun _ => k τ r1 (fun x x0 x1 => r2 x x0 (by omega)), fun z => absurd z (by omega)⟩
    | succ j ih =>
      intro i τ i0 hi r1 r2
      refine b_X12_copy_2 h0 h1 ⟨rng (by omega) (by omega), fun z => absurd z (by omega), fun z => ⟨⟨i0, by omega⟩, ⟨i0, by omega⟩, fun σ3 e3 => ?_⟩⟩
      refine ih (i + 1) σ3 (by omega) (by omega) (fun x hx => by rw [e3, up_row hx]; exact r1 x hx) (fun x x0 x1 => ?_)
      by_cases ex : x = i
      · rw [e3, ex, up_at, r1 a hab]
      · rw [e3, up_ne (Or.inr ex)]; exact r2 x x0 (by omega)
  exact loop 2208 0 σ (by omega) (by omega) (fun _ _ => rfl) (fun x x0 x1 => absurd x1 (by omega))
theorem a_image (d : Nat) (I : I0 L σ) {Q : Int → jM → Prop} (k : ∀ r σ1, (∀ (d2 : Nat) Q2, (∀ r' σ2, Same L σ r r' σ2 → Q2 r' σ2) → Ct mX12_image (d2 + 11) 0 t [rv 321] σ1 Q2) → Q r σ1) : Ct mX11_image (d + 11) 0 t [rv 1] σ Q := by
  have q := I.1.1
  have va := I.1.2.2.1
  have h6 := AV_6 va
  refine c_X11_image (w_copyFrom (d := d + 6) okl_134 okl_2 (by omega) q va (fun σ1 q1 o1 => ?_))
  have e3 : σ1 3 6 = σ 322 6 := by rw [o1 3 (by omega)]; exact WR_d q
  rw [e3]
  have e322 : σ1 322 = σ 322 := o1 322 (by omega)
  refine k _ σ1 (fun d2 Q2 k2 => c_X12_image (m_copy okl_322 okl_323 (by decide) (fun σ2 r2 eA => ⟨by decide, ?_⟩)))
  have f322 : σ2 322 = σ 322 := by rw [r2 322 (by decide)]; exact e322
  rw [f322]
  rw [e322] at eA
  obtain ⟨⟨w1, w2, v1, v2, w3⟩, ⟨t1, t2, t3, t4⟩, f, b⟩ := I
  have hn4 : σ 322 0 ≤ 4 := v1.2.2.2.2.2.1.2
  have sm : ∀ x, x ≠ 323 → (x < 134 ∨ 265 < x) → σ2 x = σ x := fun x x1 x2 => by rw [r2 x x1, o1 x (by omega)]
  have s324 : σ2 324 = σ 324 := sm 324 (by decide) (by decide)
  have tx : ∀ x, 293 ≤ x → x ≤ 320 → σ2 x = σ x := fun x x0 x1 => sm x (by omega) (by omega)
  have e0 : σ2 323 0 = σ 322 0 := (eA 0 (by omega) (by omega)).symm
  refine k2 _ _ ⟨rfl, rng (by omega) (by omega), ⟨⟨?_, ?_, ?_, ?_, ?_⟩, ⟨?_, ?_, ?_, ?_⟩, ?_, ?_⟩, fun x hx => sm x (by omega) (by omega)⟩
  · rw [f322]; exact WR_same w1 (fun x x0 x1 => sm x (by omega) (by omega))
  · exact WR_congr eA v1 (WR_same q1 (fun x x0 x1 => r2 x (by omega)))
  · rw [f322]; exact v1
  · exact AV_congr eA v1
  · rw [f322, e0]; exact Int.le_refl _
  · rw [f322]; exact TxC_same t1 hn4 tx
  · rw [f322]; exact TxM_same t2 s324
  · rw [f322]; exact t3
  · rw [f322]; exact CLs_same t4 hn4 tx s324
  · unfold IF
    rw [sm 271 (by decide) (by decide), sm 272 (by decide) (by decide), sm 321 (by decide) (by decide), sm 325 (by decide) (by decide)]
    exact f
  · rw [sm 321 (by decide) (by decide)]; exact b
theorem a_back (d : Nat) (I : I0 L σ) {Q : Int → jM → Prop} (k : ∀ r σ1, (∀ (d2 : Nat) Q2, (∀ r' σ2, Same L σ r r' σ2 → Q2 r' σ2) → Ct mX12_back (d2 + 11) 0 t [rv 321] σ1 Q2) → Q r σ1) : Ct mX11_back (d + 11) 0 t [rv 1] σ Q := by
  have q := I.1.2.1
  have va := I.1.2.2.2.1
  have h6 := AV_6 va
  refine c_X11_back (w_copyFrom (d := d + 6) okl_2 okl_134 (by omega) q va (fun σ1 q1 o1 => ?_))
  rw [WR_d q1]
  have e323 : σ1 323 = σ 323 := o1 323 (by omega)
  refine k _ σ1 (fun d2 Q2 k2 => c_X12_back (m_copy okl_323 okl_322 (by decide) (fun σ2 r2 eA => ⟨by decide, ?_⟩)))
  rw [e323] at eA
  have e6 : σ2 322 6 = σ 323 6 := (eA 6 (by omega) (by omega)).symm
  rw [e6]
  obtain ⟨⟨w1, w2, v1, v2, w3⟩, ⟨t1, t2, t3, t4⟩, f, b⟩ := I
  have hn4 : σ 323 0 ≤ 4 := v2.2.2.2.2.2.1.2
  have sm : ∀ x, x ≠ 322 → (x < 2 ∨ 133 < x) → σ2 x = σ x := fun x x1 x2 => by rw [r2 x x1, o1 x (by omega)]
  have s323 : σ2 323 = σ 323 := sm 323 (by decide) (by decide)
  have s324 : σ2 324 = σ 324 := sm 324 (by decide) (by decide)
  have tx : ∀ x, 293 ≤ x → x ≤ 320 → σ2 x = σ x := fun x x0 x1 => sm x (by omega) (by omega)
  have e0 : σ2 322 0 = σ 323 0 := (eA 0 (by omega) (by omega)).symm
  refine k2 _ _ ⟨rfl, rng (by omega) (by omega), ⟨⟨?_, ?_, ?_, ?_, ?_⟩, ⟨?_, ?_, ?_, ?_⟩, ?_, ?_⟩, fun x hx => sm x (by omega) (by omega)⟩
  · exact WR_congr eA v2 (WR_same q1 (fun x x0 x1 => r2 x (by omega)))
  · rw [s323]; exact WR_same w2 (fun x x0 x1 => sm x (by omega) (by omega))
  · exact AV_congr eA v2
  · rw [s323]; exact v2
  · rw [e0, s323]; exact Int.le_refl _
  · rw [e0]; exact TxC_same (fun k k0 k1 => t1 k k0 (by omega)) hn4 tx
  · rw [e0]; exact TxM_same (fun k k0 k1 => t2 k k0 (by omega)) s324
  · rw [e0]; exact fun k k0 k1 => t3 k k0 (by omega)
  · rw [e0]; exact CLs_same (fun k k0 k1 => t4 k k0 (by omega)) hn4 tx s324
  · unfold IF
    rw [sm 271 (by decide) (by decide), sm 272 (by decide) (by decide), sm 321 (by decide) (by decide), sm 325 (by decide) (by decide)]
    exact f
  · rw [sm 321 (by decide) (by decide)]; exact b
end TP
