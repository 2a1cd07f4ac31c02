/-! ===== by, image, back, about, order, tell, said, end, feed, fault alike ===== -/
section SY
variable {t : Int} {L : LT} {σ : jM}
/-- a number of the world changes on both sides -/
theorem I0_put {σ1 σ2 : jM} {A : Int → Int} (I : I0 L σ) (e : eqH (σ 322) A) (es : ∀ x, (3 ≤ x ∧ x ≤ 128) ∨ (x < 2 ∨ 133 < x) → σ1 x = σ x) (h3 : σ1 129 1 = A 4 ∧ ∀ i, 0 ≤ i → i < A 4 → σ1 130 i = A (30 + i)) (h4 : σ1 2 8 = A 3 ∧ ∀ i, 0 ≤ i → i < A 3 → σ1 131 i = A (26 + i)) (h5 : σ1 2 9 = A 5 ∧ ∀ i, 0 ≤ i → i < A 5 → (σ1 132 i = A (42 + 2 * i) ∧ σ1 133 i = A (43 + 2 * i))) (h6 : σ1 2 6 = A 0) (h7 : σ1 2 7 = A 1) (va : AV A) (h0 : A 0 = σ 322 0) (e2 : σ2 322 = A) (o2 : offM σ1 σ2) : I0 L σ2 ∧ frK σ σ2 :=
  I0_step I (WR_rest I.1.1 I.1.2.2.1 (fun x x0 x1 => es x (by omega)) e h3 h4 h5 h6 h7) va h0 (fun x x1 _ _ _ => es x (by omega)) e2 o2
theorem offM_up {i v : Int} : offM σ (up σ 322 i v) := by rw [up_sr]; exact offM_sr
theorem a_by {n : Int} (d : Nat) (I : I0 L σ) (hn : inR n) {Q : Int → jM → Prop} (k : ∀ r σ1, (r = 0 ∨ r = 1) → (∀ (d2 : Nat) Q2, (∀ r' σ2, Same L σ r r' σ2 → Q2 r' σ2) → Ct mX12_by (d2 + 11) 0 t [rv 321, iv n] σ1 Q2) → Q r σ1) : Ct mX11_by (d + 11) 0 t [rv 1, iv n] σ Q := by
  have q := I.1.1
  have va := I.1.2.2.1
  have h0 := va.2.2.2.2.2.1
  have good : (-1 ≤ n ∧ n < σ 322 0) → ∀ σ1, σ1 = up σ 2 7 n → Q 1 σ1 := by
    intro hg σ1 e1
    have e322 : σ1 322 = σ 322 := by rw [e1, up_row (by decide)]
    refine k _ σ1 (Or.inr rfl) (fun d2 Q2 k2 => c_X12_by ⟨by decide, ?_⟩)
    rw [e322]
    refine m_isIn hn ⟨by decide, by decide⟩ (rng (by omega) (by omega)) ⟨b01_R, fun _ => ⟨by decide, fun σ4 e4 => ?_⟩, fun z => by have := inB_f (b01_0.mp z); omega⟩
    refine k2 _ _ ⟨rfl, ⟨by decide, by decide⟩, ?_⟩
    obtain ⟨b1, b2, b3, b4, b5, b6, b7⟩ := va
    obtain ⟨a1, a2, a3, a4, a5, a6, a7⟩ := q
    have ra : ∀ c, c ≠ 2 → σ1 c = σ c := fun c hc => by rw [e1, up_row hc]
    have f2 : ∀ j, j ≠ 7 → σ1 2 j = σ 2 j := fun j hj => by rw [e1, up_ne (Or.inr hj)]
    have eq : ∀ i, i ≠ 1 → wr (σ 322) 1 n i = σ 322 i := fun i hi => wr_ne hi
    refine I0_put (A := wr (σ 322) 1 n) I (fun i hi => by rw [eq i (by omega)]) (fun x hx => ra x (by omega)) ?_ ?_ ?_ ?_ ?_ ?_ ?_ ?_ ?_
    · rw [ra 129 (by decide), ra 130 (by decide), eq 4 (by decide)]
      exact ⟨a3.1, fun i i0 i1 => by rw [eq _ (by omega)]; exact a3.2 i i0 i1⟩
    · rw [f2 8 (by decide), ra 131 (by decide), eq 3 (by decide)]
      exact ⟨a4.1, fun i i0 i1 => by rw [eq _ (by omega)]; exact a4.2 i i0 i1⟩
    · rw [f2 9 (by decide), ra 132 (by decide), ra 133 (by decide), eq 5 (by decide)]
      exact ⟨a5.1, fun i i0 i1 => by rw [eq _ (by omega), eq _ (by omega)]; exact a5.2 i i0 i1⟩
    · rw [f2 6 (by decide), eq 0 (by decide)]; exact a6
    · rw [e1, up_at, wr_at]
    · refine AV_rest ⟨b1, b2, b3, b4, b5, b6, b7⟩ (fun i hi => by rw [eq i (by omega)]) ?_ ?_ ?_ ?_ ?_
      · rw [eq 4 (by decide), eq 30 (by decide)]
        exact ⟨b3.1, b3.2.1, b3.2.2.1, fun i i0 i1 => by rw [eq _ (by omega)]; exact b3.2.2.2 i i0 i1⟩
      · rw [eq 3 (by decide)]
        exact ⟨b4.1, b4.2.1, fun i i0 i1 => by rw [eq _ (by omega)]; exact b4.2.2 i i0 i1⟩
      · rw [eq 5 (by decide)]
        exact ⟨b5.1, b5.2.1, fun i i0 i1 => by rw [eq _ (by omega), eq _ (by omega)]; exact b5.2.2 i i0 i1⟩
      · rw [eq 0 (by decide)]; exact b6
      · rw [eq 0 (by decide), wr_at]; exact hg
    · exact eq 0 (by decide)
    · rw [e4, up_sr, sr_at, e322]
    · rw [e4]; exact offM_up
  have bad : (n < -1 ∨ σ 322 0 ≤ n) → Q 0 σ := fun hb => k _ σ (Or.inl rfl) (fun d2 Q2 k2 => c_X12_by ⟨by decide, m_isIn hn ⟨by decide, by decide⟩ (rng (by omega) (by omega)) ⟨b01_R, fun z => by have := inB_t (b01_1 z); omega, fun _ => same0 I in0 k2⟩⟩)
  refine c_X11_by ⟨hn, fun z => good (by omega), fun z => w_isText q va hn ⟨b01_R, fun y => ?_, fun y => ?_⟩⟩
  · have := inB_t (b01_1 y)
    exact good (by omega)
  · have := inB_f (b01_0.mp y)
    exact bad (by omega)
theorem a_order {n : Int} (d : Nat) (I : I0 L σ) (hn : inR n) {Q : Int → jM → Prop} (k : ∀ r σ1, (∀ (d2 : Nat) Q2, (∀ r' σ2, Same L σ r r' σ2 → Q2 r' σ2) → Ct mX12_order (d2 + 11) 0 t [rv 321, iv n] σ1 Q2) → Q r σ1) : Ct mX11_order (d + 11) 0 t [rv 1, iv n] σ Q := by
  obtain ⟨a1, a2, a3, a4, a5, a6, a7⟩ := I.1.1
  obtain ⟨b1, b2, b3, b4, b5, b6, b7⟩ := I.1.2.2.1
  have va := I.1.2.2.1
  have bad : n ≠ -1 → (n < 1 ∨ 40 < n ∨ 4 ≤ σ 322 3) → Q (-2) σ := fun n1 hb => k _ σ (fun d2 Q2 k2 => c_X12_order ⟨hn, fun _ => m_isIn hn ⟨by decide, by decide⟩ ⟨by decide, by decide⟩ ⟨b01_R, fun _ => same0 I ⟨by decide, by decide⟩ k2, fun z => ⟨by decide, rng (by omega) (by omega), fun y => by have := inB_t (b01_1 z); omega, fun _ => same0 I ⟨by decide, by decide⟩ k2⟩⟩, fun z => absurd z n1⟩)
  refine c_X11_order ⟨hn, fun z => ⟨hn, fun y => bad z (by omega), fun y => ⟨hn, fun x => bad z (by omega), fun x => ?_⟩⟩, fun z σ1 e1 => ?_⟩
  · rw [a4.1]
    refine ⟨rng (by omega) (by omega), fun u => ⟨⟨b4.1, u⟩, fun σ6 e6 σ7 e7 => ?_⟩, fun u => bad z (by omega)⟩
    have e6' : σ6 2 8 = σ 322 3 := by rw [e6, up_row (by decide)]; exact a4.1
    rw [e6'] at e7
    have e78 : σ7 2 8 = σ 322 3 + 1 := by rw [e7, up_at]
    have e322 : σ7 322 = σ 322 := by rw [e7, up_row (by decide), e6, up_row (by decide)]
    rw [e78]
    refine k _ σ7 (fun d2 Q2 k2 => c_X12_order ⟨hn, fun _ => m_isIn hn ⟨by decide, by decide⟩ ⟨by decide, by decide⟩ ⟨b01_R, fun w => by have := inB_f (b01_0.mp w); omega, fun _ => ?_⟩, fun w => absurd w z⟩)
    rw [e322]
    refine ⟨by decide, rng (by omega) (by omega), fun _ => ⟨by decide, by omega, fun σ8 e8 => ⟨by decide, by decide, fun σ9 e9 => ⟨by decide, ?_⟩⟩⟩, fun w => absurd w (by omega)⟩
    have e83 : σ8 322 3 = σ 322 3 := by rw [e8, up_ne (by omega), e322]
    rw [e83] at e9
    have e93 : σ9 322 3 = σ 322 3 + 1 := by rw [e9, up_at]
    rw [e93]
    refine k2 _ _ ⟨rfl, rng (by omega) (by omega), ?_⟩
    have ra : ∀ c, c ≠ 2 → c ≠ 131 → σ7 c = σ c := fun c hc hc2 => by rw [e7, up_row hc, e6, up_row hc2]
    have f2 : ∀ j, j ≠ 8 → σ7 2 j = σ 2 j := fun j hj => by rw [e7, up_ne (Or.inr hj), e6, up_row (by decide)]
    have eq : ∀ i, i ≠ 3 → i ≠ 26 + σ 322 3 → wr (wr (σ 322) (26 + σ 322 3) n) 3 (σ 322 3 + 1) i = σ 322 i := fun i hi hi2 => by rw [wr_ne hi, wr_ne hi2]
    have eq3 : wr (wr (σ 322) (26 + σ 322 3) n) 3 (σ 322 3 + 1) 3 = σ 322 3 + 1 := wr_at
    have eqn : wr (wr (σ 322) (26 + σ 322 3) n) 3 (σ 322 3 + 1) (26 + σ 322 3) = n := by rw [wr_ne (by omega), wr_at]
    refine I0_put (A := wr (wr (σ 322) (26 + σ 322 3) n) 3 (σ 322 3 + 1)) I (fun i hi => by rw [eq i (by omega) (by omega)]) (fun x hx => ra x (by omega) (by omega)) ?_ ?_ ?_ ?_ ?_ ?_ ?_ ?_ ?_
    · rw [ra 129 (by decide) (by decide), ra 130 (by decide) (by decide), eq 4 (by omega) (by omega)]
      exact ⟨a3.1, fun i i0 i1 => by rw [eq _ (by omega) (by omega)]; exact a3.2 i i0 i1⟩
    · rw [e78, eq3]
      refine ⟨rfl, fun i i0 i1 => ?_⟩
      by_cases ei : i = σ 322 3
      · rw [ei, eqn, e7, up_row (by decide), e6, up_at]
      · rw [eq _ (by omega) (by omega), e7, up_row (by decide), e6, up_ne (Or.inr ei)]
        exact a4.2 i i0 (by omega)
    · rw [f2 9 (by decide), ra 132 (by decide) (by decide), ra 133 (by decide) (by decide), eq 5 (by omega) (by omega)]
      exact ⟨a5.1, fun i i0 i1 => by rw [eq _ (by omega) (by omega), eq _ (by omega) (by omega)]; exact a5.2 i i0 i1⟩
    · rw [f2 6 (by decide), eq 0 (by omega) (by omega)]; exact a6
    · rw [f2 7 (by decide), eq 1 (by omega) (by omega)]; exact a7
    · refine AV_rest va (fun i hi => by rw [eq i (by omega) (by omega)]) ?_ ?_ ?_ ?_ ?_
      · rw [eq 4 (by omega) (by omega), eq 30 (by omega) (by omega)]
        exact ⟨b3.1, b3.2.1, b3.2.2.1, fun i i0 i1 => by rw [eq _ (by omega) (by omega)]; exact b3.2.2.2 i i0 i1⟩
      · rw [eq3]
        refine ⟨by omega, by omega, fun i i0 i1 => ?_⟩
        by_cases ei : i = σ 322 3
        · rw [ei, eqn]; omega
        · rw [eq _ (by omega) (by omega)]; exact b4.2.2 i i0 (by omega)
      · rw [eq 5 (by omega) (by omega)]
        exact ⟨b5.1, b5.2.1, fun i i0 i1 => by rw [eq _ (by omega) (by omega), eq _ (by omega) (by omega)]; exact b5.2.2 i i0 i1⟩
      · rw [eq 0 (by omega) (by omega)]; exact b6
      · rw [eq 0 (by omega) (by omega), eq 1 (by omega) (by omega)]; exact b7
    · exact eq 0 (by omega) (by omega)
    · rw [e9, up_sr, sr_at, e8, up_sr, sr_at, e322]
    · rw [e9, e8]; exact offM_tr offM_up offM_up
  · have e322 : σ1 322 = σ 322 := by rw [e1, up_row (by decide)]
    refine k _ σ1 (fun d2 Q2 k2 => c_X12_order ⟨hn, fun w => absurd z w, fun _ => ⟨by decide, fun σ4 e4 => ?_⟩⟩)
    refine k2 _ _ ⟨rfl, in0, ?_⟩
    have ra : ∀ c, c ≠ 2 → σ1 c = σ c := fun c hc => by rw [e1, up_row hc]
    have f2 : ∀ j, j ≠ 8 → σ1 2 j = σ 2 j := fun j hj => by rw [e1, up_ne (Or.inr hj)]
    have eq : ∀ i, i ≠ 3 → wr (σ 322) 3 0 i = σ 322 i := fun i hi => wr_ne hi
    refine I0_put (A := wr (σ 322) 3 0) I (fun i hi => by rw [eq i (by omega)]) (fun x hx => ra x (by omega)) ?_ ?_ ?_ ?_ ?_ ?_ ?_ ?_ ?_
    · rw [ra 129 (by decide), ra 130 (by decide), eq 4 (by decide)]
      exact ⟨a3.1, fun i i0 i1 => by rw [eq _ (by omega)]; exact a3.2 i i0 i1⟩
    · rw [e1, up_at, wr_at]
      exact ⟨rfl, fun i i0 i1 => absurd i1 (by omega)⟩
    · rw [f2 9 (by decide), ra 132 (by decide), ra 133 (by decide), eq 5 (by decide)]
      exact ⟨a5.1, fun i i0 i1 => by rw [eq _ (by omega), eq _ (by omega)]; exact a5.2 i i0 i1⟩
    · rw [f2 6 (by decide), eq 0 (by decide)]; exact a6
    · rw [f2 7 (by decide), eq 1 (by decide)]; exact a7
    · refine AV_rest va (fun i hi => by rw [eq i (by omega)]) ?_ ?_ ?_ ?_ ?_
      · rw [eq 4 (by decide), eq 30 (by decide)]
        exact ⟨b3.1, b3.2.1, b3.2.2.1, fun i i0 i1 => by rw [eq _ (by omega)]; exact b3.2.2.2 i i0 i1⟩
      · rw [wr_at]
        exact ⟨by omega, by omega, fun i i0 i1 => absurd i1 (by omega)⟩
      · rw [eq 5 (by decide)]
        exact ⟨b5.1, b5.2.1, fun i i0 i1 => by rw [eq _ (by omega), eq _ (by omega)]; exact b5.2.2 i i0 i1⟩
      · rw [eq 0 (by decide)]; exact b6
      · rw [eq 0 (by decide), eq 1 (by decide)]; exact b7
    · exact eq 0 (by decide)
    · rw [e4, up_sr, sr_at, e322]
    · rw [e4]; exact offM_up
theorem a_tell {n : Int} (d : Nat) (I : I0 L σ) (hn : inR n) {Q : Int → jM → Prop} (k : ∀ r σ1, (∀ (d2 : Nat) Q2, (∀ r' σ2, Same L σ r r' σ2 → Q2 r' σ2) → Ct mX12_tell (d2 + 11) 0 t [rv 321, iv n] σ1 Q2) → Q r σ1) : Ct mX11_tell (d + 11) 0 t [rv 1, iv n] σ Q := by
  obtain ⟨a1, a2, a3, a4, a5, a6, a7⟩ := I.1.1
  obtain ⟨b1, b2, b3, b4, b5, b6, b7⟩ := I.1.2.2.1
  have va := I.1.2.2.1
  have a31 : σ 129 1 = σ 322 4 := a3.1
  have bad : n ≠ -1 → (n < 1 ∨ 9999 < n ∨ 12 ≤ σ 322 4) → Q (-2) σ := fun n1 hb => k _ σ (fun d2 Q2 k2 => c_X12_tell ⟨hn, fun _ => m_isIn hn ⟨by decide, by decide⟩ ⟨by decide, by decide⟩ ⟨b01_R, fun _ => same0 I ⟨by decide, by decide⟩ k2, fun z => ⟨by decide, rng (by omega) (by omega), fun y => by have := inB_t (b01_1 z); omega, fun _ => same0 I ⟨by decide, by decide⟩ k2⟩⟩, fun z => absurd z n1⟩)
  refine c_X11_tell ⟨hn, fun z => ⟨hn, fun y => bad z (by omega), fun y => ⟨hn, fun x => bad z (by omega), fun x => ?_⟩⟩, fun z σ1 e1 => ?_⟩
  · rw [a31]
    refine ⟨rng (by omega) (by omega), fun u => ⟨⟨by omega, u⟩, fun σ6 e6 σ7 e7 => ?_⟩, fun u => bad z (by omega)⟩
    have e6' : σ6 129 1 = σ 322 4 := by rw [e6, up_row (by decide)]; exact a31
    rw [e6'] at e7
    have e78 : σ7 129 1 = σ 322 4 + 1 := by rw [e7, up_at]
    have e322 : σ7 322 = σ 322 := by rw [e7, up_row (by decide), e6, up_row (by decide)]
    rw [e78]
    refine k _ σ7 (fun d2 Q2 k2 => c_X12_tell ⟨hn, fun _ => m_isIn hn ⟨by decide, by decide⟩ ⟨by decide, by decide⟩ ⟨b01_R, fun w => by have := inB_f (b01_0.mp w); omega, fun _ => ?_⟩, fun w => absurd w z⟩)
    rw [e322]
    refine ⟨by decide, rng (by omega) (by omega), fun _ => ⟨by decide, by omega, fun σ8 e8 => ⟨by decide, by decide, fun σ9 e9 => ⟨by decide, ?_⟩⟩⟩, fun w => absurd w (by omega)⟩
    have e83 : σ8 322 4 = σ 322 4 := by rw [e8, up_ne (by omega), e322]
    rw [e83] at e9
    have e93 : σ9 322 4 = σ 322 4 + 1 := by rw [e9, up_at]
    rw [e93]
    refine k2 _ _ ⟨rfl, rng (by omega) (by omega), ?_⟩
    have ra : ∀ c, c ≠ 129 → c ≠ 130 → σ7 c = σ c := fun c hc hc2 => by rw [e7, up_row hc, e6, up_row hc2]
    have eq : ∀ i, i ≠ 4 → i ≠ 30 + σ 322 4 → wr (wr (σ 322) (30 + σ 322 4) n) 4 (σ 322 4 + 1) i = σ 322 i := fun i hi hi2 => by rw [wr_ne hi, wr_ne hi2]
    have eq3 : wr (wr (σ 322) (30 + σ 322 4) n) 4 (σ 322 4 + 1) 4 = σ 322 4 + 1 := wr_at
    have eqn : wr (wr (σ 322) (30 + σ 322 4) n) 4 (σ 322 4 + 1) (30 + σ 322 4) = n := by rw [wr_ne (by omega), wr_at]
    have c2 : σ7 2 = σ 2 := ra 2 (by decide) (by decide)
    refine I0_put (A := wr (wr (σ 322) (30 + σ 322 4) n) 4 (σ 322 4 + 1)) I (fun i hi => by rw [eq i (by omega) (by omega)]) (fun x hx => ra x (by omega) (by omega)) ?_ ?_ ?_ ?_ ?_ ?_ ?_ ?_ ?_
    · rw [e78, eq3]
      refine ⟨rfl, fun i i0 i1 => ?_⟩
      by_cases ei : i = σ 322 4
      · rw [ei, eqn, e7, up_row (by decide), e6, up_at]
      · rw [eq _ (by omega) (by omega), e7, up_row (by decide), e6, up_ne (Or.inr ei)]
        exact a3.2 i i0 (by omega)
    · rw [c2, ra 131 (by decide) (by decide), eq 3 (by omega) (by omega)]
      exact ⟨a4.1, fun i i0 i1 => by rw [eq _ (by omega) (by omega)]; exact a4.2 i i0 i1⟩
    · rw [c2, ra 132 (by decide) (by decide), ra 133 (by decide) (by decide), eq 5 (by omega) (by omega)]
      exact ⟨a5.1, fun i i0 i1 => by rw [eq _ (by omega) (by omega), eq _ (by omega) (by omega)]; exact a5.2 i i0 i1⟩
    · rw [c2, eq 0 (by omega) (by omega)]; exact a6
    · rw [c2, eq 1 (by omega) (by omega)]; exact a7
    · refine AV_rest va (fun i hi => by rw [eq i (by omega) (by omega)]) ?_ ?_ ?_ ?_ ?_
      · rw [eq3, eq 30 (by omega) (by omega)]
        refine ⟨by omega, by omega, b3.2.2.1, fun i i0 i1 => ?_⟩
        by_cases ei : i = σ 322 4
        · rw [ei, eqn]; omega
        · rw [eq _ (by omega) (by omega)]; exact b3.2.2.2 i i0 (by omega)
      · rw [eq 3 (by omega) (by omega)]
        exact ⟨b4.1, b4.2.1, fun i i0 i1 => by rw [eq _ (by omega) (by omega)]; exact b4.2.2 i i0 i1⟩
      · rw [eq 5 (by omega) (by omega)]
        exact ⟨b5.1, b5.2.1, fun i i0 i1 => by rw [eq _ (by omega) (by omega), eq _ (by omega) (by omega)]; exact b5.2.2 i i0 i1⟩
      · rw [eq 0 (by omega) (by omega)]; exact b6
      · rw [eq 0 (by omega) (by omega), eq 1 (by omega) (by omega)]; exact b7
    · exact eq 0 (by omega) (by omega)
    · rw [e9, up_sr, sr_at, e8, up_sr, sr_at, e322]
    · rw [e9, e8]; exact offM_tr offM_up offM_up
  · have e322 : σ1 322 = σ 322 := by rw [e1, up_row (by decide)]
    refine k _ σ1 (fun d2 Q2 k2 => c_X12_tell ⟨hn, fun w => absurd z w, fun _ => ⟨by decide, fun σ4 e4 => ?_⟩⟩)
    refine k2 _ _ ⟨rfl, ⟨by decide, by decide⟩, ?_⟩
    have ra : ∀ c, c ≠ 129 → σ1 c = σ c := fun c hc => by rw [e1, up_row hc]
    have c2 : σ1 2 = σ 2 := ra 2 (by decide)
    have eq : ∀ i, i ≠ 4 → wr (σ 322) 4 1 i = σ 322 i := fun i hi => wr_ne hi
    refine I0_put (A := wr (σ 322) 4 1) I (fun i hi => by rw [eq i (by omega)]) (fun x hx => ra x (by omega)) ?_ ?_ ?_ ?_ ?_ ?_ ?_ ?_ ?_
    · rw [e1, up_at, wr_at]
      refine ⟨rfl, fun i i0 i1 => ?_⟩
      rw [up_row (by decide), eq _ (by omega)]
      exact a3.2 i i0 (by omega)
    · rw [c2, ra 131 (by decide), eq 3 (by decide)]
      exact ⟨a4.1, fun i i0 i1 => by rw [eq _ (by omega)]; exact a4.2 i i0 i1⟩
    · rw [c2, ra 132 (by decide), ra 133 (by decide), eq 5 (by decide)]
      exact ⟨a5.1, fun i i0 i1 => by rw [eq _ (by omega), eq _ (by omega)]; exact a5.2 i i0 i1⟩
    · rw [c2, eq 0 (by decide)]; exact a6
    · rw [c2, eq 1 (by decide)]; exact a7
    · refine AV_rest va (fun i hi => by rw [eq i (by omega)]) ?_ ?_ ?_ ?_ ?_
      · rw [wr_at, eq 30 (by decide)]
        exact ⟨by omega, by omega, b3.2.2.1, fun i i0 i1 => by rw [eq _ (by omega)]; exact b3.2.2.2 i i0 (by omega)⟩
      · rw [eq 3 (by decide)]
        exact ⟨b4.1, b4.2.1, fun i i0 i1 => by rw [eq _ (by omega)]; exact b4.2.2 i i0 i1⟩
      · rw [eq 5 (by decide)]
        exact ⟨b5.1, b5.2.1, fun i i0 i1 => by rw [eq _ (by omega), eq _ (by omega)]; exact b5.2.2 i i0 i1⟩
      · rw [eq 0 (by decide)]; exact b6
      · rw [eq 0 (by decide), eq 1 (by decide)]; exact b7
    · exact eq 0 (by decide)
    · rw [e4, up_sr, sr_at, e322]
    · rw [e4]; exact offM_up
theorem a_said {c n : Int} (d : Nat) (I : I0 L σ) (hc : inR c) (hn : inR n) {Q : Int → jM → Prop} (k : ∀ r σ1, (∀ (d2 : Nat) Q2, (∀ r' σ2, Same L σ r r' σ2 → Q2 r' σ2) → Ct mX12_said (d2 + 11) 0 t [rv 321, iv c, iv n] σ1 Q2) → Q r σ1) : Ct mX11_said (d + 11) 0 t [rv 1, iv c, iv n] σ Q := by
  obtain ⟨a1, a2, a3, a4, a5, a6, a7⟩ := I.1.1
  obtain ⟨b1, b2, b3, b4, b5, b6, b7⟩ := I.1.2.2.1
  have va := I.1.2.2.1
  have bad : c ≠ -1 → (c < 0 ∨ 8 ≤ c ∨ n < 0 ∨ 10 < n ∨ 8 ≤ σ 322 5) → Q (-2) σ := fun n1 hb => k _ σ (fun d2 Q2 k2 => c_X12_said ⟨hc, fun _ => m_isCrock (d := d2 + 9) hc ⟨b01_R, fun _ => same0 I ⟨by decide, by decide⟩ k2, fun u => m_isIn hn in0 ⟨by decide, by decide⟩ ⟨b01_R, fun _ => same0 I ⟨by decide, by decide⟩ k2, fun z => ⟨by decide, rng (by omega) (by omega), fun y => by have := inB_t (b01_1 z); have := inB_t (b01_1 u); omega, fun _ => same0 I ⟨by decide, by decide⟩ k2⟩⟩⟩, fun z => absurd z n1⟩)
  refine c_X11_said ⟨hc, fun z => ⟨hc, fun y => bad z (by omega), fun y => ⟨hc, fun x => bad z (by omega), fun x => ⟨hn, fun s => bad z (by omega), fun s => ⟨hn, fun r => bad z (by omega), fun r => ?_⟩⟩⟩⟩, fun z σ1 e1 => ?_⟩
  · rw [a5.1]
    refine ⟨rng (by omega) (by omega), fun u => ⟨⟨by omega, u⟩, fun σ5 e5 => ?_⟩, fun u => bad z (by omega)⟩
    have e5' : σ5 2 9 = σ 322 5 := by rw [e5, up_row (by decide)]; exact a5.1
    rw [e5']
    refine ⟨⟨by omega, u⟩, fun σ6 e6 σ7 e7 => ?_⟩
    have e6' : σ6 2 9 = σ 322 5 := by rw [e6, up_row (by decide)]; exact e5'
    rw [e6'] at e7
    have e78 : σ7 2 9 = σ 322 5 + 1 := by rw [e7, up_at]
    have e322 : σ7 322 = σ 322 := by rw [e7, up_row (by decide), e6, up_row (by decide), e5, up_row (by decide)]
    rw [e78]
    refine k _ σ7 (fun d2 Q2 k2 => c_X12_said ⟨hc, fun _ => m_isCrock (d := d2 + 9) hc ⟨b01_R, fun w => by have := inB_f (b01_0.mp w); omega, fun _ => m_isIn hn in0 ⟨by decide, by decide⟩ ⟨b01_R, fun w => by have := inB_f (b01_0.mp w); omega, fun _ => ?_⟩⟩, fun w => absurd w z⟩)
    rw [e322]
    refine ⟨by decide, rng (by omega) (by omega), fun _ => ⟨by decide, by omega, fun σ8 e8 => ⟨by decide, ?_⟩⟩, fun w => absurd w (by omega)⟩
    have e83 : σ8 322 5 = σ 322 5 := by rw [e8, up_ne (by omega), e322]
    rw [e83]
    refine ⟨by omega, fun σ9 e9 => ⟨by decide, by decide, fun σ10 e10 => ⟨by decide, ?_⟩⟩⟩
    have e93 : σ9 322 5 = σ 322 5 := by rw [e9, up_ne (by omega)]; exact e83
    rw [e93] at e10
    have e103 : σ10 322 5 = σ 322 5 + 1 := by rw [e10, up_at]
    rw [e103]
    refine k2 _ _ ⟨rfl, rng (by omega) (by omega), ?_⟩
    have ra : ∀ c, c ≠ 2 → c ≠ 132 → c ≠ 133 → σ7 c = σ c := fun c hc hc2 hc3 => by rw [e7, up_row hc, e6, up_row hc3, e5, up_row hc2]
    have f2 : ∀ j, j ≠ 9 → σ7 2 j = σ 2 j := fun j hj => by rw [e7, up_ne (Or.inr hj), e6, up_row (by decide), e5, up_row (by decide)]
    obtain ⟨A, hA⟩ : ∃ A, A = wr (wr (wr (σ 322) (42 + 2 * σ 322 5) c) (42 + 2 * σ 322 5 + 1) n) 5 (σ 322 5 + 1) := ⟨_, rfl⟩
    have eq : ∀ i, i ≠ 5 → i ≠ 42 + 2 * σ 322 5 → i ≠ 42 + 2 * σ 322 5 + 1 → A i = σ 322 i := fun i hi hi2 hi3 => by rw [hA, wr_ne hi, wr_ne hi3, wr_ne hi2]
    have eq3 : A 5 = σ 322 5 + 1 := by rw [hA]; exact wr_at
    have eqc : A (42 + 2 * σ 322 5) = c := by rw [hA, wr_ne (by omega), wr_ne (by omega), wr_at]
    have eqn : A (43 + 2 * σ 322 5) = n := by rw [hA, wr_ne (by omega), wr_eq (by omega)]
    refine I0_put (A := A) I (fun i hi => by rw [eq i (by omega) (by omega) (by omega)]) (fun x hx => ra x (by omega) (by omega) (by omega)) ?_ ?_ ?_ ?_ ?_ ?_ ?_ ?_ ?_
    · rw [ra 129 (by decide) (by decide) (by decide), ra 130 (by decide) (by decide) (by decide), eq 4 (by omega) (by omega) (by omega)]
      exact ⟨a3.1, fun i i0 i1 => by rw [eq _ (by omega) (by omega) (by omega)]; exact a3.2 i i0 i1⟩
    · rw [f2 8 (by decide), ra 131 (by decide) (by decide) (by decide), eq 3 (by omega) (by omega) (by omega)]
      exact ⟨a4.1, fun i i0 i1 => by rw [eq _ (by omega) (by omega) (by omega)]; exact a4.2 i i0 i1⟩
    · rw [e78, eq3]
      refine ⟨rfl, fun i i0 i1 => ?_⟩
      by_cases ei : i = σ 322 5
      · rw [ei, eqc, eqn, e7, up_row (by decide), e6, up_row (by decide), e5, up_at]
        refine ⟨rfl, ?_⟩
        rw [up_row (by decide), up_at]
      · rw [eq _ (by omega) (by omega) (by omega), eq _ (by omega) (by omega) (by omega), e7, up_row (by decide), e6, up_row (by decide), e5, up_ne (Or.inr ei)]
        refine ⟨(a5.2 i i0 (by omega)).1, ?_⟩
        rw [up_row (by decide), up_ne (Or.inr ei), up_row (by decide)]
        exact (a5.2 i i0 (by omega)).2
    · rw [f2 6 (by decide), eq 0 (by omega) (by omega) (by omega)]; exact a6
    · rw [f2 7 (by decide), eq 1 (by omega) (by omega) (by omega)]; exact a7
    · refine AV_rest va (fun i hi => by rw [eq i (by omega) (by omega) (by omega)]) ?_ ?_ ?_ ?_ ?_
      · rw [eq 4 (by omega) (by omega) (by omega), eq 30 (by omega) (by omega) (by omega)]
        exact ⟨b3.1, b3.2.1, b3.2.2.1, fun i i0 i1 => by rw [eq _ (by omega) (by omega) (by omega)]; exact b3.2.2.2 i i0 i1⟩
      · rw [eq 3 (by omega) (by omega) (by omega)]
        exact ⟨b4.1, b4.2.1, fun i i0 i1 => by rw [eq _ (by omega) (by omega) (by omega)]; exact b4.2.2 i i0 i1⟩
      · rw [eq3]
        refine ⟨by omega, by omega, fun i i0 i1 => ?_⟩
        by_cases ei : i = σ 322 5
        · rw [ei, eqc, eqn]; omega
        · rw [eq _ (by omega) (by omega) (by omega), eq _ (by omega) (by omega) (by omega)]; exact b5.2.2 i i0 (by omega)
      · rw [eq 0 (by omega) (by omega) (by omega)]; exact b6
      · rw [eq 0 (by omega) (by omega) (by omega), eq 1 (by omega) (by omega) (by omega)]; exact b7
    · exact eq 0 (by omega) (by omega) (by omega)
    · rw [e10, up_sr, sr_at, e9, up_sr, sr_at, e8, up_sr, sr_at, e322, hA]
    · rw [e10, e9, e8]; exact offM_tr (offM_tr offM_up offM_up) offM_up
  · have e322 : σ1 322 = σ 322 := by rw [e1, up_row (by decide)]
    refine k _ σ1 (fun d2 Q2 k2 => c_X12_said ⟨hc, fun w => absurd z w, fun _ => ⟨by decide, fun σ4 e4 => ?_⟩⟩)
    refine k2 _ _ ⟨rfl, in0, ?_⟩
    have ra : ∀ c, c ≠ 2 → σ1 c = σ c := fun c hc => by rw [e1, up_row hc]
    have f2 : ∀ j, j ≠ 9 → σ1 2 j = σ 2 j := fun j hj => by rw [e1, up_ne (Or.inr hj)]
    have eq : ∀ i, i ≠ 5 → wr (σ 322) 5 0 i = σ 322 i := fun i hi => wr_ne hi
    refine I0_put (A := wr (σ 322) 5 0) I (fun i hi => by rw [eq i (by omega)]) (fun x hx => ra x (by omega)) ?_ ?_ ?_ ?_ ?_ ?_ ?_ ?_ ?_
    · rw [ra 129 (by decide), ra 130 (by decide), eq 4 (by decide)]
      exact ⟨a3.1, fun i i0 i1 => by rw [eq _ (by omega)]; exact a3.2 i i0 i1⟩
    · rw [f2 8 (by decide), ra 131 (by decide), eq 3 (by decide)]
      exact ⟨a4.1, fun i i0 i1 => by rw [eq _ (by omega)]; exact a4.2 i i0 i1⟩
    · rw [e1, up_at, wr_at]
      exact ⟨rfl, fun i i0 i1 => absurd i1 (by omega)⟩
    · rw [f2 6 (by decide), eq 0 (by decide)]; exact a6
    · rw [f2 7 (by decide), eq 1 (by decide)]; exact a7
    · refine AV_rest va (fun i hi => by rw [eq i (by omega)]) ?_ ?_ ?_ ?_ ?_
      · rw [eq 4 (by decide), eq 30 (by decide)]
        exact ⟨b3.1, b3.2.1, b3.2.2.1, fun i i0 i1 => by rw [eq _ (by omega)]; exact b3.2.2.2 i i0 i1⟩
      · rw [eq 3 (by decide)]
        exact ⟨b4.1, b4.2.1, fun i i0 i1 => by rw [eq _ (by omega)]; exact b4.2.2 i i0 i1⟩
      · rw [wr_at]
        exact ⟨by omega, by omega, fun i i0 i1 => absurd i1 (by omega)⟩
      · rw [eq 0 (by decide)]; exact b6
      · rw [eq 0 (by decide), eq 1 (by decide)]; exact b7
    · exact eq 0 (by decide)
    · rw [e4, up_sr, sr_at, e322]
    · rw [e4]; exact offM_up
theorem a_about {n : Int} (d : Nat) (I : I0 L σ) (hn : inR n) {Q : Int → jM → Prop} (k : ∀ r σ1, (∀ (d2 : Nat) Q2, (∀ r' σ2, Same L σ r r' σ2 → Q2 r' σ2) → Ct mX12_about (d2 + 11) 0 t [rv 321, iv n] σ1 Q2) → Q r σ1) : Ct mX11_about (d + 11) 0 t [rv 1, iv n] σ Q := by
  obtain ⟨a1, a2, a3, a4, a5, a6, a7⟩ := I.1.1
  obtain ⟨b1, b2, b3, b4, b5, b6, b7⟩ := I.1.2.2.1
  have f1 := I.2.2.1.1
  have f2 := I.2.2.1.2.1
  have low : ∀ r, (0 ≤ n ∧ n ≤ 5) → r = σ 322 n → inR r → Q r σ := fun r hb er hr => by
    subst er
    exact k _ σ (fun d2 Q2 k2 => c_X12_about (m_isIn hn in0 ⟨by decide, by decide⟩ ⟨b01_R, fun z => by have := inB_f (b01_0.mp z); omega, fun _ => ⟨by omega, same0 I hr k2⟩⟩))
  refine c_X11_about ⟨hn, fun z => ?_, fun z => ?_, fun z => ?_, fun z => ?_, fun z => ?_, fun z => ?_, fun z => ?_, fun z => ?_⟩
  · exact k _ σ (fun d2 Q2 k2 => c_X12_about (m_isIn hn in0 ⟨by decide, by decide⟩ ⟨b01_R, fun _ => ⟨hn, fun _ => same0 I ⟨by decide, by decide⟩ k2, fun y => absurd y (by omega)⟩, fun y => by have := inB_t (b01_1 y); omega⟩))
  · rw [a6]; exact low _ (by omega) (by rw [z]) (rng (by omega) (by omega))
  · rw [a7]; exact low _ (by omega) (by rw [z]) (rng (by omega) (by omega))
  · rw [show σ 7 2 = σ 322 2 from a2.2.1]; exact low _ (by omega) (by rw [z]) (rng (by omega) (by omega))
  · rw [a4.1]; exact low _ (by omega) (by rw [z]) (rng (by omega) (by omega))
  · rw [show σ 129 1 = σ 322 4 from a3.1]; exact low _ (by omega) (by rw [z]) (rng (by omega) (by omega))
  · rw [a5.1]; exact low _ (by omega) (by rw [z]) (rng (by omega) (by omega))
  · rw [f1]
    exact k _ σ (fun d2 Q2 k2 => c_X12_about (m_isIn hn in0 ⟨by decide, by decide⟩ ⟨b01_R, fun _ => ⟨hn, fun y => absurd z y, fun _ => same0 I (rng (by omega) (by omega)) k2⟩, fun y => by have := inB_t (b01_1 y); omega⟩))
theorem a_fault {n : Int} (d : Nat) (I : I0 L σ) (hn : inR n) {Q : Int → jM → Prop} (k : ∀ r σ1, (∀ (d2 : Nat) Q2, (∀ r' σ2, Same L σ r r' σ2 → Q2 r' σ2) → Ct mX12_fault (d2 + 11) 0 t [rv 321, iv n] σ1 Q2) → Q r σ1) : Ct mX11_fault (d + 11) 0 t [rv 1, iv n] σ Q := by
  obtain ⟨f1, f2, f3, f4, f5⟩ := I.2.2.1
  refine c_X11_fault ⟨hn, fun z => ?_, fun z => ?_, fun z => ?_⟩
  · exact k _ σ (fun d2 Q2 k2 => c_X12_fault ⟨hn, fun _ => ⟨hn, fun _ => same0 I ⟨by decide, by decide⟩ k2, fun y => absurd y z.2⟩, fun y => absurd y z.1⟩)
  · rw [f4.1]
    exact k _ σ (fun d2 Q2 k2 => c_X12_fault ⟨hn, fun y => absurd z y, fun _ => same0 I (rng (by omega) (by omega)) k2⟩)
  · rw [f5.1]
    exact k _ σ (fun d2 Q2 k2 => c_X12_fault ⟨hn, fun _ => ⟨hn, fun y => absurd z y, fun _ => same0 I (rng (by omega) (by omega)) k2⟩, fun y => absurd y (by omega)⟩)
end SY
