/-! ===== the reference reads a joining, a law ===== -/
section QC
variable {t : Int} {Q : Int → jM → Prop} {σ : jM} {T : Int → Int} {n b p m l : Int} {S F G : Int → Int} {D : LD}
theorem rc_join {d : Nat} {p1 p2 p3 p4 : Int} (tp : TP T n) (ri : RI T n b σ p m S F G D) (m0 : 0 ≤ m ∧ m < 24) (e1 : p1 = nxT T n p) (e2 : p2 = nxT T n p1) (e3 : p3 = nxT T n p2) (e4 : p4 = nxT T n p3)
    (good : kT T n p1 = 1 → nmT T n p1 ≤ 7 → kT T n p2 = 119 → kT T n p3 = 1 → nmT T n p3 ≤ 7 → kT T n p4 = 59 → ∀ σ', RI T n b σ' (nxT T n p4) (m + 1) (wr S m 2) (wr F m (nmT T n p1)) (wr G m (nmT T n p3)) D → FrR b σ σ' → Q 0 σ')
    (bad1 : kT T n p1 ≠ 1 → bdM b Q σ 1 (plT T n p1)) (bad2 : kT T n p1 = 1 → 7 < nmT T n p1 → bdM b Q σ 2 (plT T n p1)) (bad3 : kT T n p1 = 1 → nmT T n p1 ≤ 7 → kT T n p2 ≠ 119 → bdM b Q σ 1 (plT T n p2))
    (bad4 : kT T n p1 = 1 → nmT T n p1 ≤ 7 → kT T n p2 = 119 → kT T n p3 ≠ 1 → bdM b Q σ 1 (plT T n p3)) (bad5 : kT T n p1 = 1 → nmT T n p1 ≤ 7 → kT T n p2 = 119 → kT T n p3 = 1 → 7 < nmT T n p3 → bdM b Q σ 2 (plT T n p3))
    (bad6 : kT T n p1 = 1 → nmT T n p1 ≤ 7 → kT T n p2 = 119 → kT T n p3 = 1 → nmT T n p3 ≤ 7 → kT T n p4 ≠ 59 → bdM b Q σ 1 (plT T n p4)) : Jt mX12_clause (d + 11) 0 t Q 65 [rv 321, iv 2, iv m, uv, uv] [] σ := by
  have r1 := ri.1
  have r2 := ri.2.1
  have r3 := ri.2.2.1
  have r4 := ri.2.2.2.1
  have a1 := (nx_in tp r2).1
  rw [← e1] at a1
  have q1 : 0 ≤ p1 ∧ p1 ≤ n := by omega
  have a2 := (nx_in tp q1).1
  rw [← e2] at a2
  have q2 : 0 ≤ p2 ∧ p2 ≤ n := by omega
  have a3 := (nx_in tp q2).1
  rw [← e3] at a3
  have q3 : 0 ≤ p3 ∧ p3 ≤ n := by omega
  have a4 := (nx_in tp q3).1
  rw [← e4] at a4
  have q4 : 0 ≤ p4 ∧ p4 ≤ n := by omega
  have a5 := (nx_in tp q4).1
  have nn1 := nm_in tp q1
  have nn3 := nm_in tp q3
  refine rc_pre tp r1 r2 r3 m0 (fun σ4 rt4 j4 f4 y4 i4 x4 => ?_)
  rw [← e1] at rt4
  have fr4 : FrR b σ σ4 := ⟨fun x h1 h2 _ => y4 x h1 h2, fun j hj => j4 j (by omega), fun i hi => i4 i (by omega)⟩
  refine c_X12_body ⟨inl (by decide), fun z => absurd z (by omega), fun _ => ?_, fun z => absurd z (by omega), fun z => absurd z (by omega), fun z => absurd z (by omega), fun z => absurd z (by omega)⟩
  refine c_X12_joinClause ?_
  refine m_figure tp rt4 q1 (by omega) (inl (by decide)) (inl (by decide)) (fun z z1 z2 σ5 rt5 j5 y5 i5 x5 => ?_) (fun z z1 => ⟨inl (by decide), fun u => absurd u (by decide), fun _ => tailF_no (by decide) (inl (by decide)) (bad2 z (by omega) σ4 fr4 rt4.2.2.1)⟩) (fun z => ⟨inl (by decide), fun u => absurd u (by decide), fun _ => tailF_no (by decide) (inl (by decide)) (bad1 z σ4 fr4 rt4.2.2.1)⟩)
  rw [← e2] at rt5
  have fr5 : FrR b σ4 σ5 := ⟨fun x h1 h2 _ => y5 x h1 h2, fun j hj => j5 j (by omega), fun i hi => i5 i (by omega)⟩
  refine ⟨inl (by decide), fun _ => ?_, fun u => absurd rfl u⟩
  refine m_w3 (by omega) (by omega) (by omega) (m_isWord (k := 119) tp q2 rt5 (by omega) (fun v => wk_19.trans ⟨fun e => by omega, fun e => by omega⟩) (rngL (by omega) (by omega)) ⟨b01_R, fun s => ?_, fun s => tailF_no (by decide) (inl (by decide)) (bad3 z z2 (of_decide_eq_false (b01_0.mp s)) σ5 (FrR_tr fr4 fr5) rt5.2.2.1)⟩)
  have k2 := of_decide_eq_true (b01_1 s)
  refine m_next (σ := σ5) tp rt5 q2 (fun _ _ => rfl) rfl (fun σ6 rt6 ot => ?_)
  rw [← e3] at rt6
  have fr6 : FrR b σ5 σ6 := ⟨fun x h1 _ _ => ot.1 x h1, fun j hj => ot.2 j (by omega), fun i _ => by rw [ot.1 324 (by omega)]⟩
  refine m_figure tp rt6 q3 (by omega) (inl (by decide)) (inl (by decide)) (fun y y1 y2 σ7 rt7 j7 y7 i7 x7 => ?_) (fun y y1 => tailF_no (by decide) (inl (by decide)) (bad5 z z2 k2 y (by omega) σ6 (FrR_tr (FrR_tr fr4 fr5) fr6) rt6.2.2.1)) (fun y => tailF_no (by decide) (inl (by decide)) (bad4 z z2 k2 y σ6 (FrR_tr (FrR_tr fr4 fr5) fr6) rt6.2.2.1))
  rw [← e4] at rt7
  have fr7 : FrR b σ6 σ7 := ⟨fun x h1 h2 _ => y7 x h1 h2, fun j hj => j7 j (by omega), fun i hi => i7 i (by omega)⟩
  have frA := FrR_tr (FrR_tr (FrR_tr fr4 fr5) fr6) fr7
  have jj : ∀ j, 11 < j → j ≠ 14 → σ7 321 j = σ 321 j := fun j h1 h2 => by rw [j7 j (by omega), ot.2 j (by omega), j5 j (by omega), j4 j (by omega)]
  have ii : ∀ i, i ≠ b + 1 + 3 * m → i ≠ b + 1 + 3 * m + 1 → i ≠ b + 1 + 3 * m + 2 → σ7 324 i = σ 324 i := fun i h1 h2 h3 => by rw [i7 i h3, ot.1 324 (by omega), i5 i h2, i4 i h1]
  refine rc_tail tp rt7 q4 ⟨(jj 12 (by omega) (by omega)).trans r3.1, r3.2⟩ (m := m) ((ii b (by omega) (by omega) (by omega)).trans ri.2.2.2.2.2.1.1) (fun v σ8 rt8 j8 y8 i8 x8 => ?_) (fun v σ8 y8 i8 => bad6 z z2 k2 y y2 v σ8 (FrR_tr frA ⟨fun x _ h2 _ => y8 x h2, fun j _ => by rw [y8 321 (by omega)], fun i hi => i8 i (by omega)⟩) (by rw [y8 321 (by omega)]; exact rt7.2.2.1))
  have fr8 : FrR b σ7 σ8 := ⟨fun x h1 h2 _ => y8 x h1 h2, fun j hj => j8 j (by omega), fun i hi => i8 i (by omega)⟩
  refine good z z2 k2 y y2 v σ8 (RI_add (w' := σ 321 13) ri m0 rt8 (by omega) ((j8 12 (by omega)).trans ((jj 12 (by omega) (by omega)).trans r3.1)) ((j8 13 (by omega)).trans (jj 13 (by omega) (by omega))) (by omega) ((j8 19 (by omega)).trans ((jj 19 (by omega) (by omega)).trans ri.2.2.2.2.1)) x8 ?_ (fun _ => ?_) (fun _ => ?_) (fun i h1 h2 => by rw [i8 i (by omega), ii i (by omega) (by omega) (by omega)]) (fun i h1 h2 => by rw [i8 i (by omega), ii i (by omega) (by omega) (by omega)]) (fun i hi => Or.inl ⟨by omega, rfl⟩)) (FrR_tr frA fr8)
  · rw [i8 _ (by omega), i7 _ (by omega), ot.1 324 (by omega), i5 _ (by omega)]; exact x4
  · rw [i8 _ (by omega), i7 _ (by omega), ot.1 324 (by omega)]; exact x5
  · rw [i8 _ (by omega)]; exact x7
/-- a law's clause, up to its sum -/
theorem rc_law0 {d : Nat} {v : Int} (tp : TP T n) (ri : RI T n b σ p m S F G D) (m0 : 0 ≤ m ∧ m < 24) (hl : l = 0 ∨ l = 1) (k : ∀ σ5, RT σ5 T n (nxT T n p) → (∀ j, (j < 7 ∨ (11 < j ∧ j ≠ 14 ∧ j ≠ 19)) → σ5 321 j = σ 321 j) → σ5 321 14 = l → σ5 321 19 = v → (∀ y, y ≠ 321 → y ≠ 324 → σ5 y = σ y) → (∀ i, i ≠ b + 1 + 3 * m → i ≠ b + 1 + 3 * m + 1 → σ5 324 i = σ 324 i) → σ5 324 (b + 1 + 3 * m) = l → σ5 324 (b + 1 + 3 * m + 1) = σ 321 13 → Ct mX12_summed (d + 8) 0 t [rv 321] σ5 (fun r3 σ3 => (((0 : Int) ≤ (b + 1 + 3 * m + 2) ∧ (b + 1 + 3 * m + 2) < 2724) ∧ (∀ σ5 : jM, σ5 = up σ3 324 (b + 1 + 3 * m + 2) (σ3 321 13) → (tailF (d + 10) t Q r3 σ5))))) : Jt mX12_clause (d + 11) 0 t Q 65 [rv 321, iv l, iv m, uv, uv] [] (up σ 321 19 v) := by
  have r3 := ri.2.2.1
  refine rc_pre tp (RT_off ri.1 (fun j hj => by rw [up_ne (Or.inr (by omega))]) (by rw [up_row (by omega)])) ri.2.1 ⟨by rw [up_ne (Or.inr (by omega))]; exact r3.1, r3.2⟩ m0 (fun σ4 rt4 j4 f4 y4 i4 x4 => ?_)
  have j4' : ∀ j, (j < 7 ∨ (11 < j ∧ j ≠ 14 ∧ j ≠ 19)) → σ4 321 j = σ 321 j := fun j hj => by rw [j4 j (by omega), up_ne (Or.inr (by omega))]
  refine c_X12_body ⟨rng (by omega) (by omega), fun _ => ?_, fun z => absurd z (by omega), fun z => absurd z (by omega), fun z => absurd z (by omega), fun z => absurd z (by omega), fun z => absurd z (by omega)⟩
  refine c_X12_lawClause ⟨by omega, fun σ5 e5 => ?_⟩
  refine k σ5 (RT_off rt4 (fun j _ => by rw [e5, up_row (by omega)]) (by rw [e5, up_row (by omega)])) (fun j hj => by rw [e5, up_row (by omega)]; exact j4' j hj) (by rw [e5, up_row (by omega)]; exact f4) (by rw [e5, up_row (by omega), j4 19 (by omega), up_at]) (fun y h1 h2 => by rw [e5, up_row h2, y4 y h1 h2, up_row h1]) (fun i h1 h2 => by rw [e5, up_ne (Or.inr h2), i4 i h1, up_row (by omega)]) (by rw [e5, up_ne (Or.inr (by omega))]; exact x4) (by rw [e5, up_at]; exact j4' 13 (by omega))
theorem rc_lawB1 {d : Nat} {v kind pl : Int} (tp : TP T n) (ri : RI T n b σ p m S F G D) (m0 : 0 ≤ m ∧ m < 24) (hl : l = 0 ∨ l = 1) (hg : RBm T n t b l false 5 4 (nxT T n p) 0 kind pl) (hk : 1 ≤ kind ∧ kind ≤ 6) (k : bdM b Q σ kind pl) : Jt mX12_clause (d + 11) 0 t Q 65 [rv 321, iv l, iv m, uv, uv] [] (up σ 321 19 v) := by
  have r3 := ri.2.2.1
  have r4 := ri.2.2.2.1
  have a1 := (nx_in tp ri.2.1).1
  refine rc_law0 tp ri m0 hl (fun σ5 rt5 j5 f5 g5 y5 i5 x5 x5' => ?_)
  refine m_sumB hg rt5 (by omega) ⟨(j5 12 (by omega)).trans r3.1, r3.2⟩ (j5 13 (by omega)) f5 (by omega) (fun σ6 z6 e6 => ⟨by omega, fun σ7 e7 => tailF_no (by omega) (rng (by omega) (by omega)) (k σ7 ⟨fun x h1 h2 h3 => ?_, fun j hj => ?_, fun i hi => ?_⟩ ?_)⟩)
  · rw [e7, up_row h2, z6.1 x h1 h2 h3, y5 x h1 h2]
  · rw [e7, up_row (by omega), z6.2.1 j (by omega), j5 j (by omega)]
  · rw [e7, up_ne (Or.inr (by omega)), z6.2.2 i (by omega), i5 i (by omega) (by omega)]
  · rw [e7, up_row (by omega)]; exact e6
theorem rc_law {d : Nat} {q : Int} {f : DT} (tp : TP T n) (ri : RI T n b σ p m S F G D) (m0 : 0 ≤ m ∧ m < 24) (hl : l = 0 ∨ l = 1) (hD : D l = none) (hg : RGm T n t b l false 5 5 4 (nxT T n p) q 0 f) (q0 : nxT T n p < q ∧ q ≤ n) (hN : N3 (kT T n q))
    (good : kT T n q = 59 → ∀ σ', RI T n b σ' (nxT T n q) (m + 1) (wr S m l) (wr F m 0) (wr G m 0) (upD D l f) → FrR b σ σ' → Q 0 σ') (bad : kT T n q ≠ 59 → bdM b Q σ 1 (plT T n q)) : Jt mX12_clause (d + 11) 0 t Q 65 [rv 321, iv l, iv m, uv, uv] [] (up σ 321 19 (i_or (oncV D) (i_shl 1 l))) := by
  have r3 := ri.2.2.1
  have r4 := ri.2.2.2.1
  have a1 := (nx_in tp ri.2.1).1
  have t0 := tp.1
  have qq : 0 ≤ q ∧ q ≤ n := by omega
  have a2 := (nx_in tp qq).1
  refine rc_law0 tp ri m0 hl (fun σ5 rt5 j5 f5 g5 y5 i5 x5 x5' => ?_)
  refine m_sumG tp hg hN rt5 (by omega) ⟨(j5 12 (by omega)).trans r3.1, r3.2⟩ (j5 13 (by omega)) f5 (by omega) (fun σ6 w6 rt6 e6 hw hwq z6 g6 => ⟨by omega, fun σ7 e7 => ?_⟩)
  rw [e6] at e7
  have jj : ∀ j, (j < 7 ∨ j = 12 ∨ 19 < j) → σ7 321 j = σ 321 j := fun j hj => by rw [e7, up_row (by omega), z6.2.1 j (by omega), j5 j (by omega)]
  have ii : ∀ i, i < b + 73 + 2 * σ 321 13 ∨ b + 681 ≤ i → i ≠ b + 1 + 3 * m → i ≠ b + 1 + 3 * m + 1 → i ≠ b + 1 + 3 * m + 2 → σ7 324 i = σ 324 i := fun i h0 h1 h2 h3 => by rw [e7, up_ne (Or.inr h3), z6.2.2 i h0, i5 i h1 h2]
  have yy : ∀ y, y ≠ 321 → y ≠ 324 → y ≠ 326 → σ7 y = σ y := fun y h1 h2 h3 => by rw [e7, up_row h2, z6.1 y h1 h2 h3, y5 y h1 h2]
  have fr7 : FrR b σ σ7 := ⟨yy, jj, fun i hi => ii i (by omega) (by omega) (by omega) (by omega)⟩
  have rt7 : RT σ7 T n q := RT_off rt6 (fun j _ => by rw [e7, up_row (by omega)]) (by rw [e7, up_row (by omega)])
  refine rc_tail tp rt7 qq ⟨(jj 12 (by omega)).trans r3.1, r3.2⟩ (m := m) ((ii b (by omega) (by omega) (by omega) (by omega)).trans ri.2.2.2.2.2.1.1) (fun v σ8 rt8 j8 y8 i8 x8 => ?_) (fun v σ8 y8 i8 => bad v σ8 (FrR_tr fr7 ⟨fun x _ h2 _ => y8 x h2, fun j _ => by rw [y8 321 (by omega)], fun i hi => i8 i (by omega)⟩) (by rw [y8 321 (by omega)]; exact rt7.2.2.1))
  have fr8 : FrR b σ7 σ8 := ⟨fun x h1 h2 _ => y8 x h1 h2, fun j hj => j8 j (by omega), fun i hi => i8 i (by omega)⟩
  have u0 : σ8 324 (b + 1 + 3 * m) = l := by rw [i8 _ (by omega), e7, up_ne (Or.inr (by omega)), z6.2.2 _ (by omega)]; exact x5
  have u1 : σ8 324 (b + 1 + 3 * m + 1) = σ 321 13 := by rw [i8 _ (by omega), e7, up_ne (Or.inr (by omega)), z6.2.2 _ (by omega)]; exact x5'
  have u2 : σ8 324 (b + 1 + 3 * m + 2) = w6 := by rw [i8 _ (by omega), e7, up_at]
  have c8 : ∀ i, b + 73 ≤ i → σ8 324 i = σ6 324 i := fun i hi => by rw [i8 i (by omega), e7, up_ne (Or.inr (by omega))]
  refine good v σ8 (RI_add (w' := w6) ri m0 rt8 (by omega) ((j8 12 (by omega)).trans ((jj 12 (by omega)).trans r3.1)) (by rw [j8 13 (by omega), e7, up_row (by omega)]; exact e6) (by omega) ?_ x8 u0 (fun z => absurd z (by omega)) (fun z => absurd z (by omega)) (fun i h1 h2 => by rw [i8 i (by omega), ii i (by omega) (by omega) (by omega) (by omega)]) (fun i h1 h2 => by rw [i8 i (by omega), ii i (by omega) (by omega) (by omega) (by omega)]) (fun i hi => ?_)) (FrR_tr fr7 fr8)
  · rw [j8 19 (by omega), e7, up_row (by omega), z6.2.1 19 (by omega), g5]
    exact onc_up f hl hD
  · by_cases e : l = i
    · refine Or.inr ⟨e, by rw [← e]; exact hD, f, by unfold upD; rw [if_pos e.symm], by rw [u1, u2]; omega, ?_⟩
      rw [u1, u2]
      exact GX_ag g6 (fun i' i0 i1 => c8 (b + 73 + 2 * i') (by omega)) (fun i' i0 i1 => c8 (b + 73 + 2 * i' + 1) (by omega))
    · exact Or.inl ⟨e, by unfold upD; rw [if_neg (fun h => e h.symm)]⟩
theorem mm_main {d : Nat} (tp : TP T n) (ri : RI T n b σ p m S F G D) (m0 : 0 ≤ m ∧ m ≤ 24)
    (non : ¬ (100 ≤ kT T n p ∧ kT T n p ≤ 106) → Q 1 σ)
    (twice : (100 ≤ kT T n p ∧ kT T n p ≤ 101) → D (kT T n p - 100) ≠ none → Q 4 σ)
    (many : (100 ≤ kT T n p ∧ kT T n p ≤ 106) → (kT T n p ≤ 101 → D (kT T n p - 100) = none) → m = 24 → Q 6 σ)
    (law : ∀ l, (l = 0 ∨ l = 1) → kT T n p = 100 + l → D l = none → m < 24 → Jt mX12_clause (d + 11) 0 t Q 65 [rv 321, iv l, iv m, uv, uv] [] (up σ 321 19 (i_or (oncV D) (i_shl 1 l))))
    (oth : (102 ≤ kT T n p ∧ kT T n p ≤ 106) → m < 24 → Jt mX12_clause (d + 11) 0 t Q 65 [rv 321, iv (srK (kT T n p)), iv m, uv, uv] [] σ) : Ct mX12_clause (d + 11) 0 t [rv 321] σ Q := by
  have r3 := ri.2.2.1
  have e19 := ri.2.2.2.2.1
  have eb := ri.2.2.2.2.2.1.1
  have sk : (¬ (100 ≤ kT T n p ∧ kT T n p ≤ 106) ∧ srK (kT T n p) = -1) ∨ ((100 ≤ kT T n p ∧ kT T n p ≤ 101) ∧ srK (kT T n p) = kT T n p - 100) ∨ ((102 ≤ kT T n p ∧ kT T n p ≤ 106) ∧ 2 ≤ srK (kT T n p) ∧ srK (kT T n p) ≤ 6) := by
    unfold srK
    split
    · omega
    · split
      · omega
      · split
        · omega
        · omega
  refine c_X12_clause (m_sortOf tp ri.2.1 ri.1 ⟨rng (by omega) (by omega), fun z => ⟨rng (by omega) (by omega), fun y => ?_, fun y => ?_⟩, fun z => non (by omega)⟩)
  · rw [r3.1, eb]
    exact ⟨by omega, rng (by omega) (by omega), fun u => ⟨rng (by omega) (by omega), fun _ => oth (by omega) (by omega), fun v => absurd v (by omega)⟩, fun u => many (by omega) (fun v => absurd v (by omega)) u⟩
  · have kk : 100 ≤ kT T n p ∧ kT T n p ≤ 101 := by omega
    have es : srK (kT T n p) = kT T n p - 100 := by omega
    have hl : kT T n p - 100 = 0 ∨ kT T n p - 100 = 1 := by omega
    rw [es, e19]
    have go : D (kT T n p - 100) = none → (((0 : Int) ≤ (σ 321 12) ∧ (σ 321 12) < 2724) ∧ ((inR (σ 324 (σ 321 12))) ∧ ((¬ (σ 324 (σ 321 12)) = 24 → ((inR (kT T n p - 100)) ∧ ((1 < kT T n p - 100 → (Jt mX12_clause (d + 11) 0 t Q 65 [rv 321, iv (kT T n p - 100), iv (σ 324 (σ 321 12)), uv, uv] [] σ)) ∧ (kT T n p - 100 ≤ 1 → (∀ σ11 : jM, σ11 = up σ 321 19 (i_or (σ 321 19) (i_shl 1 (kT T n p - 100))) → (Jt mX12_clause (d + 11) 0 t Q 65 [rv 321, iv (kT T n p - 100), iv (σ 324 (σ 321 12)), uv, uv] [] σ11)))))) ∧ ((σ 324 (σ 321 12)) = 24 → (Q 6 σ))))) := by
      intro hD
      rw [r3.1, eb, e19]
      exact ⟨by omega, rng (by omega) (by omega), fun u => ⟨rng (by omega) (by omega), fun v => absurd v (by omega), fun _ σ11 e11 => by rw [e11]; exact law _ hl (by omega) hD (by omega)⟩, fun u => many (by omega) (fun _ => hD) u⟩
    have ir : inR (i_and (i_shr (oncV D) (kT T n p - 100)) 1) := by
      rcases onc_vals (D := D) with ⟨_, _, e⟩ | ⟨_, _, e⟩ | ⟨_, _, e⟩ | ⟨_, _, e⟩ <;> rcases hl with e2 | e2 <;> rw [e, e2] <;> exact inl (by decide +kernel)
    refine c_X12_has ⟨ir, fun z => ⟨inl (by decide), fun _ => go ?_, fun u => absurd rfl u⟩, fun z => ⟨inl (by decide), fun u => absurd u (by decide), fun _ => twice kk ?_⟩⟩
    · cases eD : D (kT T n p - 100) with
      | none => rfl
      | some f => exact absurd (onc_yes hl (by rw [eD]; exact fun h => by cases h)) z
    · intro eD
      exact onc_no hl eD z
end QC
