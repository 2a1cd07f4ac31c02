/-! ===== a_text ===== -/
section AP
variable {t : Int} {L : LT} {σ : jM}
theorem a_text (d : Nat) (I : I0 L σ) {Q : Int → Int → jM → Prop} (k : ∀ t' r σ1, inR r → (∀ (d2 : Nat) Q2, (∀ r' σ2, r' = r → (∃ L', I0 L' σ2) → frK σ σ2 → Q2 r' σ2) → Ct mX12_text (d2 + 13) 0 t' [rv 321] σ1 Q2) → Q t' r σ1) : Cn mX11_text (d + 380) 0 [rv 1] (GG t) σ (fun r G' σ' => r.1 = 0 ∧ ∃ t', G' = GG t' ∧ Q t' r.2 σ') := by
  have q := I.1.1
  have va := I.1.2.2.1
  have h04 := va.2.2.2.2.2.1
  have e26 : σ 2 6 = σ 322 0 := q.2.2.2.2.2.1
  obtain ⟨f1, f2, f3, f4, f5⟩ := I.2.2.1
  obtain ⟨kx, ek⟩ : ∃ kx, σ 322 0 = kx := ⟨_, rfl⟩
  rw [ek] at h04 e26
  refine w_text ?_
  rw [e26]
  refine ⟨rng (by omega) (by omega), fun z => absurd z (by omega), fun _ => ⟨rng (by omega) (by omega), fun z => ⟨by omega, ?_⟩, fun z => ?_⟩⟩
  · have h0 : ob (GG (293 + 7 * kx)) (293 + 7 * kx) 8 := ok_5 h04.1 z
    have ht : 293 ≤ 293 + 7 * kx := by omega
    have tp : TP (σ 272) (σ 321 4) := ⟨f2, fun i i0 i1 => by have := f3 i i0 i1; rw [this.1]; exact this.2⟩
    refine w_readsInto (Q := fun r4 σ4 => ∀ σ5 : jM, σ5 = up σ4 271 1 0 → ((inR r4) ∧ ((¬ r4 = 0 → (∀ σ7 : jM, σ7 = up σ5 2 6 ((σ5 2 6) + 1) → (Q (293 + 7 * kx) ((σ7 2 6) - 1) σ7))) ∧ (r4 = 0 → (Q (293 + 7 * kx) (-1) σ5))))) (by omega) ?_
    rcases jt_all (b := 681 * kx) h0 ht tp (σ 321 4 + 1).toNat 0 0 noS noS noS noD (by omega) f2.1 (by omega) PO_0 with ⟨m', S', F', G', D', po, lc, lm⟩ | ⟨kind, pl, hkd, lc, lm⟩
    · refine r_start (d := d + 373) h0 ht tp ⟨f1, fun _ _ _ => rfl⟩ (fun σ1 c1 fr1 k12 k13 => lc (d + 377) _ σ1 _ (by omega) c1 (fun σ4 q4 c4 fr4 kp4 => ?_))
      intro σ5 e5
      refine ⟨inl (by decide), fun _ σ7 e7 => ?_, fun y => absurd y (by decide)⟩
      have fr : FrC (293 + 7 * kx) σ σ4 := FrC_tr fr1 fr4
      have y7 : ∀ y, y ≠ 2 → y ≠ 271 → (y < 293 + 7 * kx ∨ 293 + 7 * kx + 6 < y) → σ7 y = σ y := fun y h1 h2 h3 => by rw [e7, up_row h1, e5, up_row h2]; exact fr.1 y h2 h3
      have y47 : ∀ y, y ≠ 2 → y ≠ 271 → σ7 y = σ4 y := fun y h1 h2 => by rw [e7, up_row h1, e5, up_row h2]
      have g5 : σ5 2 6 = kx := by rw [e5, up_row (by omega), fr.1 2 (by omega) (by omega)]; exact e26
      have r7 : σ7 2 6 = kx + 1 := by rw [e7, up_at, g5]
      have j72 : ∀ j, j ≠ 6 → σ7 2 j = σ 2 j := fun j hj => by rw [e7, up_ne (Or.inr hj), e5, up_row (by omega), fr.1 2 (by omega) (by omega)]
      rw [r7, show kx + 1 - 1 = kx by omega]
      refine k _ kx σ7 (rng (by omega) (by omega)) (fun d2 Q2 k2 => ?_)
      have s321 : σ7 321 = σ 321 := y7 321 (by omega) (by omega) (by omega)
      have s322 : σ7 322 = σ 322 := y7 322 (by omega) (by omega) (by omega)
      have s324 : σ7 324 = σ 324 := y7 324 (by omega) (by omega) (by omega)
      have s325 : σ7 325 = σ 325 := y7 325 (by omega) (by omega) (by omega)
      have ek7 : σ7 322 0 = kx := by rw [s322]; exact ek
      refine c_X12_text ⟨by decide, ?_⟩
      rw [ek7]
      refine ⟨rng (by omega) (by omega), fun _ => ?_, fun y => absurd y (by omega)⟩
      refine m_start tp ⟨by rw [s321], fun i i0 i1 => by rw [s325]; exact (f3 i i0 i1).1.symm⟩ ek7 ⟨h04.1, z⟩ (fun σ8 r8 y8 j8 x8 => lm d2 _ σ8 r8 (fun σ9 q9 r9 fr9 => ?_))
      intro σ3 e3
      have a5 : σ3 321 5 = 0 := by rw [e3, up_at]
      rw [a5]
      refine ⟨inl (by decide), fun y => absurd rfl y, fun _ σ10 e10 σ11 e11 => ?_⟩
      have b5 : σ11 321 5 = 0 := by rw [e11, up_ne (Or.inr (by omega)), e10, up_ne (Or.inr (by omega))]; exact a5
      rw [b5]
      refine ⟨inl (by decide), fun _ => ⟨by decide, by decide, fun σ14 e14 => ⟨by decide, ?_⟩⟩, fun y => absurd rfl y⟩
      have r11 : ∀ y, y ≠ 321 → σ11 y = σ9 y := fun y h => by rw [e11, up_row h, e10, up_row h, e3, up_row h]
      have t322 : σ11 322 = σ 322 := by rw [r11 322 (by omega), fr9.1 322 (by omega) (by omega) (by omega), y8 322 (by omega) (by omega) (by omega), s322]
      have u322 : σ14 322 = wr (σ 322) 0 (kx + 1) := by rw [e14, up_sr, sr_at, t322, ek]
      have v322 : σ14 322 0 = kx + 1 := by rw [u322, wr_at]
      rw [v322, show kx + 1 - 1 = kx by omega]
      have r14 : ∀ y, y ≠ 321 → y ≠ 322 → σ14 y = σ9 y := fun y h1 h2 => by rw [e14, up_row h2, r11 y h1]
      have r149 : ∀ y, y ≠ 321 → y ≠ 322 → y ≠ 324 → y ≠ 326 → σ14 y = σ7 y := fun y h1 h2 h3 h4 => by rw [r14 y h1 h2, fr9.1 y h1 h3 h4, y8 y h1 h3 h4]
      have hr : ∀ y, y ≠ 2 → y ≠ 271 → (y < 293 + 7 * kx ∨ 293 + 7 * kx + 6 < y) → y ≠ 321 → y ≠ 322 → y ≠ 324 → y ≠ 326 → σ14 y = σ y := fun y h1 h2 h3 h4 h5 h6 h7 => by rw [r149 y h4 h5 h6 h7, y7 y h1 h2 h3]
      have wr2 := WR_txt (σ' := σ14) (v := kx + 1) q va (fun y y0 y1 => hr y (by omega) (by omega) (by omega) (by omega) (by omega) (by omega) (by omega)) (fun j hj => by rw [r149 2 (by omega) (by omega) (by omega) (by omega)]; exact j72 j hj) (by rw [r149 2 (by omega) (by omega) (by omega) (by omega)]; exact r7) (by omega) u322
      have e324 : σ14 324 = σ9 324 := r14 324 (by omega) (by omega)
      have j14 : ∀ j, j ≠ 4 → j ≠ 5 → j ≠ 6 → σ14 321 j = σ9 321 j := fun j h1 h2 h3 => by rw [e14, up_row (by omega), e11, up_ne (Or.inr h1), e10, up_ne (Or.inr h3), e3, up_ne (Or.inr h2)]
      have v4 : σ14 321 4 = 0 := by rw [e14, up_row (by omega), e11, up_at]
      have v5 : σ14 321 5 = 0 := by rw [e14, up_row (by omega)]; exact b5
      have v6 : σ14 321 6 = -1 := by rw [e14, up_row (by omega), e11, up_ne (Or.inr (by omega)), e10, up_at]
      have s271 : σ14 271 = σ5 271 := by rw [r149 271 (by omega) (by omega) (by omega) (by omega), e7, up_row (by omega)]
      have w1 : σ14 271 1 = 0 := by rw [s271, e5, up_at]
      have w2 : σ14 271 2 = 0 := by rw [s271, e5, up_ne (Or.inr (by omega)), kp4.1]; exact k12
      have w3 : σ14 271 3 = -1 := by rw [s271, e5, up_ne (Or.inr (by omega)), kp4.2]; exact k13
      have row4 : ∀ y, 293 + 7 * kx ≤ y → y ≤ 293 + 7 * kx + 6 → σ14 y = σ4 y := fun y y0 y1 => by rw [r149 y (by omega) (by omega) (by omega) (by omega), y47 y (by omega) (by omega)]
      have clm : clM σ14 (681 * kx) m' S' F' G' := by
        have := r9.2.2.2.2.2.1
        unfold clM at this ⊢
        rw [e324]; exact this
      have clc : clC σ14 (293 + 7 * kx) m' S' F' G' := clC_keep c4.2.2.2.1 (by rw [row4 _ (by omega) (by omega)]) (row4 _ (by omega) (by omega)) (row4 _ (by omega) (by omega)) (row4 _ (by omega) (by omega))
      have b4 := c4.2.1
      have b47 := c4.2.2.1
      have b9 := r9.2.1
      have b93 := r9.2.2.2.1
      have lwc : ∀ i, (i = 0 ∨ i = 1) → LawC σ14 (293 + 7 * kx) i (D' i) := fun i hi => LawC_same row4 (LawC_of (by omega) (c4.2.2.2.2 i hi))
      have lwm : ∀ i, (i = 0 ∨ i = 1) → LawM (σ14 324) kx i (D' i) := fun i hi => by
        rw [e324]
        exact LawM_of (by omega) r9.2.2.2.2.2.1 (r9.2.2.2.2.2.2 i hi)
      have key := I0_txt (L' := fun j => if j = kx then (D' 0, D' 1) else L j) (σ' := σ14) I ek z (fun j hj => if_neg hj) hr wr2.1 wr2.2 (Or.inr v322) (fun i hi => by rw [e324, fr9.2.2 i hi, x8 i hi, s324]) w1 v4 ⟨by rw [w2, v5], by rw [v5]; omega⟩ ⟨by rw [w3, v6], by rw [v6]; omega⟩ (by rw [j14 23 (by omega) (by omega) (by omega), fr9.2.1 23 (by omega), j8 23 (by omega), s321]) (fun _ => ?_)
      · exact k2 _ _ rfl ⟨_, key.1⟩ key.2
      · have eL : (if kx = kx then (D' 0, D' 1) else L kx) = (D' 0, D' 1) := if_pos rfl
        rw [eL]
        have pm := po.1
        refine ⟨⟨lwc 0 (Or.inl rfl), lwc 1 (Or.inr rfl)⟩, ⟨by rw [clm.1]; exact pm, fun j j0 j1 => ?_, lwm 0 (Or.inl rfl), lwm 1 (Or.inr rfl)⟩, fun r s c ha hc => ⟨fun f hf => po.2.2 0 f (Or.inl rfl) hf r s c ha hc, fun f hf => po.2.2 1 f (Or.inr rfl) hf r s c ha hc⟩, CL1_of po clc clm⟩
        rw [clm.1] at j1
        rw [(clm.2 j j0 j1).1]
        exact (po.2.1 j j0 j1).1
    · refine r_start (d := d + 373) h0 ht tp ⟨f1, fun _ _ _ => rfl⟩ (fun σ1 c1 fr1 k12 k13 => lc (d + 377) _ σ1 _ (by omega) c1 (fun σ4 fr4 w2 w3 => ?_))
      intro σ5 e5
      refine ⟨inl (by decide), fun y => absurd rfl y, fun _ => ?_⟩
      have fr : FrC (293 + 7 * kx) σ σ4 := FrC_tr fr1 fr4
      have y5 : ∀ y, y ≠ 271 → (y < 293 + 7 * kx ∨ 293 + 7 * kx + 6 < y) → σ5 y = σ y := fun y h2 h3 => by rw [e5, up_row h2]; exact fr.1 y h2 h3
      refine k _ (-1) σ5 (inl (by decide)) (fun d2 Q2 k2 => ?_)
      have s321 : σ5 321 = σ 321 := y5 321 (by omega) (by omega)
      have s322 : σ5 322 = σ 322 := y5 322 (by omega) (by omega)
      have s324 : σ5 324 = σ 324 := y5 324 (by omega) (by omega)
      have s325 : σ5 325 = σ 325 := y5 325 (by omega) (by omega)
      have ek7 : σ5 322 0 = kx := by rw [s322]; exact ek
      refine c_X12_text ⟨by decide, ?_⟩
      rw [ek7]
      refine ⟨rng (by omega) (by omega), fun _ => ?_, fun y => absurd y (by omega)⟩
      refine m_start tp ⟨by rw [s321], fun i i0 i1 => by rw [s325]; exact (f3 i i0 i1).1.symm⟩ ek7 ⟨h04.1, z⟩ (fun σ8 r8 y8 j8 x8 => lm d2 _ σ8 r8 (fun σ9 fr9 e9 => ?_))
      intro σ3 e3
      have a5 : σ3 321 5 = kind := by rw [e3, up_at]
      rw [a5]
      refine ⟨rng (by omega) (by omega), fun _ σ10 e10 σ11 e11 => ?_, fun y => absurd y (by omega)⟩
      have a8 : σ3 321 8 = pl := by rw [e3, up_ne (Or.inr (by omega))]; exact e9
      rw [a8] at e10
      have b5 : σ11 321 5 = kind := by rw [e11, up_ne (Or.inr (by omega)), e10, up_ne (Or.inr (by omega))]; exact a5
      rw [b5]
      refine ⟨rng (by omega) (by omega), fun y => absurd y (by omega), fun _ => ?_⟩
      have r11 : ∀ y, y ≠ 321 → σ11 y = σ9 y := fun y h => by rw [e11, up_row h, e10, up_row h, e3, up_row h]
      have r115 : ∀ y, y ≠ 321 → y ≠ 324 → y ≠ 326 → σ11 y = σ5 y := fun y h1 h3 h4 => by rw [r11 y h1, fr9.1 y h1 h3 h4, y8 y h1 h3 h4]
      have hr : ∀ y, y ≠ 2 → y ≠ 271 → (y < 293 + 7 * kx ∨ 293 + 7 * kx + 6 < y) → y ≠ 321 → y ≠ 322 → y ≠ 324 → y ≠ 326 → σ11 y = σ y := fun y h1 h2 h3 h4 h5 h6 h7 => by rw [r115 y h4 h6 h7, y5 y h2 h3]
      have u322 : σ11 322 = σ 322 := by rw [r115 322 (by omega) (by omega) (by omega), s322]
      have j11 : ∀ j, j ≠ 4 → j ≠ 5 → j ≠ 6 → σ11 321 j = σ9 321 j := fun j h1 h2 h3 => by rw [e11, up_ne (Or.inr h1), e10, up_ne (Or.inr h3), e3, up_ne (Or.inr h2)]
      have v4 : σ11 321 4 = 0 := by rw [e11, up_at]
      have v6 : σ11 321 6 = pl := by rw [e11, up_ne (Or.inr (by omega)), e10, up_at]
      have s271 : σ11 271 = σ5 271 := r115 271 (by omega) (by omega) (by omega)
      have w1 : σ11 271 1 = 0 := by rw [s271, e5, up_at]
      have w2' : σ11 271 2 = kind := by rw [s271, e5, up_ne (Or.inr (by omega))]; exact w2
      have w3' : σ11 271 3 = pl := by rw [s271, e5, up_ne (Or.inr (by omega))]; exact w3
      have hw : WR σ11 2 (σ11 322) := by
        rw [u322]
        exact WR_same q (fun y y0 y1 => by rw [r115 y (by omega) (by omega) (by omega), y5 y (by omega) (by omega)])
      have key := I0_txt (L' := L) (σ' := σ11) I ek z (fun j _ => rfl) hr hw (by rw [u322]; exact va) (Or.inl (by rw [u322]; exact ek)) (fun i hi => by rw [r11 324 (by omega), fr9.2.2 i hi, x8 i hi, s324]) w1 v4 ⟨by rw [w2', b5], by rw [b5]; omega⟩ ⟨by rw [w3', v6], by rw [v6]; omega⟩ (by rw [j11 23 (by omega) (by omega) (by omega), fr9.2.1 23 (by omega), j8 23 (by omega), s321]) (fun y => absurd y (by rw [u322, ek]; omega))
      exact k2 _ _ rfl ⟨L, key.1⟩ key.2
  · refine k t (-1) σ (inl (by decide)) (fun d2 Q2 k2 => c_X12_text ⟨by decide, ?_⟩)
    rw [ek]
    exact ⟨rng (by omega) (by omega), fun y => absurd (by omega) y, fun _ => k2 _ _ rfl ⟨L, I⟩ frK_rf⟩
end AP
