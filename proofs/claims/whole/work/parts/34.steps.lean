/-! ===== join, pour, bake, day, years, undo: both answer alike ===== -/
/-- the reference's answer is the same, and all is alike behind it -/
def Same (L : LT) (σ0 : jM) (r : Int) : Int → jM → Prop := fun r' σ2 => r' = r ∧ inR r ∧ I0 L σ2 ∧ frK σ0 σ2
section ST
variable {t : Int} {L : LT} {σ : jM}
theorem keepA_01 {A : Int → Int} (va : AV A) : keepA A 0 = A 0 ∧ keepA A 1 = A 1 := ⟨keepA_out ⟨va.2.1.1, va.2.1.2.1⟩ (by omega) (by omega), keepA_out ⟨va.2.1.1, va.2.1.2.1⟩ (by omega) (by omega)⟩
theorem keepA_agr {A : Int → Int} (va : AV A) : agr (mrow (keepA A)) (mrow A) := agr_eqr (keepA_row ⟨va.2.1.1, va.2.1.2.1⟩)
theorem I0_same {σ1 σ2 : jM} (I : I0 L σ) (o1 : off2 σ σ1) (o2 : off3 σ1 σ2) : I0 L σ2 ∧ frK σ σ2 :=
  I0_step I (WR_same I.1.1 (fun x x0 x1 => o1 x (by omega) (by omega))) I.1.2.2.1 rfl (offN_2 o1) (by rw [o2 322 (by decide) (by decide) (by decide), o1 322 (by decide) (by decide)]) (offM_3 o2)
theorem a_join {a b : Int} (d : Nat) (I : I0 L σ) (ha : inR a) (hb : inR b) {Q : Int → jM → Prop} (k : ∀ r σ1, (∀ (d2 : Nat) Q2, (∀ r' σ2, Same L σ r r' σ2 → Q2 r' σ2) → Ct mX12_join (d2 + 10) 0 t [rv 321, iv a, iv b] σ1 Q2) → Q r σ1) : Ct mX11_join (d + 10) 0 t [rv 1, iv a, iv b] σ Q := by
  have q := I.1.1
  have va := I.1.2.2.1
  refine c_X11_join (h_joinable (d := d + 8) okl_3 q.1 va.1 ha hb ⟨b01_R, fun z => ?_, fun z => ?_⟩)
  · have hc : canB (mrow (σ 322)) a b = true := by
      cases e : canB (mrow (σ 322)) a b with
      | true => rfl
      | false => exact absurd (b01_0.mpr e) z
    refine w_keep (d := d + 6) q va (fun σ1 q1 o1 => ?_)
    have v1 := AV_keep va
    have hc1 : canB (mrow (keepA (σ 322))) a b = true := by rw [canB_agr (keepA_agr va)]; exact hc
    refine h_unite (d := d + 8) okl_3 q1.1 v1.1 hc1 (fun σ2 q2 o2 => ?_)
    have vu := uniteR_RV v1.1 hc1
    have w2 := WR_house q1 v1 vu q2 (offH_4 o2)
    have o12 : offN σ σ2 := offN_tr o1 (offN_4 o2)
    have e322 : σ2 322 = σ 322 := o12 322 (by omega) (by omega) (by omega) (by omega)
    have e321 : σ2 321 = σ 321 := o12 321 (by omega) (by omega) (by omega) (by omega)
    refine k _ σ2 (fun d2 Q2 k2 => ?_)
    refine c_X12_join (m_canJoin (d := d2 + 5) (by rw [e322]; exact va.1) ha hb ⟨b01_R, fun _ => ?_, fun y => ?_⟩)
    · refine m_keep (by rw [e322]; exact ⟨va.2.1.1, va.2.1.2.1⟩) ?_
      rw [e322]
      refine m_joinNow (d := d2 + 5) (by rw [sr_at]; exact v1.1) (by rw [sr_ne (by decide), e321]; exact I.2.2.2) (by rw [sr_at]; exact hc1) ?_
      simp only [sr_at, sr_sr]
      refine k2 _ _ ⟨rfl, crockR_R, ?_⟩
      exact I0_step I w2 (AV_house v1 vu) (by rw [setM_off (by omega)]; exact (keepA_01 va).1) o12 sr_at offM_sr
    · rw [e322, hc] at y; cases y
  · have hc : canB (mrow (σ 322)) a b = false := b01_0.mp z
    refine k _ σ (fun d2 Q2 k2 => ?_)
    refine c_X12_join (m_canJoin (d := d2 + 5) va.1 ha hb ⟨b01_R, fun y => absurd (b01_0.mpr hc) y, fun _ => ?_⟩)
    exact k2 _ _ ⟨rfl, ⟨by decide, by decide⟩, I, frK_rf⟩
theorem a_pour {c : Int} (d : Nat) (I : I0 L σ) (hc : inR c) {Q : Int → jM → Prop} (k : ∀ r σ1, (r = 0 ∨ r = 1) → (∀ (d2 : Nat) Q2, (∀ r' σ2, Same L σ r r' σ2 → Q2 r' σ2) → Ct mX12_pour (d2 + 10) 0 t [rv 321, iv c] σ1 Q2) → Q r σ1) : Ct mX11_pour (d + 10) 0 t [rv 1, iv c] σ Q := by
  have q := I.1.1
  have va := I.1.2.2.1
  refine c_X11_pour (h_holds okl_3 q.1 va.1 hc ⟨b01_R, fun z => ?_, fun z => ?_⟩)
  · have hf : fullB (mrow (σ 322)) c = true := by
      cases e : fullB (mrow (σ 322)) c with
      | true => rfl
      | false => exact absurd (b01_0.mpr e) z
    obtain ⟨c0, c8, _⟩ := fullB_t hf
    refine w_keep (d := d + 6) q va (fun σ1 q1 o1 => ?_)
    have v1 := AV_keep va
    have hf1 : fullB (mrow (keepA (σ 322))) c = true := by rw [fullB_agr (keepA_agr va)]; exact hf
    refine h_clear (d := d + 8) okl_3 q1.1 v1.1 (by omega) hc (fun _ σ2 q2 o2 => ?_) (fun y => by rw [hf1] at y; cases y)
    have vu := emptyR_RV (k := 1) v1.1 ⟨c0, c8⟩ (by omega)
    have w2 := WR_house q1 v1 vu q2 (offH_4 o2)
    have o12 : offN σ σ2 := offN_tr o1 (offN_4 o2)
    have e322 : σ2 322 = σ 322 := o12 322 (by omega) (by omega) (by omega) (by omega)
    have e321 : σ2 321 = σ 321 := o12 321 (by omega) (by omega) (by omega) (by omega)
    refine k _ σ2 (Or.inr rfl) (fun d2 Q2 k2 => ?_)
    refine c_X12_pour (m_isFull (d := d2 + 7) (by rw [e322]; exact va.1) hc ⟨b01_R, fun _ => ?_, fun y => ?_⟩)
    · refine m_keep (by rw [e322]; exact ⟨va.2.1.1, va.2.1.2.1⟩) ?_
      rw [e322]
      refine m_emptyNow (d := d2 + 8) (by rw [sr_at]; exact v1.1) (by rw [sr_ne (by decide), e321]; exact I.2.2.2) ⟨c0, c8⟩ ?_
      simp only [sr_at, sr_sr]
      refine k2 _ _ ⟨rfl, ⟨by decide, by decide⟩, ?_⟩
      exact I0_step I w2 (AV_house v1 vu) (by rw [setM_off (by omega)]; exact (keepA_01 va).1) o12 sr_at offM_sr
    · rw [e322, hf] at y; cases y
  · have hf : fullB (mrow (σ 322)) c = false := b01_0.mp z
    refine k _ σ (Or.inl rfl) (fun d2 Q2 k2 => ?_)
    refine c_X12_pour (m_isFull (d := d2 + 7) va.1 hc ⟨b01_R, fun y => absurd (b01_0.mpr hf) y, fun _ => ?_⟩)
    exact k2 _ _ ⟨rfl, ⟨by decide, by decide⟩, I, frK_rf⟩
def bakeR (L : LT) (k : Int) (r : Int → Int) (c : Int) : Int → Int := emptyR (wr r 2 (min 999999 (r 2 + priceL L k r c))) c 2
theorem bakeR_RV {L : LT} {k : Int} {r : Int → Int} {c : Int} (v : RV r) (hc : 0 ≤ c ∧ c < 8) : RV (bakeR L k r c) := by
  have pi := priceL_in (L := L) (k := k) v hc
  have v2 := v.2.2.1
  exact emptyR_RV (wr_RV v (by omega) (by omega) (by omega) (by intro _; omega) (by omega) (by omega)) hc (by omega)
theorem bakeR_eqr {n : Int} {L : LT} {k : Int} {r s : Int → Int} {c : Int} (hL : LQ n L) (hk : k < n) (h : eqr r s) (v : RV r) (hc : 0 ≤ c ∧ c < 8) : eqr (bakeR L k r c) (bakeR L k s c) := by
  unfold bakeR
  rw [priceL_agr hL hk (agr_eqr h) hc, h 2 (by omega) (by omega)]
  have pi := priceL_in (L := L) (k := k) (RV_congr h v) hc
  have v2 := v.2.2.1
  have e2 := h 2 (by omega) (by omega)
  exact emptyR_eqr (eqr_wr h) (wr_RV v (by omega) (by omega) (by omega) (by intro _; omega) (by omega) (by omega)) hc
theorem m_bakeNow {n c : Int} {d : Nat} {Q : Int → jM → Prop} {A s : Int → Int} (hA : σ 322 = setM A s) (v : RV s) (hw : σ 321 23 = 1) (hT : TxM σ n L) (hL : LQ n L) (hk : -1 ≤ A 1 ∧ A 1 < n) (hn : n ≤ 4) (hc : 0 ≤ c ∧ c < 8) (kk : ∀ σ', σ' 322 = setM A (bakeR L (A 1) s c) → offP σ σ' → Q (priceL L (A 1) s c) σ') : Ct mX12_bakeNow (d + 5 + 1) 0 t [rv 321, iv c] σ Q := by
  have es : eqr (mrow (σ 322)) s := by rw [hA]; exact mrow_setM
  have vm : RV (mrow (σ 322)) := RV_congr (eqr_sy es) v
  have a1 : σ 322 1 = A 1 := by rw [hA]; exact setM_off (by omega)
  have pi := priceL_in (L := L) (k := A 1) v hc
  have v2 := v.2.2.1
  refine c_X12_bakeNow (m_priceOf (n := n) (L := L) vm hc hT (by rw [a1]; exact hk) hn (fun σ1 o1 => ?_))
  have e1 : σ1 322 = σ 322 := o1 322 (by decide) (by decide) (by decide)
  have e8 : σ1 322 8 = s 2 := by
    have := es 2 (by omega) (by omega)
    rw [mrow_lo (by omega), show (6 : Int) + 2 = 8 by omega] at this
    rw [e1]; exact this
  rw [a1, priceL_agr hL hk.2 (agr_eqr es) hc, e8]
  refine ⟨by decide, rng (by omega) (by omega), m_held (rngL (by omega) (by omega)) in0 ⟨by decide, by decide⟩ ⟨by decide, fun σ5 e5 => ?_⟩⟩
  have em : (if s 2 + priceL L (A 1) s c < 0 then 0 else if 999999 < s 2 + priceL L (A 1) s c then 999999 else s 2 + priceL L (A 1) s c) = min 999999 (s 2 + priceL L (A 1) s c) := by
    rw [if_neg (by omega)]
    split <;> omega
  rw [em] at e5
  have h5 : σ5 322 = setM A (wr s 2 (min 999999 (s 2 + priceL L (A 1) s c))) := by
    rw [e5, up_sr, sr_at, e1, hA, show (8 : Int) = 6 + 2 by omega]
    exact setM_put (by omega)
  have v5 : RV (wr s 2 (min 999999 (s 2 + priceL L (A 1) s c))) := wr_RV v (by omega) (by omega) (by omega) (by intro _; omega) (by omega) (by omega)
  have es5 : eqr (mrow (σ5 322)) (wr s 2 (min 999999 (s 2 + priceL L (A 1) s c))) := by rw [h5]; exact mrow_setM
  have vm5 := RV_congr (eqr_sy es5) v5
  have o5 : offP σ σ5 := offP_tr (offP_3 o1) ⟨fun x _ x2 _ _ _ => by rw [e5, up_row x2], fun j _ => by rw [e5, up_row (by decide)]⟩
  refine m_emptyNow (d := d + 4) vm5 (by rw [o5.2 23 (by decide)]; exact hw) hc ?_
  refine kk _ ?_ (offP_tr o5 offP_sr)
  rw [sr_at, h5, setM_setM]
  rw [h5] at es5 vm5
  exact setM_congr (emptyR_eqr es5 vm5 hc)
theorem a_bake {c : Int} (d : Nat) (I : I0 L σ) (hc : inR c) {Q : Int → jM → Prop} (k : ∀ r σ1, (r = -1 ∨ 0 ≤ r) → (∀ (d2 : Nat) Q2, (∀ r' σ2, Same L σ r r' σ2 → Q2 r' σ2) → Ct mX12_bake (d2 + 10) 0 t [rv 321, iv c] σ1 Q2) → Q r σ1) : Ct mX11_bake (d + 10) 0 t [rv 1, iv c] σ Q := by
  have q := I.1.1
  have va := I.1.2.2.1
  refine c_X11_bake (h_holds okl_3 q.1 va.1 hc ⟨b01_R, fun z => ?_, fun z => ?_⟩)
  · have hf : fullB (mrow (σ 322)) c = true := by
      cases e : fullB (mrow (σ 322)) c with
      | true => rfl
      | false => exact absurd (b01_0.mpr e) z
    obtain ⟨c0, c8, _⟩ := fullB_t hf
    refine w_keep (d := d + 6) q va (fun σ1 q1 o1 => ?_)
    have v1 := AV_keep va
    have k01 := keepA_01 va
    have hf1 : fullB (mrow (keepA (σ 322))) c = true := by rw [fullB_agr (keepA_agr va)]; exact hf
    refine w_ruler (d := d + 8) q1 v1 ?_
    have hn := va.2.2.2.2.2.1.2
    have h1 := va.2.2.2.2.2.2
    have t1 : TxC σ1 (σ 322 0) L := TxC_same I.2.1.1 hn (fun x x0 x1 => o1 x (by omega) (by omega) (by omega) (by omega))
    refine h_sell (d := d + 5) (n := σ 322 0) okl_3 (by omega) q1.1 v1.1 t1 (by rw [k01.2]; exact h1) hn hc (fun y => by rw [hf1] at y; cases y) (fun _ σ2 q2 o2 => ?_)
    have vu := bakeR_RV (L := L) (k := keepA (σ 322) 1) v1.1 ⟨c0, c8⟩
    have w2 := WR_house q1 v1 vu q2 o2
    have o12 : offN σ σ2 := offN_tr o1 (offN_H o2)
    have e322 : σ2 322 = σ 322 := o12 322 (by omega) (by omega) (by omega) (by omega)
    have e321 : σ2 321 = σ 321 := o12 321 (by omega) (by omega) (by omega) (by omega)
    have e324 : σ2 324 = σ 324 := o12 324 (by omega) (by omega) (by omega) (by omega)
    have pi := priceL_in (L := L) (k := keepA (σ 322) 1) v1.1 ⟨c0, c8⟩
    refine k _ σ2 (Or.inr pi.1) (fun d2 Q2 k2 => ?_)
    refine c_X12_bake (m_isFull (d := d2 + 7) (by rw [e322]; exact va.1) hc ⟨b01_R, fun _ => ?_, fun y => ?_⟩)
    · refine m_keep (by rw [e322]; exact ⟨va.2.1.1, va.2.1.2.1⟩) ?_
      rw [e322]
      refine m_bakeNow (d := d2 + 3) (n := σ 322 0) (L := L) (A := keepA (σ 322)) (s := mrow (keepA (σ 322))) (by rw [sr_at, setM_mrow]) v1.1 (by rw [sr_ne (by decide), e321]; exact I.2.2.2) (TxM_same I.2.1.2.1 (by rw [sr_ne (by decide)]; exact e324)) I.2.1.2.2.1 (by rw [k01.2]; exact h1) hn ⟨c0, c8⟩ (fun σ3 e3 o3 => ?_)
      refine k2 _ _ ⟨rfl, rng (by omega) (by omega), ?_⟩
      exact I0_step I w2 (AV_house v1 vu) (by rw [setM_off (by omega)]; exact k01.1) o12 e3 (offM_tr offM_sr (offM_P o3))
    · rw [e322, hf] at y; cases y
  · have hf : fullB (mrow (σ 322)) c = false := b01_0.mp z
    refine k _ σ (Or.inl rfl) (fun d2 Q2 k2 => ?_)
    refine c_X12_bake (m_isFull (d := d2 + 7) va.1 hc ⟨b01_R, fun y => absurd (b01_0.mpr hf) y, fun _ => ?_⟩)
    exact k2 _ _ ⟨rfl, ⟨by decide, by decide⟩, I, frK_rf⟩
end ST
