/-! ===== a day, the reference ===== -/
/-- nothing but the row, the tired and the scratch of the laws -/
def offP (σ σ' : jM) : Prop := (∀ x, x ≠ 321 → x ≠ 322 → x ≠ 327 → x ≠ 328 → x ≠ 329 → σ' x = σ x) ∧ ∀ j, j ≠ 24 → σ' 321 j = σ 321 j
theorem offP_rf {σ : jM} : offP σ σ := ⟨fun _ _ _ _ _ _ => rfl, fun _ _ => rfl⟩
theorem offP_tr {σ σ1 σ2 : jM} (a : offP σ σ1) (b : offP σ1 σ2) : offP σ σ2 := ⟨fun x h1 h2 h3 h4 h5 => (b.1 x h1 h2 h3 h4 h5).trans (a.1 x h1 h2 h3 h4 h5), fun j hj => (b.2 j hj).trans (a.2 j hj)⟩
theorem offP_3 {σ σ' : jM} (a : off3 σ σ') : offP σ σ' := ⟨fun x _ _ h3 h4 h5 => a x h3 h4 h5, fun j _ => by rw [a 321 (by decide) (by decide) (by decide)]⟩
theorem offP_sr {σ : jM} {A : Int → Int} : offP σ (sr σ 322 A) := ⟨fun x _ h2 _ _ _ => sr_ne h2, fun j _ => by rw [sr_ne (by decide)]⟩
theorem eqr_rf {r : Int → Int} : eqr r r := fun _ _ _ => rfl
theorem eqr_sy {r s : Int → Int} (h : eqr r s) : eqr s r := fun i a b => (h i a b).symm
theorem eqr_tr {r s u : Int → Int} (h : eqr r s) (g : eqr s u) : eqr r u := fun i a b => (h i a b).trans (g i a b)
def agr (r s : Int → Int) : Prop := ∀ i, 0 ≤ i → i < 20 → i ≠ 3 → r i = s i
theorem agr_eqr {r s : Int → Int} (h : eqr r s) : agr r s := fun i a b _ => h i a (by omega)
theorem agr_rf {r : Int → Int} : agr r r := fun _ _ _ _ => rfl
theorem agr_sy {r s : Int → Int} (h : agr r s) : agr s r := fun i a b c => (h i a b c).symm
theorem agr_tr {r s u : Int → Int} (h : agr r s) (g : agr s u) : agr r u := fun i a b c => (h i a b c).trans (g i a b c)
theorem agr_wr {r s : Int → Int} {k v : Int} (h : agr r s) : agr (wr r k v) (wr s k v) := by
  intro i h0 h1 h3
  by_cases e : i = k
  · rw [wr_eq e, wr_eq e]
  · rw [wr_ne e, wr_ne e]; exact h i h0 h1 h3
/-- the laws see the first twenty numbers of a house alone, and not how many lines there are -/
def LQ (n : Int) (L : LT) : Prop := ∀ k, 0 ≤ k → k < n → ∀ r s c, agr r s → (0 ≤ c ∧ c < 8) → (∀ f, (L k).1 = some f → f r c = f s c) ∧ (∀ f, (L k).2 = some f → f r c = f s c)
theorem tiresL_agr {n : Int} {L : LT} {k : Int} {r s : Int → Int} {c : Int} (hL : LQ n L) (hk : k < n) (h : agr r s) (hc : 0 ≤ c ∧ c < 8) : tiresL L k r c = tiresL L k s c := by
  unfold tiresL
  by_cases e : k < 0
  · rw [if_pos e, if_pos e]
  · rw [if_neg e, if_neg e]
    have := (hL k (by omega) hk r s c h hc).1
    cases ef : (L k).1 with
    | none => rfl
    | some f => unfold lawV; simp only [this f ef]
theorem priceL_agr {n : Int} {L : LT} {k : Int} {r s : Int → Int} {c : Int} (hL : LQ n L) (hk : k < n) (h : agr r s) (hc : 0 ≤ c ∧ c < 8) : priceL L k r c = priceL L k s c := by
  unfold priceL
  have e4 := h (4 + c) (by omega) (by omega) (by omega)
  by_cases e : k < 0
  · rw [if_pos e, if_pos e]; exact e4
  · rw [if_neg e, if_neg e]
    have := (hL k (by omega) hk r s c h hc).2
    cases ef : (L k).2 with
    | none => exact e4
    | some f => unfold lawV; simp only [this f ef]
theorem fullB_agr {r s : Int → Int} {c : Int} (h : agr r s) : fullB r c = fullB s c := by
  cases e : fullB s c with
  | true =>
    obtain ⟨a, b, x⟩ := fullB_t e
    exact fullB_of a b (by rw [h (4 + c) (by omega) (by omega) (by omega)]; exact x)
  | false =>
    cases e2 : fullB r c with
    | false => rfl
    | true =>
      obtain ⟨a, b, x⟩ := fullB_t e2
      rw [fullB_of a b (by rw [← h (4 + c) (by omega) (by omega) (by omega)]; exact x)] at e
      cases e
theorem crockR_agr {r s : Int → Int} {n : Int} (h : agr r s) : crockR r n = crockR s n :=
  lowF_congr 8 0 (fun j h0 h1 => by
    show decide (r (4 + j) = n) = decide (s (4 + j) = n)
    rw [h (4 + j) (by omega) (by have h1 : j < 0 + (8 : Nat) := h1; omega) (by omega)])
theorem canB_agr {r s : Int → Int} {a b : Int} (h : agr r s) : canB r a b = canB s a b := by
  unfold canB
  rw [fullB_agr h, fullB_agr h, crockR_agr h]
  cases e : fullB s a with
  | false => rfl
  | true =>
    cases e2 : fullB s b with
    | false => rfl
    | true =>
      obtain ⟨a1, a2, _⟩ := fullB_t e
      obtain ⟨b1, b2, _⟩ := fullB_t e2
      rw [h (4 + a) (by omega) (by omega) (by omega), h (4 + b) (by omega) (by omega) (by omega)]
theorem drawR_eqr {r s : Int → Int} (h : eqr r s) : eqr (drawR r) (drawR s) := by
  unfold drawR
  rw [h 1 (by omega) (by omega)]
  exact eqr_wr h
theorem uniteR_eqr {r s : Int → Int} {a b : Int} (h : eqr r s) (v : RV r) (hc : canB r a b = true) : eqr (uniteR r a b) (uniteR s a b) := by
  obtain ⟨h1, h2, h3, h4⟩ := canB_t hc
  obtain ⟨a1, a2, a3⟩ := fullB_t h1
  obtain ⟨b1, b2, b3⟩ := fullB_t h2
  unfold uniteR
  rw [← crockR_agr (agr_eqr h), ← h (4 + a) (by omega) (by omega), ← h (4 + b) (by omega) (by omega), ← h 0 (by omega) (by omega)]
  exact eqr_writeR (eqr_wr (eqr_wr h)) (by rw [wr_ne (by omega), wr_ne (by omega)]; exact v.2.2.2.1)
theorem emptyR_eqr {r s : Int → Int} {c w : Int} (h : eqr r s) (v : RV r) (hc : 0 ≤ c ∧ c < 8) : eqr (emptyR r c w) (emptyR s c w) := by
  unfold emptyR
  rw [← h (4 + c) (by omega) (by omega), ← h 0 (by omega) (by omega)]
  exact eqr_writeR (eqr_wr (eqr_wr h)) (by rw [wr_ne (by omega), wr_ne (by omega)]; exact v.2.2.2.1)
theorem setM_put {A s : Int → Int} {k v : Int} (h : 0 ≤ k ∧ k < 20) : wr (setM A s) (6 + k) v = setM A (wr s k v) := by
  rw [setM_wr h, setM_setM]
  exact setM_congr (eqr_wr mrow_setM)
section MD
variable {d : Nat} {t : Int} {Q : Int → jM → Prop} {σ : jM} {L : LT} {n k c : Int}
theorem m_writeW {w : Bool} {wh c p : Int} (v : RV (mrow (σ 322))) (hw : σ 321 23 = b01 w) (k : Q 0 (sr σ 322 (setM (σ 322) (if w then writeR (mrow (σ 322)) ((mrow (σ 322) 0 * 4 + wh) * 8 + c) p else mrow (σ 322))))) : Ct mX12_write d 9 t [rv 321, iv wh, iv c, iv p] σ Q := by
  cases w with
  | true => exact m_write v hw k
  | false =>
    have e : σ 321 23 = 0 := hw
    have k : Q 0 (sr σ 322 (setM (σ 322) (mrow (σ 322)))) := k
    rw [setM_mrow, sr_id] at k
    refine c_X12_write ?_
    rw [e]
    exact ⟨⟨by decide, by decide⟩, fun z => absurd rfl z, fun _ => k⟩
theorem m_pass {w : Bool} {A s : Int → Int} (hA : σ 322 = setM A s) (v : RV s) (hw : σ 321 23 = b01 w) (hT : TxM σ n L) (hL : LQ n L) (hk : -1 ≤ A 1 ∧ A 1 < n) (hn : n ≤ 4) (hd : s 0 < 9999) (kk : ∀ σ', σ' 322 = setM A (passR w L (A 1) s) → offP σ σ' → σ' 321 24 = σ 321 24 + passN w L (A 1) s → Q 0 σ') : Ct mX12_pass (d + 5 + 1) 9 t [rv 321] σ Q := by
  refine c_X12_pass ?_
  have loop : ∀ (j : Nat) (i : Int) (s : Int → Int) (τ : jM), 0 ≤ i → i + j = 8 → τ 322 = setM A s → RV s → s 0 < 9999 → offP σ τ → (∀ σ', σ' 322 = setM A (passF w L (A 1) j i s) → offP σ σ' → σ' 321 24 = τ 321 24 + passG w L (A 1) j i s → Q 0 σ') → Jt mX12_pass (d + 5 + 1) 9 t Q 2 [rv 321, iv i] [] τ := by
    intro j
    induction j with
    | zero =>
      intro i s τ i0 hi hs vs ds os k1
      have e6 : τ 322 6 = s 0 := by
        have := mrow_setM (A := A) (r := s) 0 (by omega) (by omega)
        rw [mrow_lo (by omega), show (6 : Int) + 0 = 6 by omega] at this
        rw [hs]; exact this
      refine b_X12_pass_2 ⟨rng (by omega) (by omega), fun _ => ⟨by decide, by decide, fun σ3 e3 => ?_⟩, fun z => absurd z (by omega)⟩
      rw [e6] at e3
      refine k1 σ3 ?_ (offP_tr os ⟨fun x _ x2 _ _ _ => by rw [e3, up_row x2], fun j _ => by rw [e3, up_row (by decide)]⟩) (by rw [e3, up_row (by decide), passG]; omega)
      rw [e3, up_sr, sr_at, hs, passF]
      exact setM_put (k := 0) (by omega)
    | succ j ih =>
      intro i s τ i0 hi hs vs ds os k1
      have hc : 0 ≤ i ∧ i < 8 := ⟨i0, by omega⟩
      have es : eqr (mrow (τ 322)) s := by rw [hs]; exact mrow_setM
      have vm : RV (mrow (τ 322)) := RV_congr (eqr_sy es) vs
      have g := vs.2.2.2.2.1 i hc.1 hc.2
      have hw' : τ 321 23 = b01 w := by rw [os.2 23 (by decide)]; exact hw
      have hT' : TxM τ n L := TxM_same hT (os.1 324 (by decide) (by decide) (by decide) (by decide) (by decide))
      rw [passF, passG] at k1
      refine b_X12_pass_2 ⟨rng (by omega) (by omega), fun z => absurd z (by omega), fun z => ?_⟩
      refine m_isFull (d := d + 3) vm (rng (by omega) (by omega)) ?_
      rw [fullB_agr (agr_eqr es)]
      refine ⟨b01_R, fun y => ⟨by omega, ?_⟩, fun y => ?_⟩
      · have fa : fullB s i = true := by
          cases e : fullB s i with
          | true => rfl
          | false => exact absurd (b01_0.mpr e) y
        have y0 : ¬ s (4 + i) = 0 := by have := fullB_t fa; omega
        have e18 : τ 322 (18 + i) = s (12 + i) := by
          have := es (12 + i) (by omega) (by omega)
          rw [mrow_lo (by omega), show 6 + (12 + i) = 18 + i by omega] at this
          exact this
        rw [e18]
        refine ⟨rng (by omega) (by omega), m_held (rngL (by omega) (by omega)) in0 ⟨by decide, by decide⟩ ⟨by omega, fun σ9 e9 => ?_⟩⟩
        have em : (if s (12 + i) + 1 < 0 then 0 else if 99 < s (12 + i) + 1 then 99 else s (12 + i) + 1) = min 99 (s (12 + i) + 1) := by
          rw [if_neg (by omega)]
          split <;> omega
        rw [em] at e9
        have h9 : σ9 322 = setM A (ageR s i) := by
          rw [e9, up_sr, sr_at, hs, show 18 + i = 6 + (12 + i) by omega]
          exact setM_put (by omega)
        have o9 : offP τ σ9 := ⟨fun x _ x2 _ _ _ => by rw [e9, up_row x2], fun j _ => by rw [e9, up_row (by decide)]⟩
        have t9 : σ9 321 24 = τ 321 24 := by rw [e9, up_row (by decide)]
        have v9 := ageR_RV vs hc
        have es9 : eqr (mrow (σ9 322)) (ageR s i) := by rw [h9]; exact mrow_setM
        have vm9 : RV (mrow (σ9 322)) := RV_congr (eqr_sy es9) v9
        refine m_drawnBy10 (d := d + 4) vm9 ⟨by decide, ?_⟩
        obtain ⟨σa, ea⟩ : ∃ σa, σa = sr σ9 322 (setM (σ9 322) (drawR (mrow (σ9 322)))) := ⟨_, rfl⟩
        rw [← ea]
        have ha : σa 322 = setM A (drawR (ageR s i)) := by
          rw [ea, sr_at, setM_congr (drawR_eqr es9), h9, setM_setM]
        have va := drawR_RV v9
        have esa : eqr (mrow (σa 322)) (drawR (ageR s i)) := by rw [ha]; exact mrow_setM
        have vma : RV (mrow (σa 322)) := RV_congr (eqr_sy esa) va
        have oa : offP τ σa := offP_tr o9 (by rw [ea]; exact offP_sr)
        have ta : σa 321 24 = τ 321 24 := by rw [ea, sr_ne (by decide)]; exact t9
        have a1 : σa 322 1 = A 1 := by rw [ha]; exact setM_off (by omega)
        have e1 : mrow (σ9 322) 1 = s 1 := by
          rw [es9 1 (by omega) (by omega)]
          unfold ageR
          rw [wr_ne (by omega)]
        have s1 := vs.2.1
        rw [a1, e1]
        refine m_tiresOf (n := n) (L := L) vma hc (TxM_same hT' (oa.1 324 (by decide) (by decide) (by decide) (by decide) (by decide))) hk hn (fun σb ob => ?_)
        rw [tiresL_agr hL hk.2 (agr_eqr esa) hc]
        have hb : σb 322 = setM A (drawR (ageR s i)) := by rw [ob 322 (by decide) (by decide) (by decide)]; exact ha
        have ob' : offP τ σb := offP_tr oa (offP_3 ob)
        have tb : σb 321 24 = τ 321 24 := by rw [ob 321 (by decide) (by decide) (by decide)]; exact ta
        have ti := tiresL_in (L := L) (k := A 1) (r := drawR (ageR s i)) (c := i)
        refine ⟨rng (by omega) (by omega), rng (by omega) (by omega), fun x => ?_, fun x => ?_⟩
        · have hit : hitB L (A 1) s i = true := by unfold hitB; simp; omega
          have eS : dayS w L (A 1) s i = tireW w (drawR (ageR s i)) i := by unfold dayS; rw [if_neg y0, hit]; rfl
          have eN : dayN L (A 1) s i = 1 := by unfold dayN; rw [if_neg y0, hit]; rfl
          rw [eS, eN] at k1
          obtain ⟨u, eu⟩ : ∃ u, u = drawR (ageR s i) := ⟨_, rfl⟩
          rw [← eu] at va hb k1
          have u0 : u 0 = s 0 := by rw [eu]; unfold drawR ageR; rw [wr_ne (by omega), wr_ne (by omega)]
          have gu := va.2.2.2.2.1 i hc.1 hc.2
          have b10 : σb 322 (10 + i) = u (4 + i) := by
            rw [hb]
            have := mrow_setM (A := A) (r := u) (4 + i) (by omega) (by omega)
            rw [mrow_lo (by omega), show 6 + (4 + i) = 10 + i by omega] at this
            exact this
          rw [b10]
          refine ⟨by omega, rng (by omega) (by omega), by omega, fun σ16 e16 => ⟨by omega, ?_⟩⟩
          rw [td (by omega)] at e16
          have h16 : σ16 322 = setM A (wr u (4 + i) (u (4 + i) / 2)) := by
            rw [e16, up_sr, sr_at, hb, show 10 + i = 6 + (4 + i) by omega]
            exact setM_put (by omega)
          have c10 : σ16 322 (10 + i) = u (4 + i) / 2 := by rw [e16, up_at]
          rw [c10]
          have v16 : RV (wr u (4 + i) (u (4 + i) / 2)) := wr_RV va (by omega) (by omega) (by omega) (by omega) (by omega) (by omega)
          have fin : ∀ (σx : jM), σx 322 = setM A (cutR u i) → offP τ σx → σx 321 24 = τ 321 24 + 1 → σx 322 (10 + i) = u (4 + i) / 2 → Ct mX12_write (d + 5) 9 t [rv 321, iv 3, iv i, iv (σx 322 (10 + i))] σx (fun _ σ' => Jt mX12_pass (d + 5 + 1) 9 t Q 2 [rv 321, iv (i + 1)] [] σ') := by
            intro σx hx ox tx px
            rw [px]
            have esx : eqr (mrow (σx 322)) (cutR u i) := by rw [hx]; exact mrow_setM
            have vx := cutR_RV va hc
            have c0 := cutR_0 (r := u) hc
            have vmx : RV (mrow (σx 322)) := RV_congr (eqr_sy esx) vx
            refine m_writeW (w := w) vmx (by rw [ox.2 23 (by decide)]; exact hw') ?_
            have hfin : setM (σx 322) (if w then writeR (mrow (σx 322)) ((mrow (σx 322) 0 * 4 + 3) * 8 + i) (u (4 + i) / 2) else mrow (σx 322)) = setM A (tireW w u i) := by
              rw [esx 0 (by omega) (by omega), c0]
              rw [hx, setM_setM]
              rw [hx] at esx vmx
              cases w with
              | true =>
                have q : eqr (writeR (mrow (setM A (cutR u i))) ((u 0 * 4 + 3) * 8 + i) (u (4 + i) / 2)) (tireR u i) := eqr_writeR esx vmx.2.2.2.1
                exact setM_congr q
              | false => exact setM_congr esx
            rw [hfin]
            refine ih (i + 1) (tireW w u i) _ (by omega) (by omega) (by rw [sr_at]) (tireW_RV va hc) (by rw [tireW_0 va hc, u0]; exact ds) (offP_tr os (offP_tr ox offP_sr)) (fun σ' x1 x2 x3 => k1 σ' x1 x2 ?_)
            rw [x3, sr_ne (by decide), tx]
            omega
          refine ⟨rng (by omega) (by omega), fun z0 => ?_, fun z0 => ?_⟩
          · intro σ18 e18'
            refine ⟨by omega, fin σ18 ?_ (offP_tr ob' ⟨fun x x1 x2 _ _ _ => by rw [e18', up_row x1, e16, up_row x2], fun j hj => by rw [e18', up_ne (Or.inr hj), e16, up_row (by decide)]⟩) ?_ ?_⟩
            · rw [e18', up_row (by decide), h16]
              unfold cutR
              rw [if_neg z0]
            · rw [e18', up_at, e16, up_row (by decide), tb]
            · rw [e18', up_row (by decide)]; exact c10
          · refine ⟨by omega, fun σ21 e21 σ22 e22 => ⟨by omega, fin σ22 ?_ (offP_tr ob' ⟨fun x x1 x2 _ _ _ => by rw [e22, up_row x1, e21, up_row x2, e16, up_row x2], fun j hj => by rw [e22, up_ne (Or.inr hj), e21, up_row (by decide), e16, up_row (by decide)]⟩) ?_ ?_⟩⟩
            · rw [e22, up_row (by decide), e21, up_sr, sr_at, h16, show 18 + i = 6 + (12 + i) by omega, setM_put (by omega)]
              unfold cutR
              rw [if_pos z0]
            · rw [e22, up_at, e21, up_row (by decide), e16, up_row (by decide), tb]
            · rw [e22, up_row (by decide), e21, up_ne (by omega)]; exact c10
        · have hit : hitB L (A 1) s i = false := by unfold hitB; simp; omega
          have eS : dayS w L (A 1) s i = drawR (ageR s i) := by unfold dayS; rw [if_neg y0, hit]; rfl
          have eN : dayN L (A 1) s i = 0 := by unfold dayN; rw [if_neg y0, hit]; rfl
          rw [eS, eN] at k1
          refine ih (i + 1) _ σb (by omega) (by omega) hb va ?_ (offP_tr os ob') (fun σ' x1 x2 x3 => k1 σ' x1 x2 (by rw [x3, tb]; omega))
          unfold drawR ageR; rw [wr_ne (by omega), wr_ne (by omega)]; exact ds
      · have y0 : s (4 + i) = 0 := by
          have f := b01_0.mp y
          rcases Int.lt_or_eq_of_le g.1 with x | x
          · rw [fullB_of hc.1 hc.2 x] at f; cases f
          · exact x.symm
        have eS : dayS w L (A 1) s i = s := by unfold dayS; rw [if_pos y0]
        have eN : dayN L (A 1) s i = 0 := by unfold dayN; rw [if_pos y0]
        rw [eS, eN] at k1
        exact ih (i + 1) s τ (by omega) (by omega) hs vs ds os (fun σ' x1 x2 x3 => k1 σ' x1 x2 (by rw [x3]; omega))
  exact loop 8 0 s σ (by omega) (by omega) hA v hd offP_rf kk
end MD
