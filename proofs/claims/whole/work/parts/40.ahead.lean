/-! ===== foretold, whose alike ===== -/
theorem ageR_agr {r s : Int → Int} {c : Int} (h : agr r s) (hc : 0 ≤ c ∧ c < 8) : agr (ageR r c) (ageR s c) := by
  unfold ageR
  rw [h (12 + c) (by omega) (by omega) (by omega)]
  exact agr_wr h
theorem drawR_agr {r s : Int → Int} (h : agr r s) : agr (drawR r) (drawR s) := by
  unfold drawR
  rw [h 1 (by omega) (by omega) (by omega)]
  exact agr_wr h
theorem cutR_agr {r s : Int → Int} {c : Int} (h : agr r s) (hc : 0 ≤ c ∧ c < 8) : agr (cutR r c) (cutR s c) := by
  unfold cutR
  rw [h (4 + c) (by omega) (by omega) (by omega)]
  split
  · exact agr_wr (agr_wr h)
  · exact agr_wr h
theorem cutR_3 {r : Int → Int} {c : Int} (hc : 0 ≤ c ∧ c < 8) : cutR r c 3 = r 3 := by
  unfold cutR
  split
  · rw [wr_ne (by omega), wr_ne (by omega)]
  · rw [wr_ne (by omega)]
theorem tireR_agr {r s : Int → Int} {c : Int} (h : agr r s) (v : RV r) (hc : 0 ≤ c ∧ c < 8) : agr (tireR r c) (cutR s c) := by
  intro i i0 i1 i3
  show writeR (cutR r c) _ _ i = _
  rw [writeR_lo i3 i1 (by rw [cutR_3 hc]; exact v.2.2.2.1.1) (by rw [cutR_3 hc]; exact v.2.2.2.1.2)]
  exact cutR_agr h hc i i0 i1 i3
theorem dayS_agr {n : Int} {L : LT} {k : Int} {r s : Int → Int} {c : Int} (hL : LQ n L) (hk : k < n) (h : agr r s) (v : RV r) (hc : 0 ≤ c ∧ c < 8) : agr (dayS true L k r c) (dayS false L k s c) := by
  have h1 := drawR_agr (ageR_agr h hc)
  have eh : hitB L k r c = hitB L k s c := by
    unfold hitB
    rw [tiresL_agr hL hk h1 hc, h 1 (by omega) (by omega) (by omega)]
  unfold dayS
  rw [eh, h (4 + c) (by omega) (by omega) (by omega)]
  split
  · exact h
  · split
    · exact tireR_agr h1 (drawR_RV (ageR_RV v hc)) hc
    · exact h1
theorem passF_agr {n : Int} {L : LT} {k : Int} (hL : LQ n L) (hk : k < n) : ∀ (j : Nat) (c : Int) (r s : Int → Int), 0 ≤ c → c + j ≤ 8 → agr r s → RV r → agr (passF true L k j c r) (passF false L k j c s)
  | 0, c, r, s, h0, h1, h, v => by
    rw [passF, passF, h 0 (by omega) (by omega) (by omega)]
    exact agr_wr h
  | j + 1, c, r, s, h0, h1, h, v => passF_agr hL hk j (c + 1) _ _ (by omega) (by omega) (dayS_agr hL hk h v ⟨h0, by omega⟩) (dayS_RV v ⟨h0, by omega⟩)
theorem passR_agr {n : Int} {L : LT} {k : Int} {r s : Int → Int} (hL : LQ n L) (hk : k < n) (h : agr r s) (v : RV r) : agr (passR true L k r) (passR false L k s) := passF_agr hL hk 8 0 r s (by omega) (by omega) h v
theorem dayS_hi {L : LT} {k : Int} {r : Int → Int} {c i : Int} (hc : 0 ≤ c ∧ c < 8) (hi : 20 ≤ i ∨ i = 3) : dayS false L k r c i = r i := by
  have e1 : ∀ s : Int → Int, drawR (ageR s c) i = s i := fun s => by
    unfold drawR ageR
    rw [wr_ne (by omega), wr_ne (by omega)]
  unfold dayS
  split
  · rfl
  · split
    · show cutR _ c i = _
      unfold cutR
      split
      · rw [wr_ne (by omega), wr_ne (by omega)]; exact e1 r
      · rw [wr_ne (by omega)]; exact e1 r
    · exact e1 r
theorem passF_hi {L : LT} {k i : Int} (hi : 20 ≤ i ∨ i = 3) : ∀ (j : Nat) (c : Int) (r : Int → Int), 0 ≤ c → c + j ≤ 8 → passF false L k j c r i = r i
  | 0, c, r, _, _ => by rw [passF, wr_ne (by omega)]
  | j + 1, c, r, h0, h1 => by rw [passF, passF_hi hi j (c + 1) _ (by omega) (by omega), dayS_hi ⟨h0, by omega⟩ hi]
theorem passR_hi {L : LT} {k i : Int} {r : Int → Int} (hi : 20 ≤ i ∨ i = 3) : passR false L k r i = r i := passF_hi hi 8 0 r (by omega) (by omega)
/-- so many days ahead, or those that can be -/
def fore (w : Bool) (L : LT) (k : Int) : Nat → (Int → Int) → (Int → Int)
  | 0, r => r
  | j + 1, r => if r 0 < 9999 then fore w L k j (passR w L k r) else r
theorem fore_stop {w : Bool} {L : LT} {k : Int} {r : Int → Int} (h : ¬ r 0 < 9999) : ∀ j, fore w L k j r = r
  | 0 => rfl
  | j + 1 => by rw [fore, if_neg h]
theorem fore_RV {w : Bool} {L : LT} {k : Int} : ∀ (j : Nat) {r : Int → Int}, RV r → RV (fore w L k j r)
  | 0, _, v => v
  | j + 1, r, v => by
    rw [fore]
    split
    · rename_i h; exact fore_RV j (passR_RV v h).1
    · exact v
theorem fore_agr {n : Int} {L : LT} {k : Int} (hL : LQ n L) (hk : k < n) : ∀ (j : Nat) {r s : Int → Int}, agr r s → RV r → agr (fore true L k j r) (fore false L k j s)
  | 0, _, _, h, _ => h
  | j + 1, r, s, h, v => by
    rw [fore, fore, ← h 0 (by omega) (by omega) (by omega)]
    split
    · rename_i e; exact fore_agr hL hk j (passR_agr hL hk h v) (passR_RV v e).1
    · exact h
theorem fore_hi {L : LT} {k i : Int} (hi : 20 ≤ i ∨ i = 3) : ∀ (j : Nat) (r : Int → Int), fore false L k j r i = r i
  | 0, _ => rfl
  | j + 1, r => by
    rw [fore]
    split
    · rw [fore_hi hi j, passR_hi hi]
    · rfl
section FT
variable {t : Int} {L : LT} {σ : jM}
theorem a_foretold {p c : Int} (d : Nat) (I : I0 L σ) (hp : inR p) (hc : inR c) {Q : Int → jM → Prop} (k : ∀ r σ1, (∀ (d2 : Nat) Q2, (∀ r' σ2, Same L σ r r' σ2 → Q2 r' σ2) → Ct mX12_foretold (d2 + 11) 0 t [rv 321, iv p, iv c] σ1 Q2) → Q r σ1) : Ct mX11_foretold (d + 11) 0 t [rv 1, iv p, iv c] σ Q := by
  have q := I.1.1
  have va := I.1.2.2.1
  have hn := va.2.2.2.2.2.1.2
  have h1 := va.2.2.2.2.2.2
  have bad : (p < 1 ∨ 60 < p ∨ c < 0 ∨ 8 ≤ c) → Q (-1) σ := fun hb => k _ σ (fun d2 Q2 k2 => c_X12_foretold (m_isIn hp ⟨by decide, by decide⟩ ⟨by decide, by decide⟩ ⟨b01_R, fun _ => same0 I ⟨by decide, by decide⟩ k2, fun z => m_isCrock (d := d2 + 9) hc ⟨b01_R, fun y => by have := inB_t (b01_1 z); have := inB_t (b01_1 y); omega, fun _ => same0 I ⟨by decide, by decide⟩ k2⟩⟩))
  refine c_X11_foretold ⟨hp, fun z => bad (by omega), fun z => ⟨hp, fun y => bad (by omega), fun y => ⟨hc, fun x => bad (by omega), fun x => ⟨hc, fun u => ?_, fun u => bad (by omega)⟩⟩⟩⟩
  have hc8 : 0 ≤ c ∧ c < 8 := ⟨x, u⟩
  refine h_copyFrom (d := d + 8) okl_266 okl_3 (by omega) q.1 (fun σ5 q5 o5 => ?_)
  have o5' : offN σ σ5 := fun x x1 x2 _ _ => o5 x (by omega)
  have loop : ∀ (j : Nat) (i : Int) (s : Int → Int) (τ : jM), 0 ≤ i → i + j = p → HR τ 266 s → RV s → (∀ x, ¬ (266 ≤ x ∧ x ≤ 269) → x ≠ 273 → x ≠ 274 → τ x = σ x) → (∀ σ', HR σ' 266 (fore true L (σ 322 1) j s) → (∀ x, ¬ (266 ≤ x ∧ x ≤ 269) → x ≠ 273 → x ≠ 274 → σ' x = σ x) → Q (fore true L (σ 322 1) j s (4 + c)) σ') → Jt mX11_foretold (d + 11) 0 t Q 39 [rv 1, iv p, iv c, iv i] [] τ := by
    intro j
    induction j with
    | zero =>
      intro i s τ i0 hi qs vs os k1
      refine b_X11_foretold_39 ⟨rng (by omega) (by omega), hp, fun _ => ⟨hc8, ?_⟩, fun w => absurd w (by omega)⟩
      rw [show τ 267 c = s (4 + c) from (qs.2.2.2.2.2.1 c x u).1]
      exact k1 τ qs os
    | succ j ih =>
      intro i s τ i0 hi qs vs os k1
      rw [fore] at k1
      have v0 := vs.1
      refine b_X11_foretold_39 ⟨rng (by omega) (by omega), hp, fun w => absurd w (by omega), fun _ => ?_⟩
      rw [show τ 266 6 = s 0 from qs.1]
      refine ⟨rng (by omega) (by omega), fun w => ⟨hc8, ?_⟩, fun w => ?_⟩
      · rw [if_neg (by omega)] at k1
        rw [show τ 267 c = s (4 + c) from (qs.2.2.2.2.2.1 c x u).1]
        exact k1 τ qs os
      · rw [if_pos w] at k1
        have qW : WR τ 2 (σ 322) := WR_same q (fun x x0 x1 => os x (by omega) (by omega) (by omega))
        refine w_ruler (d := d + 9) qW va ?_
        refine h_passDay (d := d + 6) (n := σ 322 0) (L := L) okl_266 (by omega) qs vs (TxC_same I.2.1.1 hn (fun x x0 x1 => os x (by omega) (by omega) (by omega))) h1 hn w (fun σ' q' o' => ?_)
        exact ih (i + 1) _ σ' (by omega) (by omega) q' (passR_RV vs w).1 (fun x x1 x2 x3 => by rw [o' x (by omega) x2 x3]; exact os x x1 x2 x3) k1
  refine loop p.toNat 0 (mrow (σ 322)) σ5 (by omega) (by omega) q5 va.1 (fun x x1 _ _ => o5 x (by omega)) (fun σ1 q1 o1 => ?_)
  have oN : offN σ σ1 := fun x _ x2 x3 x4 => o1 x x2 x3 x4
  have e322 : σ1 322 = σ 322 := o1 322 (by omega) (by omega) (by omega)
  have e321 : σ1 321 = σ 321 := o1 321 (by omega) (by omega) (by omega)
  have e324 : σ1 324 = σ 324 := o1 324 (by omega) (by omega) (by omega)
  have vfin := fore_RV (w := true) (L := L) (k := σ 322 1) p.toNat va.1
  have gfin := vfin.2.2.2.2.1 c x u
  refine k _ σ1 (fun d2 Q2 k2 => c_X12_foretold (m_isIn hp ⟨by decide, by decide⟩ ⟨by decide, by decide⟩ ⟨b01_R, fun w => by have := inB_f (b01_0.mp w); omega, fun _ => m_isCrock (d := d2 + 9) hc ⟨b01_R, fun _ => ?_, fun w => by have := inB_f (b01_0.mp w); omega⟩⟩))
  -- what is laid aside
  have l22 : ∀ (j : Nat) (i : Int) (τ : jM), 6 ≤ i → i + j = 26 → (∀ x, x ≠ 330 → τ x = σ1 x) → (∀ x, 6 ≤ x → x < i → τ 330 x = σ 322 x) → (∀ τ', (∀ x, x ≠ 330 → τ' x = σ1 x) → (∀ x, 6 ≤ x → x < 26 → τ' 330 x = σ 322 x) → ∀ σ2, σ2 = up τ' 321 23 0 → Jt mX12_foretold (d2 + 11) 0 t Q2 53 [rv 321, iv p, iv c, iv 0, uv] [] σ2) → Jt mX12_foretold (d2 + 11) 0 t Q2 22 [rv 321, iv p, iv c, iv i, uv] [] τ := by
    intro j
    induction j with
    | zero =>
      intro i τ i0 hi r1 r2 k3
      exact b_X12_foretold_22 ⟨rng (by omega) (by omega), fun _ => k3 τ r1 (fun x x0 x1 => r2 x x0 (by omega)), fun w => absurd w (by omega)⟩
    | succ j ih =>
      intro i τ i0 hi r1 r2 k3
      refine b_X12_foretold_22 ⟨rng (by omega) (by omega), fun w => absurd w (by omega), fun w => ⟨by omega, by omega, fun σ4 e4 => ?_⟩⟩
      refine ih (i + 1) σ4 (by omega) (by omega) (fun x hx => by rw [e4, up_row hx]; exact r1 x hx) (fun x x0 x1 => ?_) k3
      by_cases ex : x = i
      · rw [e4, ex, up_at, r1 322 (by decide), e322]
      · rw [e4, up_ne (Or.inr ex)]; exact r2 x x0 (by omega)
  refine l22 20 6 σ1 (by omega) (by omega) (fun _ _ => rfl) (fun x x0 x1 => absurd x1 (by omega)) (fun τ1 r1 r2 σ2 e2 => ?_)
  -- days that aren't written down
  have h53 : σ2 322 = setM (σ 322) (mrow (σ 322)) := by rw [e2, up_row (by decide), r1 322 (by decide), e322, setM_mrow]
  have b53 : σ2 321 23 = b01 false := by rw [e2, up_at]; rfl
  have last : ∀ (τ : jM) (s : Int → Int), τ 322 = setM (σ 322) s → s (4 + c) = fore true L (σ 322 1) p.toNat (mrow (σ 322)) (4 + c) → (∀ i, 20 ≤ i ∨ i = 3 → s i = mrow (σ 322) i) → offP σ2 τ → Jt mX12_foretold (d2 + 11) 0 t Q2 95 [rv 321, iv p, iv c, iv (s (4 + c)), iv 6] [] τ := by
    intro τ s hs hsc hhi ot
    have l95 : ∀ (j : Nat) (i : Int) (τ' : jM), 6 ≤ i → i + j = 26 → (∀ x, x ≠ 322 → τ' x = τ x) → (∀ x, (x < i ∨ 26 ≤ x) → τ' 322 x = σ 322 x) → Jt mX12_foretold (d2 + 11) 0 t Q2 95 [rv 321, iv p, iv c, iv (s (4 + c)), iv i] [] τ' := by
      intro j
      induction j with
      | zero =>
        intro i τ' i0 hi s1 s2
        refine b_X12_foretold_95 ⟨rng (by omega) (by omega), fun _ σ9 e9 => ?_, fun w => absurd w (by omega)⟩
        rw [hsc]
        have f322 : σ9 322 = σ 322 := by
          rw [e9, up_row (by decide)]
          funext x
          exact s2 x (by omega)
        refine k2 _ _ ⟨rfl, rng (by omega) (by omega), I0_step (σ1 := σ1) I (WR_same q (fun x x0 x1 => o1 x (by omega) (by omega) (by omega))) va rfl oN f322 ⟨fun x x1 x2 x3 => ?_, fun j hj => ?_⟩⟩
        · rw [e9, up_row x1, s1 x x2, ot.1 x x1 x2 (by omega) (by omega) (by omega), e2, up_row x1, r1 x (by omega)]
        · by_cases ej : j = 23
          · rw [e9, ej, up_at, e321]; exact I.2.2.2.symm
          · rw [e9, up_ne (Or.inr ej), s1 321 (by decide), ot.2 j (by omega), e2, up_ne (Or.inr ej), r1 321 (by decide)]
      | succ j ih =>
        intro i τ' i0 hi s1 s2
        refine b_X12_foretold_95 ⟨rng (by omega) (by omega), fun w => absurd w (by omega), fun w => ⟨by omega, by omega, fun σ4 e4 => ?_⟩⟩
        have a330 : τ' 330 i = σ 322 i := by
          rw [s1 330 (by decide), ot.1 330 (by decide) (by decide) (by decide) (by decide) (by decide), e2, up_row (by decide)]
          exact r2 i i0 (by omega)
        rw [a330] at e4
        refine ih (i + 1) σ4 (by omega) (by omega) (fun x hx => by rw [e4, up_row hx]; exact s1 x hx) (fun x hx => ?_)
        by_cases ex : x = i
        · rw [e4, ex, up_at]
        · rw [e4, up_ne (Or.inr ex)]; exact s2 x (by omega)
    refine l95 20 6 τ (by omega) (by omega) (fun _ _ => rfl) (fun x hx => ?_)
    rw [hs]
    unfold setM
    rw [if_neg (by omega)]
    by_cases h2 : 2158 ≤ x ∧ x < 2208
    · rw [if_pos h2, hhi _ (by omega), mrow_hi (by omega), show 2138 + (x - 2138) = x by omega]
    · rw [if_neg h2]
  have l53 : ∀ (j : Nat) (i : Int) (s : Int → Int) (τ : jM), 0 ≤ i → i + j = p → τ 322 = setM (σ 322) s → RV s → offP σ2 τ → (fore false L (σ 322 1) j s = fore false L (σ 322 1) p.toNat (mrow (σ 322))) → Jt mX12_foretold (d2 + 11) 0 t Q2 53 [rv 321, iv p, iv c, iv i, uv] [] τ := by
    intro j
    induction j with
    | zero =>
      intro i s τ i0 hi hs vs os hf
      have hf : s = fore false L (σ 322 1) p.toNat (mrow (σ 322)) := hf
      have e10 : τ 322 (10 + c) = s (4 + c) := by
        rw [hs]
        have := mrow_setM (A := σ 322) (r := s) (4 + c) (by omega) (by omega)
        rw [mrow_lo (by omega), show 6 + (4 + c) = 10 + c by omega] at this
        exact this
      refine b_X12_foretold_53 ⟨rng (by omega) (by omega), hp, fun _ => ⟨by omega, ?_⟩, fun w => absurd w (by omega)⟩
      rw [e10]
      refine last τ s hs ?_ (fun i hi => by rw [hf]; exact fore_hi hi _ _) os
      rw [hf]
      exact (fore_agr I.2.1.2.2.1 h1.2 p.toNat agr_rf va.1 (4 + c) (by omega) (by omega) (by omega)).symm
    | succ j ih =>
      intro i s τ i0 hi hs vs os hf
      rw [fore] at hf
      have v0 := vs.1
      have e6 : τ 322 6 = s 0 := by
        rw [hs]
        have := mrow_setM (A := σ 322) (r := s) 0 (by omega) (by omega)
        rw [mrow_lo (by omega), show (6 : Int) + 0 = 6 by omega] at this
        exact this
      refine b_X12_foretold_53 ⟨rng (by omega) (by omega), hp, fun w => absurd w (by omega), fun _ => ⟨by decide, ?_⟩⟩
      rw [e6]
      refine ⟨rng (by omega) (by omega), fun w => ?_, fun w => ?_⟩
      · rw [if_neg (by omega)] at hf
        exact ih (i + 1) s τ (by omega) (by omega) hs vs os (by rw [fore_stop (by omega)]; exact hf)
      · rw [if_pos w] at hf
        refine m_pass (d := d2 + 4) (w := false) (n := σ 322 0) (L := L) hs vs (by rw [os.2 23 (by decide)]; exact b53) (TxM_same I.2.1.2.1 (by rw [os.1 324 (by decide) (by decide) (by decide) (by decide) (by decide), e2, up_row (by decide), r1 324 (by decide)]; exact e324)) I.2.1.2.2.1 h1 hn w (fun σ4 q4 o4 _ => ?_)
        exact ih (i + 1) _ σ4 (by omega) (by omega) q4 (passR_RV vs w).1 (offP_tr os o4) hf
  exact l53 p.toNat 0 _ σ2 (by omega) (by omega) h53 va.1 offP_rf rfl
/-- which texts agree with what is said -/
def agB (L : LT) (A : Int → Int) (k : Int) : Nat → Int → Bool
  | 0, _ => true
  | j + 1, i => if tiresL L k (mrow A) (A (42 + 2 * i)) = A (43 + 2 * i) then agB L A k j (i + 1) else false
theorem w_agrees {kk : Int} {Q : Int → jM → Prop} (d : Nat) (I : I0 L σ) {τ : jM} (ot : off2 σ τ) (hk : 0 ≤ kk ∧ kk < σ 322 0) (k : ∀ σ', off2 σ σ' → Q (b01 (agB L (σ 322) kk (σ 322 5).toNat 0)) σ') : Ct mX11_agrees (d + 4) 0 t [rv 1, rv (293 + 7 * kk)] τ Q := by
  have q := I.1.1
  have va := I.1.2.2.1
  have hn := va.2.2.2.2.2.1.2
  have h5 := va.2.2.2.2.1
  have a5 := q.2.2.2.2.1
  have ob5 : ob (GG t) (293 + 7 * kk) 8 := ok_5 (by omega) (by omega)
  refine c_X11_agrees ?_
  have loop : ∀ (j : Nat) (i : Int) (τ : jM), 0 ≤ i → i + j = σ 322 5 → off2 σ τ → (∀ σ', off2 σ σ' → Q (b01 (agB L (σ 322) kk j i)) σ') → Jt mX11_agrees (d + 4) 0 t Q 2 [rv 1, rv (293 + 7 * kk), iv i] [] τ := by
    intro j
    induction j with
    | zero =>
      intro i τ i0 hi ot k1
      refine b_X11_agrees_2 ?_
      rw [ot 2 (by decide) (by decide), a5.1]
      exact ⟨rng (by omega) (by omega), rng (by omega) (by omega), fun _ => k1 τ ot, fun z => absurd z (by omega)⟩
    | succ j ih =>
      intro i τ i0 hi ot k1
      rw [agB] at k1
      have g := h5.2.2 i i0 (by omega)
      have e1 := a5.2 i i0 (by omega)
      refine b_X11_agrees_2 ?_
      rw [ot 2 (by decide) (by decide), a5.1, show τ 132 i = σ 322 (42 + 2 * i) from by rw [ot 132 (by decide) (by decide)]; exact e1.1]
      refine ⟨rng (by omega) (by omega), rng (by omega) (by omega), fun z => absurd z (by omega), fun z => ⟨by omega, ?_⟩⟩
      have hcell : (293 + 7 * kk) = cellT kk := by unfold cellT; rw [if_neg (by omega)]
      rw [hcell]
      refine h_tiresOf (d := d) (n := σ 322 0) (L := L) okl_3 (by omega) (HR_same q.1 (fun x x0 x1 => ot x (by omega) (by omega))) va.1 ⟨g.1, g.2.1⟩ (TxC_same I.2.1.1 hn (fun x x0 x1 => ot x (by omega) (by omega))) (by omega) hn (fun σ3 o3 => ⟨by omega, ?_⟩)
      have o3' : off2 σ σ3 := fun x x1 x2 => by rw [o3 x x1 x2]; exact ot x x1 x2
      rw [show σ3 133 i = σ 322 (43 + 2 * i) from by rw [o3' 133 (by decide) (by decide)]; exact e1.2]
      have ti := tiresL_in (L := L) (k := kk) (r := mrow (σ 322)) (c := σ 322 (42 + 2 * i))
      refine ⟨rng (by omega) (by omega), rng (by omega) (by omega), fun y => ?_, fun y => ?_⟩
      · rw [if_pos y] at k1
        rw [← hcell]
        exact ih (i + 1) σ3 (by omega) (by omega) o3' k1
      · rw [if_neg y] at k1
        exact k1 σ3 o3'
  exact loop (σ 322 5).toNat 0 τ (by omega) (by omega) ot k
def whF (L : LT) (A : Int → Int) : Nat → Int → Int → Int
  | 0, _, b => b
  | j + 1, i, b => whF L A j (i + 1) (if agB L A i (A 5).toNat 0 then i_or b (i_shl 1 i) else b)
theorem whF_R {L : LT} {A : Int → Int} : ∀ (j : Nat) (i b : Int), inR b → inR (whF L A j i b)
  | 0, _, _, h => h
  | j + 1, i, b, h => by
    rw [whF]
    refine whF_R j _ _ ?_
    split
    · exact i_or_R
    · exact h
theorem a_whose (d : Nat) (I : I0 L σ) {Q : Int → jM → Prop} (k : ∀ r σ1, (∀ (d2 : Nat) Q2, (∀ r' σ2, Same L σ r r' σ2 → Q2 r' σ2) → Ct mX12_whose (d2 + 11) 0 t [rv 321] σ1 Q2) → Q r σ1) : Ct mX11_whose (d + 11) 0 t [rv 1] σ Q := by
  have q := I.1.1
  have va := I.1.2.2.1
  have h0 := va.2.2.2.2.2.1
  have h5 := va.2.2.2.2.1
  refine c_X11_whose ?_
  have loop : ∀ (j : Nat) (i b : Int) (τ : jM), 0 ≤ i → i + j = σ 322 0 → off2 σ τ → (∀ σ', off2 σ σ' → Q (whF L (σ 322) j i b) σ') → Jt mX11_whose (d + 11) 0 t Q 4 [rv 1, iv b, iv i] [] τ := by
    intro j
    induction j with
    | zero =>
      intro i b τ i0 hi ot k1
      refine b_X11_whose_4 ⟨rng (by omega) (by omega), fun _ => k1 τ ot, fun z => w_isText (WR_same q (fun x x0 x1 => ot x (by omega) (by omega))) va (rng (by omega) (by omega)) ⟨b01_R, fun _ => k1 τ ot, fun y => by have := inB_t (b01_1 y); omega⟩⟩
    | succ j ih =>
      intro i b τ i0 hi ot k1
      rw [whF] at k1
      refine b_X11_whose_4 ⟨rng (by omega) (by omega), fun z => absurd z (by omega), fun z => w_isText (WR_same q (fun x x0 x1 => ot x (by omega) (by omega))) va (rng (by omega) (by omega)) ⟨b01_R, fun y => by have := inB_f (b01_0.mp y); omega, fun _ => ⟨⟨i0, z⟩, ?_⟩⟩⟩
      refine w_agrees (d + 6) I ot ⟨i0, by omega⟩ (fun σ5 o5 => ⟨b01_R, fun y => ?_, fun y => ?_⟩)
      · rw [b01_0.mp y] at k1; exact ih (i + 1) b σ5 (by omega) (by omega) o5 k1
      · rw [b01_1 y] at k1; exact ih (i + 1) _ σ5 (by omega) (by omega) o5 k1
  refine loop (σ 322 0).toNat 0 0 σ (by omega) (by omega) (fun _ _ _ => rfl) (fun σ1 o1 => k _ σ1 (fun d2 Q2 k2 => c_X12_whose ?_))
  have e322 : σ1 322 = σ 322 := o1 322 (by decide) (by decide)
  have e324 : σ1 324 = σ 324 := o1 324 (by decide) (by decide)
  have inner : ∀ (kk : Int) (b : Int) (_ : 0 ≤ kk ∧ kk < σ 322 0) (_ : inR b) (j : Nat) (i : Int) (f : Bool) (τ : jM), 0 ≤ i → i + j = σ 322 5 → off3 σ1 τ → (∀ σ', off3 σ1 σ' → Jt mX12_whose (d2 + 11) 0 t Q2 4 [rv 321, iv (if f && agB L (σ 322) kk j i then i_or b (i_shl 1 kk) else b), iv (kk + 1), uv, uv] [] σ') → Jt mX12_whose (d2 + 11) 0 t Q2 20 [rv 321, iv b, iv kk, iv (b01 f), iv (42 + 2 * i)] [] τ := by
    intro kk b hkk hb j
    induction j with
    | zero =>
      intro i f τ i0 hi ot k1
      have t322 : τ 322 = σ 322 := by rw [ot 322 (by decide) (by decide) (by decide)]; exact e322
      refine b_X12_whose_20 ⟨by decide, ?_⟩
      rw [t322]
      refine ⟨rng (by omega) (by omega), rng (by omega) (by omega), fun _ => ⟨b01_R, fun y => ?_, fun y => ?_⟩, fun z => absurd z (by omega)⟩
      · rw [b01_0.mp y] at k1
        rw [i_or_0 hb]
        exact k1 τ ot
      · rw [b01_1 y] at k1
        exact k1 τ ot
    | succ j ih =>
      intro i f τ i0 hi ot k1
      rw [agB] at k1
      have t322 : τ 322 = σ 322 := by rw [ot 322 (by decide) (by decide) (by decide)]; exact e322
      have g := h5.2.2 i i0 (by omega)
      refine b_X12_whose_20 ⟨by decide, ?_⟩
      rw [t322]
      refine ⟨rng (by omega) (by omega), rng (by omega) (by omega), fun z => absurd z (by omega), fun z => ⟨b01_R, fun y => ?_, fun y => ⟨by omega, ?_⟩⟩⟩
      · rw [show 42 + 2 * i + 2 = 42 + 2 * (i + 1) by omega]
        rw [b01_0.mp y] at k1
        exact ih (i + 1) false τ (by omega) (by omega) ot k1
      · refine m_tiresOf (d := d2 + 5) (n := σ 322 0) (L := L) (by rw [t322]; exact va.1) ⟨g.1, g.2.1⟩ (TxM_same I.2.1.2.1 (by rw [ot 324 (by decide) (by decide) (by decide)]; exact e324)) (by omega) h0.2 (fun σ5 o5 => ⟨by omega, ?_⟩)
        have o5' : off3 σ1 σ5 := fun x x1 x2 x3 => by rw [o5 x x1 x2 x3]; exact ot x x1 x2 x3
        have u322 : σ5 322 = σ 322 := by rw [o5' 322 (by decide) (by decide) (by decide)]; exact e322
        rw [u322, t322, show 42 + 2 * i + 1 = 43 + 2 * i by omega, show 42 + 2 * i + 2 = 42 + 2 * (i + 1) by omega]
        rw [b01_1 y] at k1
        have ti := tiresL_in (L := L) (k := kk) (r := mrow (σ 322)) (c := σ 322 (42 + 2 * i))
        refine ⟨rng (by omega) (by omega), rng (by omega) (by omega), fun w => ?_, fun w => ?_⟩
        · rw [if_neg w] at k1
          exact ih (i + 1) false σ5 (by omega) (by omega) o5' k1
        · rw [if_pos w] at k1
          exact ih (i + 1) true σ5 (by omega) (by omega) o5' k1
  have outer : ∀ (j : Nat) (i b : Int) (τ : jM), 0 ≤ i → i + j = σ 322 0 → inR b → off3 σ1 τ → (∀ σ', off3 σ1 σ' → Q2 (whF L (σ 322) j i b) σ') → Jt mX12_whose (d2 + 11) 0 t Q2 4 [rv 321, iv b, iv i, uv, uv] [] τ := by
    intro j
    induction j with
    | zero =>
      intro i b τ i0 hi hb ot k1
      have t322 : τ 322 = σ 322 := by rw [ot 322 (by decide) (by decide) (by decide)]; exact e322
      refine b_X12_whose_4 ⟨by decide, ?_⟩
      rw [t322]
      exact ⟨rng (by omega) (by omega), rng (by omega) (by omega), fun _ => k1 τ ot, fun z => absurd z (by omega)⟩
    | succ j ih =>
      intro i b τ i0 hi hb ot k1
      rw [whF] at k1
      have t322 : τ 322 = σ 322 := by rw [ot 322 (by decide) (by decide) (by decide)]; exact e322
      refine b_X12_whose_4 ⟨by decide, ?_⟩
      rw [t322]
      refine ⟨rng (by omega) (by omega), rng (by omega) (by omega), fun z => absurd z (by omega), fun z => ?_⟩
      refine inner i b ⟨i0, z⟩ hb (σ 322 5).toNat 0 true τ (by omega) (by omega) ot (fun σ' o' => ?_)
      rw [Bool.true_and]
      refine ih (i + 1) _ σ' (by omega) (by omega) ?_ o' k1
      split
      · exact i_or_R
      · exact hb
  exact outer (σ 322 0).toNat 0 0 σ1 (by omega) (by omega) in0 (fun _ _ _ _ => rfl) (fun σ2 o2 => k2 _ _ ⟨rfl, whF_R _ _ _ in0, I0_same I o1 o2⟩)
end FT
