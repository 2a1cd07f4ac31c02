/-! ===== a text's clauses: the reference ===== -/
def srK (k : Int) : Int := if k = 106 then 5 else if k = 105 then 6 else if 100 ≤ k ∧ k ≤ 104 then k - 100 else -1
def clM (σ : jM) (b m : Int) (S F G : Int → Int) : Prop := σ 324 b = m ∧ ∀ j, 0 ≤ j → j < m → (σ 324 (b + 1 + 3 * j) = S j ∧ (2 ≤ S j → σ 324 (b + 1 + 3 * j + 1) = F j) ∧ (S j = 2 → σ 324 (b + 1 + 3 * j + 2) = G j))
def lwM (σ : jM) (b w m : Int) (S : Int → Int) (l : Int) : Option DT → Prop
  | none => ∀ j, 0 ≤ j → j < m → S j ≠ l
  | some f => ∃ j, (0 ≤ j ∧ j < m) ∧ S j = l ∧ (∀ i, 0 ≤ i → i < j → S i ≠ l) ∧ (0 ≤ σ 324 (b + 1 + 3 * j + 1) ∧ σ 324 (b + 1 + 3 * j + 1) ≤ σ 324 (b + 1 + 3 * j + 2) ∧ σ 324 (b + 1 + 3 * j + 2) ≤ w) ∧ GX false (mfA σ b) (mgA σ b) (σ 324 (b + 1 + 3 * j + 1)) (σ 324 (b + 1 + 3 * j + 2)) f
def oncV (D : LD) : Int := (if (D 0).isSome = true then 1 else 0) + (if (D 1).isSome = true then 2 else 0)
def RI (T : Int → Int) (n b : Int) (σ : jM) (p m : Int) (S F G : Int → Int) (D : LD) : Prop := RT σ T n p ∧ (0 ≤ p ∧ p ≤ n) ∧ (σ 321 12 = b ∧ 0 ≤ b ∧ b ≤ 2043) ∧ (0 ≤ σ 321 13 ∧ σ 321 13 ≤ p) ∧ σ 321 19 = oncV D ∧ clM σ b m S F G ∧ ∀ i, i = 0 ∨ i = 1 → lwM σ b (σ 321 13) m S i (D i)
def FrR (b : Int) (σ σ' : jM) : Prop := (∀ x, x ≠ 321 → x ≠ 324 → x ≠ 326 → σ' x = σ x) ∧ (∀ j, (j < 7 ∨ j = 12 ∨ 19 < j) → σ' 321 j = σ 321 j) ∧ (∀ i, (i < b ∨ b + 681 ≤ i) → σ' 324 i = σ 324 i)
theorem FrR_rf {b : Int} {σ : jM} : FrR b σ σ := ⟨fun _ _ _ _ => rfl, fun _ _ => rfl, fun _ _ => rfl⟩
theorem FrR_tr {b : Int} {σ σ1 σ2 : jM} (a : FrR b σ σ1) (c : FrR b σ1 σ2) : FrR b σ σ2 := ⟨fun x h1 h2 h3 => (c.1 x h1 h2 h3).trans (a.1 x h1 h2 h3), fun j hj => (c.2.1 j hj).trans (a.2.1 j hj), fun i hi => (c.2.2 i hi).trans (a.2.2 i hi)⟩
theorem FrR_Z {b w : Int} {σ σ' : jM} (h : offZ b w σ σ') (w0 : 0 ≤ w) : FrR b σ σ' := ⟨h.1, fun j hj => h.2.1 j (by omega), fun i hi => h.2.2 i (by omega)⟩
section QA
variable {t : Int} {Q : Int → jM → Prop} {σ : jM} {T : Int → Int} {n b p m l : Int} {S F G : Int → Int} {D : LD}
theorem RI_add {σ' : jM} {q w' s X Y : Int} {D' : LD} (ri : RI T n b σ p m S F G D) (m0 : 0 ≤ m ∧ m < 24) (rt : RT σ' T n q) (q0 : 0 ≤ q ∧ q ≤ n) (e12 : σ' 321 12 = b) (e13 : σ' 321 13 = w') (hw : σ 321 13 ≤ w' ∧ w' ≤ q) (e19 : σ' 321 19 = oncV D') (eb : σ' 324 b = m + 1) (ex : σ' 324 (b + 1 + 3 * m) = s) (ex1 : 2 ≤ s → σ' 324 (b + 1 + 3 * m + 1) = X) (ex2 : s = 2 → σ' 324 (b + 1 + 3 * m + 2) = Y) (keep : ∀ i, b < i → i < b + 1 + 3 * m → σ' 324 i = σ 324 i) (keepc : ∀ i, b + 73 ≤ i → i < b + 73 + 2 * σ 321 13 → σ' 324 i = σ 324 i)
    (lw : ∀ i, i = 0 ∨ i = 1 → ((s ≠ i ∧ D' i = D i) ∨ (s = i ∧ D i = none ∧ ∃ f, D' i = some f ∧ (0 ≤ σ' 324 (b + 1 + 3 * m + 1) ∧ σ' 324 (b + 1 + 3 * m + 1) ≤ σ' 324 (b + 1 + 3 * m + 2) ∧ σ' 324 (b + 1 + 3 * m + 2) ≤ w') ∧ GX false (mfA σ' b) (mgA σ' b) (σ' 324 (b + 1 + 3 * m + 1)) (σ' 324 (b + 1 + 3 * m + 2)) f))) : RI T n b σ' q (m + 1) (wr S m s) (wr F m X) (wr G m Y) D' := by
  obtain ⟨r1, r2, r3, r4, r5, ⟨r6, r7⟩, r8⟩ := ri
  refine ⟨rt, q0, ⟨e12, r3.2⟩, by rw [e13]; omega, e19, ⟨eb, fun j j0 j1 => ?_⟩, fun i hi => ?_⟩
  · by_cases e : j = m
    · rw [e, wr_at, wr_at, wr_at]
      exact ⟨ex, ex1, ex2⟩
    · rw [wr_ne e, wr_ne e, wr_ne e, keep _ (by omega) (by omega), keep _ (by omega) (by omega), keep _ (by omega) (by omega)]
      exact r7 j j0 (by omega)
  · rw [e13]
    rcases lw i hi with ⟨h1, h2⟩ | ⟨h1, h2, f, h3, h4, h5⟩
    · have o := r8 i hi
      rw [h2]
      cases eD : D i with
      | none =>
        rw [eD] at o
        intro j j0 j1
        by_cases e : j = m
        · rw [e, wr_at]; exact h1
        · rw [wr_ne e]; exact o j j0 (by omega)
      | some f =>
        rw [eD] at o
        obtain ⟨j, o1, o2, o3, o4, o5⟩ := o
        have k1 := keep (b + 1 + 3 * j + 1) (by omega) (by omega)
        have k2 := keep (b + 1 + 3 * j + 2) (by omega) (by omega)
        refine ⟨j, by omega, by rw [wr_ne (by omega)]; exact o2, fun i' i0 i1 => by rw [wr_ne (by omega)]; exact o3 i' i0 i1, by rw [k1, k2]; omega, ?_⟩
        rw [k1, k2]
        exact GX_ag o5 (fun i' i0 i1 => keepc (b + 73 + 2 * i') (by omega) (by omega)) (fun i' i0 i1 => keepc (b + 73 + 2 * i' + 1) (by omega) (by omega))
    · have o := r8 i hi
      rw [h2] at o
      rw [h3]
      exact ⟨m, by omega, by rw [wr_at]; exact h1, fun i' i0 i1 => by rw [wr_ne (by omega)]; exact o i' i0 i1, h4, h5⟩
theorem m_figure {d : Nat} {x lo hi : Int} (tp : TP T n) (r : RT σ T n p) (p0 : 0 ≤ p ∧ p ≤ n) (x0 : 0 ≤ x ∧ x < 2724) (lr : inR lo) (hr : inR hi) (good : kT T n p = 1 → lo ≤ nmT T n p → nmT T n p ≤ hi → ∀ σ', RT σ' T n (nxT T n p) → (∀ j, (j < 7 ∨ 11 < j) → σ' 321 j = σ 321 j) → (∀ y, y ≠ 321 → y ≠ 324 → σ' y = σ y) → (∀ i, i ≠ x → σ' 324 i = σ 324 i) → σ' 324 x = nmT T n p → Q 0 σ') (bad2 : kT T n p = 1 → (nmT T n p < lo ∨ hi < nmT T n p) → Q 2 σ) (bad1 : kT T n p ≠ 1 → Q 1 σ) : Ct mX12_figure (d + 2) 0 t [rv 321, iv x, iv lo, iv hi] σ Q := by
  have r9 := RT_9 r
  have a := (RT_tk r).1
  unfold TK at a
  have e1 : σ 321 9 = 1 ↔ kT T n p = 1 := by omega
  have nn := nm_in tp p0
  refine c_X12_figure ⟨rng (by omega) (by omega), fun z => ?_, fun z => bad1 (fun y => z (e1.mpr y))⟩
  have k1 := e1.mp z
  have e10 : σ 321 10 = nmT T n p := by
    have e9 : σ 321 9 = tmQ T n (plT T n p) := r.2.2.2.1
    exact r.2.2.2.2.1 (by omega)
  rw [e10]
  have nr : inR (nmT T n p) := rng (by omega) (by omega)
  refine c_X12_isIn ⟨nr, lr, fun y => ⟨inl (by decide), fun u => absurd rfl u, fun _ => bad2 k1 (Or.inl y)⟩, fun y => ⟨nr, hr, fun u => ⟨inl (by decide), fun u => absurd rfl u, fun _ => bad2 k1 (Or.inr u)⟩, fun u => ⟨inl (by decide), fun _ => ⟨x0, fun σ5 e5 => ?_⟩, fun v => absurd v (by decide)⟩⟩⟩
  refine m_next (σ := σ) tp r p0 (fun j _ => by rw [e5, up_row (by omega)]) (by rw [e5, up_row (by omega)]) (fun σ' rt ot => good k1 y u σ' rt (fun j hj => ?_) (fun y h1 h2 => ?_) (fun i hi => ?_) ?_)
  · rw [ot.2 j hj, e5, up_row (by omega)]
  · rw [ot.1 y h1, e5, up_row h2]
  · rw [ot.1 324 (by omega), e5, up_ne (Or.inr hi)]
  · rw [ot.1 324 (by omega), e5, up_at, e10]
theorem m_sortOf {d : Nat} (tp : TP T n) (p0 : 0 ≤ p ∧ p ≤ n) (r : RT σ T n p) (h : Q (srK (kT T n p)) σ) : Ct mX12_sortOf (d + 5) 0 t [rv 321] σ Q := by
  have f : ∀ v : Int, srK (kT T n p) = v → Q v σ := fun v e => by rw [e] at h; exact h
  refine c_X12_sortOf ?_
  refine m_w5 (by omega) (by omega) (by omega) (by omega) (by omega) (m_isWord (k := 100) tp p0 r (by omega) (fun v => wk_0.trans ⟨fun e => by omega, fun e => by omega⟩) (rngL (by omega) (by omega)) ⟨b01_R, fun q0 => ?_, fun q0 => f 0 ?_⟩)
  · refine m_w5 (by omega) (by omega) (by omega) (by omega) (by omega) (m_isWord (k := 101) tp p0 r (by omega) (fun v => wk_1.trans ⟨fun e => by omega, fun e => by omega⟩) (rngL (by omega) (by omega)) ⟨b01_R, fun q1 => ?_, fun q1 => f 1 ?_⟩)
    · refine m_w4 (by omega) (by omega) (by omega) (by omega) (m_isWord (k := 102) tp p0 r (by omega) (fun v => wk_2.trans ⟨fun e => by omega, fun e => by omega⟩) (rngL (by omega) (by omega)) ⟨b01_R, fun q2 => ?_, fun q2 => f 2 ?_⟩)
      · refine m_w4 (by omega) (by omega) (by omega) (by omega) (m_isWord (k := 103) tp p0 r (by omega) (fun v => wk_3.trans ⟨fun e => by omega, fun e => by omega⟩) (rngL (by omega) (by omega)) ⟨b01_R, fun q3 => ?_, fun q3 => f 3 ?_⟩)
        · refine m_w4 (by omega) (by omega) (by omega) (by omega) (m_isWord (k := 104) tp p0 r (by omega) (fun v => wk_4.trans ⟨fun e => by omega, fun e => by omega⟩) (rngL (by omega) (by omega)) ⟨b01_R, fun q4 => ?_, fun q4 => f 4 ?_⟩)
          · refine m_w3 (by omega) (by omega) (by omega) (m_isWord (k := 106) tp p0 r (by omega) (fun v => wk_6.trans ⟨fun e => by omega, fun e => by omega⟩) (rngL (by omega) (by omega)) ⟨b01_R, fun q6 => ?_, fun q6 => f 5 ?_⟩)
            · refine m_w4 (by omega) (by omega) (by omega) (by omega) (m_isWord (k := 105) tp p0 r (by omega) (fun v => wk_5.trans ⟨fun e => by omega, fun e => by omega⟩) (rngL (by omega) (by omega)) ⟨b01_R, fun q5 => f (-1) ?_, fun q5 => f 6 ?_⟩)
              · have z0 := of_decide_eq_false (b01_0.mp q0)
                have z1 := of_decide_eq_false (b01_0.mp q1)
                have z2 := of_decide_eq_false (b01_0.mp q2)
                have z3 := of_decide_eq_false (b01_0.mp q3)
                have z4 := of_decide_eq_false (b01_0.mp q4)
                have z5 := of_decide_eq_false (b01_0.mp q5)
                have z6 := of_decide_eq_false (b01_0.mp q6)
                unfold srK
                rw [if_neg z6, if_neg z5, if_neg (by omega)]
              · rw [of_decide_eq_true (b01_1 q5)]; rfl
            · rw [of_decide_eq_true (b01_1 q6)]; rfl
          · rw [of_decide_eq_true (b01_1 q4)]; rfl
        · rw [of_decide_eq_true (b01_1 q3)]; rfl
      · rw [of_decide_eq_true (b01_1 q2)]; rfl
    · rw [of_decide_eq_true (b01_1 q1)]; rfl
  · rw [of_decide_eq_true (b01_1 q0)]; rfl
theorem sum_st {w : Int} {σ1 σ2 σ3 : jM} (rt : RT σ T n p) (p0 : 0 ≤ p ∧ p ≤ n) (e12 : σ 321 12 = b ∧ 0 ≤ b ∧ b ≤ 2043) (e13 : σ 321 13 = w) (e14 : σ 321 14 = l) (w0 : 0 ≤ w ∧ w ≤ p) (e1 : σ1 = up σ 321 16 0) (e2 : σ2 = up σ1 321 17 0) (e3 : σ3 = up σ2 321 18 0) : RS T n b l σ3 p w [] 0 0 ∧ offZ b w σ σ3 := by
  have j3 : ∀ j, j ≠ 16 → j ≠ 17 → j ≠ 18 → σ3 321 j = σ 321 j := fun j h1 h2 h3 => by rw [e3, up_ne (Or.inr h3), e2, up_ne (Or.inr h2), e1, up_ne (Or.inr h1)]
  have r3 : ∀ x, x ≠ 321 → σ3 x = σ x := fun x h => by rw [e3, up_row h, e2, up_row h, e1, up_row h]
  refine ⟨⟨RT_off rt (fun j hj => j3 j (by omega) (by omega) (by omega)) (r3 325 (by omega)), p0, ⟨by rw [j3 12 (by omega) (by omega) (by omega)]; exact e12.1, e12.2⟩, by rw [j3 13 (by omega) (by omega) (by omega)]; exact e13, by rw [j3 14 (by omega) (by omega) (by omega)]; exact e14, trivial, ?_, ?_, by rw [e3, up_at], w0.1, by simp; omega⟩, fun x h1 _ _ => r3 x h1, fun j hj => j3 j (by omega) (by omega) (by omega), fun i _ => by rw [r3 324 (by omega)]⟩
  · rw [e3, up_ne (Or.inr (by omega)), e2, up_ne (Or.inr (by omega)), e1, up_at]; rfl
  · rw [e3, up_ne (Or.inr (by omega)), e2, up_at]
theorem m_sumB {d : Nat} {kind pl w : Int} (hg : RBm T n t b l false 5 4 p 0 kind pl) (rt : RT σ T n p) (p0 : 0 ≤ p ∧ p ≤ n) (e12 : σ 321 12 = b ∧ 0 ≤ b ∧ b ≤ 2043) (e13 : σ 321 13 = w) (e14 : σ 321 14 = l) (w0 : 0 ≤ w ∧ w ≤ p) (k : ∀ σ', offZ b w σ σ' → σ' 321 8 = pl → Q kind σ') : Ct mX12_summed (d + 8) 0 t [rv 321] σ Q := by
  refine c_X12_summed (fun σ1 e1 σ2 e2 σ3 e3 => ?_)
  obtain ⟨s, z⟩ := sum_st rt p0 e12 e13 e14 w0 e1 e2 e3
  exact hg d Q σ3 w [] s (show (-1 : Int) < 5 by decide) (by simp) (fun _ => rfl) (fun σ4 z4 e4 => k σ4 (offZ_tr z (by omega) z4) e4)
theorem m_sumG {d : Nat} {q w : Int} {f : DT} (tp : TP T n) (hg : RGm T n t b l false 5 5 4 p q 0 f) (hN : N3 (kT T n q)) (rt : RT σ T n p) (p0 : 0 ≤ p ∧ p ≤ n) (e12 : σ 321 12 = b ∧ 0 ≤ b ∧ b ≤ 2043) (e13 : σ 321 13 = w) (e14 : σ 321 14 = l) (w0 : 0 ≤ w ∧ w ≤ p) (k : ∀ σ' w', RT σ' T n q → σ' 321 13 = w' → w < w' → w' ≤ q → offZ b w σ σ' → GX false (mfA σ' b) (mgA σ' b) w w' f → Q 0 σ') : Ct mX12_summed (d + 8) 0 t [rv 321] σ Q := by
  refine c_X12_summed (fun σ1 e1 σ2 e2 σ3 e3 => ?_)
  obtain ⟨s, z⟩ := sum_st rt p0 e12 e13 e14 w0 e1 e2 e3
  refine hg d Q σ3 w [] s (show (-1 : Int) < 5 by decide) (by simp) (fun _ => rfl) (fun σ4 w4 E s4 hE hn hw _ z4 pm => ?_)
  unfold lenA at hn
  rw [List.append_nil] at s4 hn
  have hN1 := hN
  unfold N3 at hN1
  refine jh_end tp s4 (by omega) (fun x hx => by have := hE x hx; omega) hN1.2.1 hN1.2.2 hN1.1.1 hN1.1.2 (fun σ5 r5 z5 g5 => ?_)
  have b5 := r5.2.2.2.2.2.2.2.2.2.2
  simp at b5
  exact k σ5 _ r5.1 r5.2.2.2.1 (by omega) b5 (offZ_tr (offZ_tr z (by omega) z4) (by omega) z5) (g5 false w f pm)
end QA
