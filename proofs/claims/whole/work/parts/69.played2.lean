section PM
variable {t : Int} {L : LT} {σ : jM} {A : Int → Int} {Q : Int → jM → Prop}
/-- a clause of the reference's row -/
def Cl1 (T : Int → Int) (x : Int) : Prop := (0 ≤ T x ∧ T x ≤ 6) ∧ (T x = 2 → (0 ≤ T (x + 2) ∧ T (x + 2) ≤ 7)) ∧ (2 ≤ T x → (0 ≤ T (x + 1) ∧ T (x + 1) ≤ (if T x = 5 then 60 else if T x = 6 then 120 else 7) ∧ (5 ≤ T x → 1 ≤ T (x + 1))))
theorem w_follows {T : Int → Int} {x v w n : Int} (d : Nat) (q : WR σ 2 A) (va : AV A) (hA0 : A 0 = n) (hT : TxC σ n L) (hK : K1 σ) (hx : Cl1 T x) (hv : 2 ≤ T x → v = T (x + 1)) (hw : T x = 2 → w = T (x + 2)) (k : ∀ σ', WR σ' 2 (plA L T x A).2 → K1 σ' → offK σ σ' → Q (b01 (plA L T x A).1) σ') : Ct mX11_follows (d + 41) 0 t [rv 1, iv (kindOf (T x)), iv v, iv w] σ Q := by
  obtain ⟨⟨x0, x6⟩, hx2, hx3⟩ := hx
  have KN : ∀ {σ'}, offN σ σ' → K1 σ' := fun {σ'} o => K1_same hK (fun y y0 y1 => o y (by omega) (by omega) (by omega) (by omega))
  have kf : kindOf (T x) = if T x = 5 then 106 else if T x = 6 then 105 else 100 + T x := rfl
  have kR : inR (kindOf (T x)) := by rw [kf]; split <;> (try split) <;> exact rng (by omega) (by omega)
  unfold plA at k
  refine c_X11_follows ⟨kR, fun z => ?_, fun z => ?_, fun z => ?_, fun z => ?_, fun z => ?_, fun z => ?_⟩
  · rw [kf] at z
    have lt : T x < 2 := by split at z <;> (try split at z) <;> omega
    rw [if_neg (by omega), if_neg (by omega), if_neg (by omega), if_neg (by omega), if_neg (by omega)] at k
    exact k σ q hK offK_rf
  · rw [kf] at z
    have e : T x = 2 := by split at z <;> (try split at z) <;> omega
    have ev := hv (by omega)
    have ew := hw e
    have b2 := hx2 e
    have b1 := hx3 (by omega)
    rw [if_neg (by omega), if_neg (by omega)] at b1
    rw [if_pos e] at k
    subst ev
    subst ew
    have jin := joinS_in (a := T (x + 1)) (b := T (x + 2)) va
    refine Ct_le (w_join (t := t) (d := d) q va (rng (by omega) (by omega)) (rng (by omega) (by omega)) (fun σ' q' o' => ⟨rng (by omega) (by omega), fun y => ?_, fun y => ?_⟩)) (by omega)
    · have := k σ' q' (KN o') (offK_N o')
      rw [decide_eq_true y] at this
      exact this
    · have := k σ' q' (KN o') (offK_N o')
      rw [decide_eq_false y] at this
      exact this
  · rw [kf] at z
    have e : T x = 3 := by split at z <;> (try split at z) <;> omega
    have ev := hv (by omega)
    have b1 := hx3 (by omega)
    rw [if_neg (by omega), if_neg (by omega)] at b1
    rw [if_neg (by omega), if_pos e] at k
    subst ev
    exact Ct_le (w_pour (t := t) (d := d) q va (rng (by omega) (by omega)) (fun σ' q' o' => ⟨b01_2, k σ' q' (KN o') (offK_N o')⟩)) (by omega)
  · rw [kf] at z
    have e : T x = 4 := by split at z <;> (try split at z) <;> omega
    have ev := hv (by omega)
    have b1 := hx3 (by omega)
    rw [if_neg (by omega), if_neg (by omega)] at b1
    rw [if_neg (by omega), if_neg (by omega), if_pos e] at k
    subst ev
    have bin := bakeS_in (L := L) (c := T (x + 1)) va
    refine Ct_le (w_bake (t := t) (L := L) (d := d) q va hA0 hT (rng (by omega) (by omega)) (fun σ' q' o' => ⟨rng (by omega) (by omega), fun y => ?_, fun y => ?_⟩)) (by omega)
    · have := k σ' q' (KN o') (offK_N o')
      rw [decide_eq_true y] at this
      exact this
    · have := k σ' q' (KN o') (offK_N o')
      rw [decide_eq_false y] at this
      exact this
  · rw [kf] at z
    have e : T x = 6 := by split at z <;> (try split at z) <;> omega
    have ev := hv (by omega)
    have b1 := hx3 (by omega)
    rw [if_neg (by omega), if_pos e] at b1
    rw [if_neg (by omega), if_neg (by omega), if_neg (by omega), if_neg (by omega), if_pos e] at k
    subst ev
    exact w_makes (d := d) q va hK ⟨b1.2.2 (by omega), b1.2.1⟩ (fun σ' q' K' o' => ⟨b01_2, k σ' q' K' o'⟩)
  · rw [kf] at z
    have e : T x = 5 := by split at z <;> (try split at z) <;> omega
    have ev := hv (by omega)
    have b1 := hx3 (by omega)
    rw [if_pos e] at b1
    rw [if_neg (by omega), if_neg (by omega), if_neg (by omega), if_pos e] at k
    subst ev
    have h6 := AV_6 va
    rw [WR_d q]
    refine ⟨rng (by omega) (by omega), fun y => ?_, fun y => ?_⟩
    · refine Ct_le (w_passDays (t := t) (L := L) (d := d) q va hA0 hT ⟨b1.1, b1.2.1⟩ (fun σ' q' o' => ?_)) (by omega)
      have := k σ' q' (KN o') (offK_N o')
      rw [decide_eq_false (by omega)] at this
      exact this
    · refine Ct_le (w_passDays (t := t) (L := L) (d := d) q va hA0 hT ⟨b1.1, b1.2.1⟩ (fun σ' q' o' => ?_)) (by omega)
      have := k σ' q' (KN o') (offK_N o')
      rw [decide_eq_true (by omega)] at this
      exact this
theorem m_isPlayedA {x n : Int} (d : Nat) (hA : σ 322 = A) (va : AV A) (hA0 : A 0 = n) (hw : σ 321 23 = 1) (hT : TxM σ n L) (hL : LQ n L) (hR : KR σ) (hx : Cl1 (σ 324) x) (hx0 : 0 ≤ x ∧ x + 2 < 2724) (k : ∀ σ', σ' 322 = (plA L (σ 324) x A).2 → KR σ' → offJ σ σ' → Q (b01 (plA L (σ 324) x A).1) σ') : Ct mX12_isPlayed (d + 12) 0 t [rv 321, iv x] σ Q := by
  obtain ⟨T, eT⟩ : ∃ T, T = σ 324 := ⟨_, rfl⟩
  rw [← eT] at hx k
  obtain ⟨⟨x0, x6⟩, hx2, hx3⟩ := hx
  have RS : KR (sr σ 322 A) := KR_same hR (sr_ne (by decide))
  unfold plA at k
  refine c_X12_isPlayed ⟨by omega, by omega, by omega, ?_⟩
  rw [← eT]
  refine ⟨rng (by omega) (by omega), fun z => ?_, fun e => ?_, fun e => ?_, fun e => ?_, fun e => ?_, fun e => ?_⟩
  · rw [if_neg (by omega), if_neg (by omega), if_neg (by omega), if_neg (by omega), if_neg (by omega)] at k
    exact k σ hA hR offJ_rf
  · have b2 := hx2 e
    have b1 := hx3 (by omega)
    rw [if_neg (by omega), if_neg (by omega)] at b1
    rw [if_pos e] at k
    have jin := joinS_in (a := T (x + 1)) (b := T (x + 2)) va
    refine Ct_le (m_joinA (t := t) d hA va hw (rng (by omega) (by omega)) (rng (by omega) (by omega)) ⟨rng (by omega) (by omega), fun y => ?_, fun y => ?_⟩) (by omega)
    · have := k _ sr_at (KR_same hR (sr_ne (by decide))) (offJ_P (offP_sr (σ := σ)))
      rw [decide_eq_true (show joinS A (T (x + 1)) (T (x + 2)) = -1 by omega)] at this
      exact this
    · have := k _ sr_at (KR_same hR (sr_ne (by decide))) (offJ_P (offP_sr (σ := σ)))
      rw [decide_eq_false (show ¬ joinS A (T (x + 1)) (T (x + 2)) = -1 by omega)] at this
      exact this
  · have b1 := hx3 (by omega)
    rw [if_neg (by omega), if_neg (by omega)] at b1
    rw [if_neg (by omega), if_pos e] at k
    exact Ct_le (m_pourA (t := t) d hA va hw (rng (by omega) (by omega)) ⟨b01_2, k _ sr_at (KR_same hR (sr_ne (by decide))) (offJ_P (offP_sr (σ := σ)))⟩) (by omega)
  · have b1 := hx3 (by omega)
    rw [if_neg (by omega), if_neg (by omega)] at b1
    rw [if_neg (by omega), if_neg (by omega), if_pos e] at k
    have bin := bakeS_in (L := L) (c := T (x + 1)) va
    refine Ct_le (m_bakeA (t := t) (L := L) (n := n) d hA va hA0 hw hT hL (rng (by omega) (by omega)) (fun σ' e' o' => ⟨rng (by omega) (by omega), fun y => ?_, fun y => ?_⟩)) (by omega)
    · have := k σ' e' (KR_same hR (o'.1 332 (by decide) (by decide) (by decide) (by decide) (by decide))) (offJ_P o')
      rw [decide_eq_true (show bakeS L A (T (x + 1)) = -1 by omega)] at this
      exact this
    · have := k σ' e' (KR_same hR (o'.1 332 (by decide) (by decide) (by decide) (by decide) (by decide))) (offJ_P o')
      rw [decide_eq_false (show ¬ bakeS L A (T (x + 1)) = -1 by omega)] at this
      exact this
  · have b1 := hx3 (by omega)
    rw [if_pos e] at b1
    rw [if_neg (by omega), if_neg (by omega), if_neg (by omega), if_pos e] at k
    exact Ct_le (m_arePassed (t := t) (L := L) (n := n) d hA va hA0 hw hT hL ⟨b1.1, b1.2.1⟩ (fun σ' e' o' _ => ⟨b01_2, k σ' e' (KR_same hR (o'.1 332 (by decide) (by decide) (by decide) (by decide) (by decide))) (offJ_P o')⟩)) (by omega)
  · have b1 := hx3 (by omega)
    rw [if_neg (by omega), if_pos e] at b1
    rw [if_neg (by omega), if_neg (by omega), if_neg (by omega), if_neg (by omega), if_pos e] at k
    exact m_isMadeA d hA va hw hR ⟨b1.2.2 (by omega), b1.2.1⟩ (fun σ' e' R' o' => ⟨b01_2, k σ' e' R' o'⟩)
theorem Cl1_of {p j : Int} (I : I0 L σ) (hp : 0 ≤ p ∧ p < σ 322 0) (hj : 0 ≤ j ∧ j < σ 324 (681 * p)) : Cl1 (σ 324) (681 * p + 1 + 3 * j) := by
  have tm' := (I.2.1.2.1 p hp.1 hp.2)
  have c := (I.2.1.2.2.2 p hp.1 hp.2).2 j hj.1 hj.2
  exact ⟨tm'.2.1 j hj.1 hj.2, fun h => (c.2.2.1 h).2, fun h => c.2.2.2 h⟩
theorem a_played {p : Int} (d : Nat) (I : I0 L σ) (hK : K1 σ) (hR : KR σ) (hp : inR p) {Q : Int → jM → Prop} (k : ∀ r σ1, inR r → (∀ (d2 : Nat) Q2, (∀ r' σ2, SameN L σ r r' σ2 → Q2 r' σ2) → Ct mX12_played (d2 + 13) 0 t [rv 321, iv p] σ1 Q2) → Q r σ1) : Ct mX11_played (d + 42) 0 t [rv 1, iv p] σ Q := by
  have q := I.1.1
  have va := I.1.2.2.1
  have hn := va.2.2.2.2.2.1
  have n4 : σ 322 0 ≤ 4 := hn.2
  refine c_X11_played (w_isText q va hp ⟨b01_R, fun z => ?_, fun z => ?_⟩)
  · have hin := inB_t (b01_1 z)
    have hp' : 0 ≤ p ∧ p < σ 322 0 := ⟨hin.1, by omega⟩
    have tm' := I.2.1.2.1 p hp'.1 hp'.2
    have cl := I.2.1.2.2.2 p hp'.1 hp'.2
    obtain ⟨T, eT⟩ : ∃ T, T = σ 324 := ⟨_, rfl⟩
    have hcl : ∀ j, 0 ≤ j → j < T (681 * p) → Cl1 T (681 * p + 1 + 3 * j) := fun j j0 j1 => by rw [eT] at j1 ⊢; exact Cl1_of I hp' ⟨j0, j1⟩
    unfold CL1 at cl
    rw [← eT] at cl tm'
    refine ⟨by omega, ?_⟩
    -- the class
    have loop : ∀ (c : Nat) (j : Int) (B : Int → Int) (τ : jM), 0 ≤ j → j + c = T (681 * p) → WR τ 2 B → Gd (σ 322) B → K1 τ → offK σ τ → (∀ σ', WR σ' 2 (pdA L T (681 * p + 1) c j B).2 → K1 σ' → offK σ σ' → Q (pdA L T (681 * p + 1) c j B).1 σ') → Jt mX11_played (d + 42) 0 t Q 20 [rv 1, iv p, rv (293 + 7 * p), iv j] [] τ := by
      intro c
      induction c with
      | zero =>
        intro j B τ j0 hj qB gB KB oB kk
        have e6 : τ (293 + 7 * p) 6 = T (681 * p) := by rw [oB (293 + 7 * p) (by omega) (by omega) (by omega) (by omega) (by omega)]; exact cl.1
        refine b_X11_played_20 ⟨ok_5 hp'.1 (by omega), rng (by omega) (by omega), ?_⟩
        rw [e6]
        exact ⟨rng (by omega) (by omega), fun _ => kk τ qB KB oB, fun w => absurd w (by omega)⟩
      | succ c ih =>
        intro j B τ j0 hj qB gB KB oB kk
        have sm : ∀ y, 293 ≤ y → y ≤ 320 → τ y = σ y := fun y y0 y1 => oB y (by omega) (by omega) (by omega) (by omega) (by omega)
        have e6 : τ (293 + 7 * p) 6 = T (681 * p) := by rw [sm _ (by omega) (by omega)]; exact cl.1
        have c1 := cl.2 j j0 (by omega)
        have e1 : τ (293 + 7 * p + 1) j = kindOf (T (681 * p + 1 + 3 * j)) := by rw [sm _ (by omega) (by omega)]; exact c1.1
        refine b_X11_played_20 ⟨ok_5 hp'.1 (by omega), rng (by omega) (by omega), ?_⟩
        rw [e6]
        refine ⟨rng (by omega) (by omega), fun w => absurd w (by omega), fun _ => ⟨rng (by omega) (by omega), fun w => absurd w (by omega), fun _ => ⟨ok_5 hp'.1 (by omega), by omega, ok_5 hp'.1 (by omega), by omega, ok_5 hp'.1 (by omega), by omega, ?_⟩⟩⟩
        rw [e1]
        have tB : TxC τ (B 0) L := by
          rw [gB.2.1]
          exact TxC_same I.2.1.1 n4 sm
        refine w_follows (d := d) (L := L) (T := T) (x := 681 * p + 1 + 3 * j) (n := B 0) qB gB.1 rfl tB KB (hcl j j0 (by omega)) (fun h => by rw [sm _ (by omega) (by omega)]; exact c1.2.1 h) (fun h => by rw [sm _ (by omega) (by omega)]; exact (c1.2.2.1 h).1) (fun σ' q' K' o' => ⟨b01_R, fun w => ?_, fun w => ?_⟩)
        · rw [pdA, b01_1 w] at kk
          simp only [if_true] at kk
          exact ih (j + 1) _ σ' (by omega) (by omega) q' (Gd_tr gB (plA_Gd gB.1)) K' (offK_tr oB o') kk
        · rw [pdA, b01_0.mp w] at kk
          simp only [Bool.false_eq_true, if_false] at kk
          exact kk σ' q' K' (offK_tr oB o')
    have pin := pdA_in (L := L) (T := T) (x := 681 * p + 1) (T (681 * p)).toNat (j := 0) (A := σ 322) (by omega)
    refine loop (T (681 * p)).toNat 0 (σ 322) σ (by omega) (by omega) q (Gd_rf va) hK offK_rf (fun σ1 q1 K1' o1 => k _ σ1 (rng (by omega) (by omega)) (fun d2 Q2 k2 => ?_))
    have gF := pdA_Gd (L := L) (T := T) (x := 681 * p + 1) (T (681 * p)).toNat (j := 0) va
    have f322 : σ1 322 = σ 322 := o1 322 (by omega) (by omega) (by omega) (by omega) (by omega)
    have f321 : σ1 321 = σ 321 := o1 321 (by omega) (by omega) (by omega) (by omega) (by omega)
    have f324 : σ1 324 = T := by rw [o1 324 (by omega) (by omega) (by omega) (by omega) (by omega), eT]
    have f332 : σ1 332 = σ 332 := o1 332 (by omega) (by omega) (by omega) (by omega) (by omega)
    refine c_X12_played ⟨by omega, ?_⟩
    rw [f322]
    refine m_isIn hp in0 (rng (by omega) (by omega)) ⟨b01_R, fun _ => ?_, fun u => by have := inB_f (b01_0.mp u); omega⟩
    have loop2 : ∀ (c : Nat) (j : Int) (B : Int → Int) (τ : jM), 0 ≤ j → j + c = T (681 * p) → τ 322 = B → Gd (σ 322) B → KR τ → offJ σ1 τ → (∀ σ', σ' 322 = (pdA L T (681 * p + 1) c j B).2 → KR σ' → offJ σ1 σ' → Q2 (pdA L T (681 * p + 1) c j B).1 σ') → Jt mX12_played (d2 + 13) 0 t Q2 21 [rv 321, iv p, iv j] [] τ := by
      intro c
      induction c with
      | zero =>
        intro j B τ j0 hj qB gB KB oB kk
        have e324 : τ 324 = T := by rw [oB.1 324 (by decide) (by decide) (by decide) (by decide) (by decide) (by decide) (by decide)]; exact f324
        refine b_X12_played_21 ⟨by omega, rng (by omega) (by omega), ?_⟩
        rw [e324]
        exact ⟨rng (by omega) (by omega), fun _ => kk τ qB KB oB, fun w => absurd w (by omega)⟩
      | succ c ih =>
        intro j B τ j0 hj qB gB KB oB kk
        have e324 : τ 324 = T := by rw [oB.1 324 (by decide) (by decide) (by decide) (by decide) (by decide) (by decide) (by decide)]; exact f324
        refine b_X12_played_21 ⟨by omega, rng (by omega) (by omega), ?_⟩
        rw [e324]
        refine ⟨rng (by omega) (by omega), fun w => absurd w (by omega), fun _ => ?_⟩
        have tB : TxM τ (B 0) L := by
          rw [gB.2.1]
          exact TxM_same I.2.1.2.1 (by rw [e324, eT])
        have lB : LQ (B 0) L := by rw [gB.2.1]; exact I.2.1.2.2.1
        refine m_isPlayedA (d := d2) (L := L) (n := B 0) qB gB.1 rfl (by rw [oB.2 23 (by decide), f321]; exact I.2.2.2) tB lB KB (by rw [e324]; exact hcl j j0 (by omega)) (by omega) (fun σ' q' R' o' => ?_)
        rw [e324] at q' ⊢
        refine ⟨b01_R, fun w => ?_, fun w => ?_⟩
        · rw [pdA, b01_1 w] at kk
          simp only [if_true] at kk
          exact ih (j + 1) _ σ' (by omega) (by omega) q' (Gd_tr gB (plA_Gd gB.1)) R' (offJ_tr oB o') kk
        · rw [pdA, b01_0.mp w] at kk
          simp only [Bool.false_eq_true, if_false] at kk
          exact kk σ' q' R' (offJ_tr oB o')
    refine loop2 (T (681 * p)).toNat 0 (σ 322) σ1 (by omega) (by omega) f322 (Gd_rf va) (KR_same hR f332) offJ_rf (fun σ2 e2 R2 o2 => k2 _ _ ⟨rfl, I0_stepK I q1 gF.1 gF.2.1 o1 e2 o2, K1_same K1' (fun x x0 x1 => o2.1 x (by omega) (by omega) (by omega) (by omega) (by omega) (by omega) (by omega)), R2, fun x hx => ?_⟩)
    rw [o2.1 x (by omega) (by omega) (by omega) (by omega) (by omega) (by omega) (by omega), o1 x (by omega) (by omega) (by omega) (by omega) (by omega)]
  · have hout := inB_f (b01_0.mp z)
    refine k _ σ ⟨by decide, by decide⟩ (fun d2 Q2 k2 => c_X12_played ⟨by omega, m_isIn hp in0 (rng (by omega) (by omega)) ⟨b01_R, fun u => by have := inB_t (b01_1 u); omega, fun _ => k2 _ _ (SameN_of I hK offC_rf hR offR_rf)⟩⟩)
end PM
