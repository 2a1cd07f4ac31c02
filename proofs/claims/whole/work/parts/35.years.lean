/-! ===== days, years, undo alike ===== -/
def dayA (L : LT) (A : Int → Int) : Int → Int := setM (keepA A) (passR true L (A 1) (mrow (keepA A)))
def daysA (L : LT) : Nat → (Int → Int) → (Int → Int)
  | 0, A => A
  | j + 1, A => if A 6 = 9999 then A else daysA L j (dayA L A)
def daysN (L : LT) : Nat → (Int → Int) → Int
  | 0, _ => 0
  | j + 1, A => if A 6 = 9999 then 0 else passN true L (A 1) (mrow (keepA A)) + daysN L j (dayA L A)
theorem keepA_d {A : Int → Int} (va : AV A) : mrow (keepA A) 0 = A 6 := by
  rw [keepA_row ⟨va.2.1.1, va.2.1.2.1⟩ 0 (by omega) (by omega), mrow_lo (by omega)]
  rfl
theorem AV_6 {A : Int → Int} (va : AV A) : 0 ≤ A 6 ∧ A 6 ≤ 9999 := by
  have := va.1.1
  rw [mrow_lo (by omega), show (6 : Int) + 0 = 6 by omega] at this
  exact this
theorem dayA_AV {L : LT} {A : Int → Int} (va : AV A) (h : A 6 < 9999) : AV (dayA L A) ∧ dayA L A 0 = A 0 ∧ dayA L A 1 = A 1 ∧ dayA L A 6 = A 6 + 1 := by
  have p := passR_RV (w := true) (L := L) (k := A 1) (AV_keep va).1 (by rw [keepA_d va]; exact h)
  have k01 := keepA_01 va
  refine ⟨AV_house (AV_keep va) p.1, ?_, ?_, ?_⟩
  · unfold dayA; rw [setM_off (by omega)]; exact k01.1
  · unfold dayA; rw [setM_off (by omega)]; exact k01.2
  · have := mrow_setM (A := keepA A) (r := passR true L (A 1) (mrow (keepA A))) 0 (by omega) (by omega)
    rw [mrow_lo (by omega), show (6 : Int) + 0 = 6 by omega, p.2, keepA_d va] at this
    exact this
theorem daysA_AV {L : LT} : ∀ (j : Nat) {A : Int → Int}, AV A → AV (daysA L j A) ∧ daysA L j A 0 = A 0 ∧ daysA L j A 1 = A 1 ∧ (0 ≤ daysN L j A ∧ daysN L j A ≤ 8 * j)
  | 0, A, va => ⟨va, rfl, rfl, by show (0 : Int) ≤ 0 ∧ (0 : Int) ≤ _; omega⟩
  | j + 1, A, va => by
    rw [daysA, daysN]
    by_cases e : A 6 = 9999
    · rw [if_pos e, if_pos e]
      exact ⟨va, rfl, rfl, by omega⟩
    · rw [if_neg e, if_neg e]
      have h := AV_6 va
      obtain ⟨d1, d2, d3, d4⟩ := dayA_AV (L := L) va (by omega)
      obtain ⟨x1, x2, x3, x4⟩ := daysA_AV (L := L) j d1
      have pn := passN_in (w := true) (L := L) (k := A 1) (r := mrow (keepA A))
      exact ⟨x1, x2.trans d2, x3.trans d3, by omega⟩
theorem WR_d {τ : jM} {B : Int → Int} (q : WR τ 2 B) : τ 3 6 = B 6 := by
  have h : τ 3 6 = mrow B 0 := q.1.1
  rw [mrow_lo (by omega), show (6 : Int) + 0 = 6 by omega] at h
  exact h
section YR
variable {t : Int} {L : LT} {σ : jM}
theorem w_passDays {p : Int} {A : Int → Int} {Q : Int → jM → Prop} {n : Int} (d : Nat) (q : WR σ 2 A) (va : AV A) (hA0 : A 0 = n) (hT : TxC σ n L) (hp : 0 ≤ p ∧ p ≤ 60) (k : ∀ σ', WR σ' 2 (daysA L p.toNat A) → offN σ σ' → Q (daysN L p.toNat A) σ') : Ct mX11_passDays (d + 10) 0 t [rv 1, iv p] σ Q := by
  refine c_X11_passDays ?_
  have loop : ∀ (j : Nat) (i acc : Int) (B : Int → Int) (τ : jM), 0 ≤ i → i + j = p → WR τ 2 B → AV B → B 0 = n → offN σ τ → (∀ σ', WR σ' 2 (daysA L j B) → offN σ σ' → Q (acc + daysN L j B) σ') → Jt mX11_passDays (d + 10) 0 t Q 4 [rv 1, iv p, iv acc, iv i] [] τ := by
    intro j
    induction j with
    | zero =>
      intro i acc B τ i0 hi qB vB hB oB k1
      refine b_X11_passDays_4 ⟨rng (by omega) (by omega), rng (by omega) (by omega), fun _ => ?_, fun z => absurd z (by omega)⟩
      have := k1 τ qB oB
      rw [daysN, Int.add_zero] at this
      exact this
    | succ j ih =>
      intro i acc B τ i0 hi qB vB hB oB k1
      rw [daysA, daysN] at k1
      have h6 := AV_6 vB
      have e6 : τ 3 6 = B 6 := WR_d qB
      refine b_X11_passDays_4 ⟨rng (by omega) (by omega), rng (by omega) (by omega), fun z => absurd z (by omega), fun _ => ?_⟩
      rw [e6]
      refine ⟨rng (by omega) (by omega), fun z => ?_, fun z => ?_⟩
      · rw [if_pos (by omega), if_pos (by omega)] at k1
        have := k1 τ qB oB
        rw [Int.add_zero] at this
        exact this
      · rw [if_neg (by omega), if_neg (by omega)] at k1
        refine w_keep (d := d + 6) qB vB (fun σ1 q1 o1 => ?_)
        have v1 := AV_keep vB
        have k01 := keepA_01 vB
        refine w_ruler (d := d + 8) q1 v1 ?_
        have hn := vB.2.2.2.2.2.1.2
        have h1 := vB.2.2.2.2.2.2
        have t1 : TxC σ1 n L := TxC_same hT (by omega) (fun x x0 x1 => offN_tr oB o1 x (by omega) (by omega) (by omega) (by omega))
        rw [k01.2]
        refine h_passDay (d := d + 5) (n := n) (L := L) okl_3 (by omega) q1.1 v1.1 t1 (by omega) (by omega) (by rw [keepA_d vB]; exact z) (fun σ2 q2 o2 => ?_)
        have pr := passR_RV (w := true) (L := L) (k := B 1) v1.1 (by rw [keepA_d vB]; exact z)
        have w2 := WR_house q1 v1 pr.1 q2 o2
        obtain ⟨d1, d2, d3, d4⟩ := dayA_AV (L := L) vB z
        refine ih (i + 1) _ (dayA L B) σ2 (by omega) (by omega) w2 d1 (by omega) (offN_tr oB (offN_tr o1 (offN_H o2))) (fun σ' x1 x2 => ?_)
        have := k1 σ' x1 x2
        rw [show acc + passN true L (B 1) (mrow (keepA B)) + daysN L j (dayA L B) = acc + (passN true L (B 1) (mrow (keepA B)) + daysN L j (dayA L B)) by omega]
        exact this
  exact loop p.toNat 0 0 A σ (by omega) (by omega) q va hA0 offN_rf (fun σ' x1 x2 => by rw [Int.zero_add]; exact k σ' x1 x2)
theorem m_arePassed {p : Int} {A : Int → Int} {Q : Int → jM → Prop} {n : Int} (d : Nat) (hA : σ 322 = A) (va : AV A) (hA0 : A 0 = n) (hw : σ 321 23 = 1) (hT : TxM σ n L) (hL : LQ n L) (hp : 0 ≤ p ∧ p ≤ 60) (k : ∀ σ', σ' 322 = daysA L p.toNat A → offP σ σ' → σ' 321 24 = daysN L p.toNat A → Q (b01 (decide (A 6 + p ≤ 9999))) σ') : Ct mX12_arePassed (d + 10) 0 t [rv 321, iv p] σ Q := by
  refine c_X12_arePassed (fun σ1 e1 => ?_)
  have loop : ∀ (j : Nat) (i acc : Int) (B : Int → Int) (τ : jM), 0 ≤ i → i + j = p → τ 322 = B → AV B → B 0 = n → offP σ τ → τ 321 24 = acc → (∀ σ', σ' 322 = daysA L j B → offP σ σ' → σ' 321 24 = acc + daysN L j B → Q (b01 (decide (B 6 + j ≤ 9999))) σ') → Jt mX12_arePassed (d + 10) 0 t Q 7 [rv 321, iv p, iv i] [] τ := by
    intro j
    induction j with
    | zero =>
      intro i acc B τ i0 hi qB vB hB oB ac k1
      have h6 := AV_6 vB
      refine b_X12_arePassed_7 ⟨rng (by omega) (by omega), rng (by omega) (by omega), fun _ => ?_, fun z => absurd z (by omega)⟩
      have := k1 τ qB oB (by rw [daysN, ac]; omega)
      rw [show decide (B 6 + ((0 : Nat) : Int) ≤ 9999) = true from decide_eq_true (by omega)] at this
      exact this
    | succ j ih =>
      intro i acc B τ i0 hi qB vB hB oB ac k1
      rw [daysA, daysN] at k1
      have h6 := AV_6 vB
      refine b_X12_arePassed_7 ⟨rng (by omega) (by omega), rng (by omega) (by omega), fun z => absurd z (by omega), fun _ => ⟨by decide, ?_⟩⟩
      rw [qB]
      refine ⟨rng (by omega) (by omega), fun z => ?_, fun z => ?_⟩
      · rw [if_neg z, if_neg z] at k1
        have v1 := AV_keep vB
        have k01 := keepA_01 vB
        have hn := vB.2.2.2.2.2.1.2
        have h1 := vB.2.2.2.2.2.2
        refine m_keep (by rw [qB]; exact ⟨vB.2.1.1, vB.2.1.2.1⟩) ?_
        rw [qB]
        have o1 : offP σ (sr τ 322 (keepA B)) := offP_tr oB offP_sr
        refine m_pass (d := d + 3) (w := true) (n := n) (L := L) (A := keepA B) (s := mrow (keepA B)) (by rw [sr_at, setM_mrow]) v1.1 (by rw [o1.2 23 (by decide)]; exact hw) (TxM_same hT (o1.1 324 (by decide) (by decide) (by decide) (by decide) (by decide))) hL (by rw [k01.2]; omega) (by omega) (by rw [keepA_d vB]; omega) (fun σ2 q2 o2 t2 => ?_)
        obtain ⟨d1, d2, d3, d4⟩ := dayA_AV (L := L) vB (by omega)
        rw [k01.2] at q2 t2
        rw [sr_ne (by decide), ac] at t2
        refine ih (i + 1) _ (dayA L B) σ2 (by omega) (by omega) q2 d1 (by omega) (offP_tr o1 o2) t2 (fun σ' x1 x2 x3 => ?_)
        have := k1 σ' x1 x2 (by rw [x3]; omega)
        rw [show decide (B 6 + ((j + 1 : Nat) : Int) ≤ 9999) = decide (dayA L B 6 + (j : Int) ≤ 9999) from decide_eq_decide.mpr (by omega)] at this
        exact this
      · rw [if_pos z, if_pos z] at k1
        have := k1 τ qB oB (by rw [ac]; omega)
        rw [show decide (B 6 + ((j + 1 : Nat) : Int) ≤ 9999) = false from decide_eq_false (by omega)] at this
        exact this
  have s24 : σ1 321 24 = 0 := by rw [e1, up_at]
  refine loop p.toNat 0 0 A σ1 (by omega) (by omega) (by rw [e1, up_row (by decide)]; exact hA) va hA0 ⟨fun x x1 _ _ _ _ => by rw [e1, up_row x1], fun j hj => by rw [e1, up_ne (Or.inr hj)]⟩ s24 (fun σ' x1 x2 x3 => ?_)
  have := k σ' x1 x2 (by rw [x3]; omega)
  rw [show decide (A 6 + p ≤ 9999) = decide (A 6 + (p.toNat : Int) ≤ 9999) from decide_eq_decide.mpr (by omega)] at this
  exact this
theorem a_days {p : Int} (d : Nat) (I : I0 L σ) (hp : 0 ≤ p ∧ p ≤ 60) {Q : Int → jM → Prop} (k : ∀ σ1, σ1 322 6 = σ 322 6 → (∀ (d2 : Nat) Q2, (∀ r' σ2, r' = b01 (decide (σ 322 6 + p ≤ 9999)) → σ2 321 24 = daysN L p.toNat (σ 322) → I0 L σ2 → frK σ σ2 → Q2 r' σ2) → Ct mX12_arePassed (d2 + 10) 0 t [rv 321, iv p] σ1 Q2) → Q (daysN L p.toNat (σ 322)) σ1) : Ct mX11_passDays (d + 10) 0 t [rv 1, iv p] σ Q := by
  have q := I.1.1
  have va := I.1.2.2.1
  refine w_passDays (L := L) (n := σ 322 0) d q va rfl I.2.1.1 hp (fun σ1 q1 o1 => ?_)
  have e322 : σ1 322 = σ 322 := o1 322 (by omega) (by omega) (by omega) (by omega)
  have e321 : σ1 321 = σ 321 := o1 321 (by omega) (by omega) (by omega) (by omega)
  have e324 : σ1 324 = σ 324 := o1 324 (by omega) (by omega) (by omega) (by omega)
  obtain ⟨x1, x2, x3, x4⟩ := daysA_AV (L := L) p.toNat va
  refine k σ1 (by rw [e322]) (fun d2 Q2 k2 => ?_)
  refine m_arePassed (L := L) (n := σ 322 0) d2 e322 va rfl (by rw [e321]; exact I.2.2.2) (TxM_same I.2.1.2.1 e324) I.2.1.2.2.1 hp (fun σ2 q2 o2 t2 => ?_)
  have := I0_step I q1 x1 x2 o1 q2 (offM_P o2)
  exact k2 _ _ rfl t2 this.1 this.2
theorem a_day {p : Int} (d : Nat) (I : I0 L σ) (hp : inR p) {Q : Int → jM → Prop} (k : ∀ r σ1, (∀ (d2 : Nat) Q2, (∀ r' σ2, Same L σ r r' σ2 → Q2 r' σ2) → Ct mX12_day (d2 + 11) 0 t [rv 321, iv p] σ1 Q2) → Q r σ1) : Ct mX11_day (d + 11) 0 t [rv 1, iv p] σ Q := by
  have q := I.1.1
  have va := I.1.2.2.1
  have h6 := AV_6 va
  have e6 : σ 3 6 = σ 322 6 := WR_d q
  have bad : (p < 1 ∨ 60 < p ∨ 9999 < σ 322 6 + p) → Q (-1) σ := by
    intro hb
    refine k _ σ (fun d2 Q2 k2 => ?_)
    refine c_X12_day (m_isIn hp ⟨by decide, by decide⟩ ⟨by decide, by decide⟩ ⟨b01_R, fun _ => k2 _ _ ⟨rfl, ⟨by decide, by decide⟩, I, frK_rf⟩, fun z => ?_⟩)
    have hin : 1 ≤ p ∧ p ≤ 60 := by
      cases e : inB p 1 60 with
      | false => exact absurd (b01_0.mpr e) z
      | true => unfold inB at e; simp at e; exact e
    exact ⟨by decide, rng (by omega) (by omega), fun _ => k2 _ _ ⟨rfl, ⟨by decide, by decide⟩, I, frK_rf⟩, fun y => absurd y (by omega)⟩
  refine c_X11_day ⟨hp, fun z => bad (Or.inl z), fun z => ⟨hp, fun y => bad (Or.inr (Or.inl y)), fun y => ?_⟩⟩
  rw [e6]
  refine ⟨rng (by omega) (by omega), fun x => ?_, fun x => bad (Or.inr (Or.inr x))⟩
  refine a_days d I (by omega) (fun σ1 s6 k1 => k _ σ1 (fun d2 Q2 k2 => ?_))
  refine c_X12_day (m_isIn hp ⟨by decide, by decide⟩ ⟨by decide, by decide⟩ ⟨b01_R, fun w => ?_, fun _ => ?_⟩)
  · have := b01_0.mp w
    unfold inB at this
    simp at this
    omega
  · rw [s6]
    refine ⟨by decide, rng (by omega) (by omega), fun w => absurd w (by omega), fun _ => k1 d2 _ (fun r' σ2 er et i2 f2 => ?_)⟩
    rw [er, decide_eq_true x, et]
    obtain ⟨x1, x2, x3, x4⟩ := daysA_AV (L := L) p.toNat va
    exact ⟨b01_R, fun w => absurd w (by decide), fun _ => k2 _ _ ⟨rfl, rng (by omega) (by omega), i2, f2⟩⟩
/-- one draw's deed -/
def hapR (L : LT) (k : Int) (r : Int → Int) (x : Int) : Int → Int :=
  if x % 6 = 0 ∨ x % 6 = 1 then (if canB r (x / 6 % 8) (x % 8) then uniteR r (x / 6 % 8) (x % 8) else r)
  else if x % 6 = 2 then (if x % 4 = 0 ∧ fullB r (x / 6 % 8) = true then emptyR r (x / 6 % 8) 1 else r)
  else if x % 6 = 3 then (if x % 4 = 1 ∧ fullB r (x / 6 % 8) = true then bakeR L k r (x / 6 % 8) else r)
  else (if r 0 < 9999 then passR true L k r else r)
theorem hapR_RV {L : LT} {k x : Int} {r : Int → Int} (v : RV r) : RV (hapR L k r x) := by
  have hc : 0 ≤ x / 6 % 8 ∧ x / 6 % 8 < 8 := by omega
  unfold hapR
  split
  · split
    · rename_i h; exact uniteR_RV v h
    · exact v
  · split
    · split
      · exact emptyR_RV v hc (by omega)
      · exact v
    · split
      · split
        · exact bakeR_RV v hc
        · exact v
      · split
        · rename_i h; exact (passR_RV v h).1
        · exact v
def yrsR (L : LT) (k : Int) : Nat → (Int → Int) → (Int → Int)
  | 0, r => r
  | j + 1, r => yrsR L k j (hapR L k (drawR r) (r 1))
theorem yrsR_RV {L : LT} {k : Int} : ∀ (j : Nat) {r : Int → Int}, RV r → RV (yrsR L k j r)
  | 0, _, v => v
  | j + 1, _, v => yrsR_RV j (hapR_RV (drawR_RV v))
theorem h_liveOnce {x n k : Int} {h : Int} {r : Int → Int} {Q : Int → jM → Prop} (d : Nat) (h0 : ob (GG t) h 1) (hh : h ≤ 266) (q : HR σ h r) (v : RV r) (hT : TxC σ n L) (hk : -1 ≤ k ∧ k < n) (hn : n ≤ 4) (hx : 0 ≤ x ∧ x < 30997) (kk : ∀ σ', HR σ' h (hapR L k r x) → offH h σ σ' → Q 0 σ') : Ct mX1_liveOnce (d + 10) 9 t [rv h, iv x, rv 273, rv (cellT k)] σ Q := by
  have hr : inR x := rng (by omega) (by omega)
  have v0 := v.1
  have rr : ∀ y, 0 ≤ y → y < 30997 → inR y := fun y a b => rng (by omega) (by omega)
  refine c_X1_liveOnce h0 ?_
  rw [tm hx.1, tm hx.1, td hx.1, tm (show (0 : Int) ≤ x / 6 by omega), tm hx.1]
  unfold hapR at kk
  have joins : (x % 6 = 0 ∨ x % 6 = 1) → Ct mX1_joinable (d + 9) 0 t [rv h, iv (x / 6 % 8), iv (x % 8)] σ (fun r8 σ8 => inR r8 ∧ ((r8 = 0 → Q 0 σ8) ∧ (¬ r8 = 0 → (inR x ∧ Ct mX1_unite (d + 9) 0 t [rv h, iv (x / 6 % 8), iv (x % 8)] σ8 (fun _ σ11 => Q 0 σ11))))) := by
    intro hj
    rw [if_pos hj] at kk
    refine h_joinable (d := d + 8) h0 q v (rng (by omega) (by omega)) (rng (by omega) (by omega)) ⟨b01_R, fun z => ?_, fun z => ⟨hr, ?_⟩⟩
    · rw [b01_0.mp z] at kk
      exact kk σ q offH_rf
    · have hc : canB r (x / 6 % 8) (x % 8) = true := by
        cases e : canB r (x / 6 % 8) (x % 8) with
        | true => rfl
        | false => exact absurd (b01_0.mpr e) z
      rw [if_pos hc] at kk
      exact h_unite (d := d + 8) h0 q v hc (fun σ2 q2 o2 => kk σ2 q2 (offH_4 o2))
  refine ⟨hr, rr _ (by omega) (by omega), hr, rr _ (by omega) (by omega), fun z => ?_, fun z => ⟨hr, joins (Or.inl z)⟩, fun z => ⟨hr, joins (Or.inr z)⟩, fun z => ⟨hr, rr _ (by omega) (by omega), fun y => ?_, fun y => ?_⟩, fun z => ⟨hr, rr _ (by omega) (by omega), fun y => ?_, fun y => ?_⟩⟩
  · rw [if_neg (by omega), if_neg (by omega), if_neg (by omega)] at kk
    rw [q.1]
    refine ⟨rng (by omega) (by omega), fun y => ?_, fun y => ?_⟩
    · rw [if_neg (by omega)] at kk
      exact kk σ q offH_rf
    · rw [if_pos y] at kk
      exact h_passDay (d := d + 5) h0 hh q v hT hk hn y kk
  · rw [if_neg (by omega), if_pos z, if_neg (by omega)] at kk
    exact kk σ q offH_rf
  · rw [if_neg (by omega), if_pos z] at kk
    refine h_clear (d := d + 8) h0 q v (by omega) (rng (by omega) (by omega)) (fun f σ2 q2 o2 => ?_) (fun f => ?_)
    · rw [if_pos ⟨y, f⟩] at kk
      exact kk σ2 q2 (offH_4 o2)
    · rw [if_neg (by rw [f]; simp)] at kk
      exact kk σ q offH_rf
  · rw [if_neg (by omega), if_neg (by omega), if_pos z, if_neg (by omega)] at kk
    exact kk σ q offH_rf
  · rw [if_neg (by omega), if_neg (by omega), if_pos z] at kk
    refine h_sell (d := d + 5) h0 hh q v hT hk hn (rng (by omega) (by omega)) (fun f => ?_) (fun f σ2 q2 o2 => ?_)
    · rw [if_neg (by rw [f]; simp)] at kk
      exact kk σ q offH_rf
    · rw [if_pos ⟨y, f⟩] at kk
      exact kk σ2 q2 o2
theorem h_live {p m n k : Int} {h : Int} {r : Int → Int} {Q : Int → jM → Prop} (d : Nat) (h0 : ob (GG t) h 1) (hh : h ≤ 266) (q : HR σ h r) (v : RV r) (hT : TxC σ n L) (hk : -1 ≤ k ∧ k < n) (hn : n ≤ 4) (hp : 0 ≤ p ∧ p ≤ 9999) (hm : 1 ≤ m ∧ m ≤ 40) (kk : ∀ σ', HR σ' h (yrsR L k m.toNat (wr r 1 (p * 2 + 433))) → offH h σ σ' → Q 0 σ') : Ct mX1_live (d + 11) 9 t [rv h, iv p, iv m, rv 273, rv (cellT k)] σ Q := by
  refine c_X1_live h0 (fun σ1 e1 => ?_)
  have loop : ∀ (j : Nat) (i : Int) (s : Int → Int) (τ : jM), 0 ≤ i → i + j = m → HR τ h s → RV s → offH h σ τ → (∀ σ', HR σ' h (yrsR L k j s) → offH h σ σ' → Q 0 σ') → Jt mX1_live (d + 11) 9 t Q 14 [rv h, iv p, iv m, rv 273, rv (cellT k), iv i] [] τ := by
    intro j
    induction j with
    | zero =>
      intro i s τ i0 hi qs vs os k1
      exact b_X1_live_14 h0 ⟨rng (by omega) (by omega), rng (by omega) (by omega), fun _ => k1 τ qs os, fun z => absurd z (by omega)⟩
    | succ j ih =>
      intro i s τ i0 hi qs vs os k1
      rw [yrsR] at k1
      refine b_X1_live_14 h0 ⟨rng (by omega) (by omega), rng (by omega) (by omega), fun z => absurd z (by omega), fun _ => ?_⟩
      refine h_draw h0 qs vs (fun σ3 q3 o3 => ?_)
      have o3' := offH_tr os (offH_4 o3)
      refine h_liveOnce (L := L) (n := n) d h0 hh q3 (drawR_RV vs) (TxC_H hT hn hh o3') hk hn vs.2.1 (fun σ4 q4 o4 => ?_)
      exact ih (i + 1) _ σ4 (by omega) (by omega) q4 (hapR_RV (drawR_RV vs)) (offH_tr o3' o4) k1
  refine loop m.toNat 0 (wr r 1 (p * 2 + 433)) σ1 (by omega) (by omega) (by rw [e1]; exact HR_own q (Or.inr (Or.inr ⟨rfl, rfl⟩))) (wr_RV v (by omega) (by omega) (by intro _; omega) (by omega) (by omega) (by omega)) (fun x x1 _ _ => by rw [e1, up_row (by omega)]) kk
theorem m_happens {x n : Int} {A s : Int → Int} {Q : Int → jM → Prop} (d : Nat) (hA : σ 322 = setM A s) (v : RV s) (hw : σ 321 23 = 1) (hT : TxM σ n L) (hL : LQ n L) (hk : -1 ≤ A 1 ∧ A 1 < n) (hn : n ≤ 4) (hx : 0 ≤ x ∧ x < 30997) (kk : ∀ σ', σ' 322 = setM A (hapR L (A 1) s x) → offP σ σ' → Q 0 σ') : Ct mX12_happens (d + 10) 9 t [rv 321, iv x] σ Q := by
  have es : eqr (mrow (σ 322)) s := by rw [hA]; exact mrow_setM
  have vm : RV (mrow (σ 322)) := RV_congr (eqr_sy es) v
  have ags := agr_eqr es
  have hr : inR x := rng (by omega) (by omega)
  have v0 := v.1
  have hc : 0 ≤ x / 6 % 8 ∧ x / 6 % 8 < 8 := by omega
  have rr : ∀ y, 0 ≤ y → y < 30997 → inR y := fun y a b => rng (by omega) (by omega)
  refine c_X12_happens ?_
  rw [tm hx.1, tm hx.1, td hx.1, tm (show (0 : Int) ≤ x / 6 by omega), tm hx.1]
  unfold hapR at kk
  have joins : (x % 6 = 0 ∨ x % 6 = 1) → Ct mX12_canJoin (d + 9) 0 t [rv 321, iv (x / 6 % 8), iv (x % 8)] σ (fun r8 σ8 => inR r8 ∧ ((r8 = 0 → Q 0 σ8) ∧ (¬ r8 = 0 → (inR x ∧ Ct mX12_joinNow (d + 9) 0 t [rv 321, iv (x / 6 % 8), iv (x % 8)] σ8 (fun _ σ11 => Q 0 σ11))))) := by
    intro hj
    rw [if_pos hj] at kk
    refine m_canJoin (d := d + 5) vm (rng (by omega) (by omega)) (rng (by omega) (by omega)) ?_
    rw [canB_agr ags]
    refine ⟨b01_R, fun z => ?_, fun z => ⟨hr, ?_⟩⟩
    · rw [b01_0.mp z] at kk
      exact kk σ hA offP_rf
    · have hcb : canB s (x / 6 % 8) (x % 8) = true := by
        cases e : canB s (x / 6 % 8) (x % 8) with
        | true => rfl
        | false => exact absurd (b01_0.mpr e) z
      have hcm : canB (mrow (σ 322)) (x / 6 % 8) (x % 8) = true := by rw [canB_agr ags]; exact hcb
      rw [if_pos hcb] at kk
      refine m_joinNow (d := d + 5) vm hw hcm (kk _ ?_ offP_sr)
      rw [sr_at, setM_congr (uniteR_eqr es vm hcm), hA, setM_setM]
  have full : ∀ (P : Int → jM → Prop), (fullB s (x / 6 % 8) = true → P 1 σ) → (fullB s (x / 6 % 8) = false → P 0 σ) → Ct mX12_isFull (d + 9) 0 t [rv 321, iv (x / 6 % 8)] σ P := by
    intro P p1 p0
    refine m_isFull (d := d + 7) vm (rng (by omega) (by omega)) ?_
    rw [fullB_agr ags]
    cases e : fullB s (x / 6 % 8) with
    | true => exact p1 e
    | false => exact p0 e
  have i01 : inR 0 ∧ inR 1 := ⟨in0, by decide, by decide⟩
  refine ⟨hr, rr _ (by omega) (by omega), hr, rr _ (by omega) (by omega), fun z => ?_, fun z => ⟨hr, joins (Or.inl z)⟩, fun z => ⟨hr, joins (Or.inr z)⟩, fun z => ⟨hr, rr _ (by omega) (by omega), fun y => ?_, fun y => ?_⟩, fun z => ⟨hr, rr _ (by omega) (by omega), fun y => ?_, fun y => ?_⟩⟩
  · rw [if_neg (by omega), if_neg (by omega), if_neg (by omega)] at kk
    have e6 : σ 322 6 = s 0 := by
      have := es 0 (by omega) (by omega)
      rw [mrow_lo (by omega), show (6 : Int) + 0 = 6 by omega] at this
      exact this
    rw [e6]
    refine ⟨by decide, rng (by omega) (by omega), fun y => ?_, fun y => ?_⟩
    · rw [if_neg (by omega)] at kk
      exact kk σ hA offP_rf
    · rw [if_pos y] at kk
      exact m_pass (d := d + 3) (w := true) (n := n) (L := L) hA v hw hT hL hk hn y (fun σ' a b _ => kk σ' a b)
  · rw [if_neg (by omega), if_pos z, if_neg (by omega)] at kk
    exact kk σ hA offP_rf
  · rw [if_neg (by omega), if_pos z] at kk
    refine full _ (fun f => ⟨i01.2, fun w => absurd w (by decide), fun _ => ?_⟩) (fun f => ⟨i01.1, fun _ => ?_, fun w => absurd rfl w⟩)
    · rw [if_pos ⟨y, f⟩] at kk
      refine m_emptyNow (d := d + 8) vm hw hc (kk _ ?_ offP_sr)
      rw [sr_at, setM_congr (emptyR_eqr es vm hc), hA, setM_setM]
    · rw [if_neg (by rw [f]; simp)] at kk
      exact kk σ hA offP_rf
  · rw [if_neg (by omega), if_neg (by omega), if_pos z, if_neg (by omega)] at kk
    exact kk σ hA offP_rf
  · rw [if_neg (by omega), if_neg (by omega), if_pos z] at kk
    refine full _ (fun f => ⟨i01.2, fun w => absurd w (by decide), fun _ => ?_⟩) (fun f => ⟨i01.1, fun _ => ?_, fun w => absurd rfl w⟩)
    · rw [if_pos ⟨y, f⟩] at kk
      exact m_bakeNow (d := d + 3) (n := n) (L := L) hA v hw hT hL hk hn hc kk
    · rw [if_neg (by rw [f]; simp)] at kk
      exact kk σ hA offP_rf
theorem a_years {p m : Int} (d : Nat) (I : I0 L σ) (hp : inR p) (hm : inR m) {Q : Int → jM → Prop} (k : ∀ r σ1, (∀ (d2 : Nat) Q2, (∀ r' σ2, Same L σ r r' σ2 → Q2 r' σ2) → Ct mX12_years (d2 + 12) 0 t [rv 321, iv p, iv m] σ1 Q2) → Q r σ1) : Ct mX11_years (d + 12) 0 t [rv 1, iv p, iv m] σ Q := by
  have q := I.1.1
  have va := I.1.2.2.1
  have h6 := AV_6 va
  have inof : ∀ {x a b : Int}, ¬ b01 (inB x a b) = 0 → a ≤ x ∧ x ≤ b := by
    intro x a b z
    cases e : inB x a b with
    | false => exact absurd (b01_0.mpr e) z
    | true => unfold inB at e; simp at e; exact e
  have bad : (p < 0 ∨ 9999 < p ∨ m < 1 ∨ 40 < m) → Q (-1) σ := by
    intro hb
    refine k _ σ (fun d2 Q2 k2 => ?_)
    refine c_X12_years (m_isIn hp ⟨by decide, by decide⟩ ⟨by decide, by decide⟩ ⟨b01_R, fun _ => k2 _ _ ⟨rfl, ⟨by decide, by decide⟩, I, frK_rf⟩, fun z => ?_⟩)
    refine m_isIn hm ⟨by decide, by decide⟩ ⟨by decide, by decide⟩ ⟨b01_R, fun y => ?_, fun _ => k2 _ _ ⟨rfl, ⟨by decide, by decide⟩, I, frK_rf⟩⟩
    have := inof z
    have := inof y
    omega
  refine c_X11_years ⟨hp, fun z => bad (by omega), fun z => ⟨hp, fun y => bad (by omega), fun y => ⟨hm, fun x => bad (by omega), fun x => ⟨hm, fun w => ?_, fun w => bad (by omega)⟩⟩⟩⟩
  refine w_keep (d := d + 8) q va (fun σ1 q1 o1 => ?_)
  have v1 := AV_keep va
  have k01 := keepA_01 va
  refine w_ruler (d := d + 10) q1 v1 ?_
  have hn := va.2.2.2.2.2.1.2
  have h1 := va.2.2.2.2.2.2
  have t1 : TxC σ1 (σ 322 0) L := TxC_same I.2.1.1 hn (fun x x0 x1 => o1 x (by omega) (by omega) (by omega) (by omega))
  refine h_live (L := L) (n := σ 322 0) d okl_3 (by omega) q1.1 v1.1 t1 (by rw [k01.2]; exact h1) hn ⟨z, y⟩ ⟨x, w⟩ (fun σ2 q2 o2 => ?_)
  have vs0 : RV (wr (mrow (keepA (σ 322))) 1 (p * 2 + 433)) := wr_RV v1.1 (by omega) (by omega) (by intro _; omega) (by omega) (by omega) (by omega)
  have vy := yrsR_RV (L := L) (k := keepA (σ 322) 1) m.toNat vs0
  have w2 := WR_house q1 v1 vy q2 o2
  have o12 : offN σ σ2 := offN_tr o1 (offN_H o2)
  have e322 : σ2 322 = σ 322 := o12 322 (by omega) (by omega) (by omega) (by omega)
  have e321 : σ2 321 = σ 321 := o12 321 (by omega) (by omega) (by omega) (by omega)
  have e324 : σ2 324 = σ 324 := o12 324 (by omega) (by omega) (by omega) (by omega)
  have vfin := AV_house v1 vy
  rw [WR_d w2]
  have hfin := AV_6 vfin
  refine k _ σ2 (fun d2 Q2 k2 => ?_)
  refine c_X12_years (m_isIn hp ⟨by decide, by decide⟩ ⟨by decide, by decide⟩ ⟨b01_R, fun u => ?_, fun _ => ?_⟩)
  · have := b01_0.mp u
    unfold inB at this
    simp at this
    omega
  refine m_isIn hm ⟨by decide, by decide⟩ ⟨by decide, by decide⟩ ⟨b01_R, fun _ => ?_, fun u => ?_⟩
  · refine m_keep (by rw [e322]; exact ⟨va.2.1.1, va.2.1.2.1⟩) ⟨by decide, fun σ7 e7 => ?_⟩
    rw [e322] at e7
    have h7 : σ7 322 = setM (keepA (σ 322)) (wr (mrow (keepA (σ 322))) 1 (p * 2 + 433)) := by
      rw [e7, up_sr, sr_at, sr_at, show (7 : Int) = 6 + 1 by omega]
      exact setM_wr (by omega)
    have o7 : offP σ2 σ7 := ⟨fun x _ x2 _ _ _ => by rw [e7, up_row x2, sr_ne x2], fun j _ => by rw [e7, up_row (by decide), sr_ne (by decide)]⟩
    have loop : ∀ (j : Nat) (i : Int) (s : Int → Int) (τ : jM), 0 ≤ i → i + j = m → τ 322 = setM (keepA (σ 322)) s → RV s → offP σ2 τ → (∀ σ', σ' 322 = setM (keepA (σ 322)) (yrsR L (keepA (σ 322) 1) j s) → offP σ2 σ' → Q2 (σ' 322 6) σ') → Jt mX12_years (d2 + 12) 0 t Q2 43 [rv 321, iv p, iv m, iv i, uv] [] τ := by
      intro j
      induction j with
      | zero =>
        intro i s τ i0 hi hs vs os k3
        exact b_X12_years_43 ⟨rng (by omega) (by omega), rng (by omega) (by omega), fun _ => ⟨by decide, k3 τ hs os⟩, fun u => absurd u (by omega)⟩
      | succ j ih =>
        intro i s τ i0 hi hs vs os k3
        rw [yrsR] at k3
        have es : eqr (mrow (τ 322)) s := by rw [hs]; exact mrow_setM
        have vm : RV (mrow (τ 322)) := RV_congr (eqr_sy es) vs
        have e7' : τ 322 7 = s 1 := by
          have := es 1 (by omega) (by omega)
          rw [mrow_lo (by omega), show (6 : Int) + 1 = 7 by omega] at this
          exact this
        refine b_X12_years_43 ⟨rng (by omega) (by omega), rng (by omega) (by omega), fun u => absurd u (by omega), fun _ => ⟨by decide, ?_⟩⟩
        rw [e7']
        refine m_anew vm ?_
        have hd : (sr τ 322 (setM (τ 322) (drawR (mrow (τ 322))))) 322 = setM (keepA (σ 322)) (drawR s) := by
          rw [sr_at, setM_congr (drawR_eqr es), hs, setM_setM]
        have od : offP σ2 (sr τ 322 (setM (τ 322) (drawR (mrow (τ 322))))) := offP_tr os offP_sr
        refine m_happens (L := L) (n := σ 322 0) (d2 + 1) hd (drawR_RV vs) (by rw [od.2 23 (by decide), e321]; exact I.2.2.2) (TxM_same I.2.1.2.1 (by rw [od.1 324 (by decide) (by decide) (by decide) (by decide) (by decide)]; exact e324)) I.2.1.2.2.1 (by rw [k01.2]; exact h1) hn vs.2.1 (fun σ4 q4 o4 => ?_)
        exact ih (i + 1) _ σ4 (by omega) (by omega) q4 (hapR_RV (drawR_RV vs)) (offP_tr od o4) k3
    refine loop m.toNat 0 _ σ7 (by omega) (by omega) h7 vs0 o7 (fun σ8 q8 o8 => ?_)
    rw [q8]
    refine k2 _ _ ⟨rfl, rng (by omega) (by omega), ?_⟩
    exact I0_step I w2 vfin (by rw [setM_off (by omega)]; exact k01.1) o12 q8 (offM_P o8)
  · have := b01_0.mp u
    unfold inB at this
    simp at this
    omega
end YR
