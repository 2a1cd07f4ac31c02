/-! ===== both halves alike ===== -/
/-- the clauses of a text alike: the class's at cell a, the reference's of number k -/
def kindOf (s : Int) : Int := if s = 5 then 106 else if s = 6 then 105 else 100 + s
def CL1 (σ : jM) (a k : Int) : Prop := σ a 6 = σ 324 (681 * k) ∧ ∀ j, 0 ≤ j → j < σ 324 (681 * k) → (σ (a + 1) j = kindOf (σ 324 (681 * k + 1 + 3 * j)) ∧ (2 ≤ σ 324 (681 * k + 1 + 3 * j) → σ (a + 2) j = σ 324 (681 * k + 1 + 3 * j + 1)) ∧ (σ 324 (681 * k + 1 + 3 * j) = 2 → (σ (a + 3) j = σ 324 (681 * k + 1 + 3 * j + 2) ∧ 0 ≤ σ 324 (681 * k + 1 + 3 * j + 2) ∧ σ 324 (681 * k + 1 + 3 * j + 2) ≤ 7)) ∧ (2 ≤ σ 324 (681 * k + 1 + 3 * j) → (0 ≤ σ 324 (681 * k + 1 + 3 * j + 1) ∧ σ 324 (681 * k + 1 + 3 * j + 1) ≤ (if σ 324 (681 * k + 1 + 3 * j) = 5 then 60 else if σ 324 (681 * k + 1 + 3 * j) = 6 then 120 else 7) ∧ (5 ≤ σ 324 (681 * k + 1 + 3 * j) → 1 ≤ σ 324 (681 * k + 1 + 3 * j + 1)))))
def CLs (σ : jM) (n : Int) : Prop := ∀ k, 0 ≤ k → k < n → CL1 σ (293 + 7 * k) k
def IW (σ : jM) : Prop := WR σ 2 (σ 322) ∧ WR σ 134 (σ 323) ∧ AV (σ 322) ∧ AV (σ 323) ∧ σ 323 0 ≤ σ 322 0
def IT (L : LT) (σ : jM) : Prop := TxC σ (σ 322 0) L ∧ TxM σ (σ 322 0) L ∧ LQ (σ 322 0) L ∧ CLs σ (σ 322 0)
def IF (σ : jM) : Prop := σ 271 1 = σ 321 4 ∧ (0 ≤ σ 321 4 ∧ σ 321 4 ≤ 300) ∧ (∀ i, 0 ≤ i → i < σ 321 4 → (σ 272 i = σ 325 i ∧ 0 ≤ σ 325 i ∧ σ 325 i ≤ 255)) ∧ (σ 271 2 = σ 321 5 ∧ -1 ≤ σ 321 5 ∧ σ 321 5 ≤ 6) ∧ (σ 271 3 = σ 321 6 ∧ -1 ≤ σ 321 6 ∧ σ 321 6 ≤ 300)
def I0 (L : LT) (σ : jM) : Prop := IW σ ∧ IT L σ ∧ IF σ ∧ σ 321 23 = 1
/-- the rows of what is found once -/
def frK (σ σ' : jM) : Prop := ∀ x, ((275 ≤ x ∧ x ≤ 292) ∨ x = 332 ∨ x = 338) → σ' x = σ x
theorem frK_rf {σ : jM} : frK σ σ := fun _ _ => rfl
theorem frK_tr {σ σ1 σ2 : jM} (a : frK σ σ1) (b : frK σ1 σ2) : frK σ σ2 := fun x h => (b x h).trans (a x h)
/-- what a step of the class leaves alone; what one of the reference does -/
def offN (σ σ' : jM) : Prop := ∀ x, (x < 2 ∨ 133 < x) → ¬ (266 ≤ x ∧ x ≤ 269) → x ≠ 273 → x ≠ 274 → σ' x = σ x
def offM (σ σ' : jM) : Prop := (∀ x, x ≠ 321 → x ≠ 322 → (x < 326 ∨ x = 332 ∨ x = 338) → σ' x = σ x) ∧ ∀ j, (j = 4 ∨ j = 5 ∨ j = 6 ∨ j = 23) → σ' 321 j = σ 321 j
theorem offN_rf {σ : jM} : offN σ σ := fun _ _ _ _ _ => rfl
theorem offN_tr {σ σ1 σ2 : jM} (a : offN σ σ1) (b : offN σ1 σ2) : offN σ σ2 := fun x h1 h2 h3 h4 => (b x h1 h2 h3 h4).trans (a x h1 h2 h3 h4)
theorem offN_H {σ σ' : jM} (a : offH 3 σ σ') : offN σ σ' := fun x h1 _ h3 h4 => a x (by omega) h3 h4
theorem offN_4 {σ σ' : jM} (a : off4 3 σ σ') : offN σ σ' := fun x h1 _ _ _ => a x (by omega)
theorem offN_2 {σ σ' : jM} (a : off2 σ σ') : offN σ σ' := fun x _ _ h3 h4 => a x h3 h4
theorem offN_S {σ σ' : jM} (a : offS 7 σ σ') : offN σ σ' := fun x h1 _ _ _ => a x (by omega)
theorem offN_W {σ σ' : jM} (a : offW 2 σ σ') : offN σ σ' := fun x h1 _ _ _ => a x (by omega)
theorem offM_rf {σ : jM} : offM σ σ := ⟨fun _ _ _ _ => rfl, fun _ _ => rfl⟩
theorem offM_tr {σ σ1 σ2 : jM} (a : offM σ σ1) (b : offM σ1 σ2) : offM σ σ2 := ⟨fun x h1 h2 h3 => (b.1 x h1 h2 h3).trans (a.1 x h1 h2 h3), fun j hj => (b.2 j hj).trans (a.2 j hj)⟩
theorem offM_P {σ σ' : jM} (a : offP σ σ') : offM σ σ' := ⟨fun x h1 h2 h3 => a.1 x h1 h2 (by omega) (by omega) (by omega), fun j hj => a.2 j (by omega)⟩
theorem offM_3 {σ σ' : jM} (a : off3 σ σ') : offM σ σ' := offM_P (offP_3 a)
theorem offM_sr {σ : jM} {A : Int → Int} : offM σ (sr σ 322 A) := offM_P offP_sr
theorem CLs_same {σ σ' : jM} {n : Int} (h : CLs σ n) (hn : n ≤ 4) (e : ∀ x, 293 ≤ x → x ≤ 320 → σ' x = σ x) (e2 : σ' 324 = σ 324) : CLs σ' n := fun k k0 k1 => by
  have := h k k0 k1
  unfold CL1 at this ⊢
  rw [e (293 + 7 * k) (by omega) (by omega), e (293 + 7 * k + 1) (by omega) (by omega), e (293 + 7 * k + 2) (by omega) (by omega), e (293 + 7 * k + 3) (by omega) (by omega), e2]
  exact this
/-- both made the same step -/
theorem I0_step {L : LT} {σ σ1 σ2 : jM} {A : Int → Int} (I : I0 L σ) (hw : WR σ1 2 A) (va : AV A) (hn : A 0 = σ 322 0) (o1 : offN σ σ1) (e2 : σ2 322 = A) (o2 : offM σ1 σ2) : I0 L σ2 ∧ frK σ σ2 := by
  obtain ⟨⟨w1, w2, v1, v2, w3⟩, ⟨t1, t2, t3, t4⟩, ⟨f1, f2, f3, f4, f5⟩, b⟩ := I
  have hn4 : σ 322 0 ≤ 4 := v1.2.2.2.2.2.1.2
  have same : ∀ x, (x < 2 ∨ 133 < x) → ¬ (266 ≤ x ∧ x ≤ 269) → x ≠ 273 → x ≠ 274 → x ≠ 321 → x ≠ 322 → (x < 326 ∨ x = 332 ∨ x = 338) → σ2 x = σ x := fun x h1 h2 h3 h4 h5 h6 h7 => (o2.1 x h5 h6 h7).trans (o1 x h1 h2 h3 h4)
  have m321 : ∀ j, (j = 4 ∨ j = 5 ∨ j = 6 ∨ j = 23) → σ2 321 j = σ 321 j := fun j hj => by rw [o2.2 j hj, o1 321 (by omega) (by omega) (by omega) (by omega)]
  have s323 : σ2 323 = σ 323 := same 323 (by omega) (by omega) (by omega) (by omega) (by omega) (by omega) (by omega)
  have s324 : σ2 324 = σ 324 := same 324 (by omega) (by omega) (by omega) (by omega) (by omega) (by omega) (by omega)
  have s325 : σ2 325 = σ 325 := same 325 (by omega) (by omega) (by omega) (by omega) (by omega) (by omega) (by omega)
  have s271 : σ2 271 = σ 271 := same 271 (by omega) (by omega) (by omega) (by omega) (by omega) (by omega) (by omega)
  have s272 : σ2 272 = σ 272 := same 272 (by omega) (by omega) (by omega) (by omega) (by omega) (by omega) (by omega)
  have tx : ∀ x, 293 ≤ x → x ≤ 320 → σ2 x = σ x := fun x x0 x1 => same x (by omega) (by omega) (by omega) (by omega) (by omega) (by omega) (by omega)
  refine ⟨⟨⟨?_, ?_, ?_, ?_, ?_⟩, ⟨?_, ?_, ?_, ?_⟩, ?_, ?_⟩, fun x hx => same x (by omega) (by omega) (by omega) (by omega) (by omega) (by omega) (by omega)⟩
  · rw [e2]; exact WR_same hw (fun x x0 x1 => o2.1 x (by omega) (by omega) (by omega))
  · rw [s323]; exact WR_same w2 (fun x x0 x1 => same x (by omega) (by omega) (by omega) (by omega) (by omega) (by omega) (by omega))
  · rw [e2]; exact va
  · rw [s323]; exact v2
  · rw [e2, s323, hn]; exact w3
  · rw [e2, hn]; exact TxC_same t1 hn4 tx
  · rw [e2, hn]; exact TxM_same t2 s324
  · rw [e2, hn]; exact t3
  · rw [e2, hn]; exact CLs_same t4 hn4 tx s324
  · unfold IF
    rw [s271, s272, s325, m321 4 (by omega), m321 5 (by omega), m321 6 (by omega)]
    exact ⟨f1, f2, f3, f4, f5⟩
  · rw [m321 23 (by omega)]; exact b
/-- the class's house has changed -/
theorem WR_house {σ σ' : jM} {A r : Int → Int} (q : WR σ 2 A) (va : AV A) (v : RV r) (qh : HR σ' 3 r) (o : offH 3 σ σ') : WR σ' 2 (setM A r) := by
  obtain ⟨a1, a2, a3, a4, a5, a6, a7⟩ := q
  have e2 : σ' 2 = σ 2 := o 2 (by omega) (by omega) (by omega)
  have es : srow (setM A r) = fun k i => setM A r (58 + 70 * k + i) := rfl
  refine ⟨HR_congr (eqr_sy mrow_setM) v qh, ?_, ?_, ?_, ?_, ?_, ?_⟩
  · have a2' := SR_same a2 (fun x x0 x1 => o x (by omega) (by omega) (by omega))
    rw [setM_off (by omega)]
    obtain ⟨b1, b2, b3, b4⟩ := a2'
    refine ⟨b1, b2, b3, fun k k0 k1 => ?_⟩
    obtain ⟨c1, c2, c3, c4, c5, c6, c7⟩ := b4 k k0 k1
    have ek : ∀ i, 0 ≤ i → i < 70 → srow (setM A r) k i = srow A k i := fun i i0 i1 => by
      unfold srow
      exact setM_off (by omega)
    have d3 := (va.2.1.2.2 k k0 k1).2.2.2.1
    refine ⟨by rw [ek 0 (by omega) (by omega)]; exact c1, by rw [ek 1 (by omega) (by omega)]; exact c2, by rw [ek 2 (by omega) (by omega)]; exact c3, by rw [ek 3 (by omega) (by omega)]; exact c4, c5, fun i i0 i1 => ?_, fun i i0 i1 => ?_⟩
    · rw [ek _ (by omega) (by omega), ek _ (by omega) (by omega)]
      exact c6 i i0 i1
    · rw [ek 3 (by omega) (by omega)] at i1
      rw [ek _ (by omega) (by omega), ek _ (by omega) (by omega)]
      exact c7 i i0 i1
  · rw [setM_off (by omega)]
    rw [o (2 + 127) (by omega) (by omega) (by omega), o (2 + 128) (by omega) (by omega) (by omega)]
    have h4 := va.2.2.1
    exact ⟨a3.1, fun i i0 i1 => by rw [setM_off (by omega)]; exact a3.2 i i0 i1⟩
  · rw [setM_off (by omega), e2, o (2 + 129) (by omega) (by omega) (by omega)]
    have h4 := va.2.2.2.1
    exact ⟨a4.1, fun i i0 i1 => by rw [setM_off (by omega)]; exact a4.2 i i0 i1⟩
  · rw [setM_off (by omega), e2, o (2 + 130) (by omega) (by omega) (by omega), o (2 + 131) (by omega) (by omega) (by omega)]
    have h4 := va.2.2.2.2.1
    exact ⟨a5.1, fun i i0 i1 => by rw [setM_off (by omega), setM_off (by omega)]; exact a5.2 i i0 i1⟩
  · rw [setM_off (by omega), e2]; exact a6
  · rw [setM_off (by omega), e2]; exact a7
theorem AV_house {A r : Int → Int} (va : AV A) (v : RV r) : AV (setM A r) := by
  obtain ⟨a1, a2, a3, a4, a5, a6, a7⟩ := va
  refine ⟨RV_congr (eqr_sy mrow_setM) v, ?_, ?_, ?_, ?_, ?_, ?_⟩
  · rw [setM_off (by omega)]
    refine ⟨a2.1, a2.2.1, fun k k0 k1 => RV_congr (fun i i0 i1 => ?_) (a2.2.2 k k0 k1)⟩
    unfold srow
    exact (setM_off (by omega)).symm
  · rw [setM_off (by omega), setM_off (by omega)]
    exact ⟨a3.1, a3.2.1, a3.2.2.1, fun i i0 i1 => by rw [setM_off (by omega)]; exact a3.2.2.2 i i0 i1⟩
  · rw [setM_off (by omega)]
    exact ⟨a4.1, a4.2.1, fun i i0 i1 => by rw [setM_off (by omega)]; exact a4.2.2 i i0 i1⟩
  · rw [setM_off (by omega)]
    exact ⟨a5.1, a5.2.1, fun i i0 i1 => by rw [setM_off (by omega), setM_off (by omega)]; exact a5.2.2 i i0 i1⟩
  · rw [setM_off (by omega)]; exact a6
  · rw [setM_off (by omega), setM_off (by omega)]; exact a7
theorem SR_congr {σ : jM} {s n : Int} {f g : Int → Int → Int} (q : SR σ s n f) (e : ∀ k, 0 ≤ k → k < n → eqr (f k) (g k)) (v : ∀ k, 0 ≤ k → k < n → RV (f k)) : SR σ s n g :=
  ⟨q.1, q.2.1, q.2.2.1, fun k k0 k1 => HR_congr (e k k0 k1) (v k k0 k1) (q.2.2.2 k k0 k1)⟩
theorem pushF_RV {A : Int → Int} (va : AV A) {k : Int} (k0 : 0 ≤ k) (hk : k < keepA A 2) : RV (pushF (A 2) (srow A) (mrow A) k) := by
  have h2 := va.2.1
  rw [keepA_2 ⟨h2.1, h2.2.1⟩] at hk
  unfold pushF
  by_cases e : A 2 = 30
  · rw [if_pos e]
    rw [if_pos e] at hk
    by_cases e2 : k = 29
    · rw [if_pos e2]; exact va.1
    · rw [if_neg e2]; exact h2.2.2 _ (by omega) (by omega)
  · rw [if_neg e]
    rw [if_neg e] at hk
    by_cases e2 : k = A 2
    · rw [if_pos e2]; exact va.1
    · rw [if_neg e2]; exact h2.2.2 _ (by omega) (by omega)
theorem AV_keep {A : Int → Int} (va : AV A) : AV (keepA A) := by
  have h2 := va.2.1
  have h2' : 0 ≤ A 2 ∧ A 2 ≤ 30 := ⟨h2.1, h2.2.1⟩
  have ko : ∀ i, i ≠ 2 → (i < 58 ∨ 2158 ≤ i) → keepA A i = A i := fun i a b => keepA_out h2' a b
  obtain ⟨a1, a2, a3, a4, a5, a6, a7⟩ := va
  have va : AV A := ⟨a1, a2, a3, a4, a5, a6, a7⟩
  refine ⟨RV_congr (eqr_sy (keepA_row h2')) a1, ⟨?_, ?_, fun k k0 k1 => RV_congr (eqr_sy (keepA_step h2' k0 k1)) (pushF_RV va k0 k1)⟩, ?_, ?_, ?_, ?_, ?_⟩
  · rw [keepA_2 h2']; split <;> omega
  · rw [keepA_2 h2']; split <;> omega
  · rw [ko 4 (by omega) (by omega), ko 30 (by omega) (by omega)]
    exact ⟨a3.1, a3.2.1, a3.2.2.1, fun i i0 i1 => by rw [ko _ (by omega) (by omega)]; exact a3.2.2.2 i i0 i1⟩
  · rw [ko 3 (by omega) (by omega)]
    exact ⟨a4.1, a4.2.1, fun i i0 i1 => by rw [ko _ (by omega) (by omega)]; exact a4.2.2 i i0 i1⟩
  · rw [ko 5 (by omega) (by omega)]
    exact ⟨a5.1, a5.2.1, fun i i0 i1 => by rw [ko _ (by omega) (by omega), ko _ (by omega) (by omega)]; exact a5.2.2 i i0 i1⟩
  · rw [ko 0 (by omega) (by omega)]; exact a6
  · rw [ko 0 (by omega) (by omega), ko 1 (by omega) (by omega)]; exact a7
theorem WR_keep {σ σ' : jM} {A : Int → Int} (q : WR σ 2 A) (va : AV A) (qs : SR σ' 7 (if A 2 = 30 then 30 else A 2 + 1) (pushF (A 2) (srow A) (mrow A))) (o : offS 7 σ σ') : WR σ' 2 (keepA A) := by
  have h2 := va.2.1
  have h2' : 0 ≤ A 2 ∧ A 2 ≤ 30 := ⟨h2.1, h2.2.1⟩
  have ko : ∀ i, i ≠ 2 → (i < 58 ∨ 2158 ≤ i) → keepA A i = A i := fun i a b => keepA_out h2' a b
  have va' := va
  obtain ⟨b1, b2, b3, b4, b5, b6, b7⟩ := va
  obtain ⟨a1, a2, a3, a4, a5, a6, a7⟩ := q
  have e2 : σ' 2 = σ 2 := o 2 (by omega)
  refine ⟨HR_congr (eqr_sy (keepA_row h2')) b1 (HR_same a1 (fun x x0 x1 => o x (by omega))), ?_, ?_, ?_, ?_, ?_, ?_⟩
  · rw [keepA_2 h2']
    refine SR_congr qs (fun k k0 k1 => eqr_sy (keepA_step h2' k0 (by rw [keepA_2 h2']; exact k1))) (fun k k0 k1 => pushF_RV va' k0 (by rw [keepA_2 h2']; exact k1))
  · rw [ko 4 (by omega) (by omega), o (2 + 127) (by omega), o (2 + 128) (by omega)]
    exact ⟨a3.1, fun i i0 i1 => by rw [ko _ (by omega) (by omega)]; exact a3.2 i i0 i1⟩
  · rw [ko 3 (by omega) (by omega), e2, o (2 + 129) (by omega)]
    exact ⟨a4.1, fun i i0 i1 => by rw [ko _ (by omega) (by omega)]; exact a4.2 i i0 i1⟩
  · rw [ko 5 (by omega) (by omega), e2, o (2 + 130) (by omega), o (2 + 131) (by omega)]
    exact ⟨a5.1, fun i i0 i1 => by rw [ko _ (by omega) (by omega), ko _ (by omega) (by omega)]; exact a5.2 i i0 i1⟩
  · rw [ko 0 (by omega) (by omega), e2]; exact a6
  · rw [ko 1 (by omega) (by omega), e2]; exact a7
section CW
variable {d : Nat} {t : Int} {Q : Int → jM → Prop} {σ : jM} {A : Int → Int}
theorem w_keep (q : WR σ 2 A) (va : AV A) (k : ∀ σ', WR σ' 2 (keepA A) → offN σ σ' → Q 0 σ') : Ct mX7_remember (d + 2 + 1) 9 t [rv 7, rv 3] σ Q :=
  s_remember okl_7 okl_3 (by omega) q.2.1 q.1 (fun σ' qs o => k σ' (WR_keep q va qs o) (offN_S o))
theorem w_isText {x : Int} (q : WR σ 2 A) (va : AV A) (hx : inR x) (k : Q (b01 (inB x 0 (A 0 - 1))) σ) : Ct mX11_isText d 0 t [rv 1, iv x] σ Q := by
  have h0 := va.2.2.2.2.2.1
  have e6 := q.2.2.2.2.2.1
  refine c_X11_isText ⟨hx, fun z => ?_, fun z => ⟨hx, ?_⟩⟩
  · have e : inB x 0 (A 0 - 1) = false := by unfold inB; simp; omega
    rw [e] at k; exact k
  · rw [e6]
    refine ⟨rng (by omega) (by omega), fun y => ?_, fun y => ⟨hx, fun w => absurd w (by omega), fun _ => ?_⟩⟩
    · have e : inB x 0 (A 0 - 1) = false := by unfold inB; simp; omega
      rw [e] at k; exact k
    · have e : inB x 0 (A 0 - 1) = true := by unfold inB; simp; omega
      rw [e] at k; exact k
theorem w_ruler (q : WR σ 2 A) (va : AV A) (k : Q (cellT (A 1)) σ) : Ct mX11_ruler (d + 1) 2 t [rv 1] σ Q := by
  have h0 := va.2.2.2.2.2.1
  have h1 := va.2.2.2.2.2.2
  have e7 := q.2.2.2.2.2.2
  refine c_X11_ruler ?_
  rw [e7]
  refine w_isText q va (rng (by omega) (by omega)) ⟨b01_R, fun z => ?_, fun z => ⟨?_, ?_⟩⟩
  · have := b01_0.mp z
    unfold inB at this
    simp at this
    unfold cellT at k
    rw [if_pos (by omega)] at k
    exact k
  · rcases Int.lt_or_le (A 1) 0 with x | x
    · exact absurd (b01_0.mpr (by unfold inB; simp; omega)) z
    · rw [e7]; exact ⟨x, by omega⟩
  · rcases Int.lt_or_le (A 1) 0 with x | x
    · exact absurd (b01_0.mpr (by unfold inB; simp; omega)) z
    · unfold cellT at k
      rw [if_neg (by omega)] at k
      rw [e7]
      exact k
end CW
