/-! ===== played alike ===== -/
def joinA (A : Int → Int) (a b : Int) : Int → Int := if canB (mrow A) a b then setM (keepA A) (uniteR (mrow (keepA A)) a b) else A
def joinS (A : Int → Int) (a b : Int) : Int := if canB (mrow A) a b then crockR (mrow (keepA A)) 0 else -1
def pourA (A : Int → Int) (c : Int) : Int → Int := if fullB (mrow A) c then setM (keepA A) (emptyR (mrow (keepA A)) c 1) else A
def bakeA (L : LT) (A : Int → Int) (c : Int) : Int → Int := if fullB (mrow A) c then setM (keepA A) (bakeR L (A 1) (mrow (keepA A)) c) else A
def bakeS (L : LT) (A : Int → Int) (c : Int) : Int := if fullB (mrow A) c then priceL L (A 1) (mrow (keepA A)) c else -1
/-- what stays good -/
def Gd (A B : Int → Int) : Prop := AV B ∧ B 0 = A 0 ∧ B 1 = A 1
theorem Gd_tr {A B C : Int → Int} (a : Gd A B) (b : Gd B C) : Gd A C := ⟨b.1, b.2.1.trans a.2.1, b.2.2.trans a.2.2⟩
theorem Gd_rf {A : Int → Int} (v : AV A) : Gd A A := ⟨v, rfl, rfl⟩
theorem keep_canB {A : Int → Int} {a b : Int} (va : AV A) : canB (mrow (keepA A)) a b = canB (mrow A) a b := canB_agr (keepA_agr va)
theorem keep_fullB {A : Int → Int} {c : Int} (va : AV A) : fullB (mrow (keepA A)) c = fullB (mrow A) c := fullB_agr (keepA_agr va)
theorem joinA_Gd {A : Int → Int} {a b : Int} (va : AV A) : Gd A (joinA A a b) := by
  unfold joinA
  split
  · rename_i h
    have k01 := keepA_01 va
    exact ⟨AV_house (AV_keep va) (uniteR_RV (AV_keep va).1 (by rw [keep_canB va]; exact h)), by rw [setM_off (by omega)]; exact k01.1, by rw [setM_off (by omega)]; exact k01.2⟩
  · exact Gd_rf va
theorem joinS_in {A : Int → Int} {a b : Int} (va : AV A) : joinS A a b = -1 ∨ (0 ≤ joinS A a b ∧ joinS A a b < 8) := by
  unfold joinS
  split
  · rename_i h
    have := (canB_t (r := mrow (keepA A)) (a := a) (b := b) (by rw [keep_canB va]; exact h)).2.2.2
    right; exact this
  · exact Or.inl rfl
theorem pourA_Gd {A : Int → Int} {c : Int} (va : AV A) : Gd A (pourA A c) := by
  unfold pourA
  split
  · rename_i h
    obtain ⟨c0, c8, _⟩ := fullB_t h
    have k01 := keepA_01 va
    exact ⟨AV_house (AV_keep va) (emptyR_RV (AV_keep va).1 ⟨c0, c8⟩ (by omega)), by rw [setM_off (by omega)]; exact k01.1, by rw [setM_off (by omega)]; exact k01.2⟩
  · exact Gd_rf va
theorem bakeA_Gd {L : LT} {A : Int → Int} {c : Int} (va : AV A) : Gd A (bakeA L A c) := by
  unfold bakeA
  split
  · rename_i h
    obtain ⟨c0, c8, _⟩ := fullB_t h
    have k01 := keepA_01 va
    exact ⟨AV_house (AV_keep va) (bakeR_RV (AV_keep va).1 ⟨c0, c8⟩), by rw [setM_off (by omega)]; exact k01.1, by rw [setM_off (by omega)]; exact k01.2⟩
  · exact Gd_rf va
theorem bakeS_in {L : LT} {A : Int → Int} {c : Int} (va : AV A) : bakeS L A c = -1 ∨ (0 ≤ bakeS L A c ∧ bakeS L A c ≤ 9999) := by
  unfold bakeS
  split
  · rename_i h
    obtain ⟨c0, c8, _⟩ := fullB_t h
    right
    exact priceL_in (L := L) (k := A 1) (AV_keep va).1 ⟨c0, c8⟩
  · exact Or.inl rfl
theorem daysA_Gd {L : LT} {A : Int → Int} {p : Nat} (va : AV A) : Gd A (daysA L p A) := by
  obtain ⟨a, b, c, _⟩ := daysA_AV (L := L) p va
  exact ⟨a, b, c⟩
/-- a number is made: whether it could be, and what stands there then -/
def mkA (g : Int → Int) : Nat → Int → (Int → Int) → Bool × (Int → Int)
  | 0, _, A => (true, A)
  | c + 1, i, A => if crockR (mrow A) (g i) = -1 then (if pairR (mrow A) (g i) = -1 then (false, A) else if joinS A (pairR (mrow A) (g i) / 8) (pairR (mrow A) (g i) % 8) = -1 then (false, joinA A (pairR (mrow A) (g i) / 8) (pairR (mrow A) (g i) % 8)) else mkA g c (i + 1) (joinA A (pairR (mrow A) (g i) / 8) (pairR (mrow A) (g i) % 8))) else mkA g c (i + 1) A
theorem mkA_Gd {g : Int → Int} : ∀ (c : Nat) {i : Int} {A : Int → Int}, AV A → Gd A (mkA g c i A).2
  | 0, _, _, va => Gd_rf va
  | c + 1, i, A, va => by
    rw [mkA]
    split
    · split
      · exact Gd_rf va
      · split
        · exact joinA_Gd va
        · have j := joinA_Gd (a := pairR (mrow A) (g i) / 8) (b := pairR (mrow A) (g i) % 8) va
          exact Gd_tr j (mkA_Gd c j.1)
    · exact mkA_Gd c va
noncomputable def gch (n : Int) : Int → Int := if h : 1 ≤ n ∧ n ≤ 120 then Classical.choose (fw_ok h) else f1
theorem gch_ok {n : Int} (h : 1 ≤ n ∧ n ≤ 120) : fw n ≤ 9 ∧ Lst (Pn n) n (fw n) (gch n) := by
  unfold gch
  rw [dif_pos h]
  exact Classical.choose_spec (fw_ok h)
theorem gch_eq {n : Int} {g : Int → Int} (h : 1 ≤ n ∧ n ≤ 120) (hL : Lst (Pn n) n (fw n) g) : g = gch n := (Lst_uq hL (gch_ok h).2).2
/-- one clause -/
noncomputable def plA (L : LT) (T : Int → Int) (x : Int) (A : Int → Int) : Bool × (Int → Int) :=
  if T x = 2 then (!decide (joinS A (T (x + 1)) (T (x + 2)) = -1), joinA A (T (x + 1)) (T (x + 2)))
  else if T x = 3 then (fullB (mrow A) (T (x + 1)), pourA A (T (x + 1)))
  else if T x = 4 then (!decide (bakeS L A (T (x + 1)) = -1), bakeA L A (T (x + 1)))
  else if T x = 5 then (decide (A 6 + T (x + 1) ≤ 9999), daysA L (T (x + 1)).toNat A)
  else if T x = 6 then mkA (gch (T (x + 1))) (fw (T (x + 1))) 1 A
  else (true, A)
theorem plA_Gd {L : LT} {T : Int → Int} {x : Int} {A : Int → Int} (va : AV A) : Gd A (plA L T x A).2 := by
  unfold plA
  split
  · exact joinA_Gd va
  · split
    · exact pourA_Gd va
    · split
      · exact bakeA_Gd va
      · split
        · exact daysA_Gd va
        · split
          · exact mkA_Gd _ va
          · exact Gd_rf va
/-- the clauses one behind the other: the first that can't be done -/
noncomputable def pdA (L : LT) (T : Int → Int) (x : Int) : Nat → Int → (Int → Int) → Int × (Int → Int)
  | 0, _, A => (-1, A)
  | c + 1, j, A => if (plA L T (x + 3 * j) A).1 then pdA L T x c (j + 1) (plA L T (x + 3 * j) A).2 else (j, (plA L T (x + 3 * j) A).2)
theorem pdA_Gd {L : LT} {T : Int → Int} {x : Int} : ∀ (c : Nat) {j : Int} {A : Int → Int}, AV A → Gd A (pdA L T x c j A).2
  | 0, _, _, va => Gd_rf va
  | c + 1, j, A, va => by
    rw [pdA]
    have p := plA_Gd (L := L) (T := T) (x := x + 3 * j) va
    split
    · exact Gd_tr p (pdA_Gd c p.1)
    · exact p
theorem pdA_in {L : LT} {T : Int → Int} {x : Int} : ∀ (c : Nat) {j : Int} {A : Int → Int}, 0 ≤ j → (pdA L T x c j A).1 = -1 ∨ (j ≤ (pdA L T x c j A).1 ∧ (pdA L T x c j A).1 < j + c)
  | 0, _, _, _ => Or.inl rfl
  | c + 1, j, A, h => by
    rw [pdA]
    split
    · rcases pdA_in (L := L) (T := T) (x := x) c (j := j + 1) (A := (plA L T (x + 3 * j) A).2) (by omega) with q | q
      · exact Or.inl q
      · right; omega
    · right
      show j ≤ j ∧ j < j + _
      omega
/-- what a clause of the class leaves alone -/
def offK (σ σ' : jM) : Prop := ∀ x, (x < 2 ∨ 133 < x) → ¬ (266 ≤ x ∧ x ≤ 269) → x ≠ 273 → x ≠ 274 → (x < 275 ∨ 285 < x) → σ' x = σ x
theorem offK_rf {σ : jM} : offK σ σ := fun _ _ _ _ _ _ => rfl
theorem offK_tr {σ σ1 σ2 : jM} (a : offK σ σ1) (b : offK σ1 σ2) : offK σ σ2 := fun x h1 h2 h3 h4 h5 => (b x h1 h2 h3 h4 h5).trans (a x h1 h2 h3 h4 h5)
theorem offK_N {σ σ' : jM} (a : offN σ σ') : offK σ σ' := fun x h1 h2 h3 h4 _ => a x h1 h2 h3 h4
theorem offK_C {σ σ' : jM} (a : offC σ σ') : offK σ σ' := fun x _ _ _ _ h5 => a x h5
def offJ (σ σ' : jM) : Prop := (∀ x, x ≠ 321 → x ≠ 322 → x ≠ 327 → x ≠ 328 → x ≠ 329 → x ≠ 331 → x ≠ 332 → σ' x = σ x) ∧ ∀ j, j ≠ 24 → σ' 321 j = σ 321 j
theorem offJ_rf {σ : jM} : offJ σ σ := ⟨fun _ _ _ _ _ _ _ _ => rfl, fun _ _ => rfl⟩
theorem offJ_tr {σ σ1 σ2 : jM} (a : offJ σ σ1) (b : offJ σ1 σ2) : offJ σ σ2 := ⟨fun x h1 h2 h3 h4 h5 h6 h7 => (b.1 x h1 h2 h3 h4 h5 h6 h7).trans (a.1 x h1 h2 h3 h4 h5 h6 h7), fun j hj => (b.2 j hj).trans (a.2 j hj)⟩
theorem offJ_P {σ σ' : jM} (a : offP σ σ') : offJ σ σ' := ⟨fun x h1 h2 h3 h4 h5 _ _ => a.1 x h1 h2 h3 h4 h5, a.2⟩
theorem offJ_R {σ σ' : jM} (a : offR σ σ') : offJ σ σ' := ⟨fun x _ _ _ _ _ h6 h7 => a x h6 h7, fun j _ => by rw [a 321 (by decide) (by decide)]⟩
theorem I0_stepK {L : LT} {σ σ1 σ2 : jM} {A : Int → Int} (I : I0 L σ) (hw : WR σ1 2 A) (va : AV A) (hn : A 0 = σ 322 0) (o1 : offK σ σ1) (e2 : σ2 322 = A) (o2 : offJ σ1 σ2) : I0 L σ2 := by
  obtain ⟨⟨w1, w2, v1, v2, w3⟩, ⟨t1, t2, t3, t4⟩, f, b⟩ := I
  have hn4 : σ 322 0 ≤ 4 := v1.2.2.2.2.2.1.2
  have same : ∀ x, (x < 2 ∨ 133 < x) → ¬ (266 ≤ x ∧ x ≤ 269) → x ≠ 273 → x ≠ 274 → (x < 275 ∨ 285 < x) → x ≠ 321 → x ≠ 322 → x < 326 → σ2 x = σ x := fun x h1 h2 h3 h4 h5 h6 h7 h8 => (o2.1 x h6 h7 (by omega) (by omega) (by omega) (by omega) (by omega)).trans (o1 x h1 h2 h3 h4 h5)
  have m321 : ∀ j, j ≠ 24 → σ2 321 j = σ 321 j := fun j hj => by rw [o2.2 j hj, o1 321 (by omega) (by omega) (by omega) (by omega) (by omega)]
  have s323 : σ2 323 = σ 323 := same 323 (by omega) (by omega) (by omega) (by omega) (by omega) (by omega) (by omega) (by omega)
  have s324 : σ2 324 = σ 324 := same 324 (by omega) (by omega) (by omega) (by omega) (by omega) (by omega) (by omega) (by omega)
  have s325 : σ2 325 = σ 325 := same 325 (by omega) (by omega) (by omega) (by omega) (by omega) (by omega) (by omega) (by omega)
  have s271 : σ2 271 = σ 271 := same 271 (by omega) (by omega) (by omega) (by omega) (by omega) (by omega) (by omega) (by omega)
  have s272 : σ2 272 = σ 272 := same 272 (by omega) (by omega) (by omega) (by omega) (by omega) (by omega) (by omega) (by omega)
  have tx : ∀ x, 293 ≤ x → x ≤ 320 → σ2 x = σ x := fun x x0 x1 => same x (by omega) (by omega) (by omega) (by omega) (by omega) (by omega) (by omega) (by omega)
  refine ⟨⟨?_, ?_, ?_, ?_, ?_⟩, ⟨?_, ?_, ?_, ?_⟩, ?_, ?_⟩
  · rw [e2]; exact WR_same hw (fun x x0 x1 => o2.1 x (by omega) (by omega) (by omega) (by omega) (by omega) (by omega) (by omega))
  · rw [s323]; exact WR_same w2 (fun x x0 x1 => same x (by omega) (by omega) (by omega) (by omega) (by omega) (by omega) (by omega) (by omega))
  · rw [e2]; exact va
  · rw [s323]; exact v2
  · rw [e2, s323, hn]; exact w3
  · rw [e2, hn]; exact TxC_same t1 hn4 tx
  · rw [e2, hn]; exact TxM_same t2 s324
  · rw [e2, hn]; exact t3
  · rw [e2, hn]; exact CLs_same t4 hn4 tx s324
  · unfold IF
    rw [s271, s272, s325, m321 4 (by omega), m321 5 (by omega), m321 6 (by omega)]
    exact f
  · rw [m321 23 (by omega)]; exact b
section PL
variable {t : Int} {L : LT} {σ : jM} {A : Int → Int} {Q : Int → jM → Prop}
theorem w_join {a b : Int} (d : Nat) (q : WR σ 2 A) (va : AV A) (ha : inR a) (hb : inR b) (k : ∀ σ', WR σ' 2 (joinA A a b) → offN σ σ' → Q (joinS A a b) σ') : Ct mX11_join (d + 10) 0 t [rv 1, iv a, iv b] σ Q := by
  refine c_X11_join (h_joinable (d := d + 8) okl_3 q.1 va.1 ha hb ⟨b01_R, fun z => ?_, fun z => ?_⟩)
  · have hc := b01_1 z
    unfold joinA joinS at k
    rw [hc] at k
    simp only [if_true] at k
    refine w_keep (d := d + 6) q va (fun σ1 q1 o1 => ?_)
    have v1 := AV_keep va
    have hc1 : canB (mrow (keepA A)) a b = true := by rw [keep_canB va]; exact hc
    refine h_unite (d := d + 8) okl_3 q1.1 v1.1 hc1 (fun σ2 q2 o2 => ?_)
    exact k σ2 (WR_house q1 v1 (uniteR_RV v1.1 hc1) q2 (offH_4 o2)) (offN_tr o1 (offN_4 o2))
  · have hc := b01_0.mp z
    unfold joinA joinS at k
    rw [hc] at k
    exact k σ q offN_rf
theorem w_pour {c : Int} (d : Nat) (q : WR σ 2 A) (va : AV A) (hc : inR c) (k : ∀ σ', WR σ' 2 (pourA A c) → offN σ σ' → Q (b01 (fullB (mrow A) c)) σ') : Ct mX11_pour (d + 10) 0 t [rv 1, iv c] σ Q := by
  refine c_X11_pour (h_holds okl_3 q.1 va.1 hc ⟨b01_R, fun z => ?_, fun z => ?_⟩)
  · have hf := b01_1 z
    unfold pourA at k
    rw [hf] at k
    simp only [if_true] at k
    obtain ⟨c0, c8, _⟩ := fullB_t hf
    refine w_keep (d := d + 6) q va (fun σ1 q1 o1 => ?_)
    have v1 := AV_keep va
    have hf1 : fullB (mrow (keepA A)) c = true := by rw [keep_fullB va]; exact hf
    refine h_clear (d := d + 8) okl_3 q1.1 v1.1 (by omega) hc (fun _ σ2 q2 o2 => ?_) (fun y => by rw [hf1] at y; cases y)
    exact k σ2 (WR_house q1 v1 (emptyR_RV (k := 1) v1.1 ⟨c0, c8⟩ (by omega)) q2 (offH_4 o2)) (offN_tr o1 (offN_4 o2))
  · have hf := b01_0.mp z
    unfold pourA at k
    rw [hf] at k
    exact k σ q offN_rf
theorem w_bake {c n : Int} (d : Nat) (q : WR σ 2 A) (va : AV A) (hA0 : A 0 = n) (hT : TxC σ n L) (hc : inR c) (k : ∀ σ', WR σ' 2 (bakeA L A c) → offN σ σ' → Q (bakeS L A c) σ') : Ct mX11_bake (d + 10) 0 t [rv 1, iv c] σ Q := by
  refine c_X11_bake (h_holds okl_3 q.1 va.1 hc ⟨b01_R, fun z => ?_, fun z => ?_⟩)
  · have hf := b01_1 z
    unfold bakeA bakeS at k
    rw [hf] at k
    simp only [if_true] at k
    obtain ⟨c0, c8, _⟩ := fullB_t hf
    refine w_keep (d := d + 6) q va (fun σ1 q1 o1 => ?_)
    have v1 := AV_keep va
    have k01 := keepA_01 va
    have hf1 : fullB (mrow (keepA A)) c = true := by rw [keep_fullB va]; exact hf
    refine w_ruler (d := d + 8) q1 v1 ?_
    have hn := va.2.2.2.2.2.1.2
    have h1 := va.2.2.2.2.2.2
    have t1 : TxC σ1 n L := TxC_same hT (by omega) (fun x x0 x1 => o1 x (by omega) (by omega) (by omega) (by omega))
    refine h_sell (d := d + 5) (n := n) okl_3 (by omega) q1.1 v1.1 t1 (by rw [k01.2]; omega) (by omega) hc (fun y => by rw [hf1] at y; cases y) (fun _ σ2 q2 o2 => ?_)
    have vu := bakeR_RV (L := L) (k := keepA A 1) v1.1 ⟨c0, c8⟩
    have w2 := WR_house q1 v1 vu q2 o2
    have := k σ2 (by rw [← k01.2]; exact w2) (offN_tr o1 (offN_H o2))
    rw [← k01.2] at this
    exact this
  · have hf := b01_0.mp z
    unfold bakeA bakeS at k
    rw [hf] at k
    exact k σ q offN_rf
theorem m_joinA {a b : Int} (d : Nat) (hA : σ 322 = A) (va : AV A) (hw : σ 321 23 = 1) (ha : inR a) (hb : inR b) (k : Q (joinS A a b) (sr σ 322 (joinA A a b))) : Ct mX12_join (d + 10) 0 t [rv 321, iv a, iv b] σ Q := by
  refine c_X12_join (m_canJoin (d := d + 5) (by rw [hA]; exact va.1) ha hb ⟨b01_R, fun z => ?_, fun z => ?_⟩)
  · rw [hA] at z
    have hc := b01_1 z
    unfold joinA joinS at k
    rw [hc] at k
    simp only [if_true] at k
    refine m_keep (by rw [hA]; exact ⟨va.2.1.1, va.2.1.2.1⟩) ?_
    rw [hA]
    have hc1 : canB (mrow (keepA A)) a b = true := by rw [keep_canB va]; exact hc
    refine m_joinNow (d := d + 5) (by rw [sr_at]; exact (AV_keep va).1) (by rw [sr_ne (by decide)]; exact hw) (by rw [sr_at]; exact hc1) ?_
    simp only [sr_at, sr_sr]
    exact k
  · rw [hA] at z
    have hc := b01_0.mp z
    unfold joinA joinS at k
    rw [hc] at k
    simp only [Bool.false_eq_true, if_false] at k
    rw [← hA, sr_id] at k
    exact k
theorem m_pourA {c : Int} (d : Nat) (hA : σ 322 = A) (va : AV A) (hw : σ 321 23 = 1) (hc : inR c) (k : Q (b01 (fullB (mrow A) c)) (sr σ 322 (pourA A c))) : Ct mX12_pour (d + 10) 0 t [rv 321, iv c] σ Q := by
  refine c_X12_pour (m_isFull (d := d + 7) (by rw [hA]; exact va.1) hc ⟨b01_R, fun z => ?_, fun z => ?_⟩)
  · rw [hA] at z
    have hf := b01_1 z
    unfold pourA at k
    rw [hf] at k
    simp only [if_true] at k
    obtain ⟨c0, c8, _⟩ := fullB_t hf
    refine m_keep (by rw [hA]; exact ⟨va.2.1.1, va.2.1.2.1⟩) ?_
    rw [hA]
    refine m_emptyNow (d := d + 8) (by rw [sr_at]; exact (AV_keep va).1) (by rw [sr_ne (by decide)]; exact hw) ⟨c0, c8⟩ ?_
    simp only [sr_at, sr_sr]
    exact k
  · rw [hA] at z
    have hf := b01_0.mp z
    unfold pourA at k
    rw [hf] at k
    simp only [Bool.false_eq_true, if_false] at k
    rw [← hA, sr_id] at k
    exact k
theorem m_bakeA {c n : Int} (d : Nat) (hA : σ 322 = A) (va : AV A) (hA0 : A 0 = n) (hw : σ 321 23 = 1) (hT : TxM σ n L) (hL : LQ n L) (hc : inR c) (k : ∀ σ', σ' 322 = bakeA L A c → offP σ σ' → Q (bakeS L A c) σ') : Ct mX12_bake (d + 10) 0 t [rv 321, iv c] σ Q := by
  refine c_X12_bake (m_isFull (d := d + 7) (by rw [hA]; exact va.1) hc ⟨b01_R, fun z => ?_, fun z => ?_⟩)
  · rw [hA] at z
    have hf := b01_1 z
    unfold bakeA bakeS at k
    rw [hf] at k
    simp only [if_true] at k
    obtain ⟨c0, c8, _⟩ := fullB_t hf
    have v1 := AV_keep va
    have k01 := keepA_01 va
    have hn := va.2.2.2.2.2.1.2
    have h1 := va.2.2.2.2.2.2
    refine m_keep (by rw [hA]; exact ⟨va.2.1.1, va.2.1.2.1⟩) ?_
    rw [hA]
    refine m_bakeNow (d := d + 3) (n := n) (L := L) (A := keepA A) (s := mrow (keepA A)) (by rw [sr_at, setM_mrow]) v1.1 (by rw [sr_ne (by decide)]; exact hw) (TxM_same hT (by rw [sr_ne (by decide)])) hL (by rw [k01.2]; omega) (by omega) ⟨c0, c8⟩ (fun σ3 e3 o3 => ?_)
    rw [k01.2] at e3 ⊢
    exact k σ3 e3 (offP_tr offP_sr o3)
  · rw [hA] at z
    have hf := b01_0.mp z
    unfold bakeA bakeS at k
    rw [hf] at k
    exact k σ hA ⟨fun _ _ _ _ _ _ => rfl, fun _ _ => rfl⟩
theorem m_standsA {n : Int} {d : Nat} (hA : σ 322 = A) (va : AV A) (hn : inR n) (k : Q (b01 (!decide (crockR (mrow A) n = -1))) σ) : Ct mX12_stands d 0 t [rv 321, iv n] σ Q := by
  refine c_X12_stands ?_
  have cr : ∀ i, 0 ≤ i → i < 8 → σ 322 (10 + i) = mrow A (4 + i) := fun i i0 i1 => by
    rw [hA, mrow_lo (by omega), show 6 + (4 + i) = 10 + i by omega]
  have loop : ∀ (c : Nat) (i : Int), 0 ≤ i → i + c = 8 → crockR (mrow A) n = lowF (fun i => decide (mrow A (4 + i) = n)) c i → Jt mX12_stands d 0 t Q 2 [rv 321, iv n, iv i] [] σ := by
    intro c
    induction c with
    | zero =>
      intro i i0 hi h
      have e : crockR (mrow A) n = -1 := h
      rw [e] at k
      exact b_X12_stands_2 ⟨rng (by omega) (by omega), fun _ => k, fun z => absurd z (by omega)⟩
    | succ c ih =>
      intro i i0 hi h
      rw [lowF] at h
      have ri := va.1.2.2.2.2.1 i i0 (by omega)
      refine b_X12_stands_2 ⟨rng (by omega) (by omega), fun z => absurd z (by omega), fun _ => ⟨by omega, ?_⟩⟩
      rw [cr i i0 (by omega)]
      refine ⟨rng (by omega) (by omega), hn, fun z => ih (i + 1) (by omega) (by omega) ?_, fun z => ?_⟩
      · rw [decide_eq_false z] at h
        exact h
      · rw [decide_eq_true z] at h
        simp only [if_true] at h
        rw [h, decide_eq_false (show ¬ i = -1 by omega)] at k
        exact k
  exact loop 8 0 (by omega) (by omega) rfl
theorem w_makes {n : Int} (d : Nat) (q : WR σ 2 A) (va : AV A) (hK : K1 σ) (hn : 1 ≤ n ∧ n ≤ 120) (k : ∀ σ', WR σ' 2 (mkA (gch n) (fw n) 1 A).2 → K1 σ' → offK σ σ' → Q (b01 (mkA (gch n) (fw n) 1 A).1) σ') : Ct mX11_makes (d + 40) 0 t [rv 1, iv n] σ Q := by
  obtain ⟨f9, hLg⟩ := gch_ok hn
  refine c_X11_makes (q_jn (d := d + 10) hn hK (fun g σ1 hL hr K1' o1 => ?_))
  have eg := gch_eq hn hL
  subst eg
  have loop : ∀ (c : Nat) (i : Int) (B : Int → Int) (τ : jM), 1 ≤ i → i + c = (fw n : Int) + 1 → WR τ 2 B → AV B → okRow τ n (fw n) (gch n) → K1 τ → offK σ τ → (∀ σ', WR σ' 2 (mkA (gch n) c i B).2 → K1 σ' → offK σ σ' → Q (b01 (mkA (gch n) c i B).1) σ') → Jt mX11_makes (d + 40) 0 t Q 11 [rv 1, iv n, iv (fw n : Int), iv i, uv, uv] [] τ := by
    intro c
    induction c with
    | zero =>
      intro i B τ i0 hi qB vB rB KB oB kk
      exact b_X11_makes_11 ⟨rng (by omega) (by omega), rng (by omega) (by omega), fun _ => kk τ qB KB oB, fun z => absurd z (by omega)⟩
    | succ c ih =>
      intro i B τ i0 hi qB vB rB KB oB kk
      have gi := Lst_row hn hLg (i := i) ⟨by omega, by omega⟩
      have giR : inR (gch n i) := rng (by omega) (by omega)
      refine b_X11_makes_11 ⟨rng (by omega) (by omega), rng (by omega) (by omega), fun z => absurd z (by omega), fun _ => q_linkOf hn ⟨by omega, by omega⟩ rB (h_crockWith okl_3 qB.1 vB.1 giR ⟨crockR_R, fun z => ?_, fun z => ?_⟩)⟩
      · rw [mkA, if_pos z] at kk
        have pin := pairR_in (r := mrow B) (n := gch n i)
        refine h_pairWith (d := d + 38) okl_3 qB.1 vB.1 giR ⟨rng (by omega) (by omega), fun y => ?_, fun y => ⟨rng (by omega) (by omega), rng (by omega) (by omega), ?_⟩⟩
        · rw [if_pos y] at kk
          exact kk τ qB KB oB
        · rw [if_neg y] at kk
          rw [td (by omega), tm (by omega)]
          refine Ct_le (w_join (t := t) (d := d) qB vB (rng (by omega) (by omega)) (rng (by omega) (by omega)) (fun σ2 q2 o2 => ?_)) (by omega)
          have jin := joinS_in (a := pairR (mrow B) (gch n i) / 8) (b := pairR (mrow B) (gch n i) % 8) vB
          have K2 : K1 σ2 := K1_same KB (fun x x0 x1 => o2 x (by omega) (by omega) (by omega) (by omega))
          have o2' := offK_tr oB (offK_N o2)
          refine ⟨rng (by omega) (by omega), fun w => ?_, fun w => ?_⟩
          · rw [if_neg w] at kk
            refine ih (i + 1) _ σ2 (by omega) (by omega) q2 (joinA_Gd vB).1 ?_ K2 o2' kk
            unfold okRow at rB ⊢
            rw [o2 281 (by omega) (by omega) (by omega) (by omega), o2 282 (by omega) (by omega) (by omega) (by omega)]
            exact rB
          · rw [if_pos w] at kk
            exact kk σ2 q2 K2 o2'
      · rw [mkA, if_neg z] at kk
        exact ih (i + 1) B τ (by omega) (by omega) qB vB rB KB oB kk
  exact loop (fw n) 1 A σ1 (by omega) (by omega) (WR_same q (fun x x0 x1 => o1 x (by omega))) va hr K1' (offK_C o1) k
theorem m_isMadeA {n : Int} (d : Nat) (hA : σ 322 = A) (va : AV A) (hw : σ 321 23 = 1) (hR : KR σ) (hn : 1 ≤ n ∧ n ≤ 120) (k : ∀ σ', σ' 322 = (mkA (gch n) (fw n) 1 A).2 → KR σ' → offJ σ σ' → Q (b01 (mkA (gch n) (fw n) 1 A).1) σ') : Ct mX12_isMade (d + 11) 0 t [rv 321, iv n] σ Q := by
  obtain ⟨f9, hLg⟩ := gch_ok hn
  refine c_X12_isMade (m_layChain (d := d + 5) hn hR (fun g σ1 hL h9 hrow R1 o1 => ?_))
  have eg := gch_eq hn hL
  subst eg
  have loop : ∀ (c : Nat) (i : Int) (B : Int → Int) (τ : jM), 1 ≤ i → i + c = (fw n : Int) + 1 → τ 322 = B → AV B → (∀ j, 0 ≤ j → j ≤ (fw n : Int) → τ 331 j = gch n j) → KR τ → offJ σ τ → (∀ σ', σ' 322 = (mkA (gch n) c i B).2 → KR σ' → offJ σ σ' → Q (b01 (mkA (gch n) c i B).1) σ') → Jt mX12_isMade (d + 11) 0 t Q 8 [rv 321, iv n, iv (fw n : Int), iv i, uv] [] τ := by
    intro c
    induction c with
    | zero =>
      intro i B τ i0 hi qB vB rB KB oB kk
      exact b_X12_isMade_8 ⟨rng (by omega) (by omega), rng (by omega) (by omega), fun _ => kk τ qB KB oB, fun z => absurd z (by omega)⟩
    | succ c ih =>
      intro i B τ i0 hi qB vB rB KB oB kk
      have gi := Lst_row hn hLg (i := i) ⟨by omega, by omega⟩
      have giR : inR (gch n i) := rng (by omega) (by omega)
      refine b_X12_isMade_8 ⟨rng (by omega) (by omega), rng (by omega) (by omega), fun z => absurd z (by omega), fun _ => ⟨by omega, ?_⟩⟩
      rw [rB i (by omega) (by omega)]
      refine m_standsA qB vB giR ⟨b01_R, fun z => ⟨by omega, ?_⟩, fun z => ?_⟩
      · have z' : crockR (mrow B) (gch n i) = -1 := by
          have := b01_0.mp z
          simp at this
          exact this
        rw [rB i (by omega) (by omega)]
        rw [mkA, if_pos z'] at kk
        have pin := pairR_in (r := mrow B) (n := gch n i)
        refine m_twoFor (d := d + 7) (by rw [qB]; exact vB.1) giR ?_
        rw [qB]
        refine ⟨rng (by omega) (by omega), fun y => ?_, fun y => ⟨rng (by omega) (by omega), rng (by omega) (by omega), ?_⟩⟩
        · rw [if_pos y] at kk
          exact kk τ qB KB oB
        · rw [if_neg y] at kk
          rw [td (by omega), tm (by omega)]
          refine m_joinA d qB vB (by rw [oB.2 23 (by decide)]; exact hw) (rng (by omega) (by omega)) (rng (by omega) (by omega)) ?_
          have jin := joinS_in (a := pairR (mrow B) (gch n i) / 8) (b := pairR (mrow B) (gch n i) % 8) vB
          have K2 : KR (sr τ 322 (joinA B (pairR (mrow B) (gch n i) / 8) (pairR (mrow B) (gch n i) % 8))) := KR_same KB (sr_ne (by decide))
          have o2' := offJ_tr oB (offJ_P (offP_sr (σ := τ) (A := joinA B (pairR (mrow B) (gch n i) / 8) (pairR (mrow B) (gch n i) % 8))))
          refine ⟨rng (by omega) (by omega), fun w => ?_, fun w => ?_⟩
          · rw [if_neg w] at kk
            exact ih (i + 1) _ _ (by omega) (by omega) sr_at (joinA_Gd vB).1 (fun j j0 j1 => by rw [sr_ne (by decide)]; exact rB j j0 j1) K2 o2' kk
          · rw [if_pos w] at kk
            exact kk _ sr_at K2 o2'
      · have z' : ¬ crockR (mrow B) (gch n i) = -1 := by
          have := b01_1 z
          simp at this
          exact this
        rw [mkA, if_neg z'] at kk
        exact ih (i + 1) B τ (by omega) (by omega) qB vB rB KB oB kk
  exact loop (fw n) 1 A σ1 (by omega) (by omega) (by rw [o1 322 (by decide) (by decide)]; exact hA) va hrow R1 (offJ_R o1) k
end PL
