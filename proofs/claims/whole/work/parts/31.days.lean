/-! ===== a day, on both sides ===== -/
def cutR (r : Int → Int) (c : Int) : Int → Int := if r (4 + c) / 2 = 0 then wr (wr r (4 + c) (r (4 + c) / 2)) (12 + c) 0 else wr r (4 + c) (r (4 + c) / 2)
def tireW (w : Bool) (r : Int → Int) (c : Int) : Int → Int := if w then tireR r c else cutR r c
def ageR (r : Int → Int) (c : Int) : Int → Int := wr r (12 + c) (min 99 (r (12 + c) + 1))
def hitB (L : LT) (k : Int) (r : Int → Int) (c : Int) : Bool := decide (r 1 % 10 < tiresL L k (drawR (ageR r c)) c)
def dayS (w : Bool) (L : LT) (k : Int) (r : Int → Int) (c : Int) : Int → Int := if r (4 + c) = 0 then r else if hitB L k r c then tireW w (drawR (ageR r c)) c else drawR (ageR r c)
def dayN (L : LT) (k : Int) (r : Int → Int) (c : Int) : Int := if r (4 + c) = 0 then 0 else if hitB L k r c then 1 else 0
def passF (w : Bool) (L : LT) (k : Int) : Nat → Int → (Int → Int) → (Int → Int)
  | 0, _, r => wr r 0 (r 0 + 1)
  | j + 1, c, r => passF w L k j (c + 1) (dayS w L k r c)
def passG (w : Bool) (L : LT) (k : Int) : Nat → Int → (Int → Int) → Int
  | 0, _, _ => 0
  | j + 1, c, r => dayN L k r c + passG w L k j (c + 1) (dayS w L k r c)
def passR (w : Bool) (L : LT) (k : Int) (r : Int → Int) : Int → Int := passF w L k 8 0 r
def passN (w : Bool) (L : LT) (k : Int) (r : Int → Int) : Int := passG w L k 8 0 r
theorem ageR_RV {r : Int → Int} {c : Int} (v : RV r) (hc : 0 ≤ c ∧ c < 8) : RV (ageR r c) := by
  have g := v.2.2.2.2.1 c hc.1 hc.2
  exact wr_RV v (by omega) (by omega) (by omega) (by omega) (by omega) (by intro _; omega)
theorem cutR_RV {r : Int → Int} {c : Int} (v : RV r) (hc : 0 ≤ c ∧ c < 8) : RV (cutR r c) := by
  have ga := v.2.2.2.2.1 c hc.1 hc.2
  have w1 : RV (wr r (4 + c) (r (4 + c) / 2)) := wr_RV v (by omega) (by omega) (by omega) (by omega) (by omega) (by omega)
  unfold cutR
  by_cases e : r (4 + c) / 2 = 0
  · rw [if_pos e]
    exact wr_RV w1 (by omega) (by omega) (by omega) (by omega) (by omega) (by omega)
  · rw [if_neg e]
    exact w1
theorem tireW_RV {w : Bool} {r : Int → Int} {c : Int} (v : RV r) (hc : 0 ≤ c ∧ c < 8) : RV (tireW w r c) := by
  cases w
  · exact cutR_RV v hc
  · exact tireR_RV v hc
theorem dayS_RV {w : Bool} {L : LT} {k : Int} {r : Int → Int} {c : Int} (v : RV r) (hc : 0 ≤ c ∧ c < 8) : RV (dayS w L k r c) := by
  unfold dayS
  split
  · exact v
  · split
    · exact tireW_RV (drawR_RV (ageR_RV v hc)) hc
    · exact drawR_RV (ageR_RV v hc)
theorem cutR_0 {r : Int → Int} {c : Int} (hc : 0 ≤ c ∧ c < 8) : cutR r c 0 = r 0 := by
  unfold cutR
  split
  · rw [wr_ne (by omega), wr_ne (by omega)]
  · rw [wr_ne (by omega)]
theorem tireW_0 {w : Bool} {r : Int → Int} {c : Int} (v : RV r) (hc : 0 ≤ c ∧ c < 8) : tireW w r c 0 = r 0 := by
  have e3 : cutR r c 3 = r 3 := by
    unfold cutR
    split
    · rw [wr_ne (by omega), wr_ne (by omega)]
    · rw [wr_ne (by omega)]
  cases w
  · exact cutR_0 hc
  · show writeR (cutR r c) _ _ 0 = _
    rw [writeR_lo (by omega) (by omega) (by rw [e3]; exact v.2.2.2.1.1) (by rw [e3]; exact v.2.2.2.1.2)]
    exact cutR_0 hc
theorem dayS_0 {w : Bool} {L : LT} {k : Int} {r : Int → Int} {c : Int} (v : RV r) (hc : 0 ≤ c ∧ c < 8) : dayS w L k r c 0 = r 0 := by
  have e : drawR (ageR r c) 0 = r 0 := by
    unfold drawR ageR
    rw [wr_ne (by omega), wr_ne (by omega)]
  unfold dayS
  split
  · rfl
  · split
    · rw [tireW_0 (drawR_RV (ageR_RV v hc)) hc]; exact e
    · exact e
theorem passF_RV {w : Bool} {L : LT} {k : Int} : ∀ (j : Nat) (c : Int) (r : Int → Int), 0 ≤ c → c + j ≤ 8 → RV r → r 0 < 9999 → RV (passF w L k j c r) ∧ passF w L k j c r 0 = r 0 + 1
  | 0, c, r, h0, h1, v, hd => ⟨wr_RV v (by omega) (by intro _; have := v.1; omega) (by omega) (by omega) (by omega) (by omega), by rw [passF, wr_at]⟩
  | j + 1, c, r, h0, h1, v, hd => by
    have e := dayS_0 (w := w) (L := L) (k := k) v (c := c) ⟨h0, by omega⟩
    have := passF_RV (w := w) (L := L) (k := k) j (c + 1) (dayS w L k r c) (by omega) (by omega) (dayS_RV v ⟨h0, by omega⟩) (by omega)
    rw [e] at this
    exact this
theorem passR_RV {w : Bool} {L : LT} {k : Int} {r : Int → Int} (v : RV r) (hd : r 0 < 9999) : RV (passR w L k r) ∧ passR w L k r 0 = r 0 + 1 := passF_RV 8 0 r (by omega) (by omega) v hd
theorem dayN_in {L : LT} {k : Int} {r : Int → Int} {c : Int} : 0 ≤ dayN L k r c ∧ dayN L k r c ≤ 1 := by
  unfold dayN
  split
  · omega
  · split <;> omega
theorem passG_in {w : Bool} {L : LT} {k : Int} : ∀ (j : Nat) (c : Int) (r : Int → Int), 0 ≤ passG w L k j c r ∧ passG w L k j c r ≤ j
  | 0, _, _ => by rw [passG]; omega
  | j + 1, c, r => by
    have := passG_in (w := w) (L := L) (k := k) j (c + 1) (dayS w L k r c)
    have := dayN_in (L := L) (k := k) (r := r) (c := c)
    rw [passG]
    omega
theorem passN_in {w : Bool} {L : LT} {k : Int} {r : Int → Int} : 0 ≤ passN w L k r ∧ passN w L k r ≤ 8 := passG_in 8 0 r
/-- nothing but the house at h and the scratch of the laws -/
def offH (h : Int) (σ σ' : jM) : Prop := ∀ x, (x < h ∨ h + 3 < x) → x ≠ 273 → x ≠ 274 → σ' x = σ x
theorem offH_rf {h : Int} {σ : jM} : offH h σ σ := fun _ _ _ _ => rfl
theorem offH_tr {h : Int} {σ σ1 σ2 : jM} (a : offH h σ σ1) (b : offH h σ1 σ2) : offH h σ σ2 := fun x h1 h2 h3 => (b x h1 h2 h3).trans (a x h1 h2 h3)
theorem offH_4 {h : Int} {σ σ' : jM} (a : off4 h σ σ') : offH h σ σ' := fun x h1 _ _ => a x h1
theorem offH_2 {h : Int} {σ σ' : jM} (a : off2 σ σ') : offH h σ σ' := fun x _ h2 h3 => a x h2 h3
theorem LawC_same {σ σ' : jM} {a l : Int} {D : Option DT} (e : ∀ x, a ≤ x → x ≤ a + 6 → σ' x = σ x) (h : LawC σ a l D) : LawC σ' a l D := by
  cases D with
  | none => show σ' (a + 5) l = -1; rw [e (a + 5) (by omega) (by omega)]; exact h
  | some f =>
    show _ ∧ _
    rw [e (a + 5) (by omega) (by omega), e (a + 6) (by omega) (by omega), e (a + 4) (by omega) (by omega)]
    exact h
theorem TxC_same {σ σ' : jM} {n : Int} {L : LT} (h : TxC σ n L) (hn : n ≤ 4) (e : ∀ x, 293 ≤ x → x ≤ 320 → σ' x = σ x) : TxC σ' n L := fun k k0 k1 =>
  ⟨LawC_same (fun x x0 x1 => e x (by omega) (by omega)) (h k k0 k1).1, LawC_same (fun x x0 x1 => e x (by omega) (by omega)) (h k k0 k1).2⟩
theorem TxC_H {σ σ' : jM} {n h : Int} {L : LT} (ht : TxC σ n L) (hn : n ≤ 4) (hh : h ≤ 266) (o : offH h σ σ') : TxC σ' n L := TxC_same ht hn (fun x x0 x1 => o x (by omega) (by omega) (by omega))
theorem TxM_same {σ σ' : jM} {n : Int} {L : LT} (h : TxM σ n L) (e : σ' 324 = σ 324) : TxM σ' n L := by
  unfold TxM
  rw [e]
  exact h
section DY
variable {d : Nat} {t : Int} {Q : Int → jM → Prop} {σ : jM} {h : Int} {r : Int → Int} {L : LT} {n k c : Int}
theorem h_sell (h0 : ob (GG t) h 1) (hh : h ≤ 266) (q : HR σ h r) (v : RV r) (hT : TxC σ n L) (hk : -1 ≤ k ∧ k < n) (hn : n ≤ 4) (hc : inR c) (kk0 : fullB r c = false → Q (-1) σ) (kk : fullB r c = true → ∀ σ', HR σ' h (emptyR (wr r 2 (min 999999 (r 2 + priceL L k r c))) c 2) → offH h σ σ' → Q (priceL L k r c) σ') : Ct mX1_sell (d + 3 + 1) 0 t [rv h, iv c, rv 273, rv (cellT k)] σ Q := by
  refine c_X1_sell h0 (h_holds h0 q v hc ⟨b01_R, fun z => ?_, fun z => kk0 (b01_0.mp z)⟩)
  have fa : fullB r c = true := by
    cases e : fullB r c with
    | true => rfl
    | false => exact absurd (b01_0.mpr e) z
  obtain ⟨a1, a2, a3⟩ := fullB_t fa
  have ga := v.2.2.2.2.1 c a1 a2
  refine h_priceOf h0 hh q v ⟨a1, a2⟩ hT hk hn (fun σ3 o3 => ?_)
  have q3 : HR σ3 h r := HR_same q (fun x x0 x1 => o3 x (by omega) (by omega))
  have pi := priceL_in (L := L) (k := k) (r := r) (c := c) v ⟨a1, a2⟩
  have v2 := v.2.2.1
  rw [q3.2.2.1]
  refine ⟨rng (by omega) (by omega), fun σ5 e5 => ?_⟩
  have q5 : HR σ5 h (wr r 2 (min 999999 (r 2 + priceL L k r c))) := by rw [e5]; exact HR_own q3 (Or.inl ⟨rfl, rfl⟩)
  have v5 : RV (wr r 2 (min 999999 (r 2 + priceL L k r c))) := wr_RV v (by omega) (by omega) (by omega) (by intro _; omega) (by omega) (by omega)
  have f5 : fullB (wr r 2 (min 999999 (r 2 + priceL L k r c))) c = true := fullB_of a1 a2 (by rw [wr_ne (by omega)]; exact a3)
  refine h_clear (d := d + 2) h0 q5 v5 (by omega) hc (fun _ σ6 q6 o6 => ?_) (fun z => by rw [f5] at z; cases z)
  refine kk fa σ6 q6 (offH_tr (offH_2 o3) (offH_tr (fun x x1 _ _ => by rw [e5, up_row (by omega)]) (offH_4 o6)))
theorem h_passDay (h0 : ob (GG t) h 1) (hh : h ≤ 266) (q : HR σ h r) (v : RV r) (hT : TxC σ n L) (hk : -1 ≤ k ∧ k < n) (hn : n ≤ 4) (hd : r 0 < 9999) (kk : ∀ σ', HR σ' h (passR true L k r) → offH h σ σ' → Q (passN true L k r) σ') : Ct mX1_passDay (d + 3 + 1) 0 t [rv h, rv 273, rv (cellT k)] σ Q := by
  refine c_X1_passDay h0 ?_
  have loop : ∀ (j : Nat) (i acc : Int) (s : Int → Int) (τ : jM), 0 ≤ i → i + j = 8 → HR τ h s → RV s → s 0 < 9999 → offH h σ τ → 0 ≤ acc → acc ≤ i → (∀ σ', HR σ' h (passF true L k j i s) → offH h σ σ' → Q (acc + passG true L k j i s) σ') → Jt mX1_passDay (d + 3 + 1) 0 t Q 5 [rv h, rv 273, rv (cellT k), iv acc, iv i] [] τ := by
    intro j
    induction j with
    | zero =>
      intro i acc s τ i0 hi qs vs ds os a0 a1 k1
      refine b_X1_passDay_5 h0 ⟨rng (by omega) (by omega), fun _ σ2 e2 => ?_, fun z => absurd z (by omega)⟩
      rw [qs.1] at e2
      have := k1 σ2 (by rw [e2]; exact HR_own qs (Or.inr (Or.inl ⟨rfl, rfl⟩))) (offH_tr os (fun x x1 _ _ => by rw [e2, up_row (by omega)]))
      rw [passG, Int.add_zero] at this
      exact this
    | succ j ih =>
      intro i acc s τ i0 hi qs vs ds os a0 a1 k1
      have hc : 0 ≤ i ∧ i < 8 := ⟨i0, by omega⟩
      have g := vs.2.2.2.2.1 i hc.1 hc.2
      have es := qs.2.2.2.2.2.1 i hc.1 hc.2
      rw [passF, passG] at k1
      refine b_X1_passDay_5 h0 ⟨rng (by omega) (by omega), fun z => absurd z (by omega), fun z => ⟨hc, ?_⟩⟩
      rw [es.1, es.2]
      refine ⟨rng (by omega) (by omega), fun y => ⟨hc, rng (by omega) (by omega), hc, fun σ6 e6 => ?_⟩, fun y => ?_⟩
      · have q6 : HR σ6 h (ageR s i) := by rw [e6]; exact HR_age qs hc.1 hc.2
        have v6 := ageR_RV vs hc
        have o6 : offH h τ σ6 := fun x x1 _ _ => by rw [e6, up_row (by omega)]
        refine h_draw h0 q6 v6 (fun σ7 q7 o7 => ?_)
        have v7 := drawR_RV v6
        have e1 : ageR s i 1 = s 1 := by unfold ageR; rw [wr_ne (by omega)]
        rw [e1]
        have s1 := vs.2.1
        refine ⟨rng (by omega) (by omega), ?_⟩
        rw [tm s1.1]
        have o7' : offH h σ σ7 := offH_tr os (offH_tr o6 (offH_4 o7))
        refine h_tiresOf h0 hh q7 v7 hc (TxC_H hT hn hh o7') hk hn (fun σ9 o9 => ?_)
        have ti := tiresL_in (L := L) (k := k) (r := drawR (ageR s i)) (c := i)
        have q9 : HR σ9 h (drawR (ageR s i)) := HR_same q7 (fun x x0 x1 => o9 x (by omega) (by omega))
        have o9' : offH h σ σ9 := offH_tr o7' (offH_2 o9)
        refine ⟨rng (by omega) (by omega), rng (by omega) (by omega), fun x => ?_, fun x => ?_⟩
        · have hb : hitB L k s i = false := by unfold hitB; simp; omega
          have eS : dayS true L k s i = drawR (ageR s i) := by unfold dayS; rw [if_neg y, hb]; rfl
          have eN : dayN L k s i = 0 := by unfold dayN; rw [if_neg y, hb]; rfl
          rw [eS, eN] at k1
          refine ih (i + 1) acc _ σ9 (by omega) (by omega) q9 v7 ?_ o9' a0 (by omega) (fun σ' x1 x2 => ?_)
          · unfold drawR ageR; rw [wr_ne (by omega), wr_ne (by omega)]; exact ds
          · have := k1 σ' x1 x2
            rw [Int.zero_add] at this
            exact this
        · have hb : hitB L k s i = true := by unfold hitB; simp; omega
          have eS : dayS true L k s i = tireR (drawR (ageR s i)) i := by unfold dayS; rw [if_neg y, hb]; rfl
          have eN : dayN L k s i = 1 := by unfold dayN; rw [if_neg y, hb]; rfl
          rw [eS, eN] at k1
          refine h_tire (d := d + 2) h0 q9 v7 hc (fun σ12 q12 o12 => ?_)
          refine ih (i + 1) (acc + 1) _ σ12 (by omega) (by omega) q12 (tireR_RV v7 hc) ?_ (offH_tr o9' (offH_4 o12)) (by omega) (by omega) (fun σ' x1 x2 => ?_)
          · have := tireW_0 (w := true) v7 hc
            have e0 : tireR (drawR (ageR s i)) i 0 = drawR (ageR s i) 0 := this
            rw [e0]
            unfold drawR ageR; rw [wr_ne (by omega), wr_ne (by omega)]; exact ds
          · have := k1 σ' x1 x2
            rw [show acc + 1 + passG true L k j (i + 1) (tireR (drawR (ageR s i)) i) = acc + (1 + passG true L k j (i + 1) (tireR (drawR (ageR s i)) i)) by omega]
            exact this
      · have eS : dayS true L k s i = s := by unfold dayS; rw [if_pos y]
        have eN : dayN L k s i = 0 := by unfold dayN; rw [if_pos y]
        rw [eS, eN] at k1
        refine ih (i + 1) acc s τ (by omega) (by omega) qs vs ds os a0 (by omega) (fun σ' x1 x2 => ?_)
        have := k1 σ' x1 x2
        rw [Int.zero_add] at this
        exact this
  exact loop 8 0 0 r σ (by omega) (by omega) q v hd offH_rf (by omega) (by omega) (fun σ' x1 x2 => by rw [Int.zero_add]; exact kk σ' x1 x2)
end DY
