/-! ===== text alike ===== -/
def JT (T : Int → Int) (n t b p m : Int) (S F G : Int → Int) (D : LD) : Prop := (∃ (m' : Int) (S' F' G' : Int → Int) (D' : LD), PO m' S' F' G' D' ∧ (∀ (d : Nat) (Q : Int → jM → Prop) (σ : jM) (p1 : Int), 371 ≤ d → CI T n t σ p m S F G D → (∀ σ' q, CI T n t σ' q m' S' F' G' D' → FrC t σ σ' → kpC σ σ' → Q 1 σ') → Jt mX3_readsInto (d + 2) 0 t Q 33 [rv 271, rv p1, iv m] [] σ) ∧ (∀ (d : Nat) (Q : Int → jM → Prop) (σ : jM), RI T n b σ p m S F G D → (∀ σ' q, RI T n b σ' q m' S' F' G' D' → FrR b σ σ' → Q 0 σ') → Jt mX12_readText (d + 12) 0 t Q 43 [rv 321, uv] [] σ)) ∨ (∃ kind pl : Int, ((1 ≤ kind ∧ kind ≤ 6) ∧ 0 ≤ pl ∧ pl ≤ n) ∧ (∀ (d : Nat) (Q : Int → jM → Prop) (σ : jM) (p1 : Int), 371 ≤ d → CI T n t σ p m S F G D → bdC t Q σ kind pl → Jt mX3_readsInto (d + 2) 0 t Q 33 [rv 271, rv p1, iv m] [] σ) ∧ (∀ (d : Nat) (Q : Int → jM → Prop) (σ : jM), RI T n b σ p m S F G D → bdM b Q σ kind pl → Jt mX12_readText (d + 12) 0 t Q 43 [rv 321, uv] [] σ))
section AO
variable {T : Int → Int} {n t b : Int}
theorem tk0 {σ : jM} {p : Int} (rt : RT σ T n p) : (inR (σ 321 9)) ∧ (σ 321 9 = 0 ↔ kT T n p = 0) := by
  have a := (RT_tk rt).1
  have r9 := RT_9 rt
  unfold TK at a
  exact ⟨rng (by omega) (by omega), by omega⟩
theorem jt_all (h0 : ob (GG t) t 8) (ht : 293 ≤ t) (tp : TP T n) : ∀ (k : Nat) (p m : Int) (S F G : Int → Int) (D : LD), 0 ≤ p → p ≤ n → n - p < k → PO m S F G D → JT T n t b p m S F G D
  | 0, p, _, _, _, _, _, _, _, h, _ => absurd h (by omega)
  | k + 1, p, m, S, F, G, D, p0, p1, h, po => by
    have pm := po.1
    have ki := kT_in tp ⟨p0, p1⟩
    have kr : inR (kT T n p) := rng (by omega) (by omega)
    by_cases hk : kT T n p = 0
    · refine Or.inl ⟨m, S, F, G, D, po, fun d Q σ p1 hd ci g => ?_, fun d Q σ ri g => ?_⟩
      · refine b_X3_readsInto_33 ⟨rng (by omega) (by omega), fun z => absurd z (by omega), fun _ => ?_⟩
        have e6 : σ 271 6 = kT T n p := ci.1.2.1
        rw [e6]
        exact ⟨kr, fun _ => g σ p ci FrC_rf ⟨rfl, rfl⟩, fun z => absurd hk z⟩
      · obtain ⟨a1, a2⟩ := tk0 ri.1
        exact b_X12_readText_43 ⟨a1, fun _ => g σ p ri FrR_rf, fun z => absurd (a2.mpr hk) z⟩
    · rcases jc_all (b := b) h0 ht tp ⟨p0, p1⟩ po with ⟨p', s, x, y, D', hp, po', cc, cm⟩ | ⟨kind, pl, hkd, cc, cm⟩
      · rcases jt_all h0 ht tp k p' (m + 1) (wr S m s) (wr F m x) (wr G m y) D' (by omega) hp.2 (by omega) po' with ⟨m', S', F', G', D2, po2, lc, lm⟩ | ⟨kind, pl, hkd, lc, lm⟩
        · refine Or.inl ⟨m', S', F', G', D2, po2, fun d Q σ p1 hd ci g => ?_, fun d Q σ ri g => ?_⟩
          · refine b_X3_readsInto_33 ⟨rng (by omega) (by omega), fun z => absurd z (by omega), fun _ => ?_⟩
            have e6 : σ 271 6 = kT T n p := ci.1.2.1
            rw [e6]
            refine ⟨kr, fun z => absurd z hk, fun _ => cc d _ σ hd ci (fun σ1 c1 f1 k1 => ⟨inl (by decide), fun _ => ?_, fun z => absurd z (by decide)⟩)⟩
            exact lc d Q σ1 p1 hd c1 (fun σ2 q c2 f2 k2 => g σ2 q c2 (FrC_tr f1 f2) (kpC_tr k1 k2))
          · obtain ⟨a1, a2⟩ := tk0 ri.1
            refine b_X12_readText_43 ⟨a1, fun z => absurd (a2.mp z) hk, fun _ => cm d _ σ ri (fun σ1 r1 f1 => ⟨inl (by decide), fun _ => ?_, fun z => absurd rfl z⟩)⟩
            exact lm d Q σ1 r1 (fun σ2 q r2 f2 => g σ2 q r2 (FrR_tr f1 f2))
        · refine Or.inr ⟨kind, pl, hkd, fun d Q σ p1 hd ci g => ?_, fun d Q σ ri g => ?_⟩
          · refine b_X3_readsInto_33 ⟨rng (by omega) (by omega), fun z => absurd z (by omega), fun _ => ?_⟩
            have e6 : σ 271 6 = kT T n p := ci.1.2.1
            rw [e6]
            refine ⟨kr, fun z => absurd z hk, fun _ => cc d _ σ hd ci (fun σ1 c1 f1 k1 => ⟨inl (by decide), fun _ => ?_, fun z => absurd z (by decide)⟩)⟩
            exact lc d Q σ1 p1 hd c1 (bd_r g f1)
          · obtain ⟨a1, a2⟩ := tk0 ri.1
            refine b_X12_readText_43 ⟨a1, fun z => absurd (a2.mp z) hk, fun _ => cm d _ σ ri (fun σ1 r1 f1 => ⟨inl (by decide), fun _ => ?_, fun z => absurd rfl z⟩)⟩
            exact lm d Q σ1 r1 (fun σ2 f2 e2 => g σ2 (FrR_tr f1 f2) e2)
      · refine Or.inr ⟨kind, pl, hkd, fun d Q σ p1 hd ci g => ?_, fun d Q σ ri g => ?_⟩
        · refine b_X3_readsInto_33 ⟨rng (by omega) (by omega), fun z => absurd z (by omega), fun _ => ?_⟩
          have e6 : σ 271 6 = kT T n p := ci.1.2.1
          rw [e6]
          exact ⟨kr, fun z => absurd z hk, fun _ => cc d _ σ hd ci (fun σ1 f1 a c => ⟨inl (by decide), fun z => absurd rfl z, fun _ => g σ1 f1 a c⟩)⟩
        · obtain ⟨a1, a2⟩ := tk0 ri.1
          exact b_X12_readText_43 ⟨a1, fun z => absurd (a2.mp z) hk, fun _ => cm d _ σ ri (fun σ1 f1 e1 => ⟨rng (by omega) (by omega), fun z => absurd z (by omega), fun _ => g σ1 f1 e1⟩)⟩
def noD : LD := fun _ => none
def noS : Int → Int := fun _ => 0
theorem PO_0 : PO 0 noS noS noS noD := ⟨by decide, fun j j0 j1 => absurd j1 (by omega), fun i f _ h => by cases h⟩
/-- the class begins to read -/
theorem r_start {d : Nat} {Q : Int → jM → Prop} {σ : jM} (h0 : ob (GG t) t 8) (ht : 293 ≤ t) (tp : TP T n) (tc : tapeC σ T n) (k : ∀ σ', CI T n t σ' 0 0 noS noS noS noD → FrC t σ σ' → σ' 271 2 = 0 → σ' 271 3 = -1 → Jt mX3_readsInto (d + 6) 0 t Q 33 [rv 271, rv t, iv 0] [] σ') : Jt mX3_readsInto (d + 6) 0 t Q 5 [rv 271, rv t, uv] [] σ := by
  refine b_X3_readsInto_5 ⟨h0, c_X8_forget h0 (fun σ1 e1 σ2 e2 => ⟨by decide, fun σ4 e4 => ⟨by decide, fun σ6 e6 σa ea σb eb σc ec => ?_⟩⟩)⟩
  have r6 : ∀ x, x ≠ t → x ≠ t + 5 → σ6 x = σ x := fun x h1 h2 => by rw [e6, up_row h2, e4, up_row h2, e2, up_row h1, e1, up_row h1]
  have rc : ∀ x, x ≠ 271 → σc x = σ6 x := fun x h1 => by rw [ec, up_row h1, eb, up_row h1, ea, up_row h1]
  have jc : ∀ j, j ≠ 2 → j ≠ 3 → j ≠ 8 → σc 271 j = σ 271 j := fun j h1 h2 h3 => by rw [ec, up_ne (Or.inr h3), eb, up_ne (Or.inr h2), ea, up_ne (Or.inr h1), r6 271 (by omega) (by omega)]
  have t0 := tp.1
  refine Ct_le (s_advance (d := d) (p := 0) tp (by omega) ⟨by rw [jc 1 (by omega) (by omega) (by omega)]; exact tc.1, fun i i0 i1 => by rw [rc 272 (by omega), r6 272 (by omega) (by omega)]; exact tc.2 i i0 i1⟩ (by rw [ec, up_at]) (fun σ7 ct o => ?_)) (by omega)
  have q : ∀ x, x ≠ 271 → x ≠ t → x ≠ t + 5 → σ7 x = σ x := fun x h1 h2 h3 => by rw [o.1 x h1, rc x h1, r6 x h2 h3]
  have q6 : σ7 t 6 = 0 := by rw [o.1 t (by omega), rc t (by omega), e6, up_row (by omega), e4, up_row (by omega), e2, up_ne (Or.inr (by omega)), e1, up_at]
  have q7 : σ7 t 7 = 0 := by rw [o.1 t (by omega), rc t (by omega), e6, up_row (by omega), e4, up_row (by omega), e2, up_at]
  have p0 : σ7 (t + 5) 0 = -1 := by rw [o.1 (t + 5) (by omega), rc (t + 5) (by omega), e6, up_ne (Or.inr (by omega)), e4, up_at]
  have p1 : σ7 (t + 5) 1 = -1 := by rw [o.1 (t + 5) (by omega), rc (t + 5) (by omega), e6, up_at]
  refine k σ7 ⟨ct, by omega, by rw [q7]; omega, ⟨q6, fun j j0 j1 => absurd j1 (by omega)⟩, fun i hi => ?_⟩ ⟨fun x h1 h2 => q x h1 (by omega) (by omega), fun j hj => by rw [o.2 j (by omega), jc j (by omega) (by omega) (by omega)]⟩ (by rw [o.2 2 (by omega), ec, up_ne (Or.inr (by omega)), eb, up_ne (Or.inr (by omega)), ea, up_at]) (by rw [o.2 3 (by omega), ec, up_ne (Or.inr (by omega)), eb, up_at])
  show σ7 (t + 5) i = -1
  rcases hi with rfl | rfl
  · exact p0
  · exact p1
/-- the reference begins to read -/
theorem m_start {d : Nat} {Q : Int → jM → Prop} {σ : jM} {k : Int} (tp : TP T n) (tm : tapeM σ T n) (ek : σ 322 0 = k) (k0 : 0 ≤ k ∧ k < 4) (g : ∀ σ', RI T n (681 * k) σ' 0 0 noS noS noS noD → (∀ x, x ≠ 321 → x ≠ 324 → x ≠ 326 → σ' x = σ x) → (∀ j, (j < 7 ∨ 19 < j) → σ' 321 j = σ 321 j) → (∀ i, (i < 681 * k ∨ 681 * k + 681 ≤ i) → σ' 324 i = σ 324 i) → Jt mX12_readText (d + 12) 0 t Q 43 [rv 321, uv] [] σ') : Ct mX12_readText (d + 12) 0 t [rv 321] σ Q := by
  refine c_X12_readText ⟨by decide, fun σ1 e1 => ?_⟩
  rw [ek] at e1
  have a12 : σ1 321 12 = 681 * k := by rw [e1, up_at]
  rw [a12]
  refine ⟨by omega, fun σ3 e3 σ4 e4 σ5 e5 σ6 e6 => ?_⟩
  have t0 := tp.1
  have r6 : ∀ x, x ≠ 321 → x ≠ 324 → σ6 x = σ x := fun x h1 h2 => by rw [e6, up_row h1, e5, up_row h1, e4, up_row h1, e3, up_row h2, e1, up_row h1]
  have j6 : ∀ j, j ≠ 7 → j ≠ 12 → j ≠ 13 → j ≠ 19 → σ6 321 j = σ 321 j := fun j h1 h2 h3 h4 => by rw [e6, up_ne (Or.inr h1), e5, up_ne (Or.inr h4), e4, up_ne (Or.inr h3), e3, up_row (by omega), e1, up_ne (Or.inr h2)]
  have x6 : ∀ i, i ≠ 681 * k → σ6 324 i = σ 324 i := fun i hi => by rw [e6, up_row (by omega), e5, up_row (by omega), e4, up_row (by omega), e3, up_ne (Or.inr hi), e1, up_row (by omega)]
  refine m_nextToken (p := 0) tp (by omega) ⟨by rw [j6 4 (by omega) (by omega) (by omega) (by omega)]; exact tm.1, fun i i0 i1 => by rw [r6 325 (by omega) (by omega)]; exact tm.2 i i0 i1⟩ (by rw [e6, up_at]) (fun σ7 rt o => ?_)
  have u12 : σ7 321 12 = 681 * k := by rw [o.2 12 (by omega), e6, up_ne (Or.inr (by omega)), e5, up_ne (Or.inr (by omega)), e4, up_ne (Or.inr (by omega)), e3, up_row (by omega)]; exact a12
  have u13 : σ7 321 13 = 0 := by rw [o.2 13 (by omega), e6, up_ne (Or.inr (by omega)), e5, up_ne (Or.inr (by omega)), e4, up_at]
  have u19 : σ7 321 19 = 0 := by rw [o.2 19 (by omega), e6, up_ne (Or.inr (by omega)), e5, up_at]
  have ub : σ7 324 (681 * k) = 0 := by rw [o.1 324 (by omega), e6, up_row (by omega), e5, up_row (by omega), e4, up_row (by omega), e3, up_at]
  refine g σ7 ⟨rt, by omega, ⟨u12, by omega⟩, by rw [u13]; omega, by rw [u19]; rfl, ⟨ub, fun j j0 j1 => absurd j1 (by omega)⟩, fun i hi => ?_⟩ (fun x h1 h2 _ => by rw [o.1 x h1, r6 x h1 h2]) (fun j hj => by rw [o.2 j (by omega), j6 j (by omega) (by omega) (by omega) (by omega)]) (fun i hi => by rw [o.1 324 (by omega), x6 i (by omega)])
  show ∀ j, 0 ≤ j → j < 0 → noS j ≠ i
  exact fun j j0 j1 => absurd j1 (by omega)
end AO
