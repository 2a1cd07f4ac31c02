section BO
variable {t : Int} {L : LT} {n rye wheat : Int}
/-- what the reference seeks behind w -/
def EBw (n rye wheat : Int) (l : Nat) (f : Int → Int) (k : Nat) (w : Int) : Prop := ∃ v, w < v ∧ v ≤ n ∧ Cok n rye wheat l v ∧ SumP f ((k : Int) + 1) v ∧ EB n rye wheat l (wr f ((k : Int) + 1) v) (k + 1)
theorem m_isBoth {d : Nat} {Q : Int → jM → Prop} {σ : jM} {v m : Int} (hv : 0 ≤ v ∧ v ≤ 1000) (hr : 0 ≤ rye ∧ rye ≤ 9) (hw : 0 ≤ wheat ∧ wheat ≤ 9) (hm : 0 ≤ m ∧ m ≤ 44) (hs : smallR (σ 331) m) (k1 : v % 10 ≤ rye → v / 10 - v % 10 ≤ wheat → v % 10 ≤ v / 10 → SumP (σ 331) m v → Q 1 σ) (k0 : ¬ (v % 10 ≤ rye ∧ v / 10 - v % 10 ≤ wheat ∧ v % 10 ≤ v / 10 ∧ SumP (σ 331) m v) → Q 0 σ) : Ct mX12_isBoth (d + 1) 0 t [rv 321, iv v, iv m, iv rye, iv wheat] σ Q := by
  refine c_X12_isBoth ?_
  rw [tm hv.1, td hv.1]
  have vR : inR v := rng (by omega) (by omega)
  exact ⟨vR, rng (by omega) (by omega), rng (by omega) (by omega), fun z => k0 (fun q => by omega), fun a => ⟨vR, vR, rng (by omega) (by omega), rng (by omega) (by omega), fun z => k0 (fun q => by omega), fun b => ⟨vR, vR, rng (by omega) (by omega), rng (by omega) (by omega), fun c => m_isSum vR hm hs (fun s => ⟨Or.inr rfl, k1 a b c s⟩) (fun s => ⟨Or.inl rfl, k0 (fun q => s q.2.2.2)⟩), fun z => k0 (fun q => by omega)⟩⟩⟩
theorem m_nextBoth {d : Nat} {Q : Int → jM → Prop} {σ : jM} {f : Int → Int} {k l m : Nat} {w : Int} (hr : 0 ≤ rye ∧ rye ≤ 9) (hw : 0 ≤ wheat ∧ wheat ≤ 9) (en : n = 10 * (rye + wheat) + rye) (hk : k + 1 + l = m) (hm : m < 20) (hf : ∀ i, 0 ≤ i → i ≤ (k : Int) → (σ 331 i = f i ∧ 0 ≤ f i ∧ f i ≤ 200)) (hw' : σ 331 ((k : Int) + 1) = w) (w0 : 0 ≤ w) (wn : w ≤ n) (kk : ∀ r, ((w < r ∧ r ≤ n ∧ Cok n rye wheat l r ∧ SumP f ((k : Int) + 1) r ∧ ∀ x, w < x → x < r → ¬ (Cok n rye wheat l x ∧ SumP f ((k : Int) + 1) x)) ∨ (r = n + 1 ∧ ∀ x, w < x → x ≤ n → ¬ (Cok n rye wheat l x ∧ SumP f ((k : Int) + 1) x))) → Q r σ) : Ct mX12_nextBoth (d + 2) 0 t [rv 321, iv ((k : Int) + 1), iv (m : Int), iv rye, iv wheat] σ Q := by
  refine c_X12_nextBoth ⟨by omega, ?_⟩
  rw [hw', ← en]
  have loop : ∀ (N : Nat) (v : Int), w < v → v + N = n + 1 → (∀ x, w < x → x < v → ¬ (Cok n rye wheat l x ∧ SumP f ((k : Int) + 1) x)) → Jt mX12_nextBoth (d + 2) 0 t Q 21 [rv 321, iv ((k : Int) + 1), iv (m : Int), iv rye, iv wheat, iv n, iv v] [] σ := by
    intro N
    induction N with
    | zero =>
      intro v v0 vn no
      exact b_X12_nextBoth_21 ⟨rng (by omega) (by omega), rng (by omega) (by omega), fun _ => kk v (Or.inr ⟨by omega, fun x x0 x1 => no x x0 (by omega)⟩), fun z => absurd z (by omega)⟩
    | succ N ih =>
      intro v v0 vn no
      have vR : inR v := rng (by omega) (by omega)
      have nR : inR n := rng (by omega) (by omega)
      have pass : ¬ (Cok n rye wheat l v ∧ SumP f ((k : Int) + 1) v) → Jt mX12_nextBoth (d + 2) 0 t Q 21 [rv 321, iv ((k : Int) + 1), iv (m : Int), iv rye, iv wheat, iv n, iv (v + 1)] [] σ := fun hc => by
        refine ih (v + 1) (by omega) (by omega) (fun x x0 x1 => ?_)
        by_cases e : x = v
        · rw [e]; exact hc
        · exact no x x0 (by omega)
      have sh : i_shl (v / 10) ((m : Int) - ((k : Int) + 1)) = v / 10 * pw2 l := by
        have := shl_v ⟨(v / 10).toNat, by omega⟩ ⟨l, by omega⟩
        simp only at this
        rw [show (((v / 10).toNat : Nat) : Int) = v / 10 by omega] at this
        rw [show (m : Int) - ((k : Int) + 1) = (l : Int) by omega]
        exact this
      have shR : inR (v / 10 * pw2 l) := by
        have a := pw2_le ⟨l, by omega⟩
        have b := pw2_pos l
        simp only at a
        have c1 : v / 10 * pw2 l ≤ v / 10 * 8388608 := Int.mul_le_mul_of_nonneg_left a (by omega)
        have c2 : 0 ≤ v / 10 * pw2 l := Int.mul_nonneg (by omega) (by omega)
        exact rng (by omega) (by omega)
      have sag : SumP (σ 331) ((k : Int) + 1) v ↔ SumP f ((k : Int) + 1) v := SumP_agr (fun i a b => (hf i a (by omega)).1)
      have rest : (v = n ↔ l = 0) → ((inR v) ∧ ((inR n) ∧ ((inR (i_shl (Int.tdiv v 10) ((m : Int) - ((k : Int) + 1)))) ∧ ((inR (Int.tdiv n 10)) ∧ (((i_shl (Int.tdiv v 10) ((m : Int) - ((k : Int) + 1))) < (Int.tdiv n 10) → (Jt mX12_nextBoth (d + 2) 0 t Q 21 [rv 321, iv ((k : Int) + 1), iv (m : Int), iv rye, iv wheat, iv n, iv (v + 1)] [] σ)) ∧ ((Int.tdiv n 10) ≤ (i_shl (Int.tdiv v 10) ((m : Int) - ((k : Int) + 1))) → (Ct mX12_isBoth (d + 1) 0 t [rv 321, iv v, iv ((k : Int) + 1), iv rye, iv wheat] σ (fun r11 σ11 => ((inR r11) ∧ ((¬ r11 = 0 → (Q v σ11)) ∧ (r11 = 0 → (Jt mX12_nextBoth (d + 2) 0 t Q 21 [rv 321, iv ((k : Int) + 1), iv (m : Int), iv rye, iv wheat, iv n, iv (v + 1)] [] σ11)))))))))))) := fun hu => by
        rw [td (by omega), td (by omega), sh]
        refine ⟨vR, nR, shR, rng (by omega) (by omega), fun y => pass (fun hc => by have := hc.1.2.2.2.1; omega), fun y => ?_⟩
        refine m_isBoth (d := d) (by omega) hr hw (by omega) (fun i a b => by have := hf i a (by omega); rw [this.1]; omega) (fun a b c s => ⟨⟨by decide, by decide⟩, fun _ => kk v (Or.inl ⟨v0, by omega, ⟨a, b, c, y, hu⟩, sag.mp s, no⟩), fun q => absurd q (by decide)⟩) (fun hn => ⟨in0, fun q => absurd rfl q, fun _ => pass (fun hc => hn ⟨hc.1.1, hc.1.2.1, hc.1.2.2.1, sag.mpr hc.2⟩)⟩)
      refine b_X12_nextBoth_21 ⟨vR, nR, fun z => absurd z (by omega), fun _ => ⟨vR, nR, fun y => ⟨rng (by omega) (by omega), rng (by omega) (by omega), fun u => ⟨fun q => absurd rfl q, fun _ => rest ⟨fun q => absurd q y, fun q => absurd q (by omega)⟩⟩, fun u => ⟨fun _ => pass (fun hc => y (hc.1.2.2.2.2.mpr (by omega))), fun q => absurd q (by decide)⟩⟩, fun y => ⟨rng (by omega) (by omega), rng (by omega) (by omega), fun u => ⟨fun _ => pass (fun hc => absurd (hc.1.2.2.2.2.mp y) (by omega)), fun q => absurd q (by decide)⟩, fun u => ⟨fun q => absurd rfl q, fun _ => rest ⟨fun _ => by omega, fun _ => y⟩⟩⟩⟩⟩
  exact loop (n - w).toNat (w + 1) (by omega) (by omega) (fun x x0 x1 => absurd x1 (by omega))
theorem m_areBoths {d : Nat} {Q : Int → jM → Prop} {σ0 : jM} {m : Nat} {p3 : Int} (hr : 0 ≤ rye ∧ rye ≤ 9) (hw : 0 ≤ wheat ∧ wheat ≤ 9) (en : n = 10 * (rye + wheat) + rye) (hm : m < 20) : ∀ (l : Nat) {k : Nat} {f : Int → Int}, k + 1 + l = m → 1 ≤ k → (∀ i, 0 ≤ i → i ≤ (k : Int) → 0 ≤ f i ∧ f i ≤ 200) → f k ≤ n → ∀ (N : Nat) (w : Int) (σ : jM), n - w ≤ N → f k ≤ w → w ≤ n → (∀ i, 0 ≤ i → i ≤ (k : Int) → σ 331 i = f i) → σ 331 ((k : Int) + 1) = w → (∀ x, x ≠ 331 → σ x = σ0 x) → (∀ σ', EBw n rye wheat l f k w → (∀ x, x ≠ 331 → σ' x = σ0 x) → Q 1 σ') → (∀ σ', ¬ EBw n rye wheat l f k w → (∀ i, 0 ≤ i → i ≤ (k : Int) → σ' 331 i = f i) → (∀ x, x ≠ 331 → σ' x = σ0 x) → Jt mX12_areBoth (d + 3) 0 t Q 42 [rv 321, iv rye, iv wheat, iv p3, iv n, iv (m : Int), iv (k : Int)] [] σ') → Jt mX12_areBoth (d + 3) 0 t Q 42 [rv 321, iv rye, iv wheat, iv p3, iv n, iv (m : Int), iv ((k : Int) + 1)] [] σ := by
  intro l
  induction l with
  | zero =>
    intro k f hkl hk1 hf fn N w σ _ w0 wn hs hw' of ks kf
    have fk := hf k (by omega) (by omega)
    refine b_X12_areBoth_42 ⟨rng (by omega) (by omega), fun z => absurd z (by omega), fun _ => ?_⟩
    refine m_nextBoth (d := d) (f := f) (k := k) (l := 0) hr hw en hkl hm (fun i a b => ⟨hs i a b, hf i a b⟩) hw' (by omega) wn (fun r hr' => ⟨by omega, fun σ4 e4 => ⟨by omega, ?_⟩⟩)
    rw [show σ4 331 ((k : Int) + 1) = r by rw [e4, up_at]]
    have of4 : ∀ x, x ≠ 331 → σ4 x = σ0 x := fun x hx => by rw [e4, up_row hx]; exact of x hx
    rcases hr' with ⟨r0, r1, hc, hsm, no⟩ | ⟨r1, no⟩
    · exact ⟨rng (by omega) (by omega), rng (by omega) (by omega), fun _ => ⟨rng (by omega) (by omega), rng (by omega) (by omega), fun z => absurd (show (k : Int) + 1 = m by omega) z, fun _ => ks σ4 ⟨r, r0, r1, hc, hsm, trivial⟩ of4⟩, fun z => absurd z (by omega)⟩
    · refine ⟨rng (by omega) (by omega), rng (by omega) (by omega), fun z => absurd z (by omega), fun _ => ?_⟩
      rw [show (k : Int) + 1 + -1 = k by omega]
      refine kf σ4 (fun ⟨v, a, b, c, e, _⟩ => no v a b ⟨c, e⟩) (fun i i0 i1 => ?_) of4
      rw [e4, up_ne (Or.inr (by omega))]; exact hs i i0 i1
  | succ l ih =>
    intro k f hkl hk1 hf fn N
    have fk := hf k (by omega) (by omega)
    induction N with
    | zero =>
      intro w σ hN w0 wn hs hw' of ks kf
      refine b_X12_areBoth_42 ⟨rng (by omega) (by omega), fun z => absurd z (by omega), fun _ => ?_⟩
      refine m_nextBoth (d := d) (f := f) (k := k) (l := l + 1) hr hw en hkl hm (fun i a b => ⟨hs i a b, hf i a b⟩) hw' (by omega) wn (fun r hr' => ⟨by omega, fun σ4 e4 => ⟨by omega, ?_⟩⟩)
      rw [show σ4 331 ((k : Int) + 1) = r by rw [e4, up_at]]
      rcases hr' with ⟨r0, r1, _⟩ | ⟨r1, no⟩
      · omega
      · refine ⟨rng (by omega) (by omega), rng (by omega) (by omega), fun z => absurd z (by omega), fun _ => ?_⟩
        rw [show (k : Int) + 1 + -1 = k by omega]
        refine kf σ4 (fun ⟨v, a, b, c, e, _⟩ => no v a b ⟨c, e⟩) (fun i i0 i1 => ?_) (fun x hx => by rw [e4, up_row hx]; exact of x hx)
        rw [e4, up_ne (Or.inr (by omega))]; exact hs i i0 i1
    | succ N ihN =>
      intro w σ hN w0 wn hs hw' of ks kf
      refine b_X12_areBoth_42 ⟨rng (by omega) (by omega), fun z => absurd z (by omega), fun _ => ?_⟩
      refine m_nextBoth (d := d) (f := f) (k := k) (l := l + 1) hr hw en hkl hm (fun i a b => ⟨hs i a b, hf i a b⟩) hw' (by omega) wn (fun r hr' => ⟨by omega, fun σ4 e4 => ⟨by omega, ?_⟩⟩)
      rw [show σ4 331 ((k : Int) + 1) = r by rw [e4, up_at]]
      have of4 : ∀ x, x ≠ 331 → σ4 x = σ0 x := fun x hx => by rw [e4, up_row hx]; exact of x hx
      rcases hr' with ⟨r0, r1, hc, hsm, no⟩ | ⟨r1, no⟩
      · have rn : r < n := by
          rcases Int.lt_or_eq_of_le r1 with q | q
          · exact q
          · exact absurd (hc.2.2.2.2.mp q) (by omega)
        refine ⟨rng (by omega) (by omega), rng (by omega) (by omega), fun _ => ⟨rng (by omega) (by omega), rng (by omega) (by omega), fun _ => ⟨by omega, by omega, fun σ10 e10 => ?_⟩, fun z => absurd z (by omega)⟩, fun z => absurd z (by omega)⟩
        rw [show (k : Int) + 1 + 1 - 1 = (k : Int) + 1 by omega, show σ4 331 ((k : Int) + 1) = r by rw [e4, up_at]] at e10
        have fw' : wr f ((k : Int) + 1) r ((k + 1 : Nat) : Int) = r := wr_eq (by omega)
        have h10 : ∀ i, 0 ≤ i → i ≤ ((k + 1 : Nat) : Int) → σ10 331 i = wr f ((k : Int) + 1) r i := fun i i0 i1 => by
          rw [e10, up_ne (Or.inr (by omega))]
          by_cases e : i = (k : Int) + 1
          · rw [e4, up_eq rfl e, wr_eq e]
          · rw [e4, up_ne (Or.inr e), wr_ne e]; exact hs i i0 (by omega)
        have := ih (k := k + 1) (f := wr f ((k : Int) + 1) r) (by omega) (by omega) (fun i i0 i1 => by
          by_cases e : i = (k : Int) + 1
          · rw [wr_eq e]; omega
          · rw [wr_ne e]; exact hf i i0 (by omega)) (by rw [fw']; omega) (n - r).toNat r σ10 (by omega) (by rw [fw']; omega) (by omega) h10 (by rw [show ((k + 1 : Nat) : Int) + 1 = (k : Int) + 1 + 1 by omega, e10, up_at]) (fun x hx => by rw [e10, up_row hx]; exact of4 x hx) (fun σ' hE of' => ks σ' ⟨r, r0, r1, hc, hsm, ?_⟩ of') (fun σ' hE hi' of' => ?_)
        · rw [show ((k + 1 : Nat) : Int) + 1 = (k : Int) + 1 + 1 by omega] at this
          exact this
        · rw [EB, fw']
          exact hE
        · rw [show ((k + 1 : Nat) : Int) = (k : Int) + 1 by omega]
          have key : EBw n rye wheat (l + 1) f k w ↔ EBw n rye wheat (l + 1) f k r := by
            constructor
            · rintro ⟨v, a, b, c, e, g⟩
              rcases Int.lt_trichotomy v r with q | q | q
              · exact absurd ⟨c, e⟩ (no v a q)
              · subst q
                rw [EB, fw'] at g
                exact absurd g hE
              · exact ⟨v, q, b, c, e, g⟩
            · rintro ⟨v, a, b, c, e, g⟩; exact ⟨v, by omega, b, c, e, g⟩
          refine ihN r σ' (by omega) (by omega) (by omega) (fun i i0 i1 => ?_) ?_ of' (fun σ2 h2 => ks σ2 (key.mpr h2)) (fun σ2 h2 => kf σ2 (fun q => h2 (key.mp q)))
          · rw [hi' i i0 (by omega), wr_ne (by omega)]
          · rw [hi' ((k : Int) + 1) (by omega) (by omega), wr_at]
      · refine ⟨rng (by omega) (by omega), rng (by omega) (by omega), fun z => absurd z (by omega), fun _ => ?_⟩
        rw [show (k : Int) + 1 + -1 = k by omega]
        refine kf σ4 (fun ⟨v, a, b, c, e, _⟩ => no v a b ⟨c, e⟩) (fun i i0 i1 => ?_) of4
        rw [e4, up_ne (Or.inr (by omega))]; exact hs i i0 i1
theorem m_areBoth {d : Nat} {Q : Int → jM → Prop} {σ : jM} {r w further : Nat} (hr : r ≤ 9) (hw : w ≤ 9) (h2 : 2 ≤ r + w) (hf : 1 ≤ further ∧ further < 18) (k1 : ∀ σ', cbB r w further = true → (∀ x, x ≠ 331 → σ' x = σ x) → Q 1 σ') (k0 : ∀ σ', cbB r w further = false → (∀ x, x ≠ 331 → σ' x = σ x) → Q 0 σ') : Ct mX12_areBoth (d + 3) 0 t [rv 321, iv (r : Int), iv (w : Int), iv (further : Int)] σ Q := by
  refine c_X12_areBoth ⟨by omega, fun σ2 e2 => ⟨by omega, fun σ4 e4 => ⟨by omega, fun σ6 e6 => ?_⟩⟩⟩
  have o6 : ∀ x, x ≠ 331 → σ6 x = σ x := fun x hx => by rw [e6, up_row hx, e4, up_row hx, e2, up_row hx]
  have en : ((10 * (r + w) + r : Nat) : Int) = 10 * ((r : Int) + (w : Int)) + (r : Int) := by omega
  obtain ⟨l, hl⟩ : ∃ l, further = l + 1 := ⟨further - 1, by omega⟩
  subst hl
  have f20 : f2 ((1 : Nat) : Int) = 11 := rfl
  have := m_areBoths (t := t) (d := d) (Q := Q) (σ0 := σ) (m := l + 2) (p3 := ((l + 1 : Nat) : Int)) (n := 10 * ((r : Int) + (w : Int)) + (r : Int)) (rye := (r : Int)) (wheat := (w : Int)) (by omega) (by omega) rfl (by omega) l (k := 1) (f := f2) (by omega) (by omega) (fun i i0 i1 => by unfold f2; split <;> omega) (by rw [f20]; omega) (10 * ((r : Int) + (w : Int)) + (r : Int) - 11).toNat 11 σ6 (by omega) (by rw [f20]; omega) (by omega) (fun i i0 i1 => by
    unfold f2
    by_cases e : i = 0
    · rw [if_pos e, e, e6, up_ne (by decide), e4, up_ne (by decide), e2, up_at]
    · have : i = 1 := by omega
      subst this
      rw [if_neg e, e6, up_ne (by decide), e4, up_at]) (by rw [show ((1 : Nat) : Int) + 1 = 2 by omega, e6, up_at]) o6 (fun σ' hE o' => k1 σ' (cbB_iff.mpr (by rw [en, EB, f20]; exact hE)) o') (fun σ' hE _ o' => b_X12_areBoth_42 ⟨⟨by decide, by decide⟩, fun _ => k0 σ' (by
      cases e : cbB r w (l + 1) with
      | false => rfl
      | true =>
        have := cbB_iff.mp e
        rw [en, EB, f20] at this
        exact absurd this hE) o', fun z => absurd z (by decide)⟩)
  rw [show ((l + 2 : Nat) : Int) = ((l + 1 : Nat) : Int) + 1 by omega] at this
  exact this
theorem m_boths {d : Nat} {Q : Int → jM → Prop} {σ : jM} {r w R : Nat} (hr : r ≤ 9) (hw : w ≤ 9) (h2 : 2 ≤ r + w) (hR : 1 ≤ R ∧ R < 18) (h1 : cbB r w R = true) (h0 : ∀ j, 1 ≤ j → j < R → cbB r w j = false) (k : ∀ σ', (∀ x, x ≠ 331 → σ' x = σ x) → Q R σ') : Ct mX12_both (d + 4) 0 t [rv 321, iv (r : Int), iv (w : Int)] σ Q := by
  refine c_X12_both (m_isIn (rng (by omega) (by omega)) in0 ⟨by decide, by decide⟩ ⟨b01_R, fun u => (by have := inB_f (b01_0.mp u); omega), fun _ => m_isIn (rng (by omega) (by omega)) in0 ⟨by decide, by decide⟩ ⟨b01_R, fun u => (by have := inB_f (b01_0.mp u); omega), fun _ => ⟨rng (by omega) (by omega), fun _ => ⟨rng (by omega) (by omega), fun _ => ?_, fun z => absurd z (by omega)⟩, fun z => absurd z (by omega)⟩⟩⟩)
  have loop : ∀ (c f : Nat) (τ : jM), 1 ≤ f → f + c = R → (∀ x, x ≠ 331 → τ x = σ x) → Jt mX12_both (d + 4) 0 t Q 39 [rv 321, iv (r : Int), iv (w : Int), iv (f : Int)] [] τ := by
    intro c
    induction c with
    | zero =>
      intro f τ f1' hf ot
      have e : f = R := by omega
      subst e
      refine b_X12_both_39 (m_areBoth (d := d) hr hw h2 (by omega) (fun σ' _ o' => ⟨⟨by decide, by decide⟩, fun _ => k σ' (fun x hx => by rw [o' x hx]; exact ot x hx), fun q => absurd q (by decide)⟩) (fun σ' e _ => ?_))
      rw [h1] at e; cases e
    | succ c ih =>
      intro f τ f1' hf ot
      refine b_X12_both_39 (m_areBoth (d := d) hr hw h2 (by omega) (fun σ' e _ => ?_) (fun σ' _ o' => ⟨in0, fun q => absurd rfl q, fun _ => ?_⟩))
      · rw [h0 f f1' (by omega)] at e; cases e
      · have := ih (f + 1) σ' (by omega) (by omega) (fun x hx => by rw [o' x hx]; exact ot x hx)
        rw [show ((f + 1 : Nat) : Int) = (f : Int) + 1 by omega] at this
        exact this
  exact loop (R - 1) 1 σ (by omega) (by omega) (fun _ _ => rfl)
theorem anyN_f {p : Nat → Bool} {c v : Nat} (h : anyN p c v = false) : ∀ x, v ≤ x → x < v + c → p x = false := fun x a b => by
  cases e : p x with
  | false => rfl
  | true => rw [(anyN_iff c v).mpr ⟨x, a, b, e⟩] at h; cases h
theorem a_both {a b : Int} {σ : jM} (d : Nat) (I : I0 L σ) (hK : K1 σ) (hR : KR σ) (ha : inR a) (hb : inR b) {Q : Int → jM → Prop} (k : ∀ r σ1, inR r → (∀ (d2 : Nat) Q2, (∀ r' σ2, SameN L σ r r' σ2 → Q2 r' σ2) → Ct mX12_both (d2 + 11) 0 t [rv 321, iv a, iv b] σ1 Q2) → Q r σ1) : Ct mX11_both (d + 40) 0 t [rv 1, iv a, iv b] σ Q := by
  have bad : (a < 0 ∨ 9 < a ∨ b < 0 ∨ 9 < b ∨ a + b = 0) → Q (-1) σ := fun hbad => k _ σ ⟨by decide, by decide⟩ (fun d2 Q2 k2 => by
    have fin := k2 (-1) σ (SameN_of I hK offC_rf hR offR_rf)
    refine c_X12_both (m_isIn ha in0 ⟨by decide, by decide⟩ ⟨b01_R, fun _ => fin, fun z => m_isIn hb in0 ⟨by decide, by decide⟩ ⟨b01_R, fun _ => fin, fun y => ?_⟩⟩)
    have z1 := inB_t (b01_1 z)
    have y1 := inB_t (b01_1 y)
    exact ⟨rng (by omega) (by omega), fun w => absurd (by omega) w, fun _ => fin⟩)
  refine c_X11_both ⟨ha, fun z => bad (by omega), fun a0 => ⟨ha, fun z => bad (by omega), fun a9 => ⟨hb, fun z => bad (by omega), fun b0 => ⟨hb, fun z => bad (by omega), fun b9 => ⟨rng (by omega) (by omega), fun ne => ⟨ha, ?_⟩, fun z => bad (by omega)⟩⟩⟩⟩⟩
  obtain ⟨r, er⟩ : ∃ r : Nat, a = (r : Int) := ⟨a.toNat, by omega⟩
  obtain ⟨w, ew⟩ : ∃ w : Nat, b = (w : Int) := ⟨b.toNat, by omega⟩
  subst er
  subst ew
  have jle := bothJ_le ⟨r, by omega⟩ ⟨w, by omega⟩
  simp only at jle
  -- one of them alone
  have one : (r = 0 ∨ w = 0) → Ct mX0_joiningsOf (d + 39) 0 t [rv 275, iv ((r : Int) + (w : Int))] σ (fun r7 σ7 => Q r7 σ7) := fun h0 => by
    refine q_jn (d := d + 10) ⟨by omega, by omega⟩ hK (fun g σ1 hL hrw K1' o1 => k _ σ1 (by have := hrw.1; exact rng (by omega) (by omega)) (fun d2 Q2 k2 => ?_))
    obtain ⟨pg, og⟩ := Lst_Pre (by omega) hL
    by_cases h1 : r + w = 1
    · have e0 : fw ((r : Int) + (w : Int)) = 0 := by
        have hx := Lst_chB (n := (r : Int) + (w : Int)) (by omega) hL (j := 0) ⟨f1, Pre_f1, by show (1 : Int) = _; omega⟩
        omega
      refine c_X12_both (m_isIn ha in0 ⟨by decide, by decide⟩ ⟨b01_R, fun u => (by have := inB_f (b01_0.mp u); omega), fun _ => m_isIn hb in0 ⟨by decide, by decide⟩ ⟨b01_R, fun u => (by have := inB_f (b01_0.mp u); omega), fun _ => ⟨rng (by omega) (by omega), fun _ => ⟨rng (by omega) (by omega), fun z => absurd (show (r : Int) + (w : Int) = 1 by omega) z, fun _ => ?_⟩, fun z => absurd z (by omega)⟩⟩⟩)
      have := k2 _ σ1 (SameN_of I K1' o1 (KR_same hR (o1 332 (by omega))) offR_rf)
      rw [e0] at this
      exact this
    · have tb := both_tab0 ⟨r, by omega⟩ ⟨w, by omega⟩ (by show 2 ≤ r + w; omega) h0
      simp only [Bool.and_eq_true, Bool.not_eq_true'] at tb
      obtain ⟨t1, t2, t3, t4⟩ := tb
      have j1 := bothJ_1 ⟨r, by omega⟩ ⟨w, by omega⟩ (by show 2 ≤ r + w; omega)
      simp only at j1
      have e : fw ((r : Int) + (w : Int)) = bothJ r w := by
        have hx := chB_iff.mp t1
        rw [show ((r + w : Nat) : Int) = (r : Int) + (w : Int) by omega] at hx
        have le := Lst_chB (by omega) hL hx
        rcases Nat.lt_or_eq_of_le le with q | q
        · have := anyN_f t2 (fw ((r : Int) + (w : Int))) (by omega) (by omega)
          have hc : chB (r + w) (fw ((r : Int) + (w : Int))) = true := chB_iff.mpr ⟨g, pg, by rw [show ((r + w : Nat) : Int) = (r : Int) + (w : Int) by omega]; exact og.1⟩
          rw [hc] at this; cases this
        · exact q
      rw [e] at k2
      refine m_boths (d := d2 + 7) (by omega) (by omega) (by omega) (by omega) t3 (fun j j0 j1' => anyN_f t4 j j0 (by omega)) (fun σ2 o2 => k2 _ _ (SameN_of I K1' o1 (KR_same hR (by rw [o2 332 (by decide), o1 332 (by omega)])) (fun x h1 _ => o2 x h1)))
  refine ⟨fun z => one (by omega), fun z => ⟨hb, fun y => ?_, fun y => one (by omega)⟩⟩
  refine q_both (d := d + 11) (by omega) (by omega) hK (fun J g σ1 hL hJ K1' o1 => k _ σ1 (rng (by omega) (by omega)) (fun d2 Q2 k2 => ?_))
  have tb := both_tab ⟨r, by omega⟩ ⟨w, by omega⟩ (by show 1 ≤ r; omega) (by show 1 ≤ w; omega)
  simp only [Bool.and_eq_true, Bool.not_eq_true'] at tb
  obtain ⟨t1, t2, t3, t4⟩ := tb
  obtain ⟨pg, og⟩ := Lst_Pre (by omega) hL
  have eP : P2 (r : Int) (w : Int) = P2 ((min r w : Nat) : Int) ((max r w : Nat) : Int) := by
    funext x
    unfold P2
    rcases Nat.le_total r w with q | q
    · rw [Nat.min_eq_left q, Nat.max_eq_right q]
    · rw [Nat.min_eq_right q, Nat.max_eq_left q, Bool.or_comm]
  have eM : max (r : Int) (w : Int) = ((max r w : Nat) : Int) := by omega
  have e : J = bothJ r w := by
    obtain ⟨g', p', ok'⟩ := (chM_ok (by omega)).mp t1
    rw [eP, eM] at hL og
    rcases Nat.lt_trichotomy J (bothJ r w) with q | q | q
    · have := anyN_f t2 J (by omega) (by omega)
      rw [(chM_ok (by omega)).mpr ⟨g, pg, og⟩] at this; cases this
    · exact q
    · exact (Lst_min (by omega) hL q p' ok').elim
  subst e
  rw [show ((bothJ r w : Nat) : Int) + 1 = ((bothJ r w + 1 : Nat) : Int) by omega] at k2
  exact m_boths (d := d2 + 7) (by omega) (by omega) (by omega) (by omega) t3 (fun j j0 j1' => anyN_f t4 j j0 (by omega)) (fun σ2 o2 => k2 _ _ (SameN_of I K1' o1 (KR_same hR (by rw [o2 332 (by decide), o1 332 (by omega)])) (fun x h1 _ => o2 x h1)))
end BO
