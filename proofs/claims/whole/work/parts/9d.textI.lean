/-! ===== a new text in the invariant ===== -/
theorem LawC_of {σ : jM} {t c l : Int} {X : Option DT} (hc : c ≤ 300) (h : lwC σ t c l X) : LawC σ t l X := by
  cases X with
  | none => exact h
  | some f =>
    obtain ⟨⟨a1, a2, a3⟩, g⟩ := h
    refine ⟨⟨a1, by omega, by omega, by omega⟩, fun r c v hc => ?_⟩
    obtain ⟨l1, r1⟩ := g _ (fun _ _ _ => rfl) _ (Int.le_refl _) r c v hc
    exact ⟨l1, r1 [] (by simp)⟩
theorem LawM_of {σ : jM} {k w m l : Int} {S F G : Int → Int} {X : Option DT} (hw : w ≤ 304) (cl : clM σ (681 * k) m S F G) (h : lwM σ (681 * k) w m S l X) : LawM (σ 324) k l X := by
  obtain ⟨c1, c2⟩ := cl
  cases X with
  | none =>
    intro j j0 j1
    rw [c1] at j1
    rw [(c2 j j0 j1).1]
    exact h j j0 j1
  | some f =>
    obtain ⟨j, h1, h2, h3, h4, g⟩ := h
    refine ⟨j, h1.1, by rw [c1]; exact h1.2, by rw [(c2 j h1.1 h1.2).1]; exact h2, fun i i0 i1 => by rw [(c2 i i0 (by omega)).1]; exact h3 i i0 i1, by omega, fun r c v hc => ?_⟩
    obtain ⟨l1, r1⟩ := g _ _ (fun _ _ _ => rfl) (fun _ _ _ => rfl) _ (Int.le_refl _) r c v hc
    exact ⟨l1, r1 [] [] (by simp; omega) (by simp; omega)⟩
theorem CL1_of {σ : jM} {t k m : Int} {S F G : Int → Int} {D : LD} (po : PO m S F G D) (cc : clC σ t m S F G) (cm : clM σ (681 * k) m S F G) : CL1 σ t k := by
  obtain ⟨c1, c2⟩ := cm
  refine ⟨by rw [cc.1, c1], fun j j0 j1 => ?_⟩
  rw [c1] at j1
  obtain ⟨a1, a2, a3⟩ := cc.2 j j0 j1
  obtain ⟨b1, b2, b3⟩ := c2 j j0 j1
  obtain ⟨o1, o2, o3⟩ := po.2.1 j j0 j1
  rw [b1]
  refine ⟨a1, fun z => by rw [a2 z, b2 z], fun z => ⟨by rw [a3 z, b3 z], ?_⟩, fun z => ?_⟩
  · rw [b3 z]; exact o3 z
  · rw [b2 z]; exact o2 z
theorem mruns_congr {r : Int → Int} {c : Int} {mf mg mf' mg' : Int → Int} {to : Int} (h : ∀ i, 0 ≤ i → i < to → (mf' i = mf i ∧ mg' i = mg i)) : ∀ (n : Nat) {i j : Int} {s u s' u' : List Int}, mruns r c mf mg to n i s u j s' u' → mruns r c mf' mg' to n i s u j s' u'
  | 0, _, _, _, _, _, _, g => g
  | n + 1, i, j, s, u, s', u', g => by
    obtain ⟨z1, y1, st, h2⟩ := g
    refine ⟨z1, y1, ?_, mruns_congr h n h2⟩
    have e := h i st.1 st.2.1
    unfold mstep at st ⊢
    rw [e.1, e.2]
    exact st
theorem LawM_same {X X' : Int → Int} {k l : Int} {D : Option DT} (hm : X (681 * k) ≤ 24) (e : ∀ i, 681 * k ≤ i → i < 681 * k + 681 → X' i = X i) (h : LawM X k l D) : LawM X' k l D := by
  have e0 := e (681 * k) (by omega) (by omega)
  cases D with
  | none =>
    intro j j0 j1
    rw [e0] at j1
    rw [e _ (by omega) (by omega)]
    exact h j j0 j1
  | some f =>
    obtain ⟨j, h1, h2, h3, h4, h5, g⟩ := h
    have e1 := e (681 * k + 1 + 3 * j + 1) (by omega) (by omega)
    have e2 := e (681 * k + 1 + 3 * j + 2) (by omega) (by omega)
    refine ⟨j, h1, by rw [e0]; exact h2, by rw [e _ (by omega) (by omega)]; exact h3, fun i i0 i1 => by rw [e _ (by omega) (by omega)]; exact h4 i i0 i1, by rw [e1, e2]; exact h5, fun r c v hc => ?_⟩
    obtain ⟨l1, n, g1⟩ := g r c v hc
    rw [e1, e2]
    exact ⟨l1, n, mruns_congr (fun i i0 i1 => ⟨e (681 * k + 73 + 2 * i) (by omega) (by omega), e (681 * k + 73 + 2 * i + 1) (by omega) (by omega)⟩) n g1⟩
theorem CL1_same {σ σ' : jM} {a k : Int} (hm : σ 324 (681 * k) ≤ 24) (ea : ∀ y, a ≤ y → y ≤ a + 6 → σ' y = σ y) (e : ∀ i, 681 * k ≤ i → i < 681 * k + 681 → σ' 324 i = σ 324 i) (h : CL1 σ a k) : CL1 σ' a k := by
  have e0 := e (681 * k) (by omega) (by omega)
  obtain ⟨h1, h2⟩ := h
  refine ⟨by rw [ea a (by omega) (by omega), e0]; exact h1, fun j j0 j1 => ?_⟩
  rw [e0] at j1
  rw [ea (a + 1) (by omega) (by omega), ea (a + 2) (by omega) (by omega), ea (a + 3) (by omega) (by omega), e (681 * k + 1 + 3 * j) (by omega) (by omega), e (681 * k + 1 + 3 * j + 1) (by omega) (by omega), e (681 * k + 1 + 3 * j + 2) (by omega) (by omega)]
  exact h2 j j0 j1
section TI
variable {L L' : LT} {σ σ' : jM} {k : Int}
theorem I0_txt (I : I0 L σ) (ek : σ 322 0 = k) (k4 : k < 4) (hL : ∀ j, j ≠ k → L' j = L j)
    (hr : ∀ y, y ≠ 2 → y ≠ 271 → (y < 293 + 7 * k ∨ 293 + 7 * k + 6 < y) → y ≠ 321 → y ≠ 322 → y ≠ 324 → y ≠ 326 → σ' y = σ y)
    (hw : WR σ' 2 (σ' 322)) (hA : AV (σ' 322)) (hn : σ' 322 0 = k ∨ σ' 322 0 = k + 1)
    (h324 : ∀ i, (i < 681 * k ∨ 681 * k + 681 ≤ i) → σ' 324 i = σ 324 i)
    (f1 : σ' 271 1 = 0) (f2 : σ' 321 4 = 0) (f3 : σ' 271 2 = σ' 321 5 ∧ -1 ≤ σ' 321 5 ∧ σ' 321 5 ≤ 6) (f4 : σ' 271 3 = σ' 321 6 ∧ -1 ≤ σ' 321 6 ∧ σ' 321 6 ≤ 300) (f5 : σ' 321 23 = σ 321 23)
    (new : σ' 322 0 = k + 1 → (LawC σ' (293 + 7 * k) 0 (L' k).1 ∧ LawC σ' (293 + 7 * k) 1 (L' k).2) ∧ ((0 ≤ σ' 324 (681 * k) ∧ σ' 324 (681 * k) ≤ 24) ∧ (∀ j, 0 ≤ j → j < σ' 324 (681 * k) → (0 ≤ σ' 324 (681 * k + 1 + 3 * j) ∧ σ' 324 (681 * k + 1 + 3 * j) ≤ 6)) ∧ LawM (σ' 324) k 0 (L' k).1 ∧ LawM (σ' 324) k 1 (L' k).2) ∧ (∀ r s c, agr r s → (0 ≤ c ∧ c < 8) → (∀ f, (L' k).1 = some f → f r c = f s c) ∧ (∀ f, (L' k).2 = some f → f r c = f s c)) ∧ CL1 σ' (293 + 7 * k) k) : I0 L' σ' ∧ frK σ σ' := by
  obtain ⟨⟨w1, w2, v1, v2, w3⟩, ⟨t1, t2, t3, t4⟩, g, b⟩ := I
  have k0 : 0 ≤ k := by have := v1.2.2.2.2.2.1.1; omega
  have s323 : σ' 323 = σ 323 := hr 323 (by omega) (by omega) (by omega) (by omega) (by omega) (by omega) (by omega)
  have ex : ∀ j, 0 ≤ j → j < k → ∀ i, 681 * j ≤ i → i < 681 * j + 681 → σ' 324 i = σ 324 i := fun j j0 j1 i i0 i1 => h324 i (by omega)
  have ea : ∀ j, 0 ≤ j → j < k → ∀ y, 293 + 7 * j ≤ y → y ≤ 293 + 7 * j + 6 → σ' y = σ y := fun j j0 j1 y y0 y1 => hr y (by omega) (by omega) (by omega) (by omega) (by omega) (by omega) (by omega)
  rw [ek] at t1 t2 t3 t4
  refine ⟨⟨⟨hw, ?_, hA, by rw [s323]; exact v2, by rw [s323]; omega⟩, ⟨fun j j0 j1 => ?_, fun j j0 j1 => ?_, fun j j0 j1 => ?_, fun j j0 j1 => ?_⟩, ⟨by rw [f1, f2], by rw [f2]; omega, fun i i0 i1 => absurd i1 (by rw [f2]; omega), f3, f4⟩, by rw [f5]; exact b⟩, fun y hy => hr y (by omega) (by omega) (by omega) (by omega) (by omega) (by omega) (by omega)⟩
  · rw [s323]; exact WR_same w2 (fun y y0 y1 => hr y (by omega) (by omega) (by omega) (by omega) (by omega) (by omega) (by omega))
  · by_cases e : j = k
    · rw [e]; exact (new (by omega)).1
    · rw [hL j e]
      have o := t1 j j0 (by omega)
      exact ⟨LawC_same (ea j j0 (by omega)) o.1, LawC_same (ea j j0 (by omega)) o.2⟩
  · by_cases e : j = k
    · rw [e]; exact (new (by omega)).2.1
    · rw [hL j e]
      obtain ⟨o1, o2, o3, o4⟩ := t2 j j0 (by omega)
      have e0 := ex j j0 (by omega)
      refine ⟨by rw [e0 _ (by omega) (by omega)]; exact o1, fun i i0 i1 => ?_, LawM_same o1.2 e0 o3, LawM_same o1.2 e0 o4⟩
      rw [e0 _ (by omega) (by omega)] at i1
      rw [e0 _ (by omega) (by omega)]
      exact o2 i i0 i1
  · by_cases e : j = k
    · rw [e]; exact (new (by omega)).2.2.1
    · rw [hL j e]; exact t3 j j0 (by omega)
  · by_cases e : j = k
    · rw [e]; exact (new (by omega)).2.2.2
    · exact CL1_same (t2 j j0 (by omega)).1.2 (ea j j0 (by omega)) (ex j j0 (by omega)) (t4 j j0 (by omega))
theorem WR_txt {v : Int} (q : WR σ 2 (σ 322)) (va : AV (σ 322)) (hr : ∀ y, 3 ≤ y → y ≤ 133 → σ' y = σ y) (h2 : ∀ j, j ≠ 6 → σ' 2 j = σ 2 j) (h6 : σ' 2 6 = v) (hv : σ 322 0 ≤ v ∧ v ≤ 4) (e322 : σ' 322 = wr (σ 322) 0 v) : WR σ' 2 (σ' 322) ∧ AV (σ' 322) := by
  rw [e322]
  have eq : ∀ i, i ≠ 0 → wr (σ 322) 0 v i = σ 322 i := fun i hi => wr_ne hi
  obtain ⟨a1, a2, a3, a4, a5, a6, a7⟩ := q
  constructor
  · refine WR_rest ⟨a1, a2, a3, a4, a5, a6, a7⟩ va (fun x x0 x1 => hr x (by omega) (by omega)) (fun i hi => (eq i (by omega)).symm) ?_ ?_ ?_ ?_ ?_
    · rw [hr 129 (by omega) (by omega), hr 130 (by omega) (by omega), eq 4 (by decide)]
      exact ⟨a3.1, fun i i0 i1 => by rw [eq _ (by omega)]; exact a3.2 i i0 i1⟩
    · rw [h2 8 (by decide), hr 131 (by omega) (by omega), eq 3 (by decide)]
      exact ⟨a4.1, fun i i0 i1 => by rw [eq _ (by omega)]; exact a4.2 i i0 i1⟩
    · rw [h2 9 (by decide), hr 132 (by omega) (by omega), hr 133 (by omega) (by omega), eq 5 (by decide)]
      exact ⟨a5.1, fun i i0 i1 => by rw [eq _ (by omega), eq _ (by omega)]; exact a5.2 i i0 i1⟩
    · rw [h6, wr_at]
    · rw [h2 7 (by decide), eq 1 (by decide)]; exact a7
  · have va0 := va
    obtain ⟨b1, b2, b3, b4, b5, b6, b7⟩ := va
    refine AV_rest va0 (fun i hi => (eq i (by omega)).symm) ?_ ?_ ?_ ?_ ?_
    · rw [eq 4 (by decide), eq 30 (by decide)]
      exact ⟨b3.1, b3.2.1, b3.2.2.1, fun i i0 i1 => by rw [eq _ (by omega)]; exact b3.2.2.2 i i0 i1⟩
    · rw [eq 3 (by decide)]
      exact ⟨b4.1, b4.2.1, fun i i0 i1 => by rw [eq _ (by omega)]; exact b4.2.2 i i0 i1⟩
    · rw [eq 5 (by decide)]
      exact ⟨b5.1, b5.2.1, fun i i0 i1 => by rw [eq _ (by omega), eq _ (by omega)]; exact b5.2.2 i i0 i1⟩
    · rw [wr_at]; omega
    · rw [eq 1 (by decide), wr_at]; omega
end TI
