/-! ===== the reference reads a clause ===== -/
theorem onc_vals {D : LD} : (D 0 = none ∧ D 1 = none ∧ oncV D = 0) ∨ ((∃ f, D 0 = some f) ∧ D 1 = none ∧ oncV D = 1) ∨ (D 0 = none ∧ (∃ f, D 1 = some f) ∧ oncV D = 2) ∨ ((∃ f, D 0 = some f) ∧ (∃ f, D 1 = some f) ∧ oncV D = 3) := by
  cases h0 : D 0 with
  | none =>
    cases h1 : D 1 with
    | none => exact Or.inl ⟨rfl, rfl, by unfold oncV; rw [h0, h1]; rfl⟩
    | some g => exact Or.inr (Or.inr (Or.inl ⟨rfl, ⟨g, rfl⟩, by unfold oncV; rw [h0, h1]; rfl⟩))
  | some f =>
    cases h1 : D 1 with
    | none => exact Or.inr (Or.inl ⟨⟨f, rfl⟩, rfl, by unfold oncV; rw [h0, h1]; rfl⟩)
    | some g => exact Or.inr (Or.inr (Or.inr ⟨⟨f, rfl⟩, ⟨g, rfl⟩, by unfold oncV; rw [h0, h1]; rfl⟩))
theorem onc_no {D : LD} {l : Int} (hl : l = 0 ∨ l = 1) (h : D l = none) : ¬ i_and (i_shr (oncV D) l) 1 = 1 := by
  rcases onc_vals (D := D) with ⟨a, c, e⟩ | ⟨⟨f, a⟩, c, e⟩ | ⟨a, ⟨g, c⟩, e⟩ | ⟨⟨f, a⟩, ⟨g, c⟩, e⟩ <;> rcases hl with rfl | rfl <;> rw [e] <;> first | decide +kernel | (rw [a] at h; cases h) | (rw [c] at h; cases h)
theorem onc_yes {D : LD} {l : Int} (hl : l = 0 ∨ l = 1) (h : D l ≠ none) : i_and (i_shr (oncV D) l) 1 = 1 := by
  rcases onc_vals (D := D) with ⟨a, c, e⟩ | ⟨⟨f, a⟩, c, e⟩ | ⟨a, ⟨g, c⟩, e⟩ | ⟨⟨f, a⟩, ⟨g, c⟩, e⟩ <;> rcases hl with rfl | rfl <;> rw [e] <;> first | decide +kernel | exact absurd a h | exact absurd c h
theorem onc_up {D : LD} {l : Int} (f : DT) (hl : l = 0 ∨ l = 1) (h : D l = none) : i_or (oncV D) (i_shl 1 l) = oncV (upD D l f) := by
  have n0 : ∀ E : LD, E 0 = none → E 1 = none → oncV E = 0 := fun E x y => by unfold oncV; rw [x, y]; rfl
  have n1 : ∀ (E : LD) (f : DT), E 0 = some f → E 1 = none → oncV E = 1 := fun E f x y => by unfold oncV; rw [x, y]; rfl
  have n2 : ∀ (E : LD) (g : DT), E 0 = none → E 1 = some g → oncV E = 2 := fun E g x y => by unfold oncV; rw [x, y]; rfl
  have n3 : ∀ (E : LD) (f g : DT), E 0 = some f → E 1 = some g → oncV E = 3 := fun E f g x y => by unfold oncV; rw [x, y]; rfl
  rcases hl with rfl | rfl
  · have u0 : upD D 0 f 0 = some f := rfl
    have u1 : upD D 0 f 1 = D 1 := rfl
    cases h1 : D 1 with
    | none => rw [n0 D h h1, n1 _ f u0 (u1.trans h1)]; decide +kernel
    | some g => rw [n2 D g h h1, n3 _ f g u0 (u1.trans h1)]; decide +kernel
  · have u0 : upD D 1 f 0 = D 0 := rfl
    have u1 : upD D 1 f 1 = some f := rfl
    cases h0 : D 0 with
    | none => rw [n0 D h0 h, n2 _ f (u0.trans h0) u1]; decide +kernel
    | some g => rw [n1 D g h0 h, n3 _ g f (u0.trans h0) u1]; decide +kernel
def tailF (d : Nat) (t : Int) (Q : Int → jM → Prop) (r5 : Int) (σ5 : jM) : Prop := ((inR r5) ∧ ((r5 = 0 → (((0 : Int) ≤ (σ5 321 12) ∧ (σ5 321 12) < 2724) ∧ (((0 : Int) ≤ (σ5 321 12) ∧ (σ5 321 12) < 2724) ∧ (∀ σ8 : jM, σ8 = up σ5 324 (σ5 321 12) ((σ5 324 (σ5 321 12)) + 1) → ((inR (σ8 321 9)) ∧ (((σ8 321 9) = 59 → (Ct mX12_nextToken d 9 t [rv 321] σ8 (fun r10 σ10 => (Q 0 σ10)))) ∧ (¬ (σ8 321 9) = 59 → (Q 1 σ8)))))))) ∧ (¬ r5 = 0 → (Q r5 σ5))))
theorem tailF_no {d : Nat} {t : Int} {Q : Int → jM → Prop} {r : Int} {σ : jM} (h0 : r ≠ 0) (hr : inR r) (h : Q r σ) : tailF d t Q r σ := ⟨hr, fun z => absurd z h0, fun _ => h⟩
/-- a fault found by the reference -/
def bdM (b : Int) (Q : Int → jM → Prop) (σ : jM) (kind pl : Int) : Prop := ∀ σ', FrR b σ σ' → σ' 321 8 = pl → Q kind σ'
section QB
variable {t : Int} {Q : Int → jM → Prop} {σ : jM} {T : Int → Int} {n b p m l : Int} {S F G : Int → Int} {D : LD}
theorem rc_pre {d : Nat} {s : Int} (tp : TP T n) (rt : RT σ T n p) (p0 : 0 ≤ p ∧ p ≤ n) (e12 : σ 321 12 = b ∧ 0 ≤ b ∧ b ≤ 2043) (m0 : 0 ≤ m ∧ m < 24) (k : ∀ σ4, RT σ4 T n (nxT T n p) → (∀ j, (j < 7 ∨ (11 < j ∧ j ≠ 14)) → σ4 321 j = σ 321 j) → σ4 321 14 = s → (∀ y, y ≠ 321 → y ≠ 324 → σ4 y = σ y) → (∀ i, i ≠ b + 1 + 3 * m → σ4 324 i = σ 324 i) → σ4 324 (b + 1 + 3 * m) = s → Ct mX12_body (d + 10) 0 t [rv 321, iv s, iv (b + 1 + 3 * m)] σ4 (tailF (d + 10) t Q)) : Jt mX12_clause (d + 11) 0 t Q 65 [rv 321, iv s, iv m, uv, uv] [] σ := by
  refine b_X12_clause_65 (fun σ1 e1 => m_next (σ := σ) tp rt p0 (fun j hj => by rw [e1, up_ne (Or.inr (by omega))]) (by rw [e1, up_row (by omega)]) (fun σ2 rt2 ot => ?_))
  have a12 : σ2 321 12 = b := by rw [ot.2 12 (by omega), e1, up_ne (Or.inr (by omega))]; exact e12.1
  rw [a12]
  refine ⟨by omega, fun σ4 e4 => ?_⟩
  refine k σ4 (RT_off rt2 (fun j _ => by rw [e4, up_row (by omega)]) (by rw [e4, up_row (by omega)])) (fun j hj => ?_) ?_ (fun y h1 h2 => ?_) (fun i hi => ?_) ?_
  · rw [e4, up_row (by omega), ot.2 j (by omega), e1, up_ne (Or.inr (by omega))]
  · rw [e4, up_row (by omega), ot.2 14 (by omega), e1, up_at]
  · rw [e4, up_row h2, ot.1 y h1, e1, up_row h1]
  · rw [e4, up_ne (Or.inr hi), ot.1 324 (by omega), e1, up_row (by omega)]
  · rw [e4, up_at]
theorem rc_tail {d : Nat} {q : Int} (tp : TP T n) (rt : RT σ T n q) (q0 : 0 ≤ q ∧ q ≤ n) (e12 : σ 321 12 = b ∧ 0 ≤ b ∧ b ≤ 2043) (em : σ 324 b = m) (good : kT T n q = 59 → ∀ σ', RT σ' T n (nxT T n q) → (∀ j, (j < 7 ∨ 11 < j) → σ' 321 j = σ 321 j) → (∀ y, y ≠ 321 → y ≠ 324 → σ' y = σ y) → (∀ i, i ≠ b → σ' 324 i = σ 324 i) → σ' 324 b = m + 1 → Q 0 σ') (bad : kT T n q ≠ 59 → ∀ σ', (∀ y, y ≠ 324 → σ' y = σ y) → (∀ i, i ≠ b → σ' 324 i = σ 324 i) → Q 1 σ') : tailF (d + 1) t Q 0 σ := by
  have a := (RT_tk rt).1
  have r9 := RT_9 rt
  unfold TK at a
  refine ⟨inl (by decide), fun _ => ?_, fun z => absurd rfl z⟩
  rw [e12.1, em]
  refine ⟨by omega, by omega, fun σ8 e8 => ?_⟩
  have a9 : σ8 321 9 = σ 321 9 := by rw [e8, up_row (by omega)]
  rw [a9]
  refine ⟨rng (by omega) (by omega), fun z => ?_, fun z => bad (by omega) σ8 (fun y h => by rw [e8, up_row h]) (fun i hi => by rw [e8, up_ne (Or.inr hi)])⟩
  refine m_next (σ := σ) tp rt q0 (fun j _ => by rw [e8, up_row (by omega)]) (by rw [e8, up_row (by omega)]) (fun σ' rt' ot => good (by omega) σ' rt' (fun j hj => ?_) (fun y h1 h2 => ?_) (fun i hi => ?_) ?_)
  · rw [ot.2 j hj, e8, up_row (by omega)]
  · rw [ot.1 y h1, e8, up_row h2]
  · rw [ot.1 324 (by omega), e8, up_ne (Or.inr hi)]
  · rw [ot.1 324 (by omega), e8, up_at]
theorem rc_ord {d : Nat} {k0 s lo hi : Int} (tp : TP T n) (ri : RI T n b σ p m S F G D) (m0 : 0 ≤ m ∧ m < 24) (oc : ordC k0 s lo hi)
    (good : kT T n (nxT T n p) = 1 → lo ≤ nmT T n (nxT T n p) → nmT T n (nxT T n p) ≤ hi → kT T n (nxT T n (nxT T n p)) = 59 → ∀ σ', RI T n b σ' (nxT T n (nxT T n (nxT T n p))) (m + 1) (wr S m s) (wr F m (nmT T n (nxT T n p))) (wr G m 0) D → FrR b σ σ' → Q 0 σ')
    (bad1 : kT T n (nxT T n p) ≠ 1 → bdM b Q σ 1 (plT T n (nxT T n p))) (bad2 : kT T n (nxT T n p) = 1 → (nmT T n (nxT T n p) < lo ∨ hi < nmT T n (nxT T n p)) → bdM b Q σ 2 (plT T n (nxT T n p))) (bad3 : kT T n (nxT T n p) = 1 → lo ≤ nmT T n (nxT T n p) → nmT T n (nxT T n p) ≤ hi → kT T n (nxT T n (nxT T n p)) ≠ 59 → bdM b Q σ 1 (plT T n (nxT T n (nxT T n p)))) : Jt mX12_clause (d + 11) 0 t Q 65 [rv 321, iv s, iv m, uv, uv] [] σ := by
  have oc2 := oc
  unfold ordC at oc2
  have r1 := ri.1
  have r2 := ri.2.1
  have r3 := ri.2.2.1
  have r4 := ri.2.2.2.1
  have a1 := (nx_in tp r2).1
  have p1 : 0 ≤ nxT T n p ∧ nxT T n p ≤ n := by omega
  have a2 := (nx_in tp p1).1
  have p2 : 0 ≤ nxT T n (nxT T n p) ∧ nxT T n (nxT T n p) ≤ n := by omega
  have a3 := (nx_in tp p2).1
  refine rc_pre tp r1 r2 r3 m0 (fun σ4 rt4 j4 f4 y4 i4 x4 => ?_)
  have fr4 : FrR b σ σ4 := ⟨fun x h1 h2 _ => y4 x h1 h2, fun j hj => j4 j (by omega), fun i hi => i4 i (by omega)⟩
  have fig : Ct mX12_figure (d + 9) 0 t [rv 321, iv (b + 1 + 3 * m + 1), iv lo, iv hi] σ4 (tailF (d + 10) t Q) := by
    refine m_figure tp rt4 p1 (by omega) (rng (by omega) (by omega)) (rng (by omega) (by omega)) (fun z z1 z2 σ5 rt5 j5 y5 i5 x5 => ?_) (fun z z1 => tailF_no (by decide) (inl (by decide)) (bad2 z z1 σ4 fr4 rt4.2.2.1)) (fun z => tailF_no (by decide) (inl (by decide)) (bad1 z σ4 fr4 rt4.2.2.1))
    have fr5 : FrR b σ4 σ5 := ⟨fun x h1 h2 _ => y5 x h1 h2, fun j hj => j5 j (by omega), fun i hi => i5 i (by omega)⟩
    refine rc_tail tp rt5 p2 ⟨by rw [j5 12 (by omega), j4 12 (by omega)]; exact r3.1, r3.2⟩ (m := m) (by rw [i5 b (by omega), i4 b (by omega)]; exact ri.2.2.2.2.2.1.1) (fun y σ6 rt6 j6 y6 i6 x6 => ?_) (fun y σ6 y6 i6 => bad3 z z1 z2 y σ6 (FrR_tr (FrR_tr fr4 fr5) ⟨fun x _ h2 _ => y6 x h2, fun j _ => by rw [y6 321 (by omega)], fun i hi => i6 i (by omega)⟩) (by rw [y6 321 (by omega)]; exact rt5.2.2.1))
    have fr6 : FrR b σ5 σ6 := ⟨fun x h1 h2 _ => y6 x h1 h2, fun j hj => j6 j (by omega), fun i hi => i6 i (by omega)⟩
    have jj : ∀ j, 11 < j → j ≠ 14 → σ6 321 j = σ 321 j := fun j h1 h2 => by rw [j6 j (by omega), j5 j (by omega), j4 j (by omega)]
    have ii : ∀ i, i ≠ b → i ≠ b + 1 + 3 * m → i ≠ b + 1 + 3 * m + 1 → σ6 324 i = σ 324 i := fun i h1 h2 h3 => by rw [i6 i h1, i5 i h3, i4 i h2]
    refine good z z1 z2 y σ6 (RI_add (w' := σ 321 13) ri m0 rt6 (by omega) ((jj 12 (by omega) (by omega)).trans r3.1) (jj 13 (by omega) (by omega)) (by omega) ((jj 19 (by omega) (by omega)).trans ri.2.2.2.2.1) x6 (by rw [i6 _ (by omega), i5 _ (by omega)]; exact x4) (fun _ => by rw [i6 _ (by omega)]; exact x5) (fun u => absurd u (by omega)) (fun i h1 h2 => ii i (by omega) (by omega) (by omega)) (fun i h1 h2 => ii i (by omega) (by omega) (by omega)) (fun i hi => Or.inl ⟨by omega, rfl⟩)) (FrR_tr (FrR_tr fr4 fr5) fr6)
  refine c_X12_body ⟨rng (by omega) (by omega), fun z => absurd z (by omega), fun z => absurd z (by omega), fun z => ?_, fun z => ?_, fun z => ?_, fun z => ?_⟩
  · have e : lo = 0 ∧ hi = 7 := by omega
    rw [e.1, e.2] at fig
    exact fig
  · have e : lo = 0 ∧ hi = 7 := by omega
    rw [e.1, e.2] at fig
    exact fig
  · have e : lo = 1 ∧ hi = 60 := by omega
    rw [e.1, e.2] at fig
    exact fig
  · have e : lo = 1 ∧ hi = 120 := by omega
    rw [e.1, e.2] at fig
    exact fig
end QB
