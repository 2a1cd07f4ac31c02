/-! ===== the reference's settle ===== -/
def hdR : List Int → Int
  | [] => -1
  | x :: _ => rkA x
theorem pilA_in {σ : jM} : ∀ {P : List Int}, pilA σ P → ∀ x ∈ P, 0 ≤ x ∧ x ≤ 43
  | [], _, _, h => absurd h List.not_mem_nil
  | y :: P, hp, x, h => by
    rcases List.mem_cons.mp h with e | e
    · rw [e]; exact hp.2.1
    · exact pilA_in hp.2.2 x e
section MS
variable {t : Int} {Q : Int → jM → Prop} {b lst : Int}
theorem m_settleJ {d : Nat} {P0 : List Int} (b0 : 0 ≤ b ∧ b ≤ 2043) (h0 : hdR P0 < lst) (l0 : 0 ≤ lst ∧ lst ≤ 7) : ∀ (E : List Int) (σ : jM) (w o : Int), (∀ x ∈ E, lst ≤ rkA x) → pilA σ (E ++ P0) → (E ++ P0).length ≤ 160 → σ 321 12 = b → σ 321 13 = w → σ 321 16 = ((E ++ P0).length : Int) → σ 321 17 = o → (0 ≤ w ∧ w + (E.length : Int) ≤ 304) → (∀ σ', σ' 321 16 = (P0.length : Int) → σ' 321 13 = w + (E.length : Int) → σ' 321 17 = o - opC E → (∀ j, j ≠ 13 → j ≠ 16 → j ≠ 17 → σ' 321 j = σ 321 j) → (∀ x, x ≠ 321 → x ≠ 324 → σ' x = σ x) → (∀ i, (i < b + 73 + 2 * w ∨ b + 73 + 2 * (w + (E.length : Int)) ≤ i) → σ' 324 i = σ 324 i) → (∀ (k : Bool) (a : Int) (f : DT), PM k (mfA σ b) (mgA σ b) a w E f → GX k (mfA σ' b) (mgA σ' b) a (w + (E.length : Int)) f) → Q 0 σ') → Jt mX12_settle (d + 1) 9 t Q 0 [rv 321, iv lst] [] σ := by
  intro E
  induction E with
  | nil =>
    intro σ w o hE hp hl e12 e13 e16 e17 hw k
    have fin : Q 0 σ := by
      refine k σ e16 (by rw [e13]; simp) (by rw [e17, opC]; omega) (fun _ _ _ _ => rfl) (fun _ _ _ => rfl) (fun _ _ => rfl) (fun k' a f h => ?_)
      have e : w + (([] : List Int).length : Int) = w := by simp
      rw [e]
      exact h
    refine b_X12_settle_0 ?_
    rw [e16]
    have hl' : P0.length ≤ 160 := hl
    have e0 : ((([] : List Int) ++ P0).length : Int) = (P0.length : Int) := by simp
    refine ⟨rng (by omega) (by omega), fun _ => fin, fun z => ?_⟩
    cases P0 with
    | nil => exact absurd z (by simp)
    | cons x P =>
      have e : ((([] : List Int) ++ x :: P).length : Int) - 1 = (P.length : Int) := by simp
      rw [e]
      have hl2 : P.length + 1 ≤ 160 := hl'
      have hp' : pilA σ (x :: P) := hp
      rw [hp'.1]
      have ri := rkA_in (o := x)
      have h0' : rkA x < lst := h0
      exact ⟨by omega, m_rank hp'.2.1 ⟨rng (by omega) (by omega), rng (by omega) (by omega), fun _ => fin, fun y => absurd y (by omega)⟩⟩
  | cons x E ih =>
    intro σ w o hE hp hl e12 e13 e16 e17 hw k
    have hp' : pilA σ (x :: (E ++ P0)) := hp
    have hl' : (E ++ P0).length + 1 ≤ 160 := hl
    have e : (((x :: E) ++ P0).length : Int) - 1 = ((E ++ P0).length : Int) := by simp
    have eE : ((x :: E).length : Int) = (E.length : Int) + 1 := by simp
    rw [eE] at hw k
    have hx := hE x List.mem_cons_self
    have ri := rkA_in (o := x)
    have e16' : σ 321 16 = ((E ++ P0).length : Int) + 1 := by rw [e16]; omega
    refine b_X12_settle_0 ?_
    rw [e16', show ((E ++ P0).length : Int) + 1 - 1 = ((E ++ P0).length : Int) by omega, hp'.1]
    refine ⟨rng (by omega) (by omega), fun z => absurd z (by omega), fun _ => ⟨by omega, m_rank hp'.2.1 ⟨rng (by omega) (by omega), rng (by omega) (by omega), fun y => absurd y (by omega), fun _ => fun σ5 e5 => ?_⟩⟩⟩
    have a16 : σ5 321 16 = ((E ++ P0).length : Int) := by rw [e5, up_at]; omega
    have a326 : σ5 326 = σ 326 := by rw [e5, up_row (by omega)]
    have a12 : σ5 321 12 = b := by rw [e5, up_ne (Or.inr (by omega))]; exact e12
    have a13 : σ5 321 13 = w := by rw [e5, up_ne (Or.inr (by omega))]; exact e13
    rw [a16, a326, hp'.1]
    refine ⟨by omega, m_emit a12 a13 b0 (by omega) (fun σ6 f1 f2 f3 f4 f5 f6 => ?_)⟩
    have b16 : σ6 321 16 = ((E ++ P0).length : Int) := by rw [f2 16 (by omega)]; exact a16
    have b326 : σ6 326 = σ 326 := by rw [f3 326 (by omega) (by omega)]; exact a326
    have b17 : σ6 321 17 = o := by rw [f2 17 (by omega), e5, up_ne (Or.inr (by omega))]; exact e17
    have b12 : σ6 321 12 = b := by rw [f2 12 (by omega)]; exact a12
    have j6 : ∀ j, j ≠ 13 → j ≠ 16 → σ6 321 j = σ 321 j := fun j h1 h2 => by rw [f2 j h1, e5, up_ne (Or.inr h2)]
    have r6 : ∀ y, y ≠ 321 → y ≠ 324 → σ6 y = σ y := fun y h1 h2 => by rw [f3 y h1 h2, e5, up_row h1]
    have c6 : ∀ i, i ≠ b + 73 + 2 * w → i ≠ b + 73 + 2 * w + 1 → σ6 324 i = σ 324 i := fun i h1 h2 => by rw [f4 i h1 h2, e5, up_row (by omega)]
    rw [b16, b326, hp'.1]
    refine ⟨by omega, m_rank hp'.2.1 ?_⟩
    have go : ∀ (o' : Int) (τ : jM), o' = o - (if rkA x = 7 ∨ x = 20 then 1 else 0) → (∀ y, y ≠ 321 → τ y = σ6 y) → (∀ j, j ≠ 17 → τ 321 j = σ6 321 j) → τ 321 17 = o' → Jt mX12_settle (d + 1) 9 t Q 0 [rv 321, iv lst] [] τ := by
      intro o' τ eo t1 t2 t3
      refine ih τ (w + 1) o' (fun y hy => hE y (List.mem_cons_of_mem _ hy)) ?_ (by omega) ?_ ?_ ?_ t3 (by omega) (fun σ' g1 g2 g3 g4 g5 g6 g7 => ?_)
      · exact pilA_same _ hp'.2.2 (fun i _ _ => by rw [t1 326 (by omega), b326])
      · rw [t2 12 (by omega)]; exact b12
      · rw [t2 13 (by omega)]; exact f1
      · rw [t2 16 (by omega)]; exact b16
      · refine k σ' g1 (by rw [g2]; omega) (by rw [g3, opC, eo]; omega) (fun j h1 h2 h3 => by rw [g4 j h1 h2 h3, t2 j h3, j6 j h1 h2]) (fun y h1 h2 => by rw [g5 y h1 h2, t1 y h1, r6 y h1 h2]) (fun i hi => by rw [g6 i (by omega), t1 324 (by omega), c6 i (by omega) (by omega)]) (fun k' a f h => ?_)
        rw [show w + ((E.length : Int) + 1) = w + 1 + (E.length : Int) by omega]
        refine g7 k' a f (h (mfA τ b) (mgA τ b) (fun i i0 i1 => ?_) (fun i i0 i1 => ?_) ?_)
        · unfold mfA; rw [t1 324 (by omega), c6 _ (by omega) (by omega)]
        · unfold mgA; rw [t1 324 (by omega), c6 _ (by omega) (by omega)]
        · have := f5
          unfold mfA at this ⊢
          rw [t1 324 (by omega)]; exact this
    refine ⟨rng (by omega) (by omega), fun z => fun σ9 e9 => ?_, fun z => ?_⟩
    · refine go (o - 1) σ9 (by rw [if_pos (Or.inl z)]) (fun y h => by rw [e9, up_row h]) (fun j h => by rw [e9, up_ne (Or.inr h)]) (by rw [e9, up_at, b17])
    · rw [b16, b326, hp'.1]
      have hx2 := hp'.2.1
      refine ⟨by omega, rng (by omega) (by omega), fun y => go o σ6 (by rw [if_neg (by omega)]; omega) (fun _ _ => rfl) (fun _ _ => rfl) b17, fun y => fun σ9 e9 => ?_⟩
      exact go (o - 1) σ9 (by rw [if_pos (Or.inr y)]) (fun y h => by rw [e9, up_row h]) (fun j h => by rw [e9, up_ne (Or.inr h)]) (by rw [e9, up_at, b17])
end MS
