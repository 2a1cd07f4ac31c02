/-! ===== parts of the reference; halves and parts alike ===== -/
section HQ
variable {d : Nat} {t : Int} {L : LT} {σ : jM} {Q : Int → jM → Prop}
theorem m_parts {n : Int} (hn : inR n) (kb : (n < 1 ∨ 1000000 < n) → Q (-1) σ) (kg : 1 ≤ n → n ≤ 1000000 → ∀ σ', (∀ x, x ≠ 333 → σ' x = σ x) → Q (pp n) σ') : Ct mX12_parts (d + 1) 0 t [rv 321, iv n] σ Q := by
  refine c_X12_parts (m_isIn hn ⟨by decide, by decide⟩ ⟨by decide, by decide⟩ ⟨b01_R, fun z => ⟨by decide, fun σ4 e4 => ?_⟩, fun z => kb (by have := inB_f (b01_0.mp z); omega)⟩)
  have hin := inB_t (b01_1 z)
  have proc : ∀ (N : Nat) (v h acc : Int) (kk : Nat) (τ : jM), v ≤ N → 1 ≤ v → v ≤ 1000000 → v < pw2 kk → 0 ≤ h → h + kk + 1 ≤ 63 → τ 333 h = v → (∀ x, x ≠ 333 → τ x = σ x) → (∀ τ', (∀ x, x ≠ 333 → τ' x = σ x) → (∀ i, 0 ≤ i → i < h → τ' 333 i = τ 333 i) → Jt mX12_parts (d + 1) 0 t Q 24 [rv 321, iv n, iv (acc + pp v), iv h, uv, uv] [] τ') → Jt mX12_parts (d + 1) 0 t Q 24 [rv 321, iv n, iv acc, iv (h + 1), uv, uv] [] τ := by
    intro N
    induction N with
    | zero => intro v h acc kk τ h1 h2; omega
    | succ N ih =>
      intro v h acc kk τ h1 h2 h3 h4 h5 h6 hv ot k
      refine b_X12_parts_24 ⟨rng (by omega) (by omega), fun x => absurd x (by omega), fun _ => ⟨by omega, ?_⟩⟩
      rw [show h + 1 + -1 = h by omega, hv]
      refine ⟨rng (by omega) (by omega), fun x => ?_, fun x => ?_⟩
      · rcases lp_in (v := v) (by omega) with e | ⟨a1, a2, a3, a4, a5, a6, a7, a8⟩
        · rw [pp_p (by omega) e] at k
          refine m_leastPrime (by omega) ?_
          rw [e]
          refine ⟨rng (by omega) (by omega), rng (by omega) (by omega), fun u => absurd rfl u, fun _ => ⟨by omega, fun σ7 e7 => ⟨rng (by omega) (by omega), rng (by omega) (by omega), fun u => absurd rfl u, fun _ => ?_⟩⟩⟩
          refine ih (v - 1) h (acc + 1) kk σ7 (by omega) (by omega) (by omega) (by omega) h5 h6 (by rw [e7, up_at]) (fun y hy => by rw [e7, up_row hy]; exact ot y hy) (fun τ' o' b' => ?_)
          rw [show acc + 1 + pp (v - 1) = acc + (1 + pp (v - 1)) by omega]
          exact k τ' o' (fun i i0 i1 => by rw [b' i i0 i1, e7, up_ne (Or.inr (by omega))])
        · rw [pp_c (by omega) (by omega)] at k
          obtain ⟨k2, hk2⟩ : ∃ k2, kk = k2 + 1 := by
            cases kk with
            | zero => have : v < 1 := h4; omega
            | succ k2 => exact ⟨k2, rfl⟩
          subst hk2
          have h4' : v < 2 * pw2 k2 := h4
          refine m_leastPrime (by omega) ⟨rng (by omega) (by omega), rng (by omega) (by omega), fun _ => ⟨by omega, fun σ7 e7 => ⟨rng (by omega) (by omega), rng (by omega) (by omega), fun _ => ⟨rng (by omega) (by omega), rng (by omega) (by omega), by omega, by omega, fun σ14 e14 => ?_⟩, fun u => absurd u (by omega)⟩⟩, fun u => absurd u (by omega)⟩
          rw [td (by omega)] at e14
          refine ih (v / lp v) (h + 1) acc k2 σ14 (by omega) (by omega) (by omega) (by omega) (by omega) (by omega) (by rw [e14, up_at]) (fun y hy => by rw [e14, up_row hy, e7, up_row hy]; exact ot y hy) (fun τ' o' b' => ?_)
          refine ih (lp v) h (acc + pp (v / lp v)) (k2 + 1) τ' (by omega) (by omega) (by omega) (by omega) h5 h6 (by rw [b' h h5 (by omega), e14, up_ne (Or.inr (by omega)), e7, up_at]) o' (fun τ2 o2 b2 => ?_)
          rw [show acc + pp (v / lp v) + pp (lp v) = acc + (pp (lp v) + pp (v / lp v)) by omega]
          exact k τ2 o2 (fun i i0 i1 => by rw [b2 i i0 i1, b' i i0 (by omega), e14, up_ne (Or.inr (by omega)), e7, up_ne (Or.inr (by omega))])
      · have := k τ ot (fun _ _ _ => rfl)
        rw [pp_1 (by omega), Int.add_zero] at this
        exact this
  have e1 : (0 : Int) + 1 = 1 := by omega
  have := proc 1000000 n 0 0 20 σ4 (by omega) hin.1 hin.2 (by show n < 1048576; omega) (by omega) (by omega) (by rw [e4, up_at]) (fun x hx => by rw [e4, up_row hx]) (fun τ' o' _ => ?_)
  · rw [e1] at this
    exact this
  · rw [Int.zero_add]
    exact b_X12_parts_24 ⟨in0, fun _ => kg hin.1 hin.2 τ' o', fun x => absurd x (by decide)⟩
theorem a_halves {n : Int} (d : Nat) (I : I0 L σ) (hn : inR n) {Q : Int → jM → Prop} (k : ∀ r σ1, (∀ (d2 : Nat) Q2, (∀ r' σ2, Same L σ r r' σ2 → Q2 r' σ2) → Ct mX12_halves (d2 + 11) 0 t [rv 321, iv n] σ1 Q2) → Q r σ1) : Ct mX11_halves (d + 11) 0 t [rv 1, iv n] σ Q := by
  have hv := hvF_in 20 n
  refine h_halves hn (fun z => k _ σ (fun d2 Q2 k2 => m_halves (d := d2 + 10) hn (fun _ => same0 I ⟨by decide, by decide⟩ k2) (fun a b => by omega))) (fun a b => k _ σ (fun d2 Q2 k2 => m_halves (d := d2 + 10) hn (fun z => by omega) (fun _ _ => same0 I (rng (by omega) (by omega)) k2)))
theorem I0_scr {σ2 : jM} {c : Int} (I : I0 L σ) (hc : 326 ≤ c ∧ c ≤ 340 ∧ c ≠ 332 ∧ c ≠ 338) (e : ∀ x, x ≠ c → σ2 x = σ x) : I0 L σ2 ∧ frK σ σ2 :=
  I0_step I I.1.1 I.1.2.2.1 rfl offN_rf (e 322 (by omega)) ⟨fun x _ _ h3 => e x (by omega), fun j _ => by rw [e 321 (by omega)]⟩
theorem a_parts {n : Int} (d : Nat) (I : I0 L σ) (hn : inR n) {Q : Int → jM → Prop} (k : ∀ r σ1, (∀ (d2 : Nat) Q2, (∀ r' σ2, Same L σ r r' σ2 → Q2 r' σ2) → Ct mX12_parts (d2 + 11) 0 t [rv 321, iv n] σ1 Q2) → Q r σ1) : Ct mX11_parts (d + 11) 0 t [rv 1, iv n] σ Q := by
  have bad : (n < 1 ∨ 1000000 < n) → Q (-1) σ := fun z => k _ σ (fun d2 Q2 k2 => m_parts (d := d2 + 10) hn (fun _ => same0 I ⟨by decide, by decide⟩ k2) (fun a b => by omega))
  have pi := pp_in (v := n)
  refine c_X11_parts ⟨hn, fun z => bad (Or.inl z), fun z => ⟨hn, fun y => ?_, fun y => bad (Or.inr y)⟩⟩
  refine Ct_le (h_byParts 4 (d := d) z y (by show n < 4294967296; omega) (by omega) (by omega) (k _ σ (fun d2 Q2 k2 => m_parts (d := d2 + 10) hn (fun u => by omega) (fun _ _ σ' o' => k2 _ _ ⟨rfl, rng (by omega) (by omega), I0_scr (c := 333) I (by omega) o'⟩)))) (by omega)
end HQ
