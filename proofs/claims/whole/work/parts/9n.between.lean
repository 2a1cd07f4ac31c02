/-! ===== the law: what holds between calls ===== -/
abbrev mL : jT := (x, code, 4, ret)
def PL : jV → jG → jM → Prop := fun r _ _ => r = iv 1
def IVL (L : LT) (σ : jM) : Prop := I0 L σ ∧ K1 σ ∧ KR σ ∧ KS σ ∧ KP σ
theorem KR_row {σ σ' : jM} (h : KR σ) (e : σ' 332 = σ 332) : KR σ' := fun n n0 n1 => by rw [e]; exact h n n0 n1
theorem KS_row {σ σ' : jM} (h : KS σ) (e : σ' 288 = σ 288) : KS σ' := fun n c n0 n1 c0 c1 => by rw [e]; exact h n c n0 n1 c0 c1
theorem KP_row {σ σ' : jM} (h : KP σ) (e : ∀ x, (x = 291 ∨ x = 338) → σ' x = σ x) : KP σ' := fun n n0 n1 => by rw [e 291 (Or.inl rfl), e 338 (Or.inr rfl)]; exact h n n0 n1
theorem iv_frK {L L' : LT} {σ σ' : jM} (v : IVL L σ) (I : I0 L' σ') (f : frK σ σ') : IVL L' σ' := ⟨I, K1_same v.2.1 (fun x x0 x1 => f x (by omega)), KR_row v.2.2.1 (f 332 (by omega)), KS_row v.2.2.2.1 (f 288 (by omega)), KP_row v.2.2.2.2 (fun x hx => f x (by omega))⟩
theorem iv_same {L : LT} {σ σ' : jM} {r r' : Int} (v : IVL L σ) (h : Same L σ r r' σ') : IVL L σ' := iv_frK v h.2.2.1 h.2.2.2
theorem iv_sameN {L : LT} {σ σ' : jM} {r r' : Int} (v : IVL L σ) (h : SameN L σ r r' σ') : IVL L σ' := ⟨h.2.1, h.2.2.1, h.2.2.2.1, KS_row v.2.2.2.1 (h.2.2.2.2 288 (by omega)), KP_row v.2.2.2.2 (fun x hx => h.2.2.2.2 x (by omega))⟩
theorem iv_sameT {L : LT} {σ σ' : jM} {r r' : Int} (v : IVL L σ) (h : SameT L σ r r' σ') : IVL L σ' := ⟨h.2.1, h.2.2.1, h.2.2.2.1, KS_row v.2.2.2.1 (h.2.2.2.2 288 (by omega)), KP_row v.2.2.2.2 (fun x hx => h.2.2.2.2 x (by omega))⟩
theorem iv_text {L : LT} {σ σ' : jM} (v : IVL L σ) (h : ∃ L', I0 L' σ') (f : frK σ σ') : ∃ L', IVL L' σ' := h.elim (fun L' I => ⟨L', iv_frK v I f⟩)
theorem lw_1404 {Sc : Nat × (Nat → Int32)} {t i : Int} {σ : jM} (k : JS Sc mL 401 0 340 PL 18 [(3, 0), rv 1, rv 321, iv (i + 6)] [] (GG t) σ) : JS Sc mL 401 0 340 PL 1404 [(3, 0), rv 1, rv 321, iv i] [] (GG t) σ := by
  refine y_iinc (i := 3) (n := 6) (x := i) rfl (show decode code 1404 = .ok (.iinc 3 6, 3) by decide +kernel) ?_
  refine y_goto (tgt := 18) (show decode code 1407 = .ok (.goto (-1389), 3) by decide +kernel) (by decide) ?_
  exact k
