/-! ===== the class's valueOf runs a law's code ===== -/
def okV (σ τ : jM) (r : Int → Int) : Prop := (∀ x, x ≠ 273 → x ≠ 274 → τ x = σ x) ∧ (τ 273 1 = -1 ∨ τ 273 1 = cntR r)
section VS
variable {d : Nat} {t : Int} {Q : Int → jM → Prop} {σ : jM} {h : Int} {r : Int → Int} {a l c en : Int}
abbrev Jv (d : Nat) (t : Int) (Q : Int → jM → Prop) (a l h c en : Int) (held at' : Int) (τ : jM) : Prop := Jt mX2_valueOf (d + 1 + 1) 0 t Q 34 [rv 273, rv a, iv l, rv h, iv c, iv en, iv held, iv at', uv, uv] [] τ
theorem v_step (h0 : ob (GG t) h 1) (ha : ob (GG t) a 8) (ha2 : 293 ≤ a) (hh : h ≤ 266) (q : HR σ h r) (v : RV r) (hc : 0 ≤ c ∧ c < 8) (hen : en ≤ 300) {τ : jM} {i i' : Int} {s s' : List Int} (ot : okV σ τ r) (hs : stk τ s) (hl : s.length ≤ 64) (st : cstep r c (σ (a + 4)) en i s i' s') (k : ∀ τ', okV σ τ' r → stk τ' s' → s'.length ≤ 64 → Jv d t Q a l h c en (s'.length : Int) i' τ') : Jv d t Q a l h c en (s.length : Int) i τ := by
  obtain ⟨i0, ie, op, x, ecf, o0, o25, x0, xm, cases5⟩ := st
  have tc : τ (a + 4) i = 32 * x + op := by rw [ot.1 (a + 4) (by omega) (by omega)]; exact ecf
  obtain ⟨b1, b2⟩ := bit_op (op := op) (x := x) (by omega) (by omega)
  have qt : HR τ h r := HR_same q (fun y g1 g2 => ot.1 y (by omega) (by omega))
  have oR : inR op := rng (by omega) (by omega)
  refine b_X2_valueOf_34 h0 ⟨rng (by omega) (by omega), rng (by omega) (by omega), fun z => absurd z (by omega), fun _ => ?_⟩
  rw [tc, b1, b2]
  refine ⟨ha, by omega, ha, by omega, oR, fun z8 => ?_, fun z8 => ?_⟩
  · refine ⟨oR, fun n8 => ?_, fun e8 => ?_⟩
    · -- a popping step
      rcases cases5 with p | p | p | p | p
      · exact absurd p.1 (by omega)
      · exact absurd p.1 n8
      · obtain ⟨p1, y, s0, p2, p3, p4⟩ := p
        subst p2
        have sl : (((y :: s0).length : Nat) : Int) = (s0.length : Int) + 1 := by simp
        have hl : s0.length + 1 ≤ 64 := hl
        rw [sl] at *
        refine ⟨rng (by omega) (by omega), fun w => absurd w (by omega), fun _ => ⟨oR, fun _ => ?_, fun w => absurd w (by omega)⟩⟩
        refine b_X2_valueOf_154 h0 ⟨oR, fun w => absurd p1 w, fun _ => ?_⟩
        rw [show (s0.length : Int) + 1 + -1 = (s0.length : Int) by omega, hs.1]
        refine ⟨by omega, LV_R hs.2.1, fun w => ?_, fun w => ⟨rng (by omega) (by omega), rng (by omega) (by omega), ?_⟩⟩
        · refine b_X2_valueOf_188 h0 (b_X2_valueOf_260 h0 ?_)
          have kk := k τ ot (by rw [p3]; exact hs.2.2) (by rw [p3]; omega)
          rw [p3, p4, if_neg w] at kk
          exact kk
        · refine b_X2_valueOf_188 h0 (b_X2_valueOf_260 h0 ?_)
          have kk := k τ ot (by rw [p3]; exact hs.2.2) (by rw [p3]; omega)
          rw [p3, p4, if_pos w] at kk
          exact kk
      · obtain ⟨p1, p13, y, s0, p2, pb, p3, p4⟩ := p
        subst p2
        have sl : (((y :: s0).length : Nat) : Int) = (s0.length : Int) + 1 := by simp
        have hl : s0.length + 1 ≤ 64 := hl
        rw [sl] at *
        refine ⟨rng (by omega) (by omega), fun w => absurd w (by omega), fun _ => ⟨oR, fun _ => ?_, fun w => absurd w (by omega)⟩⟩
        refine b_X2_valueOf_154 h0 ⟨oR, fun _ => ⟨oR, fun w => absurd w (by omega), fun _ => ?_⟩, fun w => absurd w (by omega)⟩
        rw [show (s0.length : Int) + 1 - 1 = (s0.length : Int) by omega, hs.1]
        refine ⟨by omega, h_ofOne h0 qt v ⟨p1, p13⟩ hs.2.1 ⟨by omega, fun σ8 e8 => b_X2_valueOf_260 h0 ?_⟩⟩
        have kk := k σ8 ⟨fun w w1 w2 => by rw [e8, up_row w2]; exact ot.1 w w1 w2, by rw [e8, up_ne (Or.inl (by decide))]; exact ot.2⟩ (by rw [p3]; exact ⟨by rw [e8, up_at], cop1_LV v hs.2.1 pb ⟨p1, p13⟩, by rw [e8]; exact stk_up s0 hs.2.2 (by omega)⟩) (by rw [p3]; exact hl)
        rw [p3, p4, show (((cop1 r op y :: s0).length : Nat) : Int) = (s0.length : Int) + 1 by simp] at kk
        exact kk
      · obtain ⟨p1, y, u, s0, p2, pb, p3, p4⟩ := p
        subst p2
        have sl : (((y :: u :: s0).length : Nat) : Int) = (s0.length : Int) + 1 + 1 := by simp
        have hl : s0.length + 1 + 1 ≤ 64 := hl
        rw [sl] at *
        have h1 : τ 274 ((s0.length : Int) + 1) = y := by
          have := hs.1
          rw [show (((u :: s0).length : Nat) : Int) = (s0.length : Int) + 1 by simp] at this
          exact this
        refine ⟨rng (by omega) (by omega), fun w => absurd w (by omega), fun _ => ⟨oR, fun w => absurd w (by omega), fun _ => ⟨rng (by omega) (by omega), fun _ => ?_, fun w => absurd w (by omega)⟩⟩⟩
        refine b_X2_valueOf_154 h0 ⟨oR, fun _ => ⟨oR, fun _ => ?_, fun w => absurd w (by omega)⟩, fun w => absurd w (by omega)⟩
        rw [show (s0.length : Int) + 1 + 1 + -1 = (s0.length : Int) + 1 by omega, show (s0.length : Int) + 1 - 1 = (s0.length : Int) by omega, h1, hs.2.2.1]
        refine ⟨by omega, by omega, h_ofTwo ⟨p1, o25⟩ hs.2.2.2.1 hs.2.1 pb ⟨by omega, fun σ8 e8 => b_X2_valueOf_260 h0 ?_⟩⟩
        have kk := k σ8 ⟨fun w w1 w2 => by rw [e8, up_row w2]; exact ot.1 w w1 w2, by rw [e8, up_ne (Or.inl (by decide))]; exact ot.2⟩ (by rw [p3]; exact ⟨by rw [e8, up_at], cop2_LV hs.2.2.2.1 hs.2.1 pb, by rw [e8]; exact stk_up s0 hs.2.2.2.2 (by omega)⟩) (by rw [p3]; show s0.length + 1 ≤ 64; omega)
        rw [p3, p4, show (((cop2 op u y :: s0).length : Nat) : Int) = (s0.length : Int) + 1 by simp] at kk
        exact kk
    · rcases cases5 with p | p | p | p | p
      · exact absurd p.1 (by omega)
      · obtain ⟨p1, p2, p3⟩ := p
        refine ⟨rng (by omega) (by omega), rng (by omega) (by omega), b_X2_valueOf_260 h0 ?_⟩
        have kk := k τ ot (by rw [p3]; exact hs) (by rw [p3]; exact hl)
        rw [p3, p2] at kk
        exact kk
      · exact absurd p.1 (by omega)
      · exact absurd p.1 (by omega)
      · exact absurd p.1 (by omega)
  · rcases cases5 with p | p | p | p | p
    · obtain ⟨p1, p2, p3, p4⟩ := p
      have push : ∀ (τ2 : jM) (y : Int), okV σ τ2 r → stk τ2 s → LV y → y = (if op = 0 then x else nmV r c op) → Jt mX2_valueOf (d + 1 + 1) 0 t Q 105 [rv 273, rv a, iv l, rv h, iv c, iv en, iv (s.length : Int), iv i, iv op, iv x] [iv y, iv (s.length : Int), rv 274] τ2 := by
        intro τ2 y o2 s2 ly ey
        refine b_X2_valueOf_105 h0 ⟨by omega, fun σ2 e2 => b_X2_valueOf_260 h0 ?_⟩
        have kk := k σ2 ⟨fun w w1 w2 => by rw [e2, up_row w2]; exact o2.1 w w1 w2, by rw [e2, up_ne (Or.inl (by decide))]; exact o2.2⟩ (by rw [p4, ← ey]; exact ⟨by rw [e2, up_at], ly, by rw [e2]; exact stk_up s s2 (by omega)⟩) (by rw [p4]; show s.length + 1 ≤ 64; omega)
        rw [p4, p3, show ((((if op = 0 then x else nmV r c op) :: s).length : Nat) : Int) = (s.length : Int) + 1 by simp] at kk
        exact kk
      refine ⟨rng (by omega) (by omega), fun _ => ⟨oR, fun w => ?_, fun w => ?_⟩, fun w => absurd w (by omega)⟩
      · refine h_named h0 qt v (by omega) hc (by omega) ot.2 (fun σ15 e15 f15 => ?_)
        refine push σ15 (nmV r c op) ⟨fun y w1 w2 => by rw [e15 y w1]; exact ot.1 y w1 w2, f15⟩ (stk_same (e15 274 (by decide)) s hs) (nmV_LV v hc) (by rw [if_neg w])
      · exact push τ x ot hs ⟨by omega, by omega⟩ (by rw [if_pos w])
    · exact absurd p.1 (by omega)
    · exact absurd p.1 (by omega)
    · exact absurd p.1 (by omega)
    · exact absurd p.1 (by omega)
theorem v_runs (h0 : ob (GG t) h 1) (ha : ob (GG t) a 8) (ha2 : 293 ≤ a) (hh : h ≤ 266) (q : HR σ h r) (v : RV r) (hc : 0 ≤ c ∧ c < 8) (hen : en ≤ 300) : ∀ (n : Nat) {τ : jM} {i j : Int} {s s' : List Int}, okV σ τ r → stk τ s → s.length ≤ 64 → cruns r c (σ (a + 4)) en n i s j s' → (∀ τ', okV σ τ' r → stk τ' s' → s'.length ≤ 64 → Jv d t Q a l h c en (s'.length : Int) j τ') → Jv d t Q a l h c en (s.length : Int) i τ
  | 0, τ, i, j, s, s', ot, hs, hl, hr, k => by
    obtain ⟨rfl, rfl⟩ := hr
    exact k τ ot hs hl
  | n + 1, τ, i, j, s, s', ot, hs, hl, hr, k => by
    obtain ⟨i1, s1, st, hr1⟩ := hr
    exact v_step h0 ha ha2 hh q v hc hen ot hs hl st (fun τ' o' s' l' => v_runs h0 ha ha2 hh q v hc hen n o' s' l' hr1 k)
theorem h_valueOf {n : Nat} {w : Int} (h0 : ob (GG t) h 1) (ha : ob (GG t) a 8) (ha2 : 293 ≤ a) (hh : h ≤ 266) (q : HR σ h r) (v : RV r) (hc : 0 ≤ c ∧ c < 8) (hl : l = 0 ∨ l = 1) (hb : 0 ≤ σ (a + 5) l ∧ σ (a + 5) l ≤ 300 ∧ 0 ≤ σ (a + 6) l ∧ σ (a + 6) l ≤ 300) (hr : cruns r c (σ (a + 4)) (σ (a + 6) l) n (σ (a + 5) l) [] (σ (a + 6) l) [w]) (k : ∀ σ', (∀ x, x ≠ 273 → x ≠ 274 → σ' x = σ x) → Q w σ') : Ct mX2_valueOf (d + 1 + 1) 0 t [rv 273, rv a, iv l, rv h, iv c] σ Q := by
  refine c_X2_valueOf h0 ⟨ha, by omega, rng (by omega) (by omega), fun σ3 e3 => ⟨ha, by omega, ?_⟩⟩
  have s3 : σ3 (a + 5) l = σ (a + 5) l := by rw [e3, up_ne (by omega)]
  rw [s3, show min (σ (a + 6) l) 300 = σ (a + 6) l by omega, show max (σ (a + 5) l) 0 = σ (a + 5) l by omega]
  refine ⟨rng (by omega) (by omega), ?_⟩
  refine v_runs (σ := σ) (r := r) h0 ha ha2 hh q v hc hb.2.2.2 n (s := []) (s' := [w]) ⟨fun x x1 x2 => by rw [e3, up_row x1], Or.inl (by rw [e3, up_at])⟩ trivial (by decide) hr (fun τ o' s' _ => ?_)
  have e : τ 274 0 = w := s'.1
  show Jv d t Q a l h c (σ (a + 6) l) 1 (σ (a + 6) l) τ
  refine b_X2_valueOf_34 h0 ⟨rng (by omega) (by omega), rng (by omega) (by omega), fun _ => ⟨⟨by decide, by decide⟩, fun z => absurd z (by decide), fun _ => ⟨by decide, ?_⟩⟩, fun z => absurd z (by omega)⟩
  rw [show (1 : Int) - 1 = 0 from rfl, e]
  exact k τ o'.1
end VS
