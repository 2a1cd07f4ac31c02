/-! ===== the class's signAt and advance ===== -/
def sg2 (b b2 : Int) : Int := if (b = 60 ∨ b = 62) ∧ b2 = 61 then (if b = 60 then 3 else 4) else if sgC b = true then b else 2
section CB
variable {d : Nat} {t : Int} {Q : Int → jM → Prop} {σ : jM} {T : Int → Int} {n : Int}
theorem s_sign28 {q u : Int} (tp : TP T n) (q0 : 0 ≤ q ∧ q < n) (tc : tapeC σ T n) (u01 : u = 0 ∨ u = 1) (hu : btA T n (q + 1) = 61 ↔ u = 1) (h : Q (sg2 (btA T n q) (btA T n (q + 1))) σ) : Jt mX3_signAt d 0 t Q 28 [rv 271, iv q, uv] [iv u] σ := by
  have t0 := tp.1
  have hb : btA T n q = σ 272 q := by rw [btA_eq q0.2, tc.2 q q0.1 q0.2]
  have bi := btA_in (k := q) tp q0.1
  have ur : inR u := rng (by omega) (by omega)
  rw [hb] at bi
  refine b_X3_signAt_28 ⟨by omega, rng (by omega) (by omega), ?_, ?_, ?_, ?_, ?_, ?_, ?_, ?_, ?_, ?_, ?_, ?_, ?_, ?_, ?_, ?_, ?_, ?_, ?_, ?_, ?_, ?_, ?_, ?_, ?_, ?_, ?_, ?_, ?_⟩
  · intro a
    rw [hb] at h
    rw [show sg2 (σ 272 q) (btA T n (q + 1)) = 2 by
      unfold sg2
      rw [if_neg (by omega), if_neg (fun y => by unfold sgC at y; have := of_decide_eq_true y; omega)]] at h
    exact h
  · intro a
    rw [hb, a] at h
    rw [show sg2 35 (btA T n (q + 1)) = 35 by unfold sg2; rw [if_neg (by omega)]; rfl] at h
    exact ⟨by omega, by rw [a]; exact h⟩
  · intro a
    rw [hb, a] at h
    rw [show sg2 36 (btA T n (q + 1)) = 2 by unfold sg2; rw [if_neg (by omega)]; rfl] at h
    exact h
  · intro a
    rw [hb, a] at h
    rw [show sg2 37 (btA T n (q + 1)) = 2 by unfold sg2; rw [if_neg (by omega)]; rfl] at h
    exact h
  · intro a
    rw [hb, a] at h
    rw [show sg2 38 (btA T n (q + 1)) = 2 by unfold sg2; rw [if_neg (by omega)]; rfl] at h
    exact h
  · intro a
    rw [hb, a] at h
    rw [show sg2 39 (btA T n (q + 1)) = 2 by unfold sg2; rw [if_neg (by omega)]; rfl] at h
    exact h
  · intro a
    rw [hb, a] at h
    rw [show sg2 40 (btA T n (q + 1)) = 40 by unfold sg2; rw [if_neg (by omega)]; rfl] at h
    exact ⟨by omega, by rw [a]; exact h⟩
  · intro a
    rw [hb, a] at h
    rw [show sg2 41 (btA T n (q + 1)) = 41 by unfold sg2; rw [if_neg (by omega)]; rfl] at h
    exact ⟨by omega, by rw [a]; exact h⟩
  · intro a
    rw [hb, a] at h
    rw [show sg2 42 (btA T n (q + 1)) = 42 by unfold sg2; rw [if_neg (by omega)]; rfl] at h
    exact ⟨by omega, by rw [a]; exact h⟩
  · intro a
    rw [hb, a] at h
    rw [show sg2 43 (btA T n (q + 1)) = 43 by unfold sg2; rw [if_neg (by omega)]; rfl] at h
    exact ⟨by omega, by rw [a]; exact h⟩
  · intro a
    rw [hb, a] at h
    rw [show sg2 44 (btA T n (q + 1)) = 2 by unfold sg2; rw [if_neg (by omega)]; rfl] at h
    exact h
  · intro a
    rw [hb, a] at h
    rw [show sg2 45 (btA T n (q + 1)) = 45 by unfold sg2; rw [if_neg (by omega)]; rfl] at h
    exact ⟨by omega, by rw [a]; exact h⟩
  · intro a
    rw [hb, a] at h
    rw [show sg2 46 (btA T n (q + 1)) = 2 by unfold sg2; rw [if_neg (by omega)]; rfl] at h
    exact h
  · intro a
    rw [hb, a] at h
    rw [show sg2 47 (btA T n (q + 1)) = 47 by unfold sg2; rw [if_neg (by omega)]; rfl] at h
    exact ⟨by omega, by rw [a]; exact h⟩
  · intro a
    rw [hb, a] at h
    rw [show sg2 48 (btA T n (q + 1)) = 2 by unfold sg2; rw [if_neg (by omega)]; rfl] at h
    exact h
  · intro a
    rw [hb, a] at h
    rw [show sg2 49 (btA T n (q + 1)) = 2 by unfold sg2; rw [if_neg (by omega)]; rfl] at h
    exact h
  · intro a
    rw [hb, a] at h
    rw [show sg2 50 (btA T n (q + 1)) = 2 by unfold sg2; rw [if_neg (by omega)]; rfl] at h
    exact h
  · intro a
    rw [hb, a] at h
    rw [show sg2 51 (btA T n (q + 1)) = 2 by unfold sg2; rw [if_neg (by omega)]; rfl] at h
    exact h
  · intro a
    rw [hb, a] at h
    rw [show sg2 52 (btA T n (q + 1)) = 2 by unfold sg2; rw [if_neg (by omega)]; rfl] at h
    exact h
  · intro a
    rw [hb, a] at h
    rw [show sg2 53 (btA T n (q + 1)) = 2 by unfold sg2; rw [if_neg (by omega)]; rfl] at h
    exact h
  · intro a
    rw [hb, a] at h
    rw [show sg2 54 (btA T n (q + 1)) = 2 by unfold sg2; rw [if_neg (by omega)]; rfl] at h
    exact h
  · intro a
    rw [hb, a] at h
    rw [show sg2 55 (btA T n (q + 1)) = 2 by unfold sg2; rw [if_neg (by omega)]; rfl] at h
    exact h
  · intro a
    rw [hb, a] at h
    rw [show sg2 56 (btA T n (q + 1)) = 2 by unfold sg2; rw [if_neg (by omega)]; rfl] at h
    exact h
  · intro a
    rw [hb, a] at h
    rw [show sg2 57 (btA T n (q + 1)) = 2 by unfold sg2; rw [if_neg (by omega)]; rfl] at h
    exact h
  · intro a
    rw [hb, a] at h
    rw [show sg2 58 (btA T n (q + 1)) = 2 by unfold sg2; rw [if_neg (by omega)]; rfl] at h
    exact h
  · intro a
    rw [hb, a] at h
    rw [show sg2 59 (btA T n (q + 1)) = 59 by unfold sg2; rw [if_neg (by omega)]; rfl] at h
    exact ⟨by omega, by rw [a]; exact h⟩
  · intro a
    rw [hb, a] at h
    refine ⟨ur, fun z => ?_, fun z => ?_⟩
    · rw [show sg2 60 (btA T n (q + 1)) = 60 by unfold sg2; rw [if_neg (fun y => by have := hu.mp y.2; omega)]; rfl] at h
      exact b_X3_signAt_170 h
    · rw [show sg2 60 (btA T n (q + 1)) = 3 by unfold sg2; rw [if_pos ⟨by omega, by rcases u01 with y | y; exact absurd y z; exact hu.mpr y⟩]; rfl] at h
      exact b_X3_signAt_170 h
  · intro a
    rw [hb, a] at h
    rw [show sg2 61 (btA T n (q + 1)) = 61 by unfold sg2; rw [if_neg (by omega)]; rfl] at h
    exact ⟨by omega, by rw [a]; exact h⟩
  · intro a
    rw [hb, a] at h
    refine ⟨ur, fun z => ?_, fun z => ?_⟩
    · rw [show sg2 62 (btA T n (q + 1)) = 62 by unfold sg2; rw [if_neg (fun y => by have := hu.mp y.2; omega)]; rfl] at h
      exact b_X3_signAt_181 h
    · rw [show sg2 62 (btA T n (q + 1)) = 4 by unfold sg2; rw [if_pos ⟨by omega, by rcases u01 with y | y; exact absurd y z; exact hu.mpr y⟩]; rfl] at h
      exact b_X3_signAt_181 h
theorem s_signAt {q : Int} (tp : TP T n) (q0 : 0 ≤ q ∧ q < n) (tc : tapeC σ T n) (h : Q (sg2 (btA T n q) (btA T n (q + 1))) σ) : Ct mX3_signAt d 0 t [rv 271, iv q] σ Q := by
  have t0 := tp.1
  refine c_X3_signAt ?_
  rw [tc.1]
  refine ⟨rng (by omega) (by omega), rng (by omega) (by omega), fun z => s_sign28 tp q0 tc (Or.inl rfl) ⟨fun y => ?_, fun y => absurd y (by decide)⟩ h, fun z => ?_⟩
  · unfold btA at y
    rw [if_neg (by omega)] at y
    omega
  · have b := tp.2 (q + 1) (by omega) z
    rw [tc.2 _ (by omega) z]
    refine ⟨by omega, rng (by omega) (by omega), fun y => s_sign28 tp q0 tc (Or.inl rfl) ⟨fun w => ?_, fun w => absurd w (by decide)⟩ h, fun y => s_sign28 tp q0 tc (Or.inr rfl) ⟨fun _ => rfl, fun _ => ?_⟩ h⟩
    · rw [btA_eq z] at w
      exact absurd w y
    · rw [btA_eq z]; exact y
theorem s_adv60 {q : Int} (tp : TP T n) (q0 : 0 ≤ q ∧ q ≤ n) (tc : tapeC σ T n) (e7 : σ 271 7 = q) (k : ∀ σ', CQ σ' T n q → offA σ σ' → Q 0 σ') : Jt mX3_advance (d + 3 + 1 + 1) 9 t Q 60 [rv 271] [] σ := by
  have t0 := tp.1
  refine b_X3_advance_60 (fun σ1 e1 => ?_)
  have o1 : offA σ σ1 := by rw [e1]; exact offA_up offA_rf (by omega)
  have tc1 := tapeC_off tc o1
  have a7 : σ1 271 7 = q := by rw [e1, up_ne (Or.inr (by omega))]; exact e7
  have a8 : σ1 271 8 = q + 1 := by rw [e1, up_at, e7]
  rw [a7, tc1.1]
  refine ⟨rng (by omega) (by omega), rng (by omega) (by omega), fun z => ⟨by omega, ?_⟩, fun z => ?_⟩
  · have b := tp.2 q q0.1 z
    have eb := btA_eq (T := T) z
    have bn : ¬ btA T n q < 0 := by omega
    rw [tc1.2 q q0.1 z]
    refine s_isDigit (by omega) ⟨b01_R, fun z1 => ?_, fun z1 => ?_⟩
    · have f1 := b01_0.mp z1
      rw [← eb] at f1
      have f1' : ¬ isDg (btA T n q) = true := by rw [f1]; decide
      rw [a7, tc1.2 q q0.1 z]
      refine ⟨by omega, s_isLetter (by omega) ⟨b01_R, fun z2 => ?_, fun z2 => ?_⟩⟩
      · have f2 := b01_0.mp z2
        rw [← eb] at f2
        have f2' : ¬ isLt (btA T n q) = true := by rw [f2]; decide
        rw [a7]
        refine s_signAt tp ⟨q0.1, z⟩ tc1 (fun σ9 e9 => ?_)
        have o9 : offA σ σ9 := by rw [e9]; exact offA_up o1 (by omega)
        have b6 : σ9 271 6 = sg2 (btA T n q) (btA T n (q + 1)) := by rw [e9, up_at]
        have b7 : σ9 271 7 = q := by rw [e9, up_ne (Or.inr (by omega))]; exact a7
        have kq : kdQ T n q = sg2 (btA T n q) (btA T n (q + 1)) := by
          unfold kdQ sg2
          rw [if_neg bn, if_neg f1', if_neg f2']
        have sr : -1 ≤ sg2 (btA T n q) (btA T n (q + 1)) ∧ sg2 (btA T n q) (btA T n (q + 1)) ≤ 255 := by
          unfold sg2
          split
          · split <;> omega
          · split <;> omega
        have two : (btA T n q = 60 ∨ btA T n q = 62) ∧ btA T n (q + 1) = 61 → Jt mX3_advance (d + 3 + 1 + 1) 9 t Q 178 [rv 271] [rv 271] σ9 := fun w => by
          refine b_X3_advance_178 (b_X3_advance_193 (fun σ' e' => b_X3_advance_196 ?_))
          have o' : offA σ σ' := by rw [e']; exact offA_up o9 (by omega)
          refine k σ' ⟨tapeC_off tc o', ?_, ?_, ?_, ?_⟩ o'
          · rw [e', up_ne (Or.inr (by omega)), b6, kq]
          · rw [e', up_ne (Or.inr (by omega))]; exact b7
          · rw [e', up_at, b7]
            unfold nxQ
            rw [if_neg bn, if_neg f1', if_neg f2', if_pos w]
          · rw [kq]
            unfold sg2
            rw [if_pos w]
            split <;> omega
        have kcase : ∀ v : Int, (v = 3 ∨ v = 4) → sg2 (btA T n q) (btA T n (q + 1)) = v → (btA T n q = 60 ∨ btA T n q = 62) ∧ btA T n (q + 1) = 61 := fun v hv e => by
          unfold sg2 at e
          split at e
          · assumption
          · split at e
            · rename_i y
              rw [e] at y
              rcases hv with rfl | rfl <;> exact absurd y (by decide)
            · omega
        rw [b6]
        refine ⟨rng (by omega) (by omega), fun w => two (kcase 3 (Or.inl rfl) w), fun w => ⟨rng (by omega) (by omega), fun w2 => ?_, fun w2 => two (kcase 4 (Or.inr rfl) w2)⟩⟩
        have nt : ¬ ((btA T n q = 60 ∨ btA T n q = 62) ∧ btA T n (q + 1) = 61) := fun y => by
          unfold sg2 at w w2
          rw [if_pos y] at w w2
          split at w
          · omega
          · rename_i g
            rw [if_neg g] at w2
            omega
        refine b_X3_advance_193 (fun σ' e' => b_X3_advance_196 ?_)
        have o' : offA σ σ' := by rw [e']; exact offA_up o9 (by omega)
        refine k σ' ⟨tapeC_off tc o', ?_, ?_, ?_, ?_⟩ o'
        · rw [e', up_ne (Or.inr (by omega)), b6, kq]
        · rw [e', up_ne (Or.inr (by omega))]; exact b7
        · rw [e', up_at, b7]
          unfold nxQ
          rw [if_neg bn, if_neg f1', if_neg f2', if_neg nt]
        · rw [kq]
          unfold sg2
          rw [if_neg nt]
          split
          · rename_i y
            intro e
            rw [e] at y
            exact absurd y (by decide)
          · omega
      · have f2 := b01_1 z2
        rw [← eb] at f2
        refine s_readWord tp ⟨q0.1, z⟩ f2 tc1 a7 a8 (fun σ' c1 c6 c7 c8 o => b_X3_advance_196 ?_)
        have o' := offA_tr o1 o
        have kq : kdQ T n q = wkA (wpA T q (rnE isLt T n q - q).toNat) := by
          unfold kdQ
          rw [if_neg bn, if_neg f1', if_pos f2]
        refine k σ' ⟨c1, by rw [kq]; exact c6, c7, ?_, ?_⟩ o'
        · unfold nxQ
          rw [if_neg bn, if_neg f1', if_pos f2]
          exact c8
        · rw [kq]
          have := wkA_in (v := wpA T q (rnE isLt T n q - q).toNat)
          omega
    · have f1 := b01_1 z1
      rw [← eb] at f1
      refine s_readDigits (d := d + 3) tp q0 tc1 a7 (fun σ' c1 c6 c7 c8 c9 o => b_X3_advance_196 ?_)
      have o' := offA_tr o1 o
      have kq : kdQ T n q = 1 := by
        unfold kdQ
        rw [if_neg bn, if_pos f1]
      refine k σ' ⟨c1, by rw [kq]; exact c6, c7, ?_, fun _ => c9⟩ o'
      unfold nxQ
      rw [if_neg bn, if_pos f1]
      exact c8
  · have eq : q = n := by omega
    have bn : btA T n q < 0 := by unfold btA; rw [if_neg (by omega)]; omega
    intro σ14 e14 σ15 e15 σ16 e16
    have o' : offA σ σ16 := by rw [e16, e15, e14]; exact offA_up (offA_up (offA_up o1 (by omega)) (by omega)) (by omega)
    have kq : kdQ T n q = 0 := by unfold kdQ; rw [if_pos bn]
    refine b_X3_advance_196 (k σ16 ⟨tapeC_off tc o', ?_, ?_, ?_, ?_⟩ o')
    · rw [kq, e16, up_at]
    · rw [e16, e15, e14, up_ne (Or.inr (by omega)), up_ne (Or.inr (by omega)), up_at]; omega
    · unfold nxQ
      rw [if_pos bn, e16, up_ne (Or.inr (by omega)), e15, up_at, e14, up_ne (Or.inr (by omega)), tc1.1]
      omega
    · rw [kq]; omega
theorem s_advance {p : Int} (tp : TP T n) (p0 : 0 ≤ p ∧ p ≤ n) (tc : tapeC σ T n) (e8 : σ 271 8 = p) (k : ∀ σ', CT σ' T n p → offA σ σ' → Q 0 σ') : Ct mX3_advance (d + 3 + 1 + 1) 9 t [rv 271] σ Q := by
  have t0 := tp.1
  obtain ⟨s1, s2, s3⟩ := rnE_spec (T := T) isSp_1 t0.2 p0.1 p0.2
  have key : ∀ (j : Nat) (i : Int) (τ : jM), p ≤ i → i + j = rnE isSp T n p → τ 271 7 = i → offA σ τ → Jt mX3_advance (d + 3 + 1 + 1) 9 t Q 8 [rv 271] [] τ := by
    intro j
    induction j with
    | zero =>
      intro i τ i0 e a7 o
      have tt := tapeC_off tc o
      have ei : i = rnE isSp T n p := by omega
      have fin : Jt mX3_advance (d + 3 + 1 + 1) 9 t Q 60 [rv 271] [] τ := s_adv60 (q := rnE isSp T n p) tp (by omega) tt (by omega) (fun σ' c o' => k σ' c (offA_tr o o'))
      refine b_X3_advance_8 ?_
      rw [a7, tt.1]
      refine ⟨rng (by omega) (by omega), rng (by omega) (by omega), fun _ => fin, fun z => ?_⟩
      have b := tp.2 i (by omega) z
      rw [tt.2 i (by omega) z]
      have ns := s3
      rw [← ei, btA_eq z] at ns
      unfold isSp at ns
      have ns := of_decide_eq_false ns
      exact ⟨by omega, rng (by omega) (by omega), fun w => absurd w (by omega), fun _ => ⟨by omega, rng (by omega) (by omega), fun _ => fin, fun w => absurd w (by omega)⟩⟩
    | succ j ih =>
      intro i τ i0 e a7 o
      have tt := tapeC_off tc o
      have go : Jt mX3_advance (d + 3 + 1 + 1) 9 t Q 47 [rv 271] [] τ := b_X3_advance_47 (fun σ1 e1 => ih (i + 1) σ1 (by omega) (by omega) (by rw [e1, up_at, a7]) (by rw [e1]; exact offA_up o (by omega)))
      have sp := s2 i i0 (by omega)
      rw [btA_eq (by omega)] at sp
      unfold isSp at sp
      have sp := of_decide_eq_true sp
      have b := tp.2 i (by omega) (by omega)
      refine b_X3_advance_8 ?_
      rw [a7, tt.1]
      refine ⟨rng (by omega) (by omega), rng (by omega) (by omega), fun z => absurd z (by omega), fun z => ?_⟩
      rw [tt.2 i (by omega) z]
      exact ⟨by omega, rng (by omega) (by omega), fun _ => go, fun w => ⟨by omega, rng (by omega) (by omega), fun w2 => absurd sp (by omega), fun _ => go⟩⟩
  refine c_X3_advance (fun σ1 e1 => ?_)
  exact key (rnE isSp T n p - p).toNat p σ1 (Int.le_refl _) (by omega) (by rw [e1, up_at, e8]) (by rw [e1]; exact offA_up offA_rf (by omega))
end CB
