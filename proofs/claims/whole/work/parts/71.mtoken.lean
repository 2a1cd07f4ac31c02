/-! ===== the reference's nextToken ===== -/
def sgM (b : Int) : Bool := decide (b = 35 ∨ b = 40 ∨ b = 41 ∨ b = 42 ∨ b = 43 ∨ b = 45 ∨ b = 47 ∨ b = 58 ∨ b = 59 ∨ b = 60 ∨ b = 61 ∨ b = 62)
def sgC (b : Int) : Bool := decide (b = 35 ∨ b = 40 ∨ b = 41 ∨ b = 42 ∨ b = 43 ∨ b = 45 ∨ b = 47 ∨ b = 59 ∨ b = 60 ∨ b = 61 ∨ b = 62)
def plT (T : Int → Int) (n p : Int) : Int := rnE isSp T n p
def nxQ (T : Int → Int) (n q : Int) : Int := if btA T n q < 0 then q else if isDg (btA T n q) = true then rnE isDg T n q else if isLt (btA T n q) = true then rnE isLt T n q else if (btA T n q = 60 ∨ btA T n q = 62) ∧ btA T n (q + 1) = 61 then q + 2 else q + 1
def nxT (T : Int → Int) (n p : Int) : Int := nxQ T n (plT T n p)
/-- the reference's token; the class's -/
def tmQ (T : Int → Int) (n q : Int) : Int := if btA T n q < 0 then 0 else if isDg (btA T n q) = true then 1 else if isLt (btA T n q) = true then 2 else if (btA T n q = 60 ∨ btA T n q = 62) ∧ btA T n (q + 1) = 61 then (if btA T n q = 60 then 4 else 5) else if sgM (btA T n q) = true then btA T n q else 3
def kdQ (T : Int → Int) (n q : Int) : Int := if btA T n q < 0 then 0 else if isDg (btA T n q) = true then 1 else if isLt (btA T n q) = true then wkA (wpA T q (rnE isLt T n q - q).toNat) else if (btA T n q = 60 ∨ btA T n q = 62) ∧ btA T n (q + 1) = 61 then (if btA T n q = 60 then 3 else 4) else if sgC (btA T n q) = true then btA T n q else 2
def kT (T : Int → Int) (n p : Int) : Int := kdQ T n (plT T n p)
def nmQ (T : Int → Int) (n q : Int) : Int := dmA T q (rnE isDg T n q - q).toNat
def nmT (T : Int → Int) (n p : Int) : Int := nmQ T n (plT T n p)
def tapeM (σ : jM) (T : Int → Int) (n : Int) : Prop := σ 321 4 = n ∧ ∀ i, 0 ≤ i → i < n → σ 325 i = T i
def RQ (σ : jM) (T : Int → Int) (n q : Int) : Prop := tapeM σ T n ∧ σ 321 7 = nxQ T n q ∧ σ 321 8 = q ∧ σ 321 9 = tmQ T n q ∧ (tmQ T n q = 1 → σ 321 10 = nmQ T n q) ∧ (tmQ T n q = 2 → σ 321 11 = wpA T q (rnE isLt T n q - q).toNat)
def RT (σ : jM) (T : Int → Int) (n p : Int) : Prop := RQ σ T n (plT T n p)
def offT (σ σ' : jM) : Prop := (∀ x, x ≠ 321 → σ' x = σ x) ∧ ∀ j, (j < 7 ∨ 11 < j) → σ' 321 j = σ 321 j
theorem offT_rf {σ : jM} : offT σ σ := ⟨fun _ _ => rfl, fun _ _ => rfl⟩
theorem offT_up {σ σ' : jM} {j v : Int} (a : offT σ σ') (h : 7 ≤ j ∧ j ≤ 11) : offT σ (up σ' 321 j v) := ⟨fun x hx => by rw [up_row hx]; exact a.1 x hx, fun i hi => by rw [up_ne (Or.inr (by omega))]; exact a.2 i hi⟩
theorem tapeM_off {σ σ' : jM} {T : Int → Int} {n : Int} (h : tapeM σ T n) (o : offT σ σ') : tapeM σ' T n := ⟨by rw [o.2 4 (by omega)]; exact h.1, fun i a b => by rw [o.1 325 (by omega)]; exact h.2 i a b⟩
theorem btA_in {T : Int → Int} {n k : Int} (tp : TP T n) (k0 : 0 ≤ k) : -1 ≤ btA T n k ∧ btA T n k ≤ 255 := by
  unfold btA
  split
  · have := tp.2 k k0 (by assumption)
    omega
  · omega
theorem btA_lt {T : Int → Int} {n k : Int} (h : 0 ≤ btA T n k) : k < n := by
  unfold btA at h
  split at h
  · assumption
  · omega
theorem btA_eq {T : Int → Int} {n k : Int} (h : k < n) : btA T n k = T k := if_pos h
theorem isSp_1 : isSp (-1) = false := by decide
theorem isDg_1 : isDg (-1) = false := by decide
theorem isLt_1 : isLt (-1) = false := by decide
section MT
variable {d : Nat} {t : Int} {Q : Int → jM → Prop} {σ : jM} {T : Int → Int} {n : Int}
theorem m_byteAt {k : Int} (tp : TP T n) (tm : tapeM σ T n) (k0 : 0 ≤ k) (k1 : k ≤ 400) (h : Q (btA T n k) σ) : Ct mX12_byteAt d 0 t [rv 321, iv k] σ Q := by
  have t0 := tp.1
  refine c_X12_byteAt ?_
  rw [tm.1]
  refine ⟨rng (by omega) (by omega), rng (by omega) (by omega), fun a => ?_, fun a => ⟨by omega, ?_⟩⟩
  · unfold btA at h
    rw [if_neg (by omega)] at h
    exact h
  · rw [tm.2 k k0 a]
    rw [btA_eq a] at h
    exact h
theorem m_isFigure {b : Int} (b0 : -1 ≤ b ∧ b ≤ 255) (h : Q (b01 (isDg b)) σ) : Ct mX12_isFigure d 0 t [iv b] σ Q := by
  have r : inR b := rng (by omega) (by omega)
  refine c_X12_isFigure ⟨r, fun a => ?_, fun a => ⟨r, fun c => ?_, fun c => ?_⟩⟩
  · rw [show isDg b = false by unfold isDg; simp; omega] at h; exact h
  · rw [show isDg b = false by unfold isDg; simp; omega] at h; exact h
  · rw [show isDg b = true by unfold isDg; simp; omega] at h; exact h
theorem m_isLetterByte {b : Int} (b0 : -1 ≤ b ∧ b ≤ 255) (h : Q (b01 (isLt b)) σ) : Ct mX12_isLetterByte d 0 t [iv b] σ Q := by
  have r : inR b := rng (by omega) (by omega)
  have f : ∀ {P : Prop}, ¬ ((97 ≤ b ∧ b ≤ 122) ∨ (65 ≤ b ∧ b ≤ 90)) → (isLt b = false → P) → P := fun z k => k (by unfold isLt; exact decide_eq_false z)
  have g : ∀ {P : Prop}, ((97 ≤ b ∧ b ≤ 122) ∨ (65 ≤ b ∧ b ≤ 90)) → (isLt b = true → P) → P := fun z k => k (by unfold isLt; exact decide_eq_true z)
  refine c_X12_isLetterByte ⟨r, fun a => ⟨r, fun c => ?_, fun c => ⟨r, fun e => ?_, fun e => ?_⟩⟩, fun a => ⟨r, fun c => ?_, fun c => ⟨r, fun e => ?_, fun e => ⟨r, fun u => ?_, fun u => ?_⟩⟩⟩⟩
  · exact f (by omega) (fun z => by rw [z] at h; exact h)
  · exact f (by omega) (fun z => by rw [z] at h; exact h)
  · exact g (by omega) (fun z => by rw [z] at h; exact h)
  · exact g (by omega) (fun z => by rw [z] at h; exact h)
  · exact absurd e (by omega)
  · exact f (by omega) (fun z => by rw [z] at h; exact h)
  · exact absurd u (by omega)
theorem m_isSign {b : Int} (b0 : -1 ≤ b ∧ b ≤ 255) (h : Q (b01 (sgM b)) σ) : Ct mX12_isSign d 0 t [iv b] σ Q := by
  have r : inR b := rng (by omega) (by omega)
  refine c_X12_isSign ⟨r, fun a => ?_, ?_⟩
  · rw [show sgM b = false by unfold sgM; exact decide_eq_false (by omega)] at h; exact h
  · refine ⟨?_, ?_, ?_, ?_, ?_, ?_, ?_, ?_, ?_, ?_, ?_, ?_, ?_, ?_, ?_, ?_, ?_, ?_, ?_, ?_, ?_, ?_, ?_, ?_, ?_, ?_, ?_, ?_⟩ <;> (intro a; subst a; exact h)
/-- figures -/
theorem m_figs {q : Int} {v1 : Int} (tp : TP T n) (q0 : 0 ≤ q) (hq : ∀ i, q ≤ i → i < rnE isDg T n q → isDg (btA T n i) = true) (he : isDg (btA T n (rnE isDg T n q)) = false) (hn : rnE isDg T n q ≤ n) (k : ∀ σ', tapeM σ' T n → σ' 321 7 = rnE isDg T n q → σ' 321 10 = nmQ T n q → σ' 321 8 = σ 321 8 → σ' 321 9 = σ 321 9 → offT σ σ' → Jt mX12_nextToken (d + 1) 9 t Q 310 [rv 321, iv v1] [] σ') : ∀ (j k' : Nat) (τ : jM), q + k' + j = rnE isDg T n q → tapeM τ T n → τ 321 7 = q + k' → τ 321 10 = dmA T q k' → τ 321 8 = σ 321 8 → τ 321 9 = σ 321 9 → offT σ τ → Jt mX12_nextToken (d + 1) 9 t Q 85 [rv 321, iv v1] [] τ := by
  have t0 := tp.1
  have fig : ∀ i : Int, q ≤ i → i < rnE isDg T n q → (48 ≤ T i ∧ T i ≤ 57) := fun i a b => by
    have := hq i a b
    rw [btA_eq (by omega)] at this
    simpa [isDg] using this
  intro j
  induction j with
  | zero =>
    intro k' τ e tm e7 e10 e8 e9 o
    have ek : q + k' = rnE isDg T n q := by omega
    refine b_X12_nextToken_85 ?_
    rw [e7, ek]
    refine m_byteAt tp tm (by omega) (by omega) (m_isFigure (btA_in tp (by omega)) ?_)
    rw [he]
    refine ⟨b01_R, fun _ => k τ tm (by omega) ?_ e8 e9 o, fun z => absurd rfl z⟩
    rw [e10]
    unfold nmQ
    congr 1
    omega
  | succ j ih =>
    intro k' τ e tm e7 e10 e8 e9 o
    have hi : isDg (btA T n (q + k')) = true := hq _ (by omega) (by omega)
    have fg := fig (q + k') (by omega) (by omega)
    have dm := (dmA_in (T := T) (p := q) k' (fun i hi => fig _ (by omega) (by omega))).1
    refine b_X12_nextToken_85 ?_
    rw [e7]
    refine m_byteAt tp tm (by omega) (by omega) (m_isFigure (btA_in tp (by omega)) ?_)
    rw [hi]
    refine ⟨b01_R, fun z => absurd z (by decide), fun _ => ?_⟩
    rw [e10]
    refine ⟨rng (by omega) (by omega), fun z => ?_, fun z => ?_⟩
    · rw [e7]
      refine m_byteAt tp tm (by omega) (by omega) ?_
      intro σ6 e6 σ7 e77
      subst e6; subst e77
      refine ih (k' + 1) _ (by omega) ?_ ?_ ?_ ?_ ?_ ?_
      · exact tapeM_off tm (offT_up (offT_up offT_rf (by omega)) (by omega))
      · rw [up_at, up_ne (Or.inr (by omega)), e7]; omega
      · rw [up_ne (Or.inr (by omega)), up_at, dmA, if_neg (by omega), btA_eq (by omega)]
      · rw [up_ne (Or.inr (by omega)), up_ne (Or.inr (by omega))]; exact e8
      · rw [up_ne (Or.inr (by omega)), up_ne (Or.inr (by omega))]; exact e9
      · exact offT_up (offT_up o (by omega)) (by omega)
    · intro σ6 e6 σ7 e77
      subst e6; subst e77
      refine ih (k' + 1) _ (by omega) ?_ ?_ ?_ ?_ ?_ ?_
      · exact tapeM_off tm (offT_up (offT_up offT_rf (by omega)) (by omega))
      · rw [up_at, up_ne (Or.inr (by omega)), e7]; omega
      · rw [up_ne (Or.inr (by omega)), up_at, dmA, if_pos (by omega)]
      · rw [up_ne (Or.inr (by omega)), up_ne (Or.inr (by omega))]; exact e8
      · rw [up_ne (Or.inr (by omega)), up_ne (Or.inr (by omega))]; exact e9
      · exact offT_up (offT_up o (by omega)) (by omega)
/-- letters -/
theorem m_lets {q : Int} {v1 : Int} (tp : TP T n) (q0 : 0 ≤ q) (hq : ∀ i, q ≤ i → i < rnE isLt T n q → isLt (btA T n i) = true) (he : isLt (btA T n (rnE isLt T n q)) = false) (hn : rnE isLt T n q ≤ n) (k : ∀ σ', tapeM σ' T n → σ' 321 7 = rnE isLt T n q → σ' 321 11 = wpA T q (rnE isLt T n q - q).toNat → σ' 321 8 = σ 321 8 → σ' 321 9 = σ 321 9 → offT σ σ' → Jt mX12_nextToken (d + 1) 9 t Q 310 [rv 321, iv v1] [] σ') : ∀ (j k' : Nat) (τ : jM), q + k' + j = rnE isLt T n q → tapeM τ T n → τ 321 7 = q + k' → τ 321 11 = wpA T q k' → τ 321 8 = σ 321 8 → τ 321 9 = σ 321 9 → offT σ τ → Jt mX12_nextToken (d + 1) 9 t Q 168 [rv 321, iv v1] [] τ := by
  have t0 := tp.1
  have fig : ∀ i : Int, q ≤ i → i < rnE isLt T n q → (65 ≤ T i ∧ T i ≤ 122) := fun i a b => by
    have := hq i a b
    rw [btA_eq (by omega)] at this
    unfold isLt at this
    have := of_decide_eq_true this
    omega
  intro j
  induction j with
  | zero =>
    intro k' τ e tm e7 e10 e8 e9 o
    have ek : q + k' = rnE isLt T n q := by omega
    refine b_X12_nextToken_168 ?_
    rw [e7, ek]
    refine m_byteAt tp tm (by omega) (by omega) (m_isLetterByte (btA_in tp (by omega)) ?_)
    rw [he]
    refine ⟨b01_R, fun _ => k τ tm (by omega) ?_ e8 e9 o, fun z => absurd rfl z⟩
    rw [e10]
    congr 1
    omega
  | succ j ih =>
    intro k' τ e tm e7 e10 e8 e9 o
    have hi : isLt (btA T n (q + k')) = true := hq _ (by omega) (by omega)
    have fg := fig (q + k') (by omega) (by omega)
    have dm := (wpA_in (T := T) (p := q) k' (fun i hi => fig _ (by omega) (by omega))).1
    have sh : l_shr (wpA T q k') 48 = wpA T q k' / 281474976710656 := by
      have := l_shr_nat (x := wpA T q k') (s := 48) (by omega) (by omega) (by omega)
      exact this
    refine b_X12_nextToken_168 ?_
    rw [e7]
    refine m_byteAt tp tm (by omega) (by omega) (m_isLetterByte (btA_in tp (by omega)) ?_)
    rw [hi]
    refine ⟨b01_R, fun z => absurd z (by decide), fun _ => ?_⟩
    rw [e10, sh]
    refine ⟨rngL (by omega) (by omega), fun z => ?_, fun z => ?_⟩
    · rw [e7]
      refine m_byteAt tp tm (by omega) (by omega) ⟨?_, ?_⟩
      · have := btA_in (k := q + k') tp (by omega)
        exact rng (by omega) (by omega)
      intro σ6 e6 σ7 e77
      subst e6; subst e77
      refine ih (k' + 1) _ (by omega) ?_ ?_ ?_ ?_ ?_ ?_
      · exact tapeM_off tm (offT_up (offT_up offT_rf (by omega)) (by omega))
      · rw [up_at, up_ne (Or.inr (by omega)), e7]; omega
      · rw [up_ne (Or.inr (by omega)), up_at, wpA, if_neg (by omega), btA_eq (by omega)]
        exact l_add8 (by omega) (by omega) (by omega) (by omega)
      · rw [up_ne (Or.inr (by omega)), up_ne (Or.inr (by omega))]; exact e8
      · rw [up_ne (Or.inr (by omega)), up_ne (Or.inr (by omega))]; exact e9
      · exact offT_up (offT_up o (by omega)) (by omega)
    · intro σ6 e6 σ7 e77
      subst e6; subst e77
      refine ih (k' + 1) _ (by omega) ?_ ?_ ?_ ?_ ?_ ?_
      · exact tapeM_off tm (offT_up (offT_up offT_rf (by omega)) (by omega))
      · rw [up_at, up_ne (Or.inr (by omega)), e7]; omega
      · rw [up_ne (Or.inr (by omega)), up_at, wpA, if_pos (by omega)]
      · rw [up_ne (Or.inr (by omega)), up_ne (Or.inr (by omega))]; exact e8
      · rw [up_ne (Or.inr (by omega)), up_ne (Or.inr (by omega))]; exact e9
      · exact offT_up (offT_up o (by omega)) (by omega)
/-- at a place that is no space -/
theorem m_tok {q : Int} (tp : TP T n) (q0 : 0 ≤ q ∧ q ≤ n) (ns : isSp (btA T n q) = false) (tm : tapeM σ T n) (e7 : σ 321 7 = q) (k : ∀ σ', RQ σ' T n q → offT σ σ' → Q 0 σ') : Jt mX12_nextToken (d + 1) 9 t Q 0 [rv 321, uv] [] σ := by
  have t0 := tp.1
  have bi := btA_in (k := q) tp q0.1
  have br : inR (btA T n q) := rng (by omega) (by omega)
  have ns1 : ¬ btA T n q = 32 := fun e => by rw [e] at ns; exact absurd ns (by decide)
  have ns2 : ¬ btA T n q = 10 := fun e => by rw [e] at ns; exact absurd ns (by decide)
  refine b_X12_nextToken_0 ?_
  rw [e7]
  refine m_byteAt tp tm (by omega) (by omega) ⟨br, fun z => absurd z ns1, fun _ => ?_⟩
  rw [e7]
  refine m_byteAt tp tm (by omega) (by omega) ⟨br, fun _ => ?_, fun z => absurd z ns2⟩
  intro σ6 e6
  have o6 : offT σ σ6 := by rw [e6]; exact offT_up offT_rf (by omega)
  have tm6 := tapeM_off tm o6
  have e67 : σ6 321 7 = q := by rw [e6, up_ne (Or.inr (by omega))]; exact e7
  have e68 : σ6 321 8 = q := by rw [e6, up_at]; exact e7
  rw [e67]
  refine m_byteAt tp tm6 (by omega) (by omega) ⟨br, fun z0 => ?_, fun z0 => ?_⟩
  · have hqn := btA_lt z0
    refine m_isFigure bi ⟨b01_R, fun z1 => ?_, fun z1 => ?_⟩
    · have f1 := b01_0.mp z1
      refine m_isLetterByte bi ⟨b01_R, fun z2 => ?_, fun z2 => ?_⟩
      · have f2 := b01_0.mp z2
        have rest : ∀ (tk : Int) (τ : jM), tk = (if sgM (btA T n q) = true then btA T n q else 3) → τ = up (up σ6 321 9 tk) 321 7 (up σ6 321 9 tk 321 7 + 1) → (inR (btA T n q)) ∧ ((btA T n q = 60 → (Jt mX12_nextToken (d + 1) 9 t Q 272 [rv 321, iv (btA T n q)] [] τ)) ∧ (¬ btA T n q = 60 → ((inR (btA T n q)) ∧ ((¬ btA T n q = 62 → (Jt mX12_nextToken (d + 1) 9 t Q 310 [rv 321, iv (btA T n q)] [] τ)) ∧ (btA T n q = 62 → (Jt mX12_nextToken (d + 1) 9 t Q 272 [rv 321, iv (btA T n q)] [] τ)))))) := by
          intro tk τ etk eτ
          have oτ : offT σ τ := by rw [eτ]; exact offT_up (offT_up o6 (by omega)) (by omega)
          have tmτ := tapeM_off tm oτ
          have eτ7 : τ 321 7 = q + 1 := by rw [eτ, up_at, up_ne (Or.inr (by omega)), e67]
          have eτ8 : τ 321 8 = q := by rw [eτ, up_ne (Or.inr (by omega)), up_ne (Or.inr (by omega))]; exact e68
          have eτ9 : τ 321 9 = tk := by rw [eτ, up_ne (Or.inr (by omega)), up_at]
          have fin : (btA T n q = 60 ∨ btA T n q = 62) → Jt mX12_nextToken (d + 1) 9 t Q 272 [rv 321, iv (btA T n q)] [] τ := fun hb => by
            refine b_X12_nextToken_272 ?_
            rw [eτ7]
            have b2 := btA_in (k := q + 1) tp (by omega)
            refine m_byteAt tp tmτ (by omega) (by omega) ⟨rng (by omega) (by omega), fun y => ?_, fun y => ⟨br, fun w => ?_, fun w => ?_⟩⟩
            · refine b_X12_nextToken_310 (k τ ⟨tmτ, ?_, eτ8, ?_, ?_, ?_⟩ oτ)
              · unfold nxQ
                rw [if_neg (by omega), if_neg (by rw [f1]; decide), if_neg (by rw [f2]; decide), if_neg (by omega)]
                exact eτ7
              · unfold tmQ
                rw [if_neg (by omega), if_neg (by rw [f1]; decide), if_neg (by rw [f2]; decide), if_neg (by omega), eτ9, etk]
              · unfold tmQ
                rw [if_neg (by omega), if_neg (by rw [f1]; decide), if_neg (by rw [f2]; decide), if_neg (by omega)]
                intro w
                split at w <;> omega
              · unfold tmQ
                rw [if_neg (by omega), if_neg (by rw [f1]; decide), if_neg (by rw [f2]; decide), if_neg (by omega)]
                intro w
                split at w <;> omega
            · refine b_X12_nextToken_297 (fun σ1 e1 σ2 e2 => ?_)
              subst e1; subst e2
              have oo : offT σ (up (up τ 321 9 5) 321 7 (up τ 321 9 5 321 7 + 1)) := offT_up (offT_up oτ (by omega)) (by omega)
              refine b_X12_nextToken_310 (k _ ⟨tapeM_off tm oo, ?_, ?_, ?_, ?_, ?_⟩ oo)
              · unfold nxQ
                rw [if_neg (by omega), if_neg (by rw [f1]; decide), if_neg (by rw [f2]; decide), if_pos (by omega), up_at, up_ne (Or.inr (by omega)), eτ7]
                omega
              · rw [up_ne (Or.inr (by omega)), up_ne (Or.inr (by omega))]; exact eτ8
              · unfold tmQ
                rw [if_neg (by omega), if_neg (by rw [f1]; decide), if_neg (by rw [f2]; decide), if_pos (by omega), if_neg w, up_ne (Or.inr (by omega)), up_at]
              · unfold tmQ
                rw [if_neg (by omega), if_neg (by rw [f1]; decide), if_neg (by rw [f2]; decide), if_pos (by omega), if_neg w]
                omega
              · unfold tmQ
                rw [if_neg (by omega), if_neg (by rw [f1]; decide), if_neg (by rw [f2]; decide), if_pos (by omega), if_neg w]
                omega
            · refine b_X12_nextToken_297 (fun σ1 e1 σ2 e2 => ?_)
              subst e1; subst e2
              have oo : offT σ (up (up τ 321 9 4) 321 7 (up τ 321 9 4 321 7 + 1)) := offT_up (offT_up oτ (by omega)) (by omega)
              refine b_X12_nextToken_310 (k _ ⟨tapeM_off tm oo, ?_, ?_, ?_, ?_, ?_⟩ oo)
              · unfold nxQ
                rw [if_neg (by omega), if_neg (by rw [f1]; decide), if_neg (by rw [f2]; decide), if_pos (by omega), up_at, up_ne (Or.inr (by omega)), eτ7]
                omega
              · rw [up_ne (Or.inr (by omega)), up_ne (Or.inr (by omega))]; exact eτ8
              · unfold tmQ
                rw [if_neg (by omega), if_neg (by rw [f1]; decide), if_neg (by rw [f2]; decide), if_pos (by omega), if_pos w, up_ne (Or.inr (by omega)), up_at]
              · unfold tmQ
                rw [if_neg (by omega), if_neg (by rw [f1]; decide), if_neg (by rw [f2]; decide), if_pos (by omega), if_pos w]
                omega
              · unfold tmQ
                rw [if_neg (by omega), if_neg (by rw [f1]; decide), if_neg (by rw [f2]; decide), if_pos (by omega), if_pos w]
                omega
          refine ⟨br, fun y => fin (Or.inl y), fun y => ⟨br, fun w => ?_, fun w => fin (Or.inr w)⟩⟩
          refine b_X12_nextToken_310 (k τ ⟨tmτ, ?_, eτ8, ?_, ?_, ?_⟩ oτ)
          · unfold nxQ
            rw [if_neg (by omega), if_neg (by rw [f1]; decide), if_neg (by rw [f2]; decide), if_neg (by omega)]
            exact eτ7
          · unfold tmQ
            rw [if_neg (by omega), if_neg (by rw [f1]; decide), if_neg (by rw [f2]; decide), if_neg (by omega), eτ9, etk]
          · unfold tmQ
            rw [if_neg (by omega), if_neg (by rw [f1]; decide), if_neg (by rw [f2]; decide), if_neg (by omega)]
            intro w
            split at w
            · rename_i z
              rw [w] at z
              exact absurd z (by decide)
            · omega
          · unfold tmQ
            rw [if_neg (by omega), if_neg (by rw [f1]; decide), if_neg (by rw [f2]; decide), if_neg (by omega)]
            intro w
            split at w
            · rename_i z
              rw [w] at z
              exact absurd z (by decide)
            · omega
        refine m_isSign bi ⟨b01_R, fun z3 => fun σ15 e15 σ16 e16 => ?_, fun z3 => fun σ15 e15 σ16 e16 => ?_⟩
        · subst e15
          exact rest 3 σ16 (by rw [b01_0.mp z3]; rfl) e16
        · subst e15
          exact rest (btA T n q) σ16 (by rw [b01_1 z3]; rfl) e16
      · have f2 := b01_1 z2
        obtain ⟨s1, s2, s3⟩ := rnE_spec (T := T) isLt_1 t0.2 q0.1 q0.2
        intro σ23 e23 σ24 e24
        have o24 : offT σ σ24 := by rw [e24, e23]; exact offT_up (offT_up o6 (by omega)) (by omega)
        have u9 : σ24 321 9 = 2 := by rw [e24, e23, up_ne (Or.inr (by omega)), up_at]
        have u8 : σ24 321 8 = q := by rw [e24, e23, up_ne (Or.inr (by omega)), up_ne (Or.inr (by omega))]; exact e68
        refine m_lets (q := q) (σ := σ24) tp q0.1 s2 s3 s1.2 (fun σ' a1 a2 a3 a4 a5 a6 => ?_) (rnE isLt T n q - q).toNat 0 σ24 (by omega) (tapeM_off tm o24) ?_ ?_ rfl rfl offT_rf
        · have oo : offT σ σ' := ⟨fun x hx => (a6.1 x hx).trans (o24.1 x hx), fun j hj => (a6.2 j hj).trans (o24.2 j hj)⟩
          have t2 : tmQ T n q = 2 := by
            unfold tmQ
            rw [if_neg (by omega), if_neg (by rw [f1]; decide), if_pos f2]
          refine b_X12_nextToken_310 (k σ' ⟨a1, ?_, a4.trans u8, by rw [t2, a5, u9], by rw [t2]; omega, fun _ => a3⟩ oo)
          unfold nxQ
          rw [if_neg (by omega), if_neg (by rw [f1]; decide), if_pos f2]
          exact a2
        · rw [e24, e23, up_ne (Or.inr (by omega)), up_ne (Or.inr (by omega)), e67]; omega
        · rw [e24, up_at, wpA]
    · have f1 := b01_1 z1
      obtain ⟨s1, s2, s3⟩ := rnE_spec (T := T) isDg_1 t0.2 q0.1 q0.2
      intro σ23 e23 σ24 e24
      have o24 : offT σ σ24 := by rw [e24, e23]; exact offT_up (offT_up o6 (by omega)) (by omega)
      have u9 : σ24 321 9 = 1 := by rw [e24, e23, up_ne (Or.inr (by omega)), up_at]
      have u8 : σ24 321 8 = q := by rw [e24, e23, up_ne (Or.inr (by omega)), up_ne (Or.inr (by omega))]; exact e68
      refine m_figs (q := q) (σ := σ24) tp q0.1 s2 s3 s1.2 (fun σ' a1 a2 a3 a4 a5 a6 => ?_) (rnE isDg T n q - q).toNat 0 σ24 (by omega) (tapeM_off tm o24) ?_ ?_ rfl rfl offT_rf
      · have oo : offT σ σ' := ⟨fun x hx => (a6.1 x hx).trans (o24.1 x hx), fun j hj => (a6.2 j hj).trans (o24.2 j hj)⟩
        have t2 : tmQ T n q = 1 := by
          unfold tmQ
          rw [if_neg (by omega), if_pos f1]
        refine b_X12_nextToken_310 (k σ' ⟨a1, ?_, a4.trans u8, by rw [t2, a5, u9], fun _ => a3, by rw [t2]; omega⟩ oo)
        unfold nxQ
        rw [if_neg (by omega), if_pos f1]
        exact a2
      · rw [e24, e23, up_ne (Or.inr (by omega)), up_ne (Or.inr (by omega)), e67]; omega
      · rw [e24, up_at, dmA]
  · intro σ27 e27
    have oo : offT σ σ27 := by rw [e27]; exact offT_up o6 (by omega)
    have t2 : tmQ T n q = 0 := by unfold tmQ; rw [if_pos z0]
    refine b_X12_nextToken_310 (k σ27 ⟨tapeM_off tm oo, ?_, ?_, by rw [t2, e27, up_at], by rw [t2]; omega, by rw [t2]; omega⟩ oo)
    · unfold nxQ
      rw [if_pos z0, e27, up_ne (Or.inr (by omega))]
      exact e67
    · rw [e27, up_ne (Or.inr (by omega))]; exact e68
theorem m_nextToken {p : Int} (tp : TP T n) (p0 : 0 ≤ p ∧ p ≤ n) (tm : tapeM σ T n) (e7 : σ 321 7 = p) (k : ∀ σ', RT σ' T n p → offT σ σ' → Q 0 σ') : Ct mX12_nextToken (d + 1) 9 t [rv 321] σ Q := by
  have t0 := tp.1
  obtain ⟨s1, s2, s3⟩ := rnE_spec (T := T) isSp_1 t0.2 p0.1 p0.2
  refine Ct_of (by decide +kernel) (Nat.le_of_ble_eq_true rfl) ?_
  have key : ∀ (j : Nat) (i : Int) (τ : jM), p ≤ i → i + j = rnE isSp T n p → τ 321 7 = i → offT σ τ → Jt mX12_nextToken (d + 1) 9 t Q 0 [rv 321, uv] [] τ := by
    intro j
    induction j with
    | zero =>
      intro i τ i0 i1 e o
      refine m_tok (q := rnE isSp T n p) tp (by omega) s3 (tapeM_off tm o) (by omega) (fun σ' r o' => k σ' r ⟨fun x hx => (o'.1 x hx).trans (o.1 x hx), fun j hj => (o'.2 j hj).trans (o.2 j hj)⟩)
    | succ j ih =>
      intro i τ i0 i1 e o
      have sp := s2 i i0 (by omega)
      have bi := btA_in (k := i) tp (by omega)
      have br : inR (btA T n i) := rng (by omega) (by omega)
      refine b_X12_nextToken_0 ?_
      rw [e]
      refine m_byteAt tp (tapeM_off tm o) (by omega) (by omega) ⟨br, fun z => fun σ3 e3 => ?_, fun z => ?_⟩
      · refine ih (i + 1) σ3 (by omega) (by omega) (by rw [e3, up_at, e]) (by rw [e3]; exact offT_up o (by omega))
      · rw [e]
        refine m_byteAt tp (tapeM_off tm o) (by omega) (by omega) ⟨br, fun z2 => ?_, fun z2 => fun σ3 e3 => ?_⟩
        · unfold isSp at sp
          have := of_decide_eq_true sp
          omega
        · exact ih (i + 1) σ3 (by omega) (by omega) (by rw [e3, up_at, e]) (by rw [e3]; exact offT_up o (by omega))
  exact key (rnE isSp T n p - p).toNat p σ (Int.le_refl _) (by omega) e7 offT_rf
end MT
