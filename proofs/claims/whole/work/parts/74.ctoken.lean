/-! ===== the class's advance ===== -/
def WS : List (List Int) := [[116, 105, 114, 101, 115], [112, 114, 105, 99, 101], [106, 111, 105, 110], [112, 111, 117, 114], [98, 97, 107, 101], [109, 97, 107, 101], [100, 97, 121], [110, 117, 109, 98, 101, 114], [112, 111, 117, 110, 100, 115], [97, 103, 101], [102, 117, 108, 108], [111, 100, 100], [102, 117, 110, 100], [100, 111, 117, 98, 108, 101], [99, 114, 111, 99, 107], [105, 102], [116, 104, 101, 110], [101, 108, 115, 101], [101, 110, 100], [97, 110, 100], [111, 114], [110, 111, 116]]
/-- readWord's loop over the words' letters: q place, len length of what stands there -/
def fwA (T : Int → Int) (q len : Int) : List Int → Int → Int → Int
  | [], _, _ => 2
  | c :: cs, w, s => if c = 32 then (if s = len then w else fwA T q len cs (w + 1) 0) else fwA T q len cs w (if 0 ≤ s ∧ s < len ∧ T (q + s) = c then s + 1 else -1)
def mFA (T : Int → Int) (q len : Int) : List Int → Int → Prop
  | [], s => s = len
  | c :: cs, s => (s < len ∧ T (q + s) = c) ∧ mFA T q len cs (s + 1)
def noSp : List Int → Prop
  | [] => True
  | c :: cs => c ≠ 32 ∧ noSp cs
def okW : List Int → Bool
  | [] => true
  | x :: xs => decide (1 ≤ x ∧ x ≤ 255) && decide (pcR xs < 281474976710656) && okW xs
def nsB : List Int → Bool
  | [] => true
  | c :: cs => decide (c ≠ 32) && nsB cs
theorem okW_R : ∀ (xs : List Int), okW xs = true → okR xs
  | [], _ => trivial
  | x :: xs, h => by
    rw [okW, Bool.and_eq_true, Bool.and_eq_true] at h
    exact ⟨of_decide_eq_true h.1.1, of_decide_eq_true h.1.2, okW_R xs h.2⟩
theorem nsB_S : ∀ (xs : List Int), nsB xs = true → noSp xs
  | [], _ => trivial
  | x :: xs, h => by
    rw [nsB, Bool.and_eq_true] at h
    exact ⟨of_decide_eq_true h.1, nsB_S xs h.2⟩
theorem fwA_neg {T : Int → Int} {q len w : Int} {rest : List Int} (hl : 0 ≤ len) : ∀ (cs : List Int), noSp cs → fwA T q len (cs ++ 32 :: rest) w (-1) = fwA T q len rest (w + 1) 0
  | [], _ => by
    show fwA T q len (32 :: rest) w (-1) = _
    rw [fwA, if_pos rfl, if_neg (by omega)]
  | c :: cs, h => by
    show fwA T q len (c :: (cs ++ 32 :: rest)) w (-1) = _
    rw [fwA, if_neg h.1, if_neg (by omega)]
    exact fwA_neg hl cs h.2
theorem fwA_word {T : Int → Int} {q len w : Int} {rest : List Int} (hl : 0 ≤ len) : ∀ (cs : List Int) (s : Int), 0 ≤ s → noSp cs → (mFA T q len cs s → fwA T q len (cs ++ 32 :: rest) w s = w) ∧ (¬ mFA T q len cs s → fwA T q len (cs ++ 32 :: rest) w s = fwA T q len rest (w + 1) 0)
  | [], s, _, _ => by
    show (s = len → fwA T q len (32 :: rest) w s = w) ∧ (¬ s = len → fwA T q len (32 :: rest) w s = fwA T q len rest (w + 1) 0)
    rw [fwA, if_pos rfl]
    exact ⟨fun e => if_pos e, fun e => if_neg e⟩
  | c :: cs, s, s0, h => by
    have e : fwA T q len (c :: cs ++ 32 :: rest) w s = fwA T q len (cs ++ 32 :: rest) w (if 0 ≤ s ∧ s < len ∧ T (q + s) = c then s + 1 else -1) := by
      show fwA T q len (c :: (cs ++ 32 :: rest)) w s = _
      rw [fwA, if_neg h.1]
    rw [e]
    by_cases g : s < len ∧ T (q + s) = c
    · rw [if_pos ⟨s0, g⟩]
      have ih := fwA_word (T := T) (q := q) (w := w) (rest := rest) hl cs (s + 1) (by omega) h.2
      exact ⟨fun z => ih.1 z.2, fun z => ih.2 (fun y => z ⟨g, y⟩)⟩
    · rw [if_neg (fun z => g z.2)]
      exact ⟨fun z => absurd z.1 g, fun _ => fwA_neg hl cs h.2⟩
theorem mtR_len {T : Int → Int} {p : Int} : ∀ (xs : List Int) (k : Nat), mtR T p xs k → k = xs.length
  | [], _, h => h
  | x :: xs, k, ⟨j, e, _, m⟩ => by
    have := mtR_len xs j m
    simp
    omega
theorem mtR_at {T : Int → Int} {p c : Int} {xs : List Int} : ∀ (ys : List Int) (k : Nat), mtR T p (ys ++ c :: xs) k → T (p + xs.length) = c
  | [], k, ⟨j, e, e2, m⟩ => by
    have := mtR_len xs j m
    rw [← this]
    exact e2
  | y :: ys, k, ⟨j, e, e2, m⟩ => mtR_at ys j m
theorem mFA_le {T : Int → Int} {q len : Int} : ∀ (cs : List Int) (s : Int), mFA T q len cs s → s ≤ len
  | [], s, h => by
    have h : s = len := h
    omega
  | c :: cs, s, h => by
    have := h.1.1
    omega
theorem mFA_R {T : Int → Int} {q : Int} {len : Nat} : ∀ (cs xs : List Int) (s : Nat), mtR T q xs s → (mFA T q (len : Int) cs (s : Int) ↔ mtR T q (cs.reverse ++ xs) len)
  | [], xs, s, h => by
    show ((s : Int) = (len : Int) ↔ mtR T q xs len)
    constructor
    · intro e
      rw [show len = s by omega]
      exact h
    · intro e
      have a := mtR_len xs s h
      have b := mtR_len xs len e
      omega
  | c :: cs, xs, s, h => by
    have er : (c :: cs).reverse ++ xs = cs.reverse ++ (c :: xs) := by simp
    rw [er]
    have hs := mtR_len xs s h
    constructor
    · intro z
      have z2 := z.2
      rw [show (s : Int) + 1 = ((s + 1 : Nat) : Int) by omega] at z2
      exact (mFA_R cs (c :: xs) (s + 1) ⟨s, rfl, z.1.2, h⟩).mp z2
    · intro z
      have e := mtR_at _ _ z
      rw [← hs] at e
      have z2 := (mFA_R (len := len) cs (c :: xs) (s + 1) ⟨s, rfl, e, h⟩).mpr z
      have := mFA_le _ _ z2
      refine ⟨⟨by omega, e⟩, ?_⟩
      rw [show (s : Int) + 1 = ((s + 1 : Nat) : Int) by omega]
      exact z2
def flA : List (List Int) → List Int
  | [] => []
  | c :: ws => c ++ 32 :: flA ws
def tbA : List (List Int) → Int → List (Int × Int)
  | [], _ => []
  | c :: ws, w => (pcR c.reverse, w) :: tbA ws (w + 1)
theorem fwA_lk {T : Int → Int} {q : Int} {len : Nat} (hb : ∀ i : Nat, i < len → (65 ≤ T (q + i) ∧ T (q + i) ≤ 122)) : ∀ (ws : List (List Int)) (w : Int), (∀ c ∈ ws, okR c.reverse ∧ noSp c) → fwA T q len (flA ws) w 0 = lkA (tbA ws w) (wpA T q len)
  | [], _, _ => rfl
  | c :: ws, w, h => by
    have hc := h c List.mem_cons_self
    have ih := fwA_lk hb ws (w + 1) (fun x hx => h x (List.mem_cons_of_mem _ hx))
    have f := fwA_word (T := T) (q := q) (len := (len : Int)) (w := w) (rest := flA ws) (by omega) c 0 (by omega) hc.2
    have m := mFA_R (T := T) (q := q) (len := len) c [] 0 rfl
    rw [List.append_nil] at m
    have p := mtR_pc (T := T) (p := q) c.reverse len hc.1 hb
    show fwA T q len (c ++ 32 :: flA ws) w 0 = (if wpA T q len = pcR c.reverse then w else lkA (tbA ws (w + 1)) (wpA T q len))
    by_cases e : wpA T q len = pcR c.reverse
    · rw [if_pos e]
      exact f.1 (m.mpr (p.mp e))
    · rw [if_neg e, ← ih]
      exact f.2 (fun z => e (p.mpr (m.mp z)))
theorem WS_ok : ∀ c ∈ WS, okR c.reverse ∧ noSp c := by
  have h : ∀ c ∈ WS, okW c.reverse = true ∧ nsB c = true := by decide +kernel
  exact fun c hc => ⟨okW_R _ (h c hc).1, nsB_S _ (h c hc).2⟩
theorem WD_fl : WD = flA WS := by decide +kernel
theorem WL_tb : WL = tbA WS 100 := by decide +kernel
theorem fwA_WD {T : Int → Int} {q : Int} {len : Nat} (hb : ∀ i : Nat, i < len → (65 ≤ T (q + i) ∧ T (q + i) ≤ 122)) : fwA T q len WD 100 0 = wkA (wpA T q len) := by
  rw [WD_fl, fwA_lk hb WS 100 WS_ok, ← WL_tb]
  rfl
def tapeC (σ : jM) (T : Int → Int) (n : Int) : Prop := σ 271 1 = n ∧ ∀ i, 0 ≤ i → i < n → σ 272 i = T i
def offA (σ σ' : jM) : Prop := (∀ x, x ≠ 271 → σ' x = σ x) ∧ ∀ j, (j < 6 ∨ 9 < j) → σ' 271 j = σ 271 j
theorem offA_rf {σ : jM} : offA σ σ := ⟨fun _ _ => rfl, fun _ _ => rfl⟩
theorem offA_tr {σ σ1 σ2 : jM} (a : offA σ σ1) (b : offA σ1 σ2) : offA σ σ2 := ⟨fun x hx => (b.1 x hx).trans (a.1 x hx), fun j hj => (b.2 j hj).trans (a.2 j hj)⟩
theorem offA_up {σ σ' : jM} {j v : Int} (a : offA σ σ') (h : 6 ≤ j ∧ j ≤ 9) : offA σ (up σ' 271 j v) := ⟨fun x hx => by rw [up_row hx]; exact a.1 x hx, fun i hi => by rw [up_ne (Or.inr (by omega))]; exact a.2 i hi⟩
theorem tapeC_off {σ σ' : jM} {T : Int → Int} {n : Int} (h : tapeC σ T n) (o : offA σ σ') : tapeC σ' T n := ⟨by rw [o.2 1 (by omega)]; exact h.1, fun i a b => by rw [o.1 272 (by omega)]; exact h.2 i a b⟩
def CQ (σ : jM) (T : Int → Int) (n q : Int) : Prop := tapeC σ T n ∧ σ 271 6 = kdQ T n q ∧ σ 271 7 = q ∧ σ 271 8 = nxQ T n q ∧ (kdQ T n q = 1 → σ 271 9 = min 10000 (nmQ T n q))
def CT (σ : jM) (T : Int → Int) (n p : Int) : Prop := CQ σ T n (plT T n p)
section CA
variable {d : Nat} {t : Int} {Q : Int → jM → Prop} {σ : jM} {T : Int → Int} {n : Int}
theorem s_isDigit {b : Int} (b0 : -1 ≤ b ∧ b ≤ 255) (h : Q (b01 (isDg b)) σ) : Ct mX3_isDigit d 0 t [iv b] σ Q := by
  have r : inR b := rng (by omega) (by omega)
  refine c_X3_isDigit ⟨r, fun a => ?_, fun a => ⟨r, fun c => ?_, fun c => ?_⟩⟩
  · rw [show isDg b = false by unfold isDg; simp; omega] at h; exact h
  · rw [show isDg b = false by unfold isDg; simp; omega] at h; exact h
  · rw [show isDg b = true by unfold isDg; simp; omega] at h; exact h
theorem s_isLetter {b : Int} (b0 : -1 ≤ b ∧ b ≤ 255) (h : Q (b01 (isLt b)) σ) : Ct mX3_isLetter d 0 t [iv b] σ Q := by
  have r : inR b := rng (by omega) (by omega)
  have f : ∀ {P : Prop}, ¬ ((97 ≤ b ∧ b ≤ 122) ∨ (65 ≤ b ∧ b ≤ 90)) → (isLt b = false → P) → P := fun z k => k (by unfold isLt; exact decide_eq_false z)
  have g : ∀ {P : Prop}, ((97 ≤ b ∧ b ≤ 122) ∨ (65 ≤ b ∧ b ≤ 90)) → (isLt b = true → P) → P := fun z k => k (by unfold isLt; exact decide_eq_true z)
  refine c_X3_isLetter ⟨r, fun a => ⟨r, fun c => ?_, fun c => ⟨r, fun e => ?_, fun e => ?_⟩⟩, fun a => ⟨r, fun c => ?_, fun c => ⟨r, fun e => ?_, fun e => ⟨r, fun u => ?_, fun u => ?_⟩⟩⟩⟩
  · exact f (by omega) (fun z => by rw [z] at h; exact h)
  · exact f (by omega) (fun z => by rw [z] at h; exact h)
  · exact g (by omega) (fun z => by rw [z] at h; exact h)
  · exact g (by omega) (fun z => by rw [z] at h; exact h)
  · exact absurd e (by omega)
  · exact f (by omega) (fun z => by rw [z] at h; exact h)
  · exact absurd u (by omega)
theorem s_readDigits {q : Int} (tp : TP T n) (q0 : 0 ≤ q ∧ q ≤ n) (tc : tapeC σ T n) (e7 : σ 271 7 = q) (k : ∀ σ', tapeC σ' T n → σ' 271 6 = 1 → σ' 271 7 = q → σ' 271 8 = rnE isDg T n q → σ' 271 9 = min 10000 (nmQ T n q) → offA σ σ' → Q 0 σ') : Ct mX3_readDigits (d + 1) 9 t [rv 271] σ Q := by
  have t0 := tp.1
  obtain ⟨s1, s2, s3⟩ := rnE_spec (T := T) isDg_1 t0.2 q0.1 q0.2
  have fig : ∀ i : Int, q ≤ i → i < rnE isDg T n q → (48 ≤ T i ∧ T i ≤ 57) := fun i a b => by
    have := s2 i a b
    rw [btA_eq (by omega)] at this
    simpa [isDg] using this
  have key : ∀ (j k' : Nat) (τ : jM), q + k' + j = rnE isDg T n q → τ 271 6 = 1 → τ 271 7 = q → τ 271 8 = q + k' → τ 271 9 = dvA T q k' → offA σ τ → Jt mX3_readDigits (d + 1) 9 t Q 18 [rv 271] [] τ := by
    intro j
    induction j with
    | zero =>
      intro k' τ e e6 e7 e8 e9 o
      have tt := tapeC_off tc o
      have ek : q + k' = rnE isDg T n q := by omega
      have dd := dmA_in (T := T) (p := q) k' (fun i hi => fig _ (by omega) (by omega))
      have fin : Q 0 τ := k τ tt e6 e7 (by omega) (by rw [e9, dd.2]; unfold nmQ; rw [show (rnE isDg T n q - q).toNat = k' by omega]) o
      refine b_X3_readDigits_18 ?_
      rw [e8, tt.1]
      refine ⟨rng (by omega) (by omega), rng (by omega) (by omega), fun _ => fin, fun z => ⟨by omega, ?_⟩⟩
      rw [tt.2 _ (by omega) z]
      refine s_isDigit (by have := tp.2 _ (show 0 ≤ q + (k' : Int) by omega) z; omega) ?_
      rw [← btA_eq (T := T) z, ek, s3]
      exact ⟨b01_R, fun _ => fin, fun z => absurd rfl z⟩
    | succ j ih =>
      intro k' τ e e6 e7 e8 e9 o
      have tt := tapeC_off tc o
      have fg := fig (q + k') (by omega) (by omega)
      have dd := dmA_in (T := T) (p := q) k' (fun i hi => fig _ (by omega) (by omega))
      refine b_X3_readDigits_18 ?_
      rw [e8, tt.1]
      refine ⟨rng (by omega) (by omega), rng (by omega) (by omega), fun z => absurd z (by omega), fun z => ⟨by omega, ?_⟩⟩
      rw [tt.2 _ (by omega) z]
      refine s_isDigit (by omega) ?_
      rw [show isDg (T (q + k')) = true by unfold isDg; exact decide_eq_true fg]
      refine ⟨b01_R, fun z => absurd z (by decide), fun _ => ?_⟩
      rw [e8, e9, tt.2 _ (by omega) z]
      refine ⟨by omega, rng (by omega) (by omega), fun σ6 a6 σ7 a7 => ?_⟩
      subst a6; subst a7
      refine ih (k' + 1) _ (by omega) ?_ ?_ ?_ ?_ ?_
      · rw [up_ne (Or.inr (by omega)), up_ne (Or.inr (by omega))]; exact e6
      · rw [up_ne (Or.inr (by omega)), up_ne (Or.inr (by omega))]; exact e7
      · rw [up_at, up_ne (Or.inr (by omega)), e8]; omega
      · rw [up_ne (Or.inr (by omega)), up_at, dvA]
      · exact offA_up (offA_up o (by omega)) (by omega)
  refine c_X3_readDigits (fun σ1 a1 σ2 a2 σ3 a3 => ?_)
  refine key (rnE isDg T n q - q).toNat 0 σ3 (by omega) ?_ ?_ ?_ ?_ ?_
  · rw [a3, a2, a1, up_ne (Or.inr (by omega)), up_ne (Or.inr (by omega)), up_at]
  · rw [a3, a2, a1, up_ne (Or.inr (by omega)), up_ne (Or.inr (by omega)), up_ne (Or.inr (by omega))]; exact e7
  · rw [a3, up_at, a2, a1, up_ne (Or.inr (by omega)), up_ne (Or.inr (by omega)), e7]; omega
  · rw [a3, up_ne (Or.inr (by omega)), a2, up_at, dvA]
  · rw [a3, a2, a1]; exact offA_up (offA_up (offA_up offA_rf (by omega)) (by omega)) (by omega)
theorem s_readWord {q : Int} (tp : TP T n) (q0 : 0 ≤ q ∧ q < n) (hl : isLt (btA T n q) = true) (tc : tapeC σ T n) (e7 : σ 271 7 = q) (e8 : σ 271 8 = q + 1) (k : ∀ σ', tapeC σ' T n → σ' 271 6 = wkA (wpA T q (rnE isLt T n q - q).toNat) → σ' 271 7 = q → σ' 271 8 = rnE isLt T n q → offA σ σ' → Q 0 σ') : Ct mX3_readWord (d + 3 + 1) 9 t [rv 271] σ Q := by
  have t0 := tp.1
  obtain ⟨s1, s2, s3⟩ := rnE_spec (T := T) isLt_1 t0.2 q0.1 (show q ≤ n by omega)
  have let' : ∀ i : Int, q ≤ i → i < rnE isLt T n q → (65 ≤ T i ∧ T i ≤ 122) := fun i a b => by
    have := s2 i a b
    rw [btA_eq (by omega)] at this
    unfold isLt at this
    have := of_decide_eq_true this
    omega
  have hq : q < rnE isLt T n q := by
    rcases Int.lt_or_le q (rnE isLt T n q) with x | x
    · exact x
    · rw [show rnE isLt T n q = q by omega, hl] at s3
      cases s3
  obtain ⟨len, hlen⟩ : ∃ len : Nat, (rnE isLt T n q - q).toNat = len := ⟨_, rfl⟩
  have hb : ∀ i : Nat, i < len → (65 ≤ T (q + i) ∧ T (q + i) ≤ 122) := fun i hi => let' _ (by omega) (by omega)
  have ww := fwA_WD hb
  have words : ∀ (cs : List Int) (i : Nat) (w s : Int) (τ : jM), WD.drop i = cs → i ≤ WD.length → (100 ≤ w ∧ w ≤ 100 + i) → (-1 ≤ s ∧ s ≤ i) → fwA T q len cs w s = wkA (wpA T q len) → τ 271 6 = 2 → τ 271 7 = q → τ 271 8 = rnE isLt T n q → offA σ τ → Jt mX3_readWord (d + 3 + 1) 9 t Q 51 [rv 271, iv w, iv s, iv (i : Int), uv, uv] [] τ := by
    intro cs
    have hN : WD.length = 109 := by decide +kernel
    induction cs with
    | nil =>
      intro i w s τ hd hi hw hs hf a6 a7 a8 o
      have ei : i = 109 := by
        have := List.drop_eq_nil_iff.mp hd
        omega
      refine b_X3_readWord_51 (c_Jlen (d := d + 2) ⟨rng (by omega) (by omega), rng (by omega) (by omega), fun _ => ?_, fun z => absurd z (by omega)⟩)
      refine k τ (tapeC_off tc o) ?_ a7 a8 o
      rw [a6, hlen, ← hf, fwA]
    | cons c cs ih =>
      intro i w s τ hd hi hw hs hf a6 a7 a8 o
      have tt := tapeC_off tc o
      have hlt : i < WD.length := by
        rcases Nat.lt_or_ge i WD.length with x | x
        · exact x
        · rw [List.drop_eq_nil_iff.mpr x] at hd
          cases hd
      have hc : WD.getD i 0 = c := by
        have e := List.drop_eq_getElem_cons hlt
        rw [hd] at e
        have e2 := (List.cons.inj e).1
        rw [List.getD_eq_getElem?_getD, List.getElem?_eq_getElem hlt, e2]
        rfl
      have hd' : WD.drop (i + 1) = cs := by
        have e := List.drop_eq_getElem_cons hlt
        rw [hd] at e
        exact (List.cons.inj e).2.symm
      have hcr : 0 ≤ c ∧ c ≤ 255 := by
        have := (show ∀ x : Fin 109, 0 ≤ WD.getD x.val 0 ∧ WD.getD x.val 0 ≤ 255 by decide +kernel) ⟨i, by omega⟩
        rw [show WD.getD (Fin.val ⟨i, (by omega : i < 109)⟩) 0 = c from hc] at this
        exact this
      have cR : inR c := rng (by omega) (by omega)
      rw [fwA] at hf
      refine b_X3_readWord_51 (c_Jlen (d := d + 2) ⟨rng (by omega) (by omega), rng (by omega) (by omega), fun z => absurd z (by omega), fun z => ?_⟩)
      rw [a6]
      refine ⟨rng (by omega) (by omega), fun z2 => absurd rfl z2, fun _ => ?_⟩
      refine c_Jchr (d := d) (by omega) ?_
      rw [show ((i : Int)).toNat = i from rfl, hc]
      refine ⟨cR, fun z3 => ⟨rng (by omega) (by omega), ?_⟩, fun z3 => ⟨rng (by omega) (by omega), fun z4 => ?_, fun z4 => ?_⟩⟩
      · rw [a8, a7]
        rw [if_pos z3] at hf
        refine ⟨rng (by omega) (by omega), fun z4 => ?_, fun z4 => ?_⟩
        · rw [if_neg (by omega)] at hf
          exact ih (i + 1) (w + 1) 0 τ hd' (by omega) (by omega) (by omega) hf a6 a7 a8 o
        · rw [if_pos (by omega)] at hf
          intro σ9 e9
          have o9 : offA σ σ9 := by rw [e9]; exact offA_up o (by omega)
          have b6 : σ9 271 6 = w := by rw [e9, up_at]
          refine b_X3_readWord_51 (c_Jlen (d := d + 2) ⟨rng (by omega) (by omega), rng (by omega) (by omega), fun _ => ?_, fun _ => ?_⟩)
          · refine k σ9 (tapeC_off tc o9) (by rw [b6, hlen]; exact hf) ?_ ?_ o9
            · rw [e9, up_ne (Or.inr (by omega))]; exact a7
            · rw [e9, up_ne (Or.inr (by omega))]; exact a8
          · rw [b6]
            refine ⟨rng (by omega) (by omega), fun _ => ?_, fun z5 => absurd z5 (by omega)⟩
            refine k σ9 (tapeC_off tc o9) (by rw [b6, hlen]; exact hf) ?_ ?_ o9
            · rw [e9, up_ne (Or.inr (by omega))]; exact a7
            · rw [e9, up_ne (Or.inr (by omega))]; exact a8
      · rw [if_neg z3, if_neg (by omega)] at hf
        exact ⟨fun _ => ih (i + 1) w (-1) τ hd' (by omega) (by omega) (by omega) hf a6 a7 a8 o, fun z => absurd rfl z⟩
      · rw [a8, a7]
        rw [if_neg z3] at hf
        refine ⟨rng (by omega) (by omega), rng (by omega) (by omega), fun z5 => ?_, fun z5 => ⟨by omega, ?_⟩⟩
        · rw [if_neg (by omega)] at hf
          exact ⟨fun _ => ih (i + 1) w (-1) τ hd' (by omega) (by omega) (by omega) hf a6 a7 a8 o, fun z => absurd rfl z⟩
        · rw [tt.2 _ (by omega) (by omega)]
          have lb := let' (q + s) (by omega) (by omega)
          refine ⟨rng (by omega) (by omega), cR, fun z6 => ?_, fun z6 => ?_⟩
          · rw [if_neg (fun y => z6 y.2.2)] at hf
            exact ⟨fun _ => ih (i + 1) w (-1) τ hd' (by omega) (by omega) (by omega) hf a6 a7 a8 o, fun z => absurd rfl z⟩
          · rw [if_pos ⟨by omega, by omega, z6⟩] at hf
            exact ⟨fun z => absurd z (by decide), fun _ => ih (i + 1) w (s + 1) τ hd' (by omega) (by omega) (by omega) hf a6 a7 a8 o⟩
  have key : ∀ (j : Nat) (i : Int) (τ : jM), q < i → i + j = rnE isLt T n q → τ 271 7 = q → τ 271 8 = i → offA σ τ → Jt mX3_readWord (d + 3 + 1) 9 t Q 0 [rv 271, uv, uv, uv, uv, uv] [] τ := by
    intro j
    induction j with
    | zero =>
      intro i τ i0 e a7 a8 o
      have tt := tapeC_off tc o
      have ei : i = rnE isLt T n q := by omega
      have fin : ∀ σ7 : jM, σ7 = up τ 271 6 2 → Jt mX3_readWord (d + 3 + 1) 9 t Q 51 [rv 271, iv 100, iv 0, iv 0, uv, uv] [] σ7 := fun σ7 e7' => by
        refine words WD 0 100 0 σ7 rfl (by omega) (by omega) (by omega) ww ?_ ?_ ?_ ?_
        · rw [e7', up_at]
        · rw [e7', up_ne (Or.inr (by omega))]; exact a7
        · rw [e7', up_ne (Or.inr (by omega)), a8, ei]
        · rw [e7']; exact offA_up o (by omega)
      refine b_X3_readWord_0 ?_
      rw [a8, tt.1]
      refine ⟨rng (by omega) (by omega), rng (by omega) (by omega), fun _ => fin, fun z => ⟨by omega, ?_⟩⟩
      rw [tt.2 _ (by omega) z]
      refine s_isLetter (by have := tp.2 _ (show 0 ≤ i by omega) z; omega) ?_
      rw [← btA_eq (T := T) z, ei, s3]
      exact ⟨b01_R, fun _ => fin, fun z => absurd rfl z⟩
    | succ j ih =>
      intro i τ i0 e a7 a8 o
      have tt := tapeC_off tc o
      have lb := let' i (by omega) (by omega)
      have li := s2 i (by omega) (by omega)
      refine b_X3_readWord_0 ?_
      rw [a8, tt.1]
      refine ⟨rng (by omega) (by omega), rng (by omega) (by omega), fun z => absurd z (by omega), fun z => ⟨by omega, ?_⟩⟩
      rw [tt.2 _ (by omega) z]
      refine s_isLetter (by omega) ?_
      rw [← btA_eq (T := T) z, li]
      refine ⟨b01_R, fun z => absurd z (by decide), fun _ => fun σ6 e6 => ?_⟩
      refine ih (i + 1) σ6 (by omega) (by omega) ?_ ?_ ?_
      · rw [e6, up_ne (Or.inr (by omega))]; exact a7
      · rw [e6, up_at, a8]
      · rw [e6]; exact offA_up o (by omega)
  refine Ct_of (by decide +kernel) (Nat.le_of_ble_eq_true rfl) ?_
  exact key (rnE isLt T n q - (q + 1)).toNat (q + 1) σ (by omega) (by omega) e7 e8 offA_rf
end CA
