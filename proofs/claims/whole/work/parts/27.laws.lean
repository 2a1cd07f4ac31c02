/-! ===== how a law is worked out: the class ===== -/
def LV (x : Int) : Prop := -1000000 ≤ x ∧ x ≤ 1000000
def clipL (x : Int) : Int := if 1000000 < x then 1000000 else if x < -1000000 then -1000000 else x
theorem clipL_LV (x : Int) : LV (clipL x) := by
  unfold clipL LV
  split
  · omega
  · split <;> omega
def cntF (p : Int → Bool) : Nat → Int → Int
  | 0, _ => 0
  | k + 1, i => b01 (p i) + cntF p k (i + 1)
theorem cntF_in (p : Int → Bool) : ∀ (k : Nat) (i : Int), 0 ≤ cntF p k i ∧ cntF p k i ≤ k
  | 0, _ => by simp [cntF]
  | k + 1, i => by
    have h := cntF_in p k (i + 1)
    have b := b01_2 (b := p i)
    rw [cntF]
    omega
def cntR (r : Int → Int) : Int := cntF (fullB r) 8 0
def nmV (r : Int → Int) (c k : Int) : Int := if k = 1 then r 0 else if k = 2 then c else if k = 3 then r (4 + c) else if k = 4 then r (12 + c) else if k = 5 then cntR r else if k = 6 then r (4 + c) % 2 else r 2
theorem nmV_LV {r : Int → Int} {c k : Int} (v : RV r) (hc : 0 ≤ c ∧ c < 8) : LV (nmV r c k) := by
  have g := v.2.2.2.2.1 c hc.1 hc.2
  have v0 := v.1
  have v2 := v.2.2.1
  have n := cntF_in (fullB r) 8 0
  unfold nmV LV cntR
  split
  · omega
  · split
    · omega
    · split
      · omega
      · split
        · omega
        · split
          · omega
          · split <;> omega
def bitsF (p : Int → Bool) : Nat → Int → Int → Int
  | 0, _, acc => acc
  | k + 1, i, acc => bitsF p k (i + 1) (if p i then i_or acc (i_shl 1 i) else acc)
def bitsR (r : Int → Int) : Int := bitsF (fullB r) 8 0 0
def bcF (x : Int) : Int := (i_and (((i_and (((i_and (x - (i_and (i_ushr x 1) 1431655765)) 858993459) + (i_and (i_ushr (x - (i_and (i_ushr x 1) 1431655765)) 2) 858993459)) + (i_ushr ((i_and (x - (i_and (i_ushr x 1) 1431655765)) 858993459) + (i_and (i_ushr (x - (i_and (i_ushr x 1) 1431655765)) 2) 858993459)) 4)) 252645135) + (i_ushr (i_and (((i_and (x - (i_and (i_ushr x 1) 1431655765)) 858993459) + (i_and (i_ushr (x - (i_and (i_ushr x 1) 1431655765)) 2) 858993459)) + (i_ushr ((i_and (x - (i_and (i_ushr x 1) 1431655765)) 858993459) + (i_and (i_ushr (x - (i_and (i_ushr x 1) 1431655765)) 2) 858993459)) 4)) 252645135) 8)) + (i_ushr ((i_and (((i_and (x - (i_and (i_ushr x 1) 1431655765)) 858993459) + (i_and (i_ushr (x - (i_and (i_ushr x 1) 1431655765)) 2) 858993459)) + (i_ushr ((i_and (x - (i_and (i_ushr x 1) 1431655765)) 858993459) + (i_and (i_ushr (x - (i_and (i_ushr x 1) 1431655765)) 2) 858993459)) 4)) 252645135) + (i_ushr (i_and (((i_and (x - (i_and (i_ushr x 1) 1431655765)) 858993459) + (i_and (i_ushr (x - (i_and (i_ushr x 1) 1431655765)) 2) 858993459)) + (i_ushr ((i_and (x - (i_and (i_ushr x 1) 1431655765)) 858993459) + (i_and (i_ushr (x - (i_and (i_ushr x 1) 1431655765)) 2) 858993459)) 4)) 252645135) 8)) 16)) 63)
def bo8 (b0 b1 b2 b3 b4 b5 b6 b7 : Bool) : Int := bitsF (fun i => if i = 0 then b0 else if i = 1 then b1 else if i = 2 then b2 else if i = 3 then b3 else if i = 4 then b4 else if i = 5 then b5 else if i = 6 then b6 else b7) 8 0 0
def cn8 (b0 b1 b2 b3 b4 b5 b6 b7 : Bool) : Int := cntF (fun i => if i = 0 then b0 else if i = 1 then b1 else if i = 2 then b2 else if i = 3 then b3 else if i = 4 then b4 else if i = 5 then b5 else if i = 6 then b6 else b7) 8 0
theorem bits_cnt8 : ∀ b0 b1 b2 b3 b4 b5 b6 b7 : Bool, bcF (bo8 b0 b1 b2 b3 b4 b5 b6 b7) = cn8 b0 b1 b2 b3 b4 b5 b6 b7 := by decide +kernel
theorem bits_cnt (r : Int → Int) : bcF (bitsR r) = cntR r := bits_cnt8 (fullB r 0) (fullB r 1) (fullB r 2) (fullB r 3) (fullB r 4) (fullB r 5) (fullB r 6) (fullB r 7)
/-- one step of a law's code; what it holds at i is 32 * operand + op -/
def cop1 (r : Int → Int) (op x : Int) : Int := if op = 10 then -x else if op = 11 then clipL (2 * x) else if op = 12 then (if 0 ≤ x ∧ x < 8 then r (4 + x) else 0) else 1 - x
def cop2 (op x y : Int) : Int := if op = 14 then clipL (x + y) else if op = 15 then clipL (x - y) else if op = 16 then clipL (x * y) else if op = 17 then (if y = 0 then 0 else Int.tdiv x y) else if op = 18 then b01 (decide (x < y)) else if op = 19 then b01 (decide (x ≤ y)) else if op = 20 then b01 (decide (y < x)) else if op = 21 then b01 (decide (y ≤ x)) else if op = 22 then b01 (decide (x = y)) else if op = 23 then b01 (decide (x ≠ y)) else if op = 24 then (if x = 0 then 0 else y) else (if x = 0 then y else 1)
/-- a relation of the machine: from place i with stack s to place j with stack s' (nothing at or behind 'to' is done) -/
def cstep (r : Int → Int) (c : Int) (cf : Int → Int) (to i : Int) (s : List Int) (i' : Int) (s' : List Int) : Prop :=
  0 ≤ i ∧ i < to ∧ ∃ op x : Int, cf i = 32 * x + op ∧ 0 ≤ op ∧ op ≤ 25 ∧ 0 ≤ x ∧ x ≤ 10000 ∧
    ((op < 8 ∧ s.length < 64 ∧ i' = i + 1 ∧ s' = (if op = 0 then x else nmV r c op) :: s) ∨
     (op = 8 ∧ i' = max i (x - 1) + 1 ∧ s' = s) ∨
     (op = 9 ∧ ∃ v s0, s = v :: s0 ∧ s' = s0 ∧ i' = (if v = 0 then max i (x - 1) else i) + 1) ∨
     (10 ≤ op ∧ op ≤ 13 ∧ ∃ v s0, s = v :: s0 ∧ (op = 13 → v = 0 ∨ v = 1) ∧ s' = cop1 r op v :: s0 ∧ i' = i + 1) ∨
     (14 ≤ op ∧ ∃ v u s0, s = v :: u :: s0 ∧ (24 ≤ op → (v = 0 ∨ v = 1) ∧ (u = 0 ∨ u = 1)) ∧ s' = cop2 op u v :: s0 ∧ i' = i + 1))
def cruns (r : Int → Int) (c : Int) (cf : Int → Int) (to : Int) : Nat → Int → List Int → Int → List Int → Prop
  | 0, i, s, j, s' => i = j ∧ s = s'
  | n + 1, i, s, j, s' => ∃ i1 s1, cstep r c cf to i s i1 s1 ∧ cruns r c cf to n i1 s1 j s'
theorem LV_R {x : Int} (h : LV x) : inR x := ⟨by have := h.1; omega, by have := h.2; omega⟩
theorem LV_L {x : Int} (h : LV x) : inL x := ⟨by have := h.1; omega, by have := h.2; omega⟩
theorem b01_LV {b : Bool} : LV (b01 b) := by cases b <;> exact ⟨by decide, by decide⟩
theorem tdiv_LV {x y : Int} (h : LV x) : LV (Int.tdiv x y) := by
  have h1 := h.1
  have h2 := h.2
  have e : (Int.tdiv x y).natAbs ≤ x.natAbs := by
    rw [Int.natAbs_tdiv]
    exact Nat.div_le_self _ _
  exact ⟨by omega, by omega⟩
theorem cop1_LV {r : Int → Int} {op x : Int} (v : RV r) (h : LV x) (h13 : op = 13 → x = 0 ∨ x = 1) (ho : 10 ≤ op ∧ op ≤ 13) : LV (cop1 r op x) := by
  have h1 := h.1
  have h2 := h.2
  unfold cop1
  split
  · exact ⟨by omega, by omega⟩
  · split
    · exact clipL_LV _
    · split
      · split
        · rename_i q
          have := v.2.2.2.2.1 x q.1 q.2
          exact ⟨by omega, by omega⟩
        · exact ⟨by decide, by decide⟩
      · rcases h13 (by omega) with rfl | rfl <;> exact ⟨by decide, by decide⟩
theorem cop2_LV {op x y : Int} (hx : LV x) (hy : LV y) (h24 : 24 ≤ op → (y = 0 ∨ y = 1) ∧ (x = 0 ∨ x = 1)) : LV (cop2 op x y) := by
  unfold cop2
  split
  · exact clipL_LV _
  · split
    · exact clipL_LV _
    · split
      · exact clipL_LV _
      · split
        · split
          · exact ⟨by decide, by decide⟩
          · exact tdiv_LV hx
        · split
          · exact b01_LV
          · split
            · exact b01_LV
            · split
              · exact b01_LV
              · split
                · exact b01_LV
                · split
                  · exact b01_LV
                  · split
                    · exact b01_LV
                    · split
                      · split
                        · exact ⟨by decide, by decide⟩
                        · exact hy
                      · split
                        · exact hy
                        · exact ⟨by decide, by decide⟩
/-- the stack's numbers as the Laws' row holds them, the top first -/
def stk (τ : jM) : List Int → Prop
  | [] => True
  | x :: s => τ 274 (s.length : Int) = x ∧ LV x ∧ stk τ s
theorem stk_up {τ : jM} {k v : Int} : ∀ (s : List Int), stk τ s → (s.length : Int) ≤ k → stk (up τ 274 k v) s
  | [], _, _ => trivial
  | x :: s, h, hk => by
    have hl : ((x :: s).length : Int) = (s.length : Int) + 1 := by simp
    rw [hl] at hk
    exact ⟨by rw [up_ne (Or.inr (by omega))]; exact h.1, h.2.1, stk_up s h.2.2 (by omega)⟩
theorem stk_same {τ τ' : jM} (e : τ' 274 = τ 274) : ∀ (s : List Int), stk τ s → stk τ' s
  | [], _ => trivial
  | _ :: s, h => ⟨by rw [e]; exact h.1, h.2.1, stk_same e s h.2.2⟩
theorem bit_op {op x : Int} (h1 : 0 ≤ op ∧ op < 32) (hx : 0 ≤ x ∧ x ≤ 10000) : i_and (32 * x + op) 31 = op ∧ i_shr (32 * x + op) 5 = x := by
  obtain ⟨n, hn⟩ : ∃ n : Nat, 32 * x + op = (n : Int) := ⟨(32 * x + op).toNat, by omega⟩
  have hb : n < 2 ^ 31 := by omega
  have e1 : Int32.ofInt (32 * x + op) = nI n := by rw [hn]; exact Int32.ofInt_eq_ofNat
  constructor
  · unfold i_and
    rw [e1, pk_andN (by omega) (m := Int32.ofInt 31) 5 (by decide +kernel), nI_toInt (by omega)]
    omega
  · unfold i_shr
    rw [e1, pk_shrN hb (Int32.ofInt 5 &&& 31) 5 (by decide +kernel), nI_toInt (by omega)]
    omega
section LS
variable {d : Nat} {t : Int} {Q : Int → jM → Prop} {σ : jM} {h : Int} {r : Int → Int}
theorem h_fullBits (h0 : ob (GG t) h 1) (q : HR σ h r) (v : RV r) (k : Q (bitsR r) σ) : Ct mX1_fullBits d 0 t [rv h] σ Q := by
  refine c_X1_fullBits h0 ?_
  have key : ∀ (j : Nat) (i acc : Int), 0 ≤ i → i + j = 8 → Q (bitsF (fullB r) j i acc) σ → Jt mX1_fullBits (d) 0 t Q 4 [rv h, iv acc, iv i] [] σ := by
    intro j
    induction j with
    | zero =>
      intro i acc h1 h2 k
      exact b_X1_fullBits_4 h0 ⟨rng (by omega) (by omega), fun _ => k, fun z => absurd z (by omega)⟩
    | succ j ih =>
      intro i acc h1 h2 k
      rw [bitsF] at k
      have e := (q.2.2.2.2.2.1 i h1 (by omega)).1
      have rg := v.2.2.2.2.1 i h1 (by omega)
      refine b_X1_fullBits_4 h0 ⟨rng (by omega) (by omega), fun z => absurd z (by omega), fun z => ⟨⟨h1, z⟩, ?_⟩⟩
      rw [e]
      refine ⟨rng (by omega) (by omega), fun x => ?_, fun x => ?_⟩
      · rw [fullB_no (by omega)] at k
        exact ih (i + 1) acc (by omega) (by omega) k
      · rw [fullB_of h1 z x] at k
        exact ih (i + 1) _ (by omega) (by omega) k
  exact key 8 0 0 (by omega) (by omega) k
theorem h_within {x : Int} (hx : inL x) (k : Q (clipL x) σ) : Ct mX2_within d 0 t [jv x] σ Q := by
  unfold clipL at k
  refine c_X2_within ⟨hx, fun z => ⟨hx, fun y => ?_, fun y => ?_⟩, fun z => ?_⟩
  · rw [if_neg (by omega), if_neg (by omega)] at k; exact k
  · rw [if_neg (by omega), if_pos y] at k; exact k
  · rw [if_pos z] at k; exact k
theorem h_named {c op : Int} (h0 : ob (GG t) h 1) (q : HR σ h r) (v : RV r) (hh : h ≤ 269) (hc : 0 ≤ c ∧ c < 8) (ho : 1 ≤ op ∧ op ≤ 7) (hf : σ 273 1 = -1 ∨ σ 273 1 = cntR r) (k : ∀ σ', (∀ a, a ≠ 273 → σ' a = σ a) → (σ' 273 1 = -1 ∨ σ' 273 1 = cntR r) → Q (nmV r c op) σ') : Ct mX2_named (d + 1) 0 t [rv 273, iv op, rv h, iv c] σ Q := by
  have g := v.2.2.2.2.1 c hc.1 hc.2
  have nn := cntF_in (fullB r) 8 0
  have nn : 0 ≤ cntR r ∧ cntR r ≤ 8 := nn
  have e4 := (q.2.2.2.2.2.1 c hc.1 hc.2)
  have k' := k σ (fun _ _ => rfl) hf
  have qn : nmV r c op = if op = 1 then r 0 else if op = 2 then c else if op = 3 then r (4 + c) else if op = 4 then r (12 + c) else if op = 5 then cntR r else if op = 6 then r (4 + c) % 2 else r 2 := rfl
  refine c_X2_named h0 ?_
  rw [q.1, q.2.2.1, e4.1, e4.2]
  refine ⟨rng (by omega) (by omega), fun z => ?_, fun z => ?_, fun z => ?_, fun z => ⟨hc, ?_⟩, fun z => ⟨hc, ?_⟩, fun z => ⟨?_, fun y σ3 e3 => ?_, fun y => ?_⟩, fun z => ⟨hc, rng (by omega) (by omega), ?_⟩⟩
  · rw [qn, if_neg (by omega), if_neg (by omega), if_neg (by omega), if_neg (by omega), if_neg (by omega), if_neg (by omega)] at k'; exact k'
  · rw [qn, if_pos z] at k'; exact k'
  · rw [qn, if_neg (by omega), if_pos z] at k'; exact k'
  · rw [qn, if_neg (by omega), if_neg (by omega), if_pos z] at k'; exact k'
  · rw [qn, if_neg (by omega), if_neg (by omega), if_neg (by omega), if_pos z] at k'; exact k'
  · rcases hf with e | e <;> rw [e] <;> exact rng (by omega) (by omega)
  · have ec : σ 273 1 = cntR r := by
      rcases hf with e | e
      · exact absurd e y
      · exact e
    have c3 : σ3 273 1 = cntR r := by rw [e3, up_at]; exact ec
    have kk := k σ3 (fun a ha => by rw [e3, up_row ha]) (Or.inr c3)
    rw [qn, if_neg (by omega), if_neg (by omega), if_neg (by omega), if_neg (by omega), if_pos z] at kk
    rw [c3]
    exact kk
  · refine h_fullBits h0 q v ?_
    refine c_J6_bitCount_0f7a4 (fun σ6 e6 => ?_)
    have c6 : σ6 273 1 = cntR r := by rw [e6, up_at]; exact bits_cnt r
    have kk := k σ6 (fun a ha => by rw [e6, up_row ha]) (Or.inr c6)
    rw [qn, if_neg (by omega), if_neg (by omega), if_neg (by omega), if_neg (by omega), if_pos z] at kk
    rw [c6]
    exact kk
  · rw [qn, if_neg (by omega), if_neg (by omega), if_neg (by omega), if_neg (by omega), if_neg (by omega), if_pos z] at k'
    rw [tm (by omega)]
    exact k'
theorem h_ofOne {op x : Int} (h0 : ob (GG t) h 1) (q : HR σ h r) (v : RV r) (ho : 10 ≤ op ∧ op ≤ 13) (hx : LV x) (k : Q (cop1 r op x) σ) : Ct mX2_ofOne (d + 1) 0 t [iv op, iv x, rv h] σ Q := by
  have h1 := hx.1
  have h2 := hx.2
  unfold cop1 at k
  refine c_X2_ofOne h0 ⟨rng (by omega) (by omega), fun z => ?_, fun z => ?_, fun z => ⟨LV_R hx, h_within (rngL (by omega) (by omega)) ?_⟩, fun z => ⟨LV_R hx, fun y => ?_, fun y => ⟨LV_R hx, fun w => ?_, fun w => ⟨⟨y, w⟩, ?_⟩⟩⟩⟩
  · rw [if_neg (by omega), if_neg (by omega), if_neg (by omega)] at k; exact k
  · rw [if_pos z] at k; exact k
  · rw [if_neg (by omega), if_pos z] at k; exact k
  · rw [if_neg (by omega), if_neg (by omega), if_pos z, if_neg (by omega)] at k; exact k
  · rw [if_neg (by omega), if_neg (by omega), if_pos z, if_neg (by omega)] at k; exact k
  · rw [if_neg (by omega), if_neg (by omega), if_pos z, if_pos ⟨y, w⟩] at k
    rw [(q.2.2.2.2.2.1 x y w).1]
    exact k
theorem h_holdsOf {op x y : Int} (ho : 18 ≤ op ∧ op ≤ 23) (hx : LV x) (hy : LV y) (k : Q (cop2 op x y) σ) : Ct mX2_holdsOf d 0 t [iv op, iv x, iv y] σ Q := by
  unfold cop2 at k
  rw [if_neg (by omega), if_neg (by omega), if_neg (by omega), if_neg (by omega)] at k
  refine c_X2_holdsOf ⟨rng (by omega) (by omega), fun z => ⟨LV_R hx, LV_R hy, fun w => ?_, fun w => ?_⟩, fun z => ⟨LV_R hx, LV_R hy, fun w => ?_, fun w => ?_⟩, fun z => ⟨LV_R hx, LV_R hy, fun w => ?_, fun w => ?_⟩, fun z => ⟨LV_R hx, LV_R hy, fun w => ?_, fun w => ?_⟩, fun z => ⟨LV_R hx, LV_R hy, fun w => ?_, fun w => ?_⟩, fun z => ⟨LV_R hx, LV_R hy, fun w => ?_, fun w => ?_⟩⟩
  · rw [if_neg (by omega), if_neg (by omega), if_neg (by omega), if_neg (by omega), if_neg (by omega), if_pos (by omega), decide_eq_false (by simpa using w)] at k; exact k
  · rw [if_neg (by omega), if_neg (by omega), if_neg (by omega), if_neg (by omega), if_neg (by omega), if_pos (by omega), decide_eq_true (by simpa using w)] at k; exact k
  · rw [if_pos z, decide_eq_false (by omega)] at k; exact k
  · rw [if_pos z, decide_eq_true (by omega)] at k; exact k
  · rw [if_neg (by omega), if_pos z, decide_eq_false (by omega)] at k; exact k
  · rw [if_neg (by omega), if_pos z, decide_eq_true (by omega)] at k; exact k
  · rw [if_neg (by omega), if_neg (by omega), if_pos z, decide_eq_false (by omega)] at k; exact k
  · rw [if_neg (by omega), if_neg (by omega), if_pos z, decide_eq_true (by omega)] at k; exact k
  · rw [if_neg (by omega), if_neg (by omega), if_neg (by omega), if_pos z, decide_eq_false (by omega)] at k; exact k
  · rw [if_neg (by omega), if_neg (by omega), if_neg (by omega), if_pos z, decide_eq_true (by omega)] at k; exact k
  · rw [if_neg (by omega), if_neg (by omega), if_neg (by omega), if_neg (by omega), if_pos z, decide_eq_false (by omega)] at k; exact k
  · rw [if_neg (by omega), if_neg (by omega), if_neg (by omega), if_neg (by omega), if_pos z, decide_eq_true (by omega)] at k; exact k
theorem cop2_cmp {op x y : Int} (ho : 18 ≤ op ∧ op ≤ 23) : cop2 op x y = 0 ∨ cop2 op x y = 1 := by
  unfold cop2
  rw [if_neg (by omega), if_neg (by omega), if_neg (by omega), if_neg (by omega)]
  split
  · exact b01_2
  · split
    · exact b01_2
    · split
      · exact b01_2
      · split
        · exact b01_2
        · split
          · exact b01_2
          · rw [if_pos (by omega)]
            exact b01_2
theorem bit01 : ∀ x y : Int, (x = 0 ∨ x = 1) → (y = 0 ∨ y = 1) → i_and x y = (if x = 0 then 0 else y) ∧ i_or x y = (if x = 0 then y else 1) := by
  intro x y hx hy
  rcases hx with rfl | rfl <;> rcases hy with rfl | rfl <;> decide +kernel
theorem h_ofTwo {op x y : Int} (ho : 14 ≤ op ∧ op ≤ 25) (hx : LV x) (hy : LV y) (h24 : 24 ≤ op → (y = 0 ∨ y = 1) ∧ (x = 0 ∨ x = 1)) (k : Q (cop2 op x y) σ) : Ct mX2_ofTwo (d + 1) 0 t [iv op, iv x, iv y] σ Q := by
  have x1 := hx.1
  have x2 := hx.2
  have y1 := hy.1
  have y2 := hy.2
  have cmp : 18 ≤ op ∧ op ≤ 23 → Ct mX2_holdsOf d 0 t [iv op, iv x, iv y] σ (fun r2 σ2 => ((inR r2) ∧ ((r2 = 0 → (Q 0 σ2)) ∧ (¬ r2 = 0 → (Q 1 σ2))))) := by
    intro hc
    have e := cop2_cmp (x := x) (y := y) hc
    refine h_holdsOf hc hx hy ⟨by rcases e with e | e <;> rw [e] <;> exact ⟨by decide, by decide⟩, fun z => ?_, fun z => ?_⟩
    · rw [z] at k; exact k
    · rcases e with e | e
      · exact absurd e z
      · rw [e] at k; exact k
  have mb : LV x → LV y → inL (x * y) := by
    intro _ _
    have a1 : (x * y).natAbs ≤ 1000000 * 1000000 := by
      rw [Int.natAbs_mul]
      exact Nat.mul_le_mul (by omega) (by omega)
    exact ⟨by omega, by omega⟩
  refine c_X2_ofTwo ⟨rng (by omega) (by omega), fun z => absurd z (by omega), fun z => ⟨LV_R hx, LV_R hy, h_within (rngL (by omega) (by omega)) ?_⟩, fun z => ⟨LV_R hx, LV_R hy, h_within (rngL (by omega) (by omega)) ?_⟩, fun z => ⟨LV_R hx, LV_R hy, h_within (mb hx hy) ?_⟩, fun z => ⟨LV_R hy, fun w => ⟨LV_R hx, LV_R hy, w, ?_⟩, fun w => ?_⟩, fun z => cmp (by omega), fun z => cmp (by omega), fun z => cmp (by omega), fun z => cmp (by omega), fun z => cmp (by omega), fun z => cmp (by omega), fun z => ?_, fun z => ?_⟩
  · unfold cop2 at k; rw [if_pos z] at k; exact k
  · unfold cop2 at k; rw [if_neg (by omega), if_pos z] at k; exact k
  · unfold cop2 at k; rw [if_neg (by omega), if_neg (by omega), if_pos z] at k; exact k
  · unfold cop2 at k; rw [if_neg (by omega), if_neg (by omega), if_neg (by omega), if_pos z, if_neg w] at k; exact k
  · unfold cop2 at k; rw [if_neg (by omega), if_neg (by omega), if_neg (by omega), if_pos z, if_pos w] at k; exact k
  · have b := h24 (by omega)
    rw [(bit01 x y b.2 b.1).1]
    unfold cop2 at k; rw [if_neg (by omega), if_neg (by omega), if_neg (by omega), if_neg (by omega), if_neg (by omega), if_neg (by omega), if_neg (by omega), if_neg (by omega), if_neg (by omega), if_neg (by omega), if_pos z] at k; exact k
  · have b := h24 (by omega)
    rw [(bit01 x y b.2 b.1).2]
    unfold cop2 at k; rw [if_neg (by omega), if_neg (by omega), if_neg (by omega), if_neg (by omega), if_neg (by omega), if_neg (by omega), if_neg (by omega), if_neg (by omega), if_neg (by omega), if_neg (by omega), if_neg (by omega)] at k; exact k
end LS
