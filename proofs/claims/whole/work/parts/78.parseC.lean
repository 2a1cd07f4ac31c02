/-! ===== the class reads a sum: its pieces ===== -/
theorem i_add5 {x b : Int} (x0 : 0 ≤ x ∧ x ≤ 10000) (b0 : 0 ≤ b ∧ b < 32) : i_or (i_shl x 5) b = 32 * x + b := by
  refine tc_ext ⟨Int32.le_toInt _, Int32.toInt_lt _⟩ ⟨by omega, by omega⟩ (fun i hi => ?_)
  rw [tc_or, show (5 : Int) = ((5 : Nat) : Int) from rfl, tc_shl (by omega), tc_nat (i := i) (x := 32 * x + b) (by omega) (by omega), tc_nat (i := i) b0.1 (by omega), tc_nat (x := x) x0.1 (by omega)]
  have e : (32 * x + b).toNat = 2 ^ 5 * x.toNat + b.toNat := by omega
  rw [e, Nat.testBit_two_pow_mul_add _ (by omega)]
  by_cases h : i < 5
  · simp [h]
  · have hb : b.toNat.testBit i = false := Nat.testBit_lt_two_pow (Nat.lt_of_lt_of_le (show b.toNat < 2 ^ 5 by omega) (Nat.pow_le_pow_right (by omega) (by omega)))
    simp [h, hb, hi]
theorem pl_in {T : Int → Int} {n p : Int} (tp : TP T n) (p0 : 0 ≤ p ∧ p ≤ n) : p ≤ plT T n p ∧ plT T n p ≤ n := (rnE_spec (T := T) isSp_1 tp.1.2 p0.1 p0.2).1
theorem nxQ_in {T : Int → Int} {n q : Int} (tp : TP T n) (q0 : 0 ≤ q ∧ q ≤ n) : (q ≤ nxQ T n q ∧ nxQ T n q ≤ n) ∧ (kdQ T n q ≠ 0 → q < nxQ T n q ∧ q < n) := by
  have b := btA_in (k := q) tp q0.1
  by_cases h0 : btA T n q < 0
  · unfold nxQ kdQ
    rw [if_pos h0, if_pos h0]
    exact ⟨by omega, fun z => absurd rfl z⟩
  · have hq := btA_lt (T := T) (n := n) (k := q) (by omega)
    have fin : (q < nxQ T n q ∧ nxQ T n q ≤ n) := by
      unfold nxQ
      rw [if_neg h0]
      split
      · rename_i h1
        obtain ⟨s1, s2, s3⟩ := rnE_spec (T := T) isDg_1 tp.1.2 q0.1 q0.2
        refine ⟨?_, s1.2⟩
        rcases Int.lt_or_le q (rnE isDg T n q) with x | x
        · exact x
        · rw [show rnE isDg T n q = q by omega, h1] at s3
          cases s3
      · split
        · rename_i h1
          obtain ⟨s1, s2, s3⟩ := rnE_spec (T := T) isLt_1 tp.1.2 q0.1 q0.2
          refine ⟨?_, s1.2⟩
          rcases Int.lt_or_le q (rnE isLt T n q) with x | x
          · exact x
          · rw [show rnE isLt T n q = q by omega, h1] at s3
            cases s3
        · split
          · rename_i h2
            have := btA_lt (T := T) (n := n) (k := q + 1) (by omega)
            omega
          · omega
    exact ⟨by omega, fun _ => by omega⟩
theorem nx_in {T : Int → Int} {n p : Int} (tp : TP T n) (p0 : 0 ≤ p ∧ p ≤ n) : (0 ≤ nxT T n p ∧ p ≤ nxT T n p ∧ nxT T n p ≤ n) ∧ (kT T n p ≠ 0 → p < nxT T n p ∧ p < n) := by
  have a := pl_in tp p0
  have b := nxQ_in (q := plT T n p) tp ⟨by omega, a.2⟩
  unfold nxT kT
  exact ⟨by omega, fun z => by have := b.2 z; omega⟩
theorem kT_in {T : Int → Int} {n p : Int} (tp : TP T n) (p0 : 0 ≤ p ∧ p ≤ n) : 0 ≤ kT T n p ∧ kT T n p ≤ 255 := by
  have a := pl_in tp p0
  have b := btA_in (k := plT T n p) tp (by omega)
  have w := wkA_in (v := wpA T (plT T n p) (rnE isLt T n (plT T n p) - plT T n p).toNat)
  unfold kT kdQ
  split
  · omega
  · split
    · omega
    · split
      · omega
      · split
        · split <;> omega
        · split <;> omega
/-- the class at p, its code c long, b at most -/
def CSb (T : Int → Int) (n t l b : Int) (σ : jM) (p c : Int) : Prop := CT σ T n p ∧ (0 ≤ p ∧ p ≤ n) ∧ σ t 7 = c ∧ (0 ≤ c ∧ c ≤ b) ∧ σ 271 5 = l
abbrev CSt (T : Int → Int) (n t l : Int) (σ : jM) (p c : Int) : Prop := CSb T n t l p σ p c
def FrG (t c : Int) (σ σ' : jM) : Prop := (∀ x, x ≠ 271 → x ≠ t → x ≠ t + 4 → σ' x = σ x) ∧ (∀ j, (j < 6 ∨ 9 < j) → σ' 271 j = σ 271 j) ∧ (∀ j, j ≠ 7 → σ' t j = σ t j) ∧ (∀ i, i < c → σ' (t + 4) i = σ (t + 4) i)
def FrB (t c : Int) (σ σ' : jM) : Prop := (∀ x, x ≠ 271 → x ≠ t → x ≠ t + 4 → σ' x = σ x) ∧ (∀ j, (j < 2 ∨ (4 ≤ j ∧ j < 6) ∨ 9 < j) → σ' 271 j = σ 271 j) ∧ (∀ j, j ≠ 7 → σ' t j = σ t j) ∧ (∀ i, i < c → σ' (t + 4) i = σ (t + 4) i)
theorem FrG_tr {t c c1 : Int} {σ σ1 σ2 : jM} (a : FrG t c σ σ1) (hc : c ≤ c1) (b : FrG t c1 σ1 σ2) : FrG t c σ σ2 := ⟨fun x h1 h2 h3 => (b.1 x h1 h2 h3).trans (a.1 x h1 h2 h3), fun j hj => (b.2.1 j hj).trans (a.2.1 j hj), fun j hj => (b.2.2.1 j hj).trans (a.2.2.1 j hj), fun i hi => (b.2.2.2 i (by omega)).trans (a.2.2.2 i hi)⟩
theorem FrB_tr {t c c1 : Int} {σ σ1 σ2 : jM} (a : FrG t c σ σ1) (hc : c ≤ c1) (b : FrB t c1 σ1 σ2) : FrB t c σ σ2 := ⟨fun x h1 h2 h3 => (b.1 x h1 h2 h3).trans (a.1 x h1 h2 h3), fun j hj => (b.2.1 j hj).trans (a.2.1 j (by omega)), fun j hj => (b.2.2.1 j hj).trans (a.2.2.1 j hj), fun i hi => (b.2.2.2 i (by omega)).trans (a.2.2.2 i hi)⟩
theorem FrG_A {t c : Int} {σ σ1 : jM} (ht : 293 ≤ t) (a : offA σ σ1) : FrG t c σ σ1 := ⟨fun x h1 _ _ => a.1 x h1, fun j hj => a.2 j hj, fun j _ => by rw [a.1 t (by omega)], fun i _ => by rw [a.1 (t + 4) (by omega)]⟩
/-- a reading of the class that comes to a good end at q with f (K: how much may wait); that finds a fault -/
def CGd (T : Int → Int) (n t l : Int) (m : jT) (D : Nat) (As : List jV) (p q K : Int) (f : DT) : Prop := ∀ (D' : Nat) (Q : Int → jM → Prop) (σ : jM) (c : Int), D ≤ D' → CSt T n t l σ p c → (∀ σ' c', CSt T n t l σ' q c' → c < c' → c' - c ≤ q - p → FrG t c σ σ' → GC (σ' (t + 4)) c c' K f → Q 1 σ') → Ct m D' 0 t As σ Q
def CBd (T : Int → Int) (n t l : Int) (m : jT) (D : Nat) (As : List jV) (p kind pl : Int) : Prop := ∀ (D' : Nat) (Q : Int → jM → Prop) (σ : jM) (c : Int), D ≤ D' → CSt T n t l σ p c → (∀ σ', FrB t c σ σ' → σ' 271 2 = kind → σ' 271 3 = pl → Q 0 σ') → Ct m D' 0 t As σ Q
section PC
variable {t : Int} {Q : Int → jM → Prop} {σ : jM} {T : Int → Int} {n l p c b : Int}
theorem s_failed {d : Nat} {kind : Int} (ht : 293 ≤ t) (s : CSb T n t l b σ p c) (k : ∀ σ', FrB t c σ σ' → σ' 271 2 = kind → σ' 271 3 = plT T n p → Q 0 σ') : Ct mX3_failed d 0 t [rv 271, iv kind] σ Q := by
  refine c_X3_failed (fun σ1 e1 σ2 e2 => ?_)
  have e7 : σ 271 7 = plT T n p := s.1.2.2.1
  refine k σ2 ⟨fun x h1 h2 h3 => ?_, fun j hj => ?_, fun j _ => ?_, fun i _ => ?_⟩ ?_ ?_
  · rw [e2, e1, up_row h1, up_row h1]
  · rw [e2, e1, up_ne (Or.inr (by omega)), up_ne (Or.inr (by omega))]
  · rw [e2, e1, up_row (by omega), up_row (by omega)]
  · rw [e2, e1, up_row (by omega), up_row (by omega)]
  · rw [e2, e1, up_ne (Or.inr (by omega)), up_at]
  · rw [e2, up_at, e1, up_ne (Or.inr (by omega)), e7]
theorem s_advB {d : Nat} (hd : 5 ≤ d) (ht : 293 ≤ t) (tp : TP T n) (s : CSb T n t l b σ p c) (hb : b ≤ nxT T n p) (k : ∀ σ', CSt T n t l σ' (nxT T n p) c → FrG t c σ σ' → offA σ σ' → Q 0 σ') : Ct mX3_advance d 9 t [rv 271] σ Q := by
  obtain ⟨s1, s2, s3, s4, s5⟩ := s
  have a := nx_in tp s2
  refine Ct_le (s_advance (d := 0) (p := nxT T n p) tp (by omega) s1.1 s1.2.2.2.1 (fun σ' ct o => ?_)) (by omega)
  refine k σ' ⟨ct, by omega, ?_, by omega, ?_⟩ (FrG_A ht o) o
  · rw [o.1 t (by omega)]; exact s3
  · rw [o.2 5 (by omega)]; exact s5
theorem s_adv {d : Nat} (hd : 5 ≤ d) (ht : 293 ≤ t) (tp : TP T n) (s : CSt T n t l σ p c) (k : ∀ σ', CSt T n t l σ' (nxT T n p) c → FrG t c σ σ' → offA σ σ' → Q 0 σ') : Ct mX3_advance d 9 t [rv 271] σ Q := s_advB hd ht tp s (nx_in tp s.2.1).1.2.1 k
theorem s_addCode {d : Nat} {op x : Int} (h0 : ob (GG t) t 8) (ht : 293 ≤ t) (s : CSb T n t l b σ p c) (c3 : c < 300) (o0 : 0 ≤ op ∧ op < 32) (x0 : 0 ≤ x ∧ x ≤ 10000) (k : ∀ σ', (∀ y, y ≠ t → y ≠ t + 4 → σ' y = σ y) → σ' t 7 = c + 1 → (∀ j, j ≠ 7 → σ' t j = σ t j) → σ' (t + 4) c = 32 * x + op → (∀ i, i ≠ c → σ' (t + 4) i = σ (t + 4) i) → Q 0 σ') : Ct mX8_addCode d 9 t [rv t, iv op, iv x] σ Q := by
  obtain ⟨s1, s2, s3, s4, s5⟩ := s
  refine c_X8_addCode h0 ?_
  rw [s3]
  refine ⟨rng (by omega) (by omega), fun z => absurd z (by omega), fun _ => ⟨by omega, fun σ3 e3 σ4 e4 => ?_⟩⟩
  have g7 : σ3 t 7 = c := by rw [e3, up_row (by omega)]; exact s3
  refine k σ4 (fun y h1 h2 => ?_) ?_ (fun j hj => ?_) ?_ (fun i hi => ?_)
  · rw [e4, e3, up_row h1, up_row h2]
  · rw [e4, up_at, g7]
  · rw [e4, e3, up_ne (Or.inr hj), up_row (by omega)]
  · rw [e4, e3, up_row (by omega), up_at]; exact i_add5 x0 o0
  · rw [e4, e3, up_row (by omega), up_ne (Or.inr hi)]
/-- the class's state and what stays, after one step of code -/
theorem CSt_add {q c0 b' : Int} {σ σ' : jM} (ht : 293 ≤ t) (s : CSb T n t l b σ q c) (h0 : c0 ≤ c) (hc : c + 1 ≤ b') (f1 : ∀ y, y ≠ t → y ≠ t + 4 → σ' y = σ y) (f2 : σ' t 7 = c + 1) (f3 : ∀ j, j ≠ 7 → σ' t j = σ t j) (f5 : ∀ i, i ≠ c → σ' (t + 4) i = σ (t + 4) i) : CSb T n t l b' σ' q (c + 1) ∧ FrG t c0 σ σ' := by
  obtain ⟨s1, s2, s3, s4, s5⟩ := s
  have e271 : σ' 271 = σ 271 := f1 271 (by omega) (by omega)
  have e272 : σ' 272 = σ 272 := f1 272 (by omega) (by omega)
  refine ⟨⟨?_, s2, f2, by omega, by rw [e271]; exact s5⟩, fun x _ h2 h3 => f1 x h2 h3, fun j _ => by rw [e271], f3, fun i hi => f5 i (by omega)⟩
  unfold CT CQ tapeC at s1 ⊢
  rw [e271, e272]
  exact s1
theorem c_take {due : Int} (ht : 293 ≤ t) (tp : TP T n) (dr : inR due) {D' : Nat} (hD : 6 ≤ D') (s : CSt T n t l σ p c) (good : kT T n p = due → ∀ σ', CSt T n t l σ' (nxT T n p) c → FrG t c σ σ' → Q 1 σ') (bad : kT T n p ≠ due → ∀ σ', FrB t c σ σ' → σ' 271 2 = 1 → σ' 271 3 = plT T n p → Q 0 σ') : Ct mX3_take D' 0 t [rv 271, iv due] σ Q := by
  obtain ⟨d, rfl⟩ : ∃ d, D' = d + 1 := ⟨D' - 1, by omega⟩
  have e6 : σ 271 6 = kT T n p := s.1.2.1
  have kk := kT_in tp s.2.1
  refine c_X3_take ?_
  rw [e6]
  refine ⟨rng (by omega) (by omega), dr, fun z => s_adv (by omega) ht tp s (fun σ' s' f _ => good z σ' s' f), fun z => s_failed ht s (fun σ' f a b => ⟨Or.inl rfl, bad z σ' f a b⟩)⟩
theorem c_takeNumber {lo hi : Int} (ht : 293 ≤ t) (tp : TP T n) (lr : inR lo) (hr : inR hi) (h9 : hi < 10000) {D' : Nat} (hD : 6 ≤ D') (s : CSb T n t l b σ p c) (hb : kT T n p = 1 → b ≤ nxT T n p) (good : kT T n p = 1 → lo ≤ nmT T n p → nmT T n p ≤ hi → ∀ σ', CSt T n t l σ' (nxT T n p) c → FrG t c σ σ' → Q 1 σ') (bad2 : kT T n p = 1 → (nmT T n p < lo ∨ hi < nmT T n p) → ∀ σ', FrB t c σ σ' → σ' 271 2 = 2 → σ' 271 3 = plT T n p → Q 0 σ') (bad1 : kT T n p ≠ 1 → ∀ σ', FrB t c σ σ' → σ' 271 2 = 1 → σ' 271 3 = plT T n p → Q 0 σ') (lo9 : lo < 10000) : Ct mX3_takeNumber D' 0 t [rv 271, iv lo, iv hi] σ Q := by
  obtain ⟨d, rfl⟩ : ∃ d, D' = d + 1 := ⟨D' - 1, by omega⟩
  have e6 : σ 271 6 = kT T n p := s.1.2.1
  have kk := kT_in tp s.2.1
  refine c_X3_takeNumber ?_
  rw [e6]
  refine ⟨rng (by omega) (by omega), fun z => ?_, fun z => s_failed ht s (fun σ' f a b => ⟨Or.inl rfl, bad1 z σ' f a b⟩)⟩
  have e9 : σ 271 9 = min 10000 (nmT T n p) := s.1.2.2.2.2 z
  have pl := pl_in tp s.2.1
  have s2 := s.2.1
  have nn : 0 ≤ nmT T n p ∧ nmT T n p ≤ 999999 := by
    obtain ⟨u1, u2, u3⟩ := rnE_spec (T := T) (n := n) (p := plT T n p) isDg_1 tp.1.2 (by omega) pl.2
    refine (dmA_in (T := T) (p := plT T n p) (rnE isDg T n (plT T n p) - plT T n p).toNat (fun i hi => ?_)).1
    have := u2 (plT T n p + i) (by omega) (by omega)
    rw [btA_eq (by omega)] at this
    simpa [isDg] using this
  rw [e9]
  refine ⟨rng (by omega) (by omega), lr, fun z1 => s_failed ht s (fun σ' f a b => ⟨Or.inl rfl, bad2 z (by omega) σ' f a b⟩), fun z1 => ⟨rng (by omega) (by omega), hr, fun z2 => s_advB (by omega) ht tp s (hb z) (fun σ' s' f _ => good z (by omega) (by omega) σ' s' f), fun z2 => s_failed ht s (fun σ' f a b => ⟨Or.inl rfl, bad2 z (by omega) σ' f a b⟩)⟩⟩
end PC
