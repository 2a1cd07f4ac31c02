/-! ===== tokens of a tape ===== -/
theorem tb_nat {x : Int} {i : Nat} (h0 : 0 ≤ x) (h1 : x < 9223372036854775808) : tb x i = x.toNat.testBit i := by
  have e : BitVec.ofInt 64 x = BitVec.ofNat 64 x.toNat := by
    apply BitVec.eq_of_toNat_eq
    rw [BitVec.toNat_ofInt, BitVec.toNat_ofNat]
    omega
  unfold tb
  rw [e]
  unfold BitVec.getLsbD
  rw [BitVec.toNat_ofNat, Nat.mod_eq_of_lt (by omega)]
theorem l_shr_nat {x : Int} {s : Nat} (h0 : 0 ≤ x) (h1 : x < 9223372036854775808) (hs : s < 64) : l_shr x s = x / (2 ^ s : Nat) := by
  unfold l_shr
  have e : (Int64.ofInt x >>> ((Int32.ofInt (s : Int)).toInt64 &&& 63)).toBitVec = (BitVec.ofInt 64 x).sshiftRight' (((Int32.ofInt (s : Int)).toInt64 &&& 63).toBitVec.smod 64) := rfl
  show ((Int64.ofInt x >>> ((Int32.ofInt (s : Int)).toInt64 &&& 63)).toBitVec).toInt = _
  rw [e, sh64 ⟨s, hs⟩, BitVec.sshiftRight_eq', BitVec.toNat_ofNat, Nat.mod_eq_of_lt (show s < 2 ^ 64 by omega), BitVec.toInt_sshiftRight, BitVec.toInt_ofInt, bm64 ⟨by omega, h1⟩, Int.shiftRight_eq_div_pow]
theorem l_add8 {x b : Int} (x0 : 0 ≤ x) (x1 : x < 281474976710656) (b0 : 0 ≤ b) (b1 : b < 256) : l_or (l_shl x 8) b = 256 * x + b := by
  refine tb_ext l_or_L ⟨by omega, by omega⟩ (fun i hi => ?_)
  rw [tb_or, show (8 : Int) = ((8 : Nat) : Int) from rfl, tb_shl (by omega), tb_nat (i := i) (x := 256 * x + b) (by omega) (by omega), tb_nat (i := i) b0 (by omega), tb_nat (x := x) x0 (by omega)]
  have e : (256 * x + b).toNat = 2 ^ 8 * x.toNat + b.toNat := by omega
  rw [e, Nat.testBit_two_pow_mul_add _ (by omega)]
  by_cases h : i < 8
  · simp [h]
  · have hb : b.toNat.testBit i = false := Nat.testBit_lt_two_pow (Nat.lt_of_lt_of_le (show b.toNat < 2 ^ 8 by omega) (Nat.pow_le_pow_right (by omega) (by omega)))
    simp [h, hb, hi]
def TP (T : Int → Int) (n : Int) : Prop := (0 ≤ n ∧ n ≤ 300) ∧ ∀ i, 0 ≤ i → i < n → (0 ≤ T i ∧ T i ≤ 255)
/-- the byte at k; -1 behind the end -/
def btA (T : Int → Int) (n k : Int) : Int := if k < n then T k else -1
def isSp (b : Int) : Bool := decide (b = 32 ∨ b = 10)
def isDg (b : Int) : Bool := decide (48 ≤ b ∧ b ≤ 57)
def isLt (b : Int) : Bool := decide ((97 ≤ b ∧ b ≤ 122) ∨ (65 ≤ b ∧ b ≤ 90))
def rnA (P : Int → Bool) (T : Int → Int) (n : Int) : Nat → Int → Int
  | 0, p => p
  | k + 1, p => if P (btA T n p) then rnA P T n k (p + 1) else p
def rnE (P : Int → Bool) (T : Int → Int) (n p : Int) : Int := rnA P T n 301 p
theorem rnA_spec {P : Int → Bool} {T : Int → Int} {n : Int} (h : P (-1) = false) : ∀ (k : Nat) (p : Int), 0 ≤ p → p ≤ n → n - p < k → (p ≤ rnA P T n k p ∧ rnA P T n k p ≤ n) ∧ (∀ i, p ≤ i → i < rnA P T n k p → P (btA T n i) = true) ∧ P (btA T n (rnA P T n k p)) = false
  | 0, p, _, _, h3 => absurd h3 (by omega)
  | k + 1, p, h1, h2, h3 => by
    rw [rnA]
    by_cases e : P (btA T n p) = true
    · have hp : p < n := by
        rcases Int.lt_or_le p n with x | x
        · exact x
        · unfold btA at e
          rw [if_neg (by omega), h] at e
          cases e
      rw [if_pos e]
      obtain ⟨a, b, c⟩ := rnA_spec (n := n) (T := T) h k (p + 1) (by omega) (by omega) (by omega)
      refine ⟨⟨by omega, a.2⟩, fun i i0 i1 => ?_, c⟩
      rcases Int.lt_or_le p i with x | x
      · exact b i (by omega) i1
      · rw [show i = p by omega]; exact e
    · rw [if_neg e]
      exact ⟨⟨Int.le_refl _, h2⟩, fun i i0 i1 => absurd i1 (by omega), by simpa using e⟩
theorem rnE_spec {P : Int → Bool} {T : Int → Int} {n p : Int} (h : P (-1) = false) (hn : n ≤ 300) (h1 : 0 ≤ p) (h2 : p ≤ n) : (p ≤ rnE P T n p ∧ rnE P T n p ≤ n) ∧ (∀ i, p ≤ i → i < rnE P T n p → P (btA T n i) = true) ∧ P (btA T n (rnE P T n p)) = false := rnA_spec h 301 p h1 h2 (by omega)
/-- the reference's number, and its word packed -/
def dmA (T : Int → Int) (p : Int) : Nat → Int
  | 0 => 0
  | k + 1 => if 99999 < dmA T p k then dmA T p k else 10 * dmA T p k + T (p + k) - 48
def wpA (T : Int → Int) (p : Int) : Nat → Int
  | 0 => 0
  | k + 1 => if 281474976710656 ≤ wpA T p k then 1152921504606846976 else 256 * wpA T p k + T (p + k)
/-- the class's number -/
def dvA (T : Int → Int) (p : Int) : Nat → Int
  | 0 => 0
  | k + 1 => min 10000 (dvA T p k * 10 + T (p + k) - 48)
theorem dmA_in {T : Int → Int} {p : Int} : ∀ (k : Nat), (∀ i : Nat, i < k → (48 ≤ T (p + i) ∧ T (p + i) ≤ 57)) → (0 ≤ dmA T p k ∧ dmA T p k ≤ 999999) ∧ dvA T p k = min 10000 (dmA T p k)
  | 0, _ => by
    rw [dmA, dvA]
    exact ⟨by omega, by omega⟩
  | k + 1, h => by
    have a := dmA_in k (fun i hi => h i (by omega))
    have b := h k (by omega)
    rw [dmA, dvA]
    split <;> exact ⟨by omega, by omega⟩
theorem wpA_in {T : Int → Int} {p : Int} : ∀ (k : Nat), (∀ i : Nat, i < k → (65 ≤ T (p + i) ∧ T (p + i) ≤ 122)) → (0 ≤ wpA T p k ∧ wpA T p k ≤ 1152921504606846976) ∧ (0 < k → 0 < wpA T p k)
  | 0, _ => by
    rw [wpA]
    exact ⟨by omega, by omega⟩
  | k + 1, h => by
    have a := wpA_in k (fun i hi => h i (by omega))
    have b := h k (by omega)
    rw [wpA]
    split <;> exact ⟨by omega, by omega⟩
/-- a word, its last letter first, is what was read -/
def mtR (T : Int → Int) (p : Int) : List Int → Nat → Prop
  | [], k => k = 0
  | x :: xs, k => ∃ j : Nat, k = j + 1 ∧ T (p + j) = x ∧ mtR T p xs j
def pcR : List Int → Int
  | [] => 0
  | x :: xs => 256 * pcR xs + x
def okR : List Int → Prop
  | [] => True
  | x :: xs => (1 ≤ x ∧ x ≤ 255) ∧ pcR xs < 281474976710656 ∧ okR xs
theorem pcR_0 : ∀ (xs : List Int), okR xs → 0 ≤ pcR xs
  | [], _ => by rw [pcR]; omega
  | x :: xs, h => by
    have := pcR_0 xs h.2.2
    have := h.1
    rw [pcR]
    omega
theorem mtR_pc {T : Int → Int} {p : Int} : ∀ (xs : List Int) (k : Nat), okR xs → (∀ i : Nat, i < k → (65 ≤ T (p + i) ∧ T (p + i) ≤ 122)) → (wpA T p k = pcR xs ↔ mtR T p xs k)
  | [], k, _, h => by
    have a := wpA_in k h
    rw [pcR, mtR]
    constructor
    · intro e
      rcases Nat.eq_zero_or_pos k with z | z
      · exact z
      · exact absurd (a.2 z) (by omega)
    · intro e
      rw [e, wpA]
  | x :: xs, 0, o, _ => by
    have := pcR_0 xs o.2.2
    have := o.1
    rw [pcR, mtR, wpA]
    exact ⟨fun e => absurd e (by omega), fun ⟨j, e, _⟩ => absurd e (by omega)⟩
  | x :: xs, k + 1, o, h => by
    have c0 := pcR_0 xs o.2.2
    have c1 := o.1
    have c2 := o.2.1
    have b := h k (by omega)
    have a := wpA_in k (fun i hi => h i (by omega))
    have ih := mtR_pc xs k o.2.2 (fun i hi => h i (by omega))
    rw [pcR, mtR, wpA]
    constructor
    · intro e
      split at e
      · exact absurd e (by omega)
      · exact ⟨k, rfl, by omega, ih.mp (by omega)⟩
    · intro ⟨j, e, e2, m⟩
      have ej : j = k := by omega
      subst ej
      have w := ih.mpr m
      rw [if_neg (by omega)]
      omega
theorem pk_w0 : pcR [115, 101, 114, 105, 116] = 499985311091 := by decide +kernel
theorem pk_w1 : pcR [101, 99, 105, 114, 112] = 482955846501 := by decide +kernel
theorem pk_w2 : pcR [110, 105, 111, 106] = 1785686382 := by decide +kernel
theorem pk_w3 : pcR [114, 117, 111, 112] = 1886352754 := by decide +kernel
theorem pk_w4 : pcR [101, 107, 97, 98] = 1650551653 := by decide +kernel
theorem pk_w5 : pcR [101, 107, 97, 109] = 1835101029 := by decide +kernel
theorem pk_w6 : pcR [121, 97, 100] = 6578553 := by decide +kernel
theorem pk_w7 : pcR [114, 101, 98, 109, 117, 110] = 121450625394034 := by decide +kernel
theorem pk_w8 : pcR [115, 100, 110, 117, 111, 112] = 123624013849715 := by decide +kernel
theorem pk_w9 : pcR [101, 103, 97] = 6383461 := by decide +kernel
theorem pk_w10 : pcR [108, 108, 117, 102] = 1718971500 := by decide +kernel
theorem pk_w11 : pcR [100, 100, 111] = 7300196 := by decide +kernel
theorem pk_w12 : pcR [100, 110, 117, 102] = 1718972004 := by decide +kernel
theorem pk_w13 : pcR [101, 108, 98, 117, 111, 100] = 110429873532005 := by decide +kernel
theorem pk_w14 : pcR [107, 99, 111, 114, 99] = 427121664875 := by decide +kernel
theorem pk_w15 : pcR [102, 105] = 26982 := by decide +kernel
theorem pk_w16 : pcR [110, 101, 104, 116] = 1952998766 := by decide +kernel
theorem pk_w17 : pcR [101, 115, 108, 101] = 1701606245 := by decide +kernel
theorem pk_w18 : pcR [100, 110, 101] = 6647396 := by decide +kernel
theorem pk_w19 : pcR [100, 110, 97] = 6385252 := by decide +kernel
theorem pk_w20 : pcR [114, 111] = 28530 := by decide +kernel
theorem pk_w21 : pcR [116, 111, 110] = 7237492 := by decide +kernel
def WL : List (Int × Int) := [(499985311091, 100), (482955846501, 101), (1785686382, 102), (1886352754, 103), (1650551653, 104), (1835101029, 105), (6578553, 106), (121450625394034, 107), (123624013849715, 108), (6383461, 109), (1718971500, 110), (7300196, 111), (1718972004, 112), (110429873532005, 113), (427121664875, 114), (26982, 115), (1952998766, 116), (1701606245, 117), (6647396, 118), (6385252, 119), (28530, 120), (7237492, 121)]
def lkA : List (Int × Int) → Int → Int
  | [], _ => 2
  | x :: r, v => if v = x.1 then x.2 else lkA r v
/-- what a word is, by what it is packed to: 100 and more; 2: no word -/
def wkA (v : Int) : Int := lkA WL v
theorem lkA_mem : ∀ (l : List (Int × Int)) (v b : Int), lkA l v = b → b ≠ 2 → (v, b) ∈ l
  | [], _, _, h, hb => absurd h.symm hb
  | x :: r, v, b, h, hb => by
    rw [lkA] at h
    split at h
    · rename_i e
      rw [e, ← h]
      exact List.mem_cons_self
    · exact List.mem_cons_of_mem _ (lkA_mem r v b h hb)
theorem wkA_in {v : Int} : wkA v = 2 ∨ (100 ≤ wkA v ∧ wkA v ≤ 121) := by
  by_cases h : wkA v = 2
  · exact Or.inl h
  · exact Or.inr ((show ∀ x ∈ WL, 100 ≤ x.2 ∧ x.2 ≤ 121 by decide +kernel) _ (lkA_mem WL v _ rfl h))
theorem wkA_fw {v b a : Int} (h : wkA v = b) (hb : b ≠ 2) (c : ∀ x ∈ WL, x.2 = b → x.1 = a) : v = a := c _ (lkA_mem WL v b h hb) rfl
theorem wk_0 {v : Int} : wkA v = 100 ↔ v = 499985311091 := ⟨fun h => wkA_fw h (by decide) (by decide +kernel), fun h => by rw [h]; decide +kernel⟩
theorem wk_1 {v : Int} : wkA v = 101 ↔ v = 482955846501 := ⟨fun h => wkA_fw h (by decide) (by decide +kernel), fun h => by rw [h]; decide +kernel⟩
theorem wk_2 {v : Int} : wkA v = 102 ↔ v = 1785686382 := ⟨fun h => wkA_fw h (by decide) (by decide +kernel), fun h => by rw [h]; decide +kernel⟩
theorem wk_3 {v : Int} : wkA v = 103 ↔ v = 1886352754 := ⟨fun h => wkA_fw h (by decide) (by decide +kernel), fun h => by rw [h]; decide +kernel⟩
theorem wk_4 {v : Int} : wkA v = 104 ↔ v = 1650551653 := ⟨fun h => wkA_fw h (by decide) (by decide +kernel), fun h => by rw [h]; decide +kernel⟩
theorem wk_5 {v : Int} : wkA v = 105 ↔ v = 1835101029 := ⟨fun h => wkA_fw h (by decide) (by decide +kernel), fun h => by rw [h]; decide +kernel⟩
theorem wk_6 {v : Int} : wkA v = 106 ↔ v = 6578553 := ⟨fun h => wkA_fw h (by decide) (by decide +kernel), fun h => by rw [h]; decide +kernel⟩
theorem wk_7 {v : Int} : wkA v = 107 ↔ v = 121450625394034 := ⟨fun h => wkA_fw h (by decide) (by decide +kernel), fun h => by rw [h]; decide +kernel⟩
theorem wk_8 {v : Int} : wkA v = 108 ↔ v = 123624013849715 := ⟨fun h => wkA_fw h (by decide) (by decide +kernel), fun h => by rw [h]; decide +kernel⟩
theorem wk_9 {v : Int} : wkA v = 109 ↔ v = 6383461 := ⟨fun h => wkA_fw h (by decide) (by decide +kernel), fun h => by rw [h]; decide +kernel⟩
theorem wk_10 {v : Int} : wkA v = 110 ↔ v = 1718971500 := ⟨fun h => wkA_fw h (by decide) (by decide +kernel), fun h => by rw [h]; decide +kernel⟩
theorem wk_11 {v : Int} : wkA v = 111 ↔ v = 7300196 := ⟨fun h => wkA_fw h (by decide) (by decide +kernel), fun h => by rw [h]; decide +kernel⟩
theorem wk_12 {v : Int} : wkA v = 112 ↔ v = 1718972004 := ⟨fun h => wkA_fw h (by decide) (by decide +kernel), fun h => by rw [h]; decide +kernel⟩
theorem wk_13 {v : Int} : wkA v = 113 ↔ v = 110429873532005 := ⟨fun h => wkA_fw h (by decide) (by decide +kernel), fun h => by rw [h]; decide +kernel⟩
theorem wk_14 {v : Int} : wkA v = 114 ↔ v = 427121664875 := ⟨fun h => wkA_fw h (by decide) (by decide +kernel), fun h => by rw [h]; decide +kernel⟩
theorem wk_15 {v : Int} : wkA v = 115 ↔ v = 26982 := ⟨fun h => wkA_fw h (by decide) (by decide +kernel), fun h => by rw [h]; decide +kernel⟩
theorem wk_16 {v : Int} : wkA v = 116 ↔ v = 1952998766 := ⟨fun h => wkA_fw h (by decide) (by decide +kernel), fun h => by rw [h]; decide +kernel⟩
theorem wk_17 {v : Int} : wkA v = 117 ↔ v = 1701606245 := ⟨fun h => wkA_fw h (by decide) (by decide +kernel), fun h => by rw [h]; decide +kernel⟩
theorem wk_18 {v : Int} : wkA v = 118 ↔ v = 6647396 := ⟨fun h => wkA_fw h (by decide) (by decide +kernel), fun h => by rw [h]; decide +kernel⟩
theorem wk_19 {v : Int} : wkA v = 119 ↔ v = 6385252 := ⟨fun h => wkA_fw h (by decide) (by decide +kernel), fun h => by rw [h]; decide +kernel⟩
theorem wk_20 {v : Int} : wkA v = 120 ↔ v = 28530 := ⟨fun h => wkA_fw h (by decide) (by decide +kernel), fun h => by rw [h]; decide +kernel⟩
theorem wk_21 {v : Int} : wkA v = 121 ↔ v = 7237492 := ⟨fun h => wkA_fw h (by decide) (by decide +kernel), fun h => by rw [h]; decide +kernel⟩
