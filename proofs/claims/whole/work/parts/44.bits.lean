/-! ===== bits ===== -/
/-- the bit of a long; of an int -/
def tb (x : Int) (i : Nat) : Bool := (BitVec.ofInt 64 x).getLsbD i
def tc (x : Int) (i : Nat) : Bool := (BitVec.ofInt 32 x).getLsbD i
theorem tb_of (A : Int64) (i : Nat) : tb A.toInt i = A.toBitVec.getLsbD i := by
  unfold tb
  show (BitVec.ofInt 64 A.toBitVec.toInt).getLsbD i = _
  rw [BitVec.ofInt_toInt]
theorem tc_of (A : Int32) (i : Nat) : tc A.toInt i = A.toBitVec.getLsbD i := by
  unfold tc
  show (BitVec.ofInt 32 A.toBitVec.toInt).getLsbD i = _
  rw [BitVec.ofInt_toInt]
theorem ofI64 (x : Int) : (Int64.ofInt x).toBitVec = BitVec.ofInt 64 x := rfl
theorem ofI32 (x : Int) : (Int32.ofInt x).toBitVec = BitVec.ofInt 32 x := rfl
theorem tb_or {x y : Int} {i : Nat} : tb (l_or x y) i = (tb x i || tb y i) := by
  unfold l_or
  rw [tb_of]
  show ((Int64.ofInt x).toBitVec ||| (Int64.ofInt y).toBitVec).getLsbD i = _
  rw [BitVec.getLsbD_or]
  rfl
theorem tb_and {x y : Int} {i : Nat} : tb (l_and x y) i = (tb x i && tb y i) := by
  unfold l_and
  rw [tb_of]
  show ((Int64.ofInt x).toBitVec &&& (Int64.ofInt y).toBitVec).getLsbD i = _
  rw [BitVec.getLsbD_and]
  rfl
theorem tc_or {x y : Int} {i : Nat} : tc (i_or x y) i = (tc x i || tc y i) := by
  unfold i_or
  rw [tc_of]
  show ((Int32.ofInt x).toBitVec ||| (Int32.ofInt y).toBitVec).getLsbD i = _
  rw [BitVec.getLsbD_or]
  rfl
theorem tc_and {x y : Int} {i : Nat} : tc (i_and x y) i = (tc x i && tc y i) := by
  unfold i_and
  rw [tc_of]
  show ((Int32.ofInt x).toBitVec &&& (Int32.ofInt y).toBitVec).getLsbD i = _
  rw [BitVec.getLsbD_and]
  rfl
theorem sh64 : ∀ n : Fin 64, (((Int32.ofInt (n.val : Int)).toInt64 &&& 63).toBitVec.smod 64) = BitVec.ofNat 64 n.val := by decide +kernel
theorem ush64 : ∀ n : Fin 64, (((Int32.ofInt (n.val : Int)).toInt64.toUInt64 &&& Int64.toUInt64 63).toBitVec % 64) = BitVec.ofNat 64 n.val := by decide +kernel
theorem sh32 : ∀ n : Fin 32, ((Int32.ofInt (n.val : Int) &&& 31).toBitVec.smod 32) = BitVec.ofNat 32 n.val := by decide +kernel
theorem ush32 : ∀ n : Fin 32, (((Int32.ofInt (n.val : Int)).toUInt32 &&& Int32.toUInt32 31).toBitVec % 32) = BitVec.ofNat 32 n.val := by decide +kernel
theorem tb_shl {x : Int} {s : Nat} {i : Nat} (hs : s < 64) : tb (l_shl x s) i = (decide (i < 64) && (!decide (i < s) && tb x (i - s))) := by
  unfold l_shl
  rw [tb_of]
  have e : (Int64.ofInt x <<< ((Int32.ofInt (s : Int)).toInt64 &&& 63)).toBitVec = BitVec.ofInt 64 x <<< (((Int32.ofInt (s : Int)).toInt64 &&& 63).toBitVec.smod 64) := rfl
  rw [e, sh64 ⟨s, hs⟩, BitVec.shiftLeft_eq', BitVec.getLsbD_shiftLeft, BitVec.toNat_ofNat, Nat.mod_eq_of_lt (show s < 2 ^ 64 by omega), Bool.and_assoc]
  rfl
theorem tb_ushr {x : Int} {s : Nat} {i : Nat} (hs : s < 64) : tb (l_ushr x s) i = tb x (i + s) := by
  unfold l_ushr
  rw [tb_of]
  have e : ((Int64.ofInt x).toUInt64 >>> ((Int32.ofInt (s : Int)).toInt64.toUInt64 &&& Int64.toUInt64 63)).toInt64.toBitVec = BitVec.ofInt 64 x >>> (((Int32.ofInt (s : Int)).toInt64.toUInt64 &&& Int64.toUInt64 63).toBitVec % 64) := rfl
  rw [e, ush64 ⟨s, hs⟩, BitVec.ushiftRight_eq', BitVec.getLsbD_ushiftRight, BitVec.toNat_ofNat, Nat.mod_eq_of_lt (show s < 2 ^ 64 by omega), Nat.add_comm]
  rfl
theorem tc_shl {x : Int} {s : Nat} {i : Nat} (hs : s < 32) : tc (i_shl x s) i = (decide (i < 32) && (!decide (i < s) && tc x (i - s))) := by
  unfold i_shl
  rw [tc_of]
  have e : (Int32.ofInt x <<< (Int32.ofInt (s : Int) &&& 31)).toBitVec = BitVec.ofInt 32 x <<< ((Int32.ofInt (s : Int) &&& 31).toBitVec.smod 32) := rfl
  rw [e, sh32 ⟨s, hs⟩, BitVec.shiftLeft_eq', BitVec.getLsbD_shiftLeft, BitVec.toNat_ofNat, Nat.mod_eq_of_lt (show s < 2 ^ 32 by omega), Bool.and_assoc]
  rfl
theorem tb_ge {x : Int} {i : Nat} (h : 64 ≤ i) : tb x i = false := BitVec.getLsbD_of_ge _ _ h
theorem tc_ge {x : Int} {i : Nat} (h : 32 ≤ i) : tc x i = false := BitVec.getLsbD_of_ge _ _ h
theorem bv_ext {w : Nat} {a b : BitVec w} (h : ∀ i, i < w → a.getLsbD i = b.getLsbD i) : a = b := BitVec.eq_of_getLsbD_eq h
theorem tb_ext {x y : Int} (hx : inL x) (hy : inL y) (h : ∀ i, i < 64 → tb x i = tb y i) : x = y := by
  have e : BitVec.ofInt 64 x = BitVec.ofInt 64 y := bv_ext h
  have e2 : Int64.ofInt x = Int64.ofInt y := Int64.toBitVec_inj.mp e
  have := congrArg Int64.toInt e2
  rw [to64 hx, to64 hy] at this
  exact this
theorem tc_ext {x y : Int} (hx : inR x) (hy : inR y) (h : ∀ i, i < 32 → tc x i = tc y i) : x = y := by
  have e : BitVec.ofInt 32 x = BitVec.ofInt 32 y := bv_ext h
  have e2 : Int32.ofInt x = Int32.ofInt y := Int32.toBitVec_inj.mp e
  have := congrArg Int32.toInt e2
  rw [to32 hx, to32 hy] at this
  exact this
theorem l_or_L {x y : Int} : inL (l_or x y) := ⟨Int64.le_toInt _, Int64.toInt_lt _⟩
theorem l_and_L {x y : Int} : inL (l_and x y) := ⟨Int64.le_toInt _, Int64.toInt_lt _⟩
theorem l_shl_L {x y : Int} : inL (l_shl x y) := ⟨Int64.le_toInt _, Int64.toInt_lt _⟩
theorem l_ushr_L {x y : Int} : inL (l_ushr x y) := ⟨Int64.le_toInt _, Int64.toInt_lt _⟩
theorem i_and_R {x y : Int} : inR (i_and x y) := ⟨Int32.le_toInt _, Int32.toInt_lt _⟩
theorem i_shr_R {x y : Int} : inR (i_shr x y) := ⟨Int32.le_toInt _, Int32.toInt_lt _⟩
theorem i_ushr_R {x y : Int} : inR (i_ushr x y) := ⟨Int32.le_toInt _, Int32.toInt_lt _⟩
theorem tb_0 {i : Nat} : tb 0 i = false := by
  unfold tb
  rw [show BitVec.ofInt 64 0 = 0#64 from rfl, BitVec.getLsbD_zero]
theorem tb_1 {i : Nat} : tb 1 i = decide (i = 0) := by
  unfold tb
  rw [show BitVec.ofInt 64 1 = 1#64 from rfl, BitVec.getLsbD_one]
  simp
theorem tc_0 {i : Nat} : tc 0 i = false := by
  unfold tc
  rw [show BitVec.ofInt 32 0 = 0#32 from rfl, BitVec.getLsbD_zero]
theorem tc_1 {i : Nat} : tc 1 i = decide (i = 0) := by
  unfold tc
  rw [show BitVec.ofInt 32 1 = 1#32 from rfl, BitVec.getLsbD_one]
  simp
theorem and1 {x : Int} : l_and x 1 = 1 ↔ tb x 0 = true := by
  constructor
  · intro h
    have : tb (l_and x 1) 0 = tb 1 0 := by rw [h]
    rw [tb_and, tb_1] at this
    simpa using this
  · intro h
    refine tb_ext l_and_L ⟨by decide, by decide⟩ (fun i _ => ?_)
    rw [tb_and, tb_1]
    by_cases e : i = 0
    · subst e; rw [h]; rfl
    · simp [e]
theorem andc1 {x : Int} : i_and x 1 = 1 ↔ tc x 0 = true := by
  constructor
  · intro h
    have : tc (i_and x 1) 0 = tc 1 0 := by rw [h]
    rw [tc_and, tc_1] at this
    simpa using this
  · intro h
    refine tc_ext i_and_R ⟨by decide, by decide⟩ (fun i _ => ?_)
    rw [tc_and, tc_1]
    by_cases e : i = 0
    · subst e; rw [h]; rfl
    · simp [e]
theorem ne0_tb {x : Int} (hx : inL x) : x ≠ 0 ↔ ∃ i, i < 64 ∧ tb x i = true := by
  constructor
  · intro h
    apply Classical.byContradiction
    intro hn
    refine h (tb_ext hx ⟨by decide, by decide⟩ (fun i hi => ?_))
    rw [tb_0]
    cases e : tb x i with
    | false => rfl
    | true => exact absurd ⟨i, hi, e⟩ hn
  · rintro ⟨i, hi, e⟩ rfl
    rw [tb_0] at e
    cases e
/-- numbers that aren't negative: bits by division -/
theorem tc_nat {x : Int} {i : Nat} (h0 : 0 ≤ x) (h1 : x < 2147483648) : tc x i = x.toNat.testBit i := by
  have e : BitVec.ofInt 32 x = BitVec.ofNat 32 x.toNat := by
    apply BitVec.eq_of_toNat_eq
    rw [BitVec.toNat_ofInt, BitVec.toNat_ofNat]
    omega
  unfold tc
  rw [e]
  unfold BitVec.getLsbD
  rw [BitVec.toNat_ofNat, Nat.mod_eq_of_lt (by omega)]
theorem i_ushr_nat {x : Int} {s : Nat} (h0 : 0 ≤ x) (h1 : x < 2147483648) (hs : s < 32) : i_ushr x s = x / (2 ^ s : Nat) := by
  unfold i_ushr
  have e : ((Int32.ofInt x).toUInt32 >>> ((Int32.ofInt (s : Int)).toUInt32 &&& Int32.toUInt32 31)).toInt32.toBitVec = BitVec.ofInt 32 x >>> (((Int32.ofInt (s : Int)).toUInt32 &&& Int32.toUInt32 31).toBitVec % 32) := rfl
  show (((Int32.ofInt x).toUInt32 >>> ((Int32.ofInt (s : Int)).toUInt32 &&& Int32.toUInt32 31)).toInt32.toBitVec).toInt = _
  rw [e, ush32 ⟨s, hs⟩, BitVec.ushiftRight_eq', BitVec.toNat_ofNat, Nat.mod_eq_of_lt (show s < 2 ^ 32 by omega)]
  have en : (BitVec.ofInt 32 x >>> s).toNat = x.toNat / 2 ^ s := by
    rw [BitVec.toNat_ushiftRight, BitVec.toNat_ofInt, Nat.shiftRight_eq_div_pow]
    congr 1
    omega
  have hle : x.toNat / 2 ^ s ≤ x.toNat := Nat.div_le_self _ _
  rw [BitVec.toInt_eq_toNat_of_lt (by rw [en]; omega), en, Int.natCast_ediv]
  congr 1
  omega
theorem i_shr_nat {x : Int} {s : Nat} (h0 : 0 ≤ x) (h1 : x < 2147483648) (hs : s < 32) : i_shr x s = x / (2 ^ s : Nat) := by
  unfold i_shr
  have e : (Int32.ofInt x >>> (Int32.ofInt (s : Int) &&& 31)).toBitVec = (BitVec.ofInt 32 x).sshiftRight' ((Int32.ofInt (s : Int) &&& 31).toBitVec.smod 32) := rfl
  show ((Int32.ofInt x >>> (Int32.ofInt (s : Int) &&& 31)).toBitVec).toInt = _
  rw [e, sh32 ⟨s, hs⟩, BitVec.sshiftRight_eq', BitVec.toNat_ofNat, Nat.mod_eq_of_lt (show s < 2 ^ 32 by omega), BitVec.toInt_sshiftRight, BitVec.toInt_ofInt, bm32 ⟨by omega, h1⟩, Int.shiftRight_eq_div_pow]
