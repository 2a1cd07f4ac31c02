/-! ===== the lowest bit ===== -/
theorem low_split {X t : Nat} (h0 : ∀ j, j < t → X.testBit j = false) (h1 : X.testBit t = true) : ∃ b, X = 2 ^ t * (2 * b + 1) := by
  have hd : X % 2 ^ t = 0 := by
    apply Nat.eq_of_testBit_eq
    intro j
    rw [Nat.testBit_mod_two_pow, Nat.zero_testBit]
    by_cases hj : j < t
    · rw [h0 j hj]; simp
    · simp [hj]
  have e1 : X = 2 ^ t * (X / 2 ^ t) := by
    have := Nat.div_add_mod X (2 ^ t)
    omega
  have h2 : (X / 2 ^ t) % 2 = 1 := by
    have := h1
    rw [Nat.testBit_eq_decide_div_mod_eq] at this
    exact of_decide_eq_true this
  refine ⟨X / 2 ^ t / 2, ?_⟩
  rw [show 2 * (X / 2 ^ t / 2) + 1 = X / 2 ^ t by omega]
  exact e1
theorem low_bits {X t : Nat} (h0 : ∀ j, j < t → X.testBit j = false) (h1 : X.testBit t = true) (i : Nat) : (!X.testBit i && (X - 1).testBit i) = decide (i < t) := by
  obtain ⟨b, e⟩ := low_split h0 h1
  have hp : 0 < 2 ^ t := Nat.two_pow_pos t
  have e2 : X - 1 = 2 ^ t * (2 * b) + (2 ^ t - 1) := by
    rw [e, Nat.mul_add, Nat.mul_one]
    omega
  rw [e2, Nat.testBit_two_pow_mul_add _ (by omega)]
  by_cases hi : i < t
  · rw [if_pos hi, h0 i hi, Nat.testBit_two_pow_sub_one]
    simp [hi]
  · rw [if_neg hi]
    obtain ⟨j, hj⟩ : ∃ j, i = t + j := ⟨i - t, by omega⟩
    subst hj
    have ex : X.testBit (t + j) = (2 * b + 1).testBit j := by
      have e3 : X = 2 ^ t * (2 * b + 1) + 0 := by omega
      rw [e3, Nat.testBit_two_pow_mul_add _ hp, if_neg (by omega), show t + j - t = j by omega]
    rw [ex, show t + j - t = j by omega]
    cases j with
    | zero => simp
    | succ j =>
      rw [Nat.testBit_succ, Nat.testBit_succ, show (2 * b + 1) / 2 = b by omega, show 2 * b / 2 = b by omega]
      simp
theorem low_i {x : Int} {t : Nat} (ht : t < 32) (h0 : ∀ j, j < t → tc x j = false) (h1 : tc x t = true) : i_and (i_xor x (-1)) (x - 1) = ((2 ^ t - 1 : Nat) : Int) := by
  have hp : 2 ^ t ≤ 2 ^ 31 := Nat.pow_le_pow_right (by omega) (by omega)
  have hp0 : 0 < 2 ^ t := Nat.two_pow_pos t
  refine tc_ext i_and_R ⟨by omega, by omega⟩ (fun i hi => ?_)
  rw [tc_and, tc_nat (x := ((2 ^ t - 1 : Nat) : Int)) (by omega) (by omega), Int.toNat_natCast, Nat.testBit_two_pow_sub_one]
  have ex : tc (i_xor x (-1)) i = !tc x i := by
    unfold i_xor
    rw [tc_of]
    show ((Int32.ofInt x).toBitVec ^^^ (Int32.ofInt (-1)).toBitVec).getLsbD i = _
    rw [BitVec.getLsbD_xor, show (Int32.ofInt (-1)).toBitVec = BitVec.allOnes 32 from by decide, BitVec.getLsbD_allOnes]
    simp [hi]
    rfl
  rw [ex]
  have en : ∀ j, tc x j = (BitVec.ofInt 32 x).toNat.testBit j := fun j => rfl
  have X1 : 1 ≤ (BitVec.ofInt 32 x).toNat := by
    rcases Nat.eq_zero_or_pos (BitVec.ofInt 32 x).toNat with z | z
    · rw [en t, z, Nat.zero_testBit] at h1; cases h1
    · exact z
  have em : tc (x - 1) i = ((BitVec.ofInt 32 x).toNat - 1).testBit i := by
    show (BitVec.ofInt 32 (x - 1)).toNat.testBit i = _
    congr 1
    rw [BitVec.toNat_ofInt] at X1 ⊢
    rw [BitVec.toNat_ofInt]
    omega
  rw [em, en i]
  exact low_bits (fun j hj => h0 j hj) h1 i
section NT
variable {m : jT} {d n0 hi : Nat} {Post : jV → jG → jM → Prop} {pc : Nat} {L S : List jV} {G : jG} {σ : jM}
theorem j_sameS {x y : Int} (h : Int32.ofInt x = Int32.ofInt y) (k : J m d n0 hi Post pc L (iv y :: S) G σ) : J m d n0 hi Post pc L (iv x :: S) G σ := by
  intro E p l e R s mi args below meth c Q hC hR ls H locs hl hH hS h1 h2
  have kk := k E p l e R s mi args below meth c Q hC hR ls H locs hl hH hS h1 h2
  rw [List.map_cons, conc_i, ← h] at kk
  exact kk
def w32 (x : Int) : Int := (Int32.ofInt x).toInt
theorem w32_R {x : Int} : inR (w32 x) := ⟨Int32.le_toInt _, Int32.toInt_lt _⟩
theorem w32_of {x : Int} : Int32.ofInt x = Int32.ofInt (w32 x) := by
  apply Int32.toInt_inj.mp
  rw [to32 w32_R]
  rfl
theorem tc_w32 {x : Int} {i : Nat} : tc (w32 x) i = tc x i := by
  unfold w32
  rw [tc_of]
  rfl
theorem tc_tb {x : Int} {i : Nat} (hi : i < 32) : tc x i = tb x i := by
  have hm : (2 : Int) ^ 32 ∣ 2 ^ 64 := by decide
  unfold tc tb BitVec.getLsbD
  rw [BitVec.toNat_ofInt, BitVec.toNat_ofInt]
  have e : (x % ((2 ^ 32 : Nat) : Int)).toNat = (x % ((2 ^ 64 : Nat) : Int)).toNat % 2 ^ 32 := by omega
  rw [e, Nat.testBit_mod_two_pow]
  simp [hi]
set_option maxRecDepth 4000 in
theorem ntz_walk {d : Nat} {t : Int} {Q : Int → jM → Prop} {σ : jM} {p0 : Int} (h1 : w32 p0 ≠ 0 → Ct mJ6_numberOfTrailingZeros_0f7a4 d 0 t [iv (w32 p0)] σ (fun r2 σ2 => Q r2 σ2)) (h2 : w32 p0 = 0 → Ct mJ6_numberOfTrailingZeros_0f7a4 d 0 t [iv (l_ushr p0 32)] σ (fun r3 σ3 => Q (32 + r3) σ3)) : Jt mJ13_numberOfTrailingZeros_95d88 (d + 1) 0 t Q 0 [jv p0, uv, uv] [] σ := by
  refine j_lload_n (i := 0) rfl (show decode cJ13_numberOfTrailingZeros_95d88 0 = .ok (.lload_n 0, 1) by decide +kernel) ?_
  refine j_l2i (show decode cJ13_numberOfTrailingZeros_95d88 1 = .ok (.l2i, 1) by decide +kernel) ?_
  refine j_sameS (w32_of (x := p0)) ?_
  refine s_ist_n (i := 2) (L' := [jv p0, uv, iv (w32 p0)]) rfl (by decide) (show decode cJ13_numberOfTrailingZeros_95d88 2 = .ok (.istore_n 2, 1) by decide +kernel) ?_
  refine j_iload_n (i := 2) rfl (show decode cJ13_numberOfTrailingZeros_95d88 3 = .ok (.iload_n 2, 1) by decide +kernel) ?_
  refine j_if_ne (tgt := 21) w32_R (show decode cJ13_numberOfTrailingZeros_95d88 4 = .ok (.ifCond .ne 17, 3) by decide +kernel) (by decide) (fun c => ?_) (fun c => ?_)
  · have h := h1 c
    refine j_iload_n (i := 2) rfl (show decode cJ13_numberOfTrailingZeros_95d88 21 = .ok (.iload_n 2, 1) by decide +kernel) ?_
    refine j_ctS (m' := mJ6_numberOfTrailingZeros_0f7a4) (As := [iv (w32 p0)]) (tag := 0) (cw_J13_311 rfl) (show decode cJ13_numberOfTrailingZeros_95d88 22 = .ok (.invokestatic 311, 3) by decide +kernel) rfl (Nat.le_of_ble_eq_true rfl) (by decide) (Nat.le_refl _) h (fun r2 σ2 h => ?_)
    exact j_ret (rokI (show decode cJ13_numberOfTrailingZeros_95d88 25 = .ok (.ireturn, 1) by decide +kernel) rfl) ⟨rfl, rfl, h⟩
  · have h := h2 c
    refine j_bipush (n := 32) (by decide +kernel) (show decode cJ13_numberOfTrailingZeros_95d88 7 = .ok (.bipush 32, 2) by decide +kernel) ?_
    refine j_lload_n (i := 0) rfl (show decode cJ13_numberOfTrailingZeros_95d88 9 = .ok (.lload_n 0, 1) by decide +kernel) ?_
    refine j_bipush (n := 32) (by decide +kernel) (show decode cJ13_numberOfTrailingZeros_95d88 10 = .ok (.bipush 32, 2) by decide +kernel) ?_
    refine j_lushr (show decode cJ13_numberOfTrailingZeros_95d88 12 = .ok (.lushr, 1) by decide +kernel) ?_
    refine j_l2i (show decode cJ13_numberOfTrailingZeros_95d88 13 = .ok (.l2i, 1) by decide +kernel) ?_
    refine j_ctS (m' := mJ6_numberOfTrailingZeros_0f7a4) (As := [iv (l_ushr p0 32)]) (tag := 0) (cw_J13_311 rfl) (show decode cJ13_numberOfTrailingZeros_95d88 14 = .ok (.invokestatic 311, 3) by decide +kernel) rfl (Nat.le_of_ble_eq_true rfl) (by decide) (Nat.le_refl _) h (fun r3 σ3 h => ?_)
    refine j_iadd (show decode cJ13_numberOfTrailingZeros_95d88 17 = .ok (.iadd, 1) by decide +kernel) ?_
    refine j_goto (tgt := 25) (show decode cJ13_numberOfTrailingZeros_95d88 18 = .ok (.goto 7, 3) by decide +kernel) (by decide) ?_
    exact j_ret (rokI (show decode cJ13_numberOfTrailingZeros_95d88 25 = .ok (.ireturn, 1) by decide +kernel) rfl) ⟨rfl, rfl, h⟩
end NT
section NU
variable {d : Nat} {t : Int} {Q : Int → jM → Prop} {σ : jM}
theorem ntz_end {v n r : Int} (hv : 0 ≤ v ∧ v < 2147483648) (e : n + v / 2 = r) (k : Q r σ) : Jt mJ6_numberOfTrailingZeros_0f7a4 d 0 t Q 74 [iv v, iv n] [] σ := by
  refine b_J6_numberOfTrailingZeros_0f7a4_74 ?_
  rw [show i_ushr v 1 = v / 2 from i_ushr_nat (s := 1) hv.1 hv.2 (by omega), e]
  exact k
theorem us_ {v : Int} (s : Nat) (h0 : 0 ≤ v) (h1 : v < 2147483648) (hs : s < 32) : i_ushr v s = v / (2 ^ s : Nat) := i_ushr_nat h0 h1 hs
def ntzF (v : Int) : Int := (if v ≤ 65536 then (if v ≤ 256 then (if v ≤ 16 then (if v ≤ 4 then (1 + v / 2) else (3 + (v / 4) / 2)) else (if (v / 16) ≤ 4 then (5 + (v / 16) / 2) else (7 + ((v / 16) / 4) / 2))) else (if (v / 256) ≤ 16 then (if (v / 256) ≤ 4 then (9 + (v / 256) / 2) else (11 + ((v / 256) / 4) / 2)) else (if ((v / 256) / 16) ≤ 4 then (13 + ((v / 256) / 16) / 2) else (15 + (((v / 256) / 16) / 4) / 2)))) else (if (v / 65536) ≤ 256 then (if (v / 65536) ≤ 16 then (if (v / 65536) ≤ 4 then (17 + (v / 65536) / 2) else (19 + ((v / 65536) / 4) / 2)) else (if ((v / 65536) / 16) ≤ 4 then (21 + ((v / 65536) / 16) / 2) else (23 + (((v / 65536) / 16) / 4) / 2))) else (if ((v / 65536) / 256) ≤ 16 then (if ((v / 65536) / 256) ≤ 4 then (25 + ((v / 65536) / 256) / 2) else (27 + (((v / 65536) / 256) / 4) / 2)) else (if (((v / 65536) / 256) / 16) ≤ 4 then (29 + (((v / 65536) / 256) / 16) / 2) else (31 + ((((v / 65536) / 256) / 16) / 4) / 2)))))
theorem ntzF_at : ∀ b : Fin 32, b.val ≠ 0 → ntzF ((2 ^ b.val - 1 : Nat) : Int) = b.val := by decide +kernel
theorem ntz_pos {x r : Int} {v : Int} (ev : i_and (i_xor x (-1)) (x - 1) = v) (hv : 0 < v ∧ v < 2147483648) (ek : ntzF v = r) (k : Q r σ) : Ct mJ6_numberOfTrailingZeros_0f7a4 d 0 t [iv x] σ Q := by
  refine c_J6_numberOfTrailingZeros_0f7a4 ?_
  rw [ev]
  have u0 : i_ushr v 16 = v / 65536 := i_ushr_nat (s := 16) (by omega) (by omega) (by omega)
  have u1 : i_ushr (v / 65536) 8 = (v / 65536) / 256 := i_ushr_nat (s := 8) (by omega) (by omega) (by omega)
  have u2 : i_ushr ((v / 65536) / 256) 4 = ((v / 65536) / 256) / 16 := i_ushr_nat (s := 4) (by omega) (by omega) (by omega)
  have u3 : i_ushr (((v / 65536) / 256) / 16) 2 = (((v / 65536) / 256) / 16) / 4 := i_ushr_nat (s := 2) (by omega) (by omega) (by omega)
  have u4 : i_ushr ((v / 65536) / 256) 2 = ((v / 65536) / 256) / 4 := i_ushr_nat (s := 2) (by omega) (by omega) (by omega)
  have u5 : i_ushr (v / 65536) 4 = (v / 65536) / 16 := i_ushr_nat (s := 4) (by omega) (by omega) (by omega)
  have u6 : i_ushr ((v / 65536) / 16) 2 = ((v / 65536) / 16) / 4 := i_ushr_nat (s := 2) (by omega) (by omega) (by omega)
  have u7 : i_ushr (v / 65536) 2 = (v / 65536) / 4 := i_ushr_nat (s := 2) (by omega) (by omega) (by omega)
  have u8 : i_ushr v 8 = v / 256 := i_ushr_nat (s := 8) (by omega) (by omega) (by omega)
  have u9 : i_ushr (v / 256) 4 = (v / 256) / 16 := i_ushr_nat (s := 4) (by omega) (by omega) (by omega)
  have u10 : i_ushr ((v / 256) / 16) 2 = ((v / 256) / 16) / 4 := i_ushr_nat (s := 2) (by omega) (by omega) (by omega)
  have u11 : i_ushr (v / 256) 2 = (v / 256) / 4 := i_ushr_nat (s := 2) (by omega) (by omega) (by omega)
  have u12 : i_ushr v 4 = v / 16 := i_ushr_nat (s := 4) (by omega) (by omega) (by omega)
  have u13 : i_ushr (v / 16) 2 = (v / 16) / 4 := i_ushr_nat (s := 2) (by omega) (by omega) (by omega)
  have u14 : i_ushr v 2 = v / 4 := i_ushr_nat (s := 2) (by omega) (by omega) (by omega)
  simp only [u0, u1, u2, u3, u4, u5, u6, u7, u8, u9, u10, u11, u12, u13, u14]
  exact ⟨rng (by omega) (by omega), fun _ => ⟨rng (by omega) (by omega), fun _ => ⟨rng (by omega) (by omega), fun _ => ⟨rng (by omega) (by omega), fun _ => ⟨rng (by omega) (by omega), fun _ => ntz_end (by omega) (by rw [← ek]; unfold ntzF; (repeat (first | rw [if_pos (by omega)] | rw [if_neg (by omega)])); try omega) k, fun _ => ntz_end (by omega) (by rw [← ek]; unfold ntzF; (repeat (first | rw [if_pos (by omega)] | rw [if_neg (by omega)])); try omega) k⟩, fun _ => ⟨rng (by omega) (by omega), fun _ => ntz_end (by omega) (by rw [← ek]; unfold ntzF; (repeat (first | rw [if_pos (by omega)] | rw [if_neg (by omega)])); try omega) k, fun _ => ntz_end (by omega) (by rw [← ek]; unfold ntzF; (repeat (first | rw [if_pos (by omega)] | rw [if_neg (by omega)])); try omega) k⟩⟩, fun _ => ⟨rng (by omega) (by omega), fun _ => ⟨rng (by omega) (by omega), fun _ => ntz_end (by omega) (by rw [← ek]; unfold ntzF; (repeat (first | rw [if_pos (by omega)] | rw [if_neg (by omega)])); try omega) k, fun _ => ntz_end (by omega) (by rw [← ek]; unfold ntzF; (repeat (first | rw [if_pos (by omega)] | rw [if_neg (by omega)])); try omega) k⟩, fun _ => ⟨rng (by omega) (by omega), fun _ => ntz_end (by omega) (by rw [← ek]; unfold ntzF; (repeat (first | rw [if_pos (by omega)] | rw [if_neg (by omega)])); try omega) k, fun _ => ntz_end (by omega) (by rw [← ek]; unfold ntzF; (repeat (first | rw [if_pos (by omega)] | rw [if_neg (by omega)])); try omega) k⟩⟩⟩, fun _ => ⟨rng (by omega) (by omega), fun _ => ⟨rng (by omega) (by omega), fun _ => ⟨rng (by omega) (by omega), fun _ => ntz_end (by omega) (by rw [← ek]; unfold ntzF; (repeat (first | rw [if_pos (by omega)] | rw [if_neg (by omega)])); try omega) k, fun _ => ntz_end (by omega) (by rw [← ek]; unfold ntzF; (repeat (first | rw [if_pos (by omega)] | rw [if_neg (by omega)])); try omega) k⟩, fun _ => ⟨rng (by omega) (by omega), fun _ => ntz_end (by omega) (by rw [← ek]; unfold ntzF; (repeat (first | rw [if_pos (by omega)] | rw [if_neg (by omega)])); try omega) k, fun _ => ntz_end (by omega) (by rw [← ek]; unfold ntzF; (repeat (first | rw [if_pos (by omega)] | rw [if_neg (by omega)])); try omega) k⟩⟩, fun _ => ⟨rng (by omega) (by omega), fun _ => ⟨rng (by omega) (by omega), fun _ => ntz_end (by omega) (by rw [← ek]; unfold ntzF; (repeat (first | rw [if_pos (by omega)] | rw [if_neg (by omega)])); try omega) k, fun _ => ntz_end (by omega) (by rw [← ek]; unfold ntzF; (repeat (first | rw [if_pos (by omega)] | rw [if_neg (by omega)])); try omega) k⟩, fun _ => ⟨rng (by omega) (by omega), fun _ => ntz_end (by omega) (by rw [← ek]; unfold ntzF; (repeat (first | rw [if_pos (by omega)] | rw [if_neg (by omega)])); try omega) k, fun _ => ntz_end (by omega) (by rw [← ek]; unfold ntzF; (repeat (first | rw [if_pos (by omega)] | rw [if_neg (by omega)])); try omega) k⟩⟩⟩⟩, fun z => absurd z (by omega)⟩
theorem ntz_int {x : Int} {b : Nat} (hb : b < 32) (h0 : ∀ j, j < b → tc x j = false) (h1 : tc x b = true) (k : Q b σ) : Ct mJ6_numberOfTrailingZeros_0f7a4 d 0 t [iv x] σ Q := by
  have e := low_i hb h0 h1
  rcases Nat.eq_zero_or_pos b with z | z
  · subst z
    refine c_J6_numberOfTrailingZeros_0f7a4 ?_
    rw [e]
    exact ⟨⟨by decide, by decide⟩, fun y => absurd y (by decide), fun _ => k⟩
  · have hp : 2 ^ b ≤ 2 ^ 31 := Nat.pow_le_pow_right (by omega) (by omega)
    have hp0 : 2 ^ 1 ≤ 2 ^ b := Nat.pow_le_pow_right (by omega) z
    exact ntz_pos e (by omega) (ntzF_at ⟨b, hb⟩ (by show b ≠ 0; omega)) k
/-- the lowest bit of a long -/
theorem ntz_long {x : Int} {b : Nat} (hb : b < 64) (h0 : ∀ j, j < b → tb x j = false) (h1 : tb x b = true) (k : Q b σ) : Ct mJ13_numberOfTrailingZeros_95d88 (d + 1) 0 t [jv x] σ Q := by
  refine Ct_of (by decide +kernel) (Nat.le_of_ble_eq_true rfl) (ntz_walk (fun z => ?_) (fun z => ?_))
  · have hb32 : b < 32 := by
      rcases Nat.lt_or_ge b 32 with y | y
      · exact y
      · exfalso
        refine z (tc_ext w32_R in0 (fun i hi => ?_))
        rw [tc_w32, tc_0, tc_tb hi]
        exact h0 i (by omega)
    exact ntz_int hb32 (fun j hj => by rw [tc_w32, tc_tb (by omega)]; exact h0 j hj) (by rw [tc_w32, tc_tb hb32]; exact h1) k
  · have hb32 : 32 ≤ b := by
      rcases Nat.lt_or_ge b 32 with y | y
      · have := tc_w32 (x := x) (i := b)
        rw [z, tc_0, tc_tb y, h1] at this
        cases this
      · exact y
    refine ntz_int (b := b - 32) (by omega) (fun j hj => ?_) ?_ ?_
    · rw [tc_tb (by omega), show l_ushr x 32 = l_ushr x ((32 : Nat) : Int) from rfl, tb_ushr (by omega)]
      exact h0 _ (by omega)
    · rw [tc_tb (by omega), show l_ushr x 32 = l_ushr x ((32 : Nat) : Int) from rfl, tb_ushr (by omega), show b - 32 + 32 = b by omega]
      exact h1
    · rw [show (32 : Int) + ((b - 32 : Nat) : Int) = (b : Int) by omega]
      exact k
end NU
