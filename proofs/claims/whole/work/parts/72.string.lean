/-! ===== the text of the words: String.length and charAt of it ===== -/
def RJ0 : String := "java/lang/String"
def RJ1 : String := "java/lang/StringLatin1"
def RJ3 : String := "jdk/internal/util/Preconditions"
abbrev mJ0_length_8abf5 : jT := (⟨RJ0, "length", "()I"⟩, prog_18_method_54_code, 1, some .int)
abbrev mJ0_coder : jT := (⟨RJ0, "coder", "()B"⟩, prog_18_method_152_code, 1, some .byte)
abbrev mJ0_charAt_5068e : jT := (⟨RJ0, "charAt", "(I)C"⟩, prog_18_method_56_code, 2, some .char)
abbrev mJ0_isLatin1 : jT := (⟨RJ0, "isLatin1", "()Z"⟩, prog_18_method_154_code, 1, some .boolean)
abbrev mJ0_checkIndex : jT := (⟨RJ0, "checkIndex", "(II)V"⟩, prog_18_method_155_code, 2, none)
abbrev mJ1_charAt : jT := (⟨RJ1, "charAt", "([BI)C"⟩, prog_19_method_2_code, 2, some .char)
abbrev mJ3_checkIndex : jT := (⟨RJ3, "checkIndex", "(IILjava/util/function/BiFunction;)I"⟩, prog_22_method_11_code, 3, some .int)
/-- the letters -/
def WD : List Int := [116, 105, 114, 101, 115, 32, 112, 114, 105, 99, 101, 32, 106, 111, 105, 110, 32, 112, 111, 117, 114, 32, 98, 97, 107, 101, 32, 109, 97, 107, 101, 32, 100, 97, 121, 32, 110, 117, 109, 98, 101, 114, 32, 112, 111, 117, 110, 100, 115, 32, 97, 103, 101, 32, 102, 117, 108, 108, 32, 111, 100, 100, 32, 102, 117, 110, 100, 32, 100, 111, 117, 98, 108, 101, 32, 99, 114, 111, 99, 107, 32, 105, 102, 32, 116, 104, 101, 110, 32, 101, 108, 115, 101, 32, 101, 110, 100, 32, 97, 110, 100, 32, 111, 114, 32, 110, 111, 116, 32]
def chA (i : Int) : Int := (jBytes.getD i.toNat 0).toInt
theorem chA_all : ∀ k : Fin 109, i_and (chA (k.val : Int)) 255 = WD.getD k.val 0 := by decide +kernel
theorem jB_len : jBytes.length = 109 := by decide +kernel
theorem rokB {rt : Option FieldType} {cc : ByteArray} {pc : Nat} (h : decode cc pc = .ok (.ireturn, 1)) (hr : rt = some .byte) : jRok rt cc pc (iv 0) [iv 0] := Or.inr (Or.inr (Or.inr (Or.inr (Or.inr ⟨.byte, hr, h, rfl, rfl, Or.inl ⟨rfl, rfl⟩⟩))))
theorem and255 (x : Int) : Int32.ofInt (i_and x 255) = Int32.ofInt x &&& 255 := by unfold i_and; rw [Int32.ofInt_toInt]; rfl
theorem rokC {rt : Option FieldType} {cc : ByteArray} {pc : Nat} {x : Int} (h : decode cc pc = .ok (.ireturn, 1)) (hr : rt = some .char) : jRok rt cc pc (iv (i_and x 255)) [iv (i_and x 255)] := Or.inr (Or.inr (Or.inr (Or.inr (Or.inr ⟨.char, hr, h, rfl, rfl, Or.inr ⟨rfl, by rw [and255]; exact sc_nar _⟩⟩))))
section JW
variable {m : jT} {d n0 hi : Nat} {Post : jV → jG → jM → Prop} {pc : Nat} {L S : List jV} {G : jG} {σ : jM} {t : Int} {Q : Int → jM → Prop}
theorem j_ldcW (hm : m.1.cls = RX3) (hd : decode m.2.1 pc = .ok (.ldc 152, 2)) (k : J m d n0 hi Post (pc + 2) L ((4, 0) :: S) G σ) : J m d n0 hi Post pc L S G σ := by
  intro E p l e R s mi args below meth c Q hC hR ls H locs hl hH hS h1 h2
  exact va_ldcS hC.1 hC.2.1 (own := RX3) (by rw [← hm]; exact hC.2.2.2.1) hC.2.2.2.2.2.2.1.2.1 hd (k E p l e R s mi args below meth c Q hC hR ls H locs hl hH hS h1 h2)
theorem j_strV (hm : m.1.cls = RJ0) (hd : decode m.2.1 pc = .ok (.getfield 9, 3)) (k : J m d n0 hi Post (pc + 3) L ((6, 0) :: S) G σ) : J m d n0 hi Post pc L ((4, 0) :: S) G σ := by
  intro E p l e R s mi args below meth c Q hC hR ls H locs hl hH hS h1 h2
  exact vk_getf (ref := "java/lang/String") hC.1 hC.2.1 (hC.2.2.2.2.2.2.1.2.2.1.1 0 (by decide)).2.2.1 hS (own := RJ0) (by rw [← hm]; exact hC.2.2.2.1) (hC.2.2.2.2.1 _ (tt_in 1926 (by decide +kernel) rfl)) (fun _ h => h) hd (k E p l e R s mi args below meth c Q hC hR ls H locs hl hH hS h1 h2)
theorem j_strC (hm : m.1.cls = RJ0) (hd : decode m.2.1 pc = .ok (.getfield 15, 3)) (k : J m d n0 hi Post (pc + 3) L (iv 0 :: S) G σ) : J m d n0 hi Post pc L ((4, 0) :: S) G σ := by
  intro E p l e R s mi args below meth c Q hC hR ls H locs hl hH hS h1 h2
  exact vk_getf (ref := "java/lang/String") hC.1 hC.2.1 (hC.2.2.2.2.2.2.1.2.2.1.1 0 (by decide)).2.1 hS (own := RJ0) (by rw [← hm]; exact hC.2.2.2.1) (hC.2.2.2.2.1 _ (tt_in 1927 (by decide +kernel) rfl)) (fun _ h => h) hd (k E p l e R s mi args below meth c Q hC hR ls H locs hl hH hS h1 h2)
theorem j_strL (hd : decode m.2.1 pc = .ok (.arraylength, 1)) (k : J m d n0 hi Post (pc + 1) L (iv 109 :: S) G σ) : J m d n0 hi Post pc L ((6, 0) :: S) G σ := by
  intro E p l e R s mi args below meth c Q hC hR ls H locs hl hH hS h1 h2
  exact va_tlen hC.1 hC.2.1 (hC.2.2.2.2.2.2.1.2.2.1.1 0 (by decide)).2.2.2 hS (v := Int32.ofInt 109) (by decide +kernel) hd (k E p l e R s mi args below meth c Q hC hR ls H locs hl hH hS h1 h2)
theorem j_strB {i : Int} (i0 : 0 ≤ i ∧ i < 109) (hd : decode m.2.1 pc = .ok (.baload, 1)) (k : J m d n0 hi Post (pc + 1) L (iv (chA i) :: S) G σ) : J m d n0 hi Post pc L (iv i :: (6, 0) :: S) G σ := by
  intro E p l e R s mi args below meth c Q hC hR ls H locs hl hH hS h1 h2
  have hn : [jBytes.length].getD 0 0 = 109 := by decide +kernel
  obtain ⟨q1, q2⟩ := nat32 (i := i) (n := [jBytes.length].getD 0 0) i0.1 (by rw [hn]; omega) (by rw [hn]; omega)
  have hT := (hC.2.2.2.2.2.2.1.2.2.1.1 0 (by decide)).2.2.2
  have hv : (fun j => Value.int (([jBytes].getD 0 []).getD j 0)) (Int32.ofInt i).toNatClampNeg = .int (Int32.ofInt (chA i)) := by
    rw [q2]
    show Value.int (jBytes.getD i.toNat 0) = _
    unfold chA
    rw [Int32.ofInt_toInt]
  have kk := k E p l e R s mi args below meth c Q hC hR ls H locs hl hH hS h1 h2
  rw [List.map_cons, conc_i] at kk
  generalize [jBytes.length].getD 0 0 = N at hT q1
  generalize (fun j => Value.int (([jBytes].getD 0 []).getD j 0)) = f at hT hv
  generalize Int32.ofInt (chA i) = z at hv kk
  exact va_tb (i := Int32.ofInt i) (v := .int z) hC.1 hC.2.1 hT hS q1 hv hd kk
theorem j_gsC (hm : m.1.cls = RJ0) (hd : decode m.2.1 pc = .ok (.getstatic 38, 3)) (k : J m d n0 hi Post (pc + 3) L (iv 1 :: S) G σ) : J m d n0 hi Post pc L S G σ := by
  intro E p l e R s mi args below meth c Q hC hR ls H locs hl hH hS h1 h2
  exact va_gets (ref := "java/lang/String") hC.1 hC.2.1 hC.2.2.2.2.2.2.1.2.2.2.1 hS (own := RJ0) (by rw [← hm]; exact hC.2.2.2.1) (hC.2.2.2.2.1 _ (tt_in 597 (by decide +kernel) rfl)) (fun _ h => h) hd (k E p l e R s mi args below meth c Q hC hR ls H locs hl hH hS h1 h2)
theorem j_gsF (hm : m.1.cls = RJ0) (hd : decode m.2.1 pc = .ok (.getstatic 1053, 3)) (k1 : J m d n0 hi Post (pc + 3) L (rv 0 :: S) G σ) (k2 : ∀ x : Nat, J m d n0 hi Post (pc + 3) L ((5, (x : Int)) :: S) G σ) : J m d n0 hi Post pc L S G σ := by
  intro E p l e R s mi args below meth c Q hC hR ls H locs hl hH hS h1 h2
  rcases hC.2.2.2.2.2.2.1.2.2.2.2 with z | ⟨x, z⟩
  · exact va_gets (ref := "jdk/internal/util/Preconditions") hC.1 hC.2.1 z hS (own := RJ0) (by rw [← hm]; exact hC.2.2.2.1) (hC.2.2.2.2.1 _ (tt_in 613 (by decide +kernel) rfl)) (fun _ h => h) hd (k1 E p l e R s mi args below meth c Q hC hR ls H locs hl hH hS h1 h2)
  · exact va_gets (ref := "jdk/internal/util/Preconditions") hC.1 hC.2.1 z hS (own := RJ0) (by rw [← hm]; exact hC.2.2.2.1) (hC.2.2.2.2.1 _ (tt_in 613 (by decide +kernel) rfl)) (fun _ h => h) hd (k2 x E p l e R s mi args below meth c Q hC hR ls H locs hl hH hS h1 h2)
theorem j_i2c {x : Int} (hd : decode m.2.1 pc = .ok (.i2c, 1)) (k : J m d n0 hi Post (pc + 1) L (iv (i_and x 255) :: S) G σ) : J m d n0 hi Post pc L (iv (i_and x 255) :: S) G σ := by
  intro E p l e R s mi args below meth c Q hC hR ls H locs hl hH hS h1 h2
  exact lv_i2c hC.1 hC.2.1 hd (by rw [and255]; exact sc_c2 _) (k E p l e R s mi args below meth c Q hC hR ls H locs hl hH hS h1 h2)
theorem j_callT {m' : jT} {idx d' k n : Nat} {As : List jV} (hw : jcV m m' idx n) (hd : decode m.2.1 pc = .ok (.invokevirtual idx, 3)) (hlen : As.length = n) (hcat : scat S ≤ 8) (hdd : d' + 1 ≤ d) (hk : G.2 + k ≤ hi) (hq : m'.1.cls = RJ0)
    (hcn : Cn m' d' k ((4, 0) :: As) G σ (fun r G' σ' => J m d n0 hi Post (pc + 3) L (jpush r S) G' σ')) : J m d n0 hi Post pc L (As.reverse ++ (4, 0) :: S) G σ := by
  intro E p l e R s mi args below meth c Q hC hR ls H locs hl hH hS h1 h2
  obtain ⟨⟨w1, w2, w3, w4, w5⟩, w6, w7⟩ := hw
  have hts := hC.2.2.2.2.1
  obtain ⟨r1, r2, r3, r4⟩ := hC.2.2.2.2.2.2.2.1
  have hs0 := hC.2.2.2.2.2.2.2.2.1
  refine w_size hs0 h1 hH hS (fun hsz => ?_)
  refine j_behind (S := S) hk hC hR hl hS h1 (a := (Value.ref E.2.2.1.1 :: As.map (conc E)).toArray) ?_
  have q1 := sl_le h1
  have q2 := sl_le (Nat.le_add_right G.2 k)
  have q3 := sl_le hk
  have cb : CallB R s args m.1.cls idx m'.1 m'.2.1 m'.2.2.1 m'.2.2.2 (.code m'.1 m'.2.1 m'.2.2.1 m'.2.2.2 :: TT) (jrm d' G.2 k) k (sl (G.2 + k) - sl G.2) n :=
    callB_of n hts (ttc_good w5) rfl rfl rfl (hts _ w4) (hts _ w1) w6 ⟨by show d' + 1 ≤ R.frames; omega, by show 8 + (m'.2.2.1 + 11) + 64 * d' ≤ R.locals; omega⟩
  have hcn' := hcn l E
  rw [List.map_cons, show conc E (4, 0) = .ref E.2.2.1.1 from rfl] at hcn'
  refine va_runV (As := As.map (conc E)) (rest := S.map (conc E)) (b := E.2.2.1.1) (C := m'.1.cls) ⟨hC.1, hC.2.1, hC.2.2.1, hC.2.2.2.1, hts⟩ hcn' ⟨cb, hts _ w2, hts _ w3⟩ ⟨jPre_blind E G σ _, ?_, ?_⟩ rfl (by rw [List.length_map]; exact hlen) hl.2.1 ?_ ?_ hd ⟨by omega, by omega⟩
  · obtain ⟨cell, u1, u2, u3⟩ := vk_recv (i := 0) hC.2.2.2.2.2.2.1.2.2.1 (by decide) hS
    exact ⟨cell, u1, u2, by rw [hq]; exact u3⟩
  · intro U hU hW
    exact ⟨rfl, by rw [hU]; exact hH, jK_up hW hC.2.2.2.2.2.1, jS_up hs0 hW hU hS hC.2.2.2.2.2.2.1, by rw [hU]; exact hsz⟩
  · show (As.reverse ++ (4, 0) :: S).map (conc E) = _
    rw [conc_rev, List.map_cons]
    rfl
  · exact lv_room (by rw [scat_eq]; exact hcat)
theorem j_ctT {m' : jT} {idx n tag : Nat} {As : List jV} {F : Int → jM → Prop} (hw : jcV m m' idx n) (hd : decode m.2.1 pc = .ok (.invokevirtual idx, 3)) (hlen : As.length = n) (hcat : scat S ≤ 8) (ht : tag ≠ 9) (hq : m'.1.cls = RJ0) (hN : (GG t).2 + 0 ≤ hi) (h : Ct m' d tag t ((4, 0) :: As) σ F)
    (k : ∀ (r : Int) (σ' : jM), F r σ' → J m (d + 1) n0 hi Post (pc + 3) L ((tag, r) :: S) (GG t) σ') : J m (d + 1) n0 hi Post pc L (As.reverse ++ (4, 0) :: S) (GG t) σ := by
  refine j_callT hw hd hlen hcat (Nat.le_refl _) (k := 0) hN hq (Cn_mono h ?_)
  rintro ⟨r1, r2⟩ G' σ' ⟨h1, h2, h3⟩
  have h1 : r1 = tag := h1
  subst h1
  subst h2
  have := k r2 σ' h3
  unfold jpush
  rw [if_neg ht]
  exact this
theorem cw_X3_154 {m : jT} (hm : m.1.cls = RX3) : jcV m mJ0_length_8abf5 154 0 := ⟨⟨(by rw [hm]; exact tt_in 589 (by decide +kernel) rfl), (tt_in 590 (by decide +kernel) rfl), (tt_in 591 (by decide +kernel) rfl), (tt_in 144 (by decide +kernel) rfl), (tt_in 592 (by decide +kernel) rfl)⟩, ⟨by decide +kernel, by decide +kernel, by decide +kernel⟩, by decide⟩
theorem cw_X3_158 {m : jT} (hm : m.1.cls = RX3) : jcV m mJ0_charAt_5068e 158 1 := ⟨⟨(by rw [hm]; exact tt_in 599 (by decide +kernel) rfl), (tt_in 600 (by decide +kernel) rfl), (tt_in 601 (by decide +kernel) rfl), (tt_in 144 (by decide +kernel) rfl), (tt_in 602 (by decide +kernel) rfl)⟩, ⟨by decide +kernel, by decide +kernel, by decide +kernel⟩, by decide⟩
theorem cw_J0_335 {m : jT} (hm : m.1.cls = RJ0) : jcV m mJ0_coder 335 0 := ⟨⟨(by rw [hm]; exact tt_in 593 (by decide +kernel) rfl), (tt_in 594 (by decide +kernel) rfl), (tt_in 595 (by decide +kernel) rfl), (tt_in 144 (by decide +kernel) rfl), (tt_in 596 (by decide +kernel) rfl)⟩, ⟨by decide +kernel, by decide +kernel, by decide +kernel⟩, by decide⟩
theorem cw_J0_492 {m : jT} (hm : m.1.cls = RJ0) : jcV m mJ0_isLatin1 492 0 := ⟨⟨(by rw [hm]; exact tt_in 603 (by decide +kernel) rfl), (tt_in 604 (by decide +kernel) rfl), (tt_in 605 (by decide +kernel) rfl), (tt_in 144 (by decide +kernel) rfl), (tt_in 606 (by decide +kernel) rfl)⟩, ⟨by decide +kernel, by decide +kernel, by decide +kernel⟩, by decide⟩
theorem cw_J0_495 {m : jT} (hm : m.1.cls = RJ0) : jcS m mJ1_charAt 495 2 := ⟨⟨(by rw [hm]; exact tt_in 607 (by decide +kernel) rfl), (tt_in 608 (by decide +kernel) rfl), (tt_in 145 (by decide +kernel) rfl), (tt_in 609 (by decide +kernel) rfl)⟩, ⟨by decide +kernel, by decide +kernel, by decide +kernel⟩, by decide⟩
theorem cw_J1_9 {m : jT} (hm : m.1.cls = RJ1) : jcS m mJ0_checkIndex 9 2 := ⟨⟨(by rw [hm]; exact tt_in 610 (by decide +kernel) rfl), (tt_in 611 (by decide +kernel) rfl), (tt_in 144 (by decide +kernel) rfl), (tt_in 612 (by decide +kernel) rfl)⟩, ⟨by decide +kernel, by decide +kernel, by decide +kernel⟩, by decide⟩
theorem cw_J0_1059 {m : jT} (hm : m.1.cls = RJ0) : jcS m mJ3_checkIndex 1059 3 := ⟨⟨(by rw [hm]; exact tt_in 615 (by decide +kernel) rfl), (tt_in 616 (by decide +kernel) rfl), (tt_in 146 (by decide +kernel) rfl), (tt_in 617 (by decide +kernel) rfl)⟩, ⟨by decide +kernel, by decide +kernel, by decide +kernel⟩, by decide⟩
theorem c_Jcod (h : Q 0 σ) : Ct mJ0_coder d 0 t [(4, 0)] σ Q := by
  refine Ct_of (by decide +kernel) (Nat.le_of_ble_eq_true rfl) ?_
  refine j_gsC rfl (show decode prog_18_method_152_code 0 = .ok (.getstatic 38, 3) by decide +kernel) ?_
  refine j_if_eq (tgt := 13) (inl (by decide)) (show decode prog_18_method_152_code 3 = .ok (.ifCond .eq 10, 3) by decide +kernel) (by decide) (fun c => absurd c (by decide)) (fun c => ?_)
  refine j_aload_n (i := 0) (v := (4, 0)) rfl (Or.inr (Or.inr (Or.inl rfl))) (show decode prog_18_method_152_code 6 = .ok (.aload_n 0, 1) by decide +kernel) ?_
  refine j_strC rfl (show decode prog_18_method_152_code 7 = .ok (.getfield 15, 3) by decide +kernel) ?_
  refine j_goto (tgt := 14) (show decode prog_18_method_152_code 10 = .ok (.goto 4, 3) by decide +kernel) (by decide) ?_
  exact j_ret (rokB (show decode prog_18_method_152_code 14 = .ok (.ireturn, 1) by decide +kernel) rfl) ⟨rfl, rfl, h⟩
theorem c_Jlen (h : Q 109 σ) : Ct mJ0_length_8abf5 (d + 1) 0 t [(4, 0)] σ Q := by
  refine Ct_of (by decide +kernel) (Nat.le_of_ble_eq_true rfl) ?_
  refine j_aload_n (i := 0) (v := (4, 0)) rfl (Or.inr (Or.inr (Or.inl rfl))) (show decode prog_18_method_54_code 0 = .ok (.aload_n 0, 1) by decide +kernel) ?_
  refine j_strV rfl (show decode prog_18_method_54_code 1 = .ok (.getfield 9, 3) by decide +kernel) ?_
  refine j_strL (show decode prog_18_method_54_code 4 = .ok (.arraylength, 1) by decide +kernel) ?_
  refine j_aload_n (i := 0) (v := (4, 0)) rfl (Or.inr (Or.inr (Or.inl rfl))) (show decode prog_18_method_54_code 5 = .ok (.aload_n 0, 1) by decide +kernel) ?_
  refine j_ctT (m' := mJ0_coder) (As := []) (tag := 0) (cw_J0_335 rfl) (show decode prog_18_method_54_code 6 = .ok (.invokevirtual 335, 3) by decide +kernel) rfl (Nat.le_of_ble_eq_true rfl) (by decide) rfl (Nat.le_refl _) (c_Jcod (Q := fun r σ' => r = 0 ∧ σ' = σ) ⟨rfl, rfl⟩) (fun r σ' h2 => ?_)
  rw [h2.1, h2.2]
  refine j_ishr (show decode prog_18_method_54_code 9 = .ok (.ishr, 1) by decide +kernel) ?_
  exact j_ret (rokI (show decode prog_18_method_54_code 10 = .ok (.ireturn, 1) by decide +kernel) rfl) ⟨rfl, rfl, by rw [show i_shr 109 0 = 109 by decide +kernel]; exact h⟩
theorem c_Jlat (h : Q 1 σ) : Ct mJ0_isLatin1 d 0 t [(4, 0)] σ Q := by
  refine Ct_of (by decide +kernel) (Nat.le_of_ble_eq_true rfl) ?_
  refine j_gsC rfl (show decode prog_18_method_154_code 0 = .ok (.getstatic 38, 3) by decide +kernel) ?_
  refine j_if_eq (tgt := 17) (inl (by decide)) (show decode prog_18_method_154_code 3 = .ok (.ifCond .eq 14, 3) by decide +kernel) (by decide) (fun c => absurd c (by decide)) (fun c => ?_)
  refine j_aload_n (i := 0) (v := (4, 0)) rfl (Or.inr (Or.inr (Or.inl rfl))) (show decode prog_18_method_154_code 6 = .ok (.aload_n 0, 1) by decide +kernel) ?_
  refine j_strC rfl (show decode prog_18_method_154_code 7 = .ok (.getfield 15, 3) by decide +kernel) ?_
  refine j_if_ne (tgt := 17) (inl (by decide)) (show decode prog_18_method_154_code 10 = .ok (.ifCond .ne 7, 3) by decide +kernel) (by decide) (fun c => absurd rfl c) (fun c => ?_)
  refine j_iconst (show decode prog_18_method_154_code 13 = .ok (.iconst 1, 1) by decide +kernel) ?_
  refine j_goto (tgt := 18) (show decode prog_18_method_154_code 14 = .ok (.goto 4, 3) by decide +kernel) (by decide) ?_
  exact j_ret (rokZ (show decode prog_18_method_154_code 18 = .ok (.ireturn, 1) by decide +kernel) rfl (Or.inr rfl)) ⟨rfl, rfl, h⟩
theorem c_Jpre0 {i : Int} (i0 : 0 ≤ i ∧ i < 109) (ir : inR i) (h : Q i σ) : Ct mJ3_checkIndex d 0 t [iv i, iv 109, rv 0] σ Q := by
  refine Ct_of (by decide +kernel) (Nat.le_of_ble_eq_true rfl) ?_
  refine j_iload_n (i := 0) rfl (show decode prog_22_method_11_code 0 = .ok (.iload_n 0, 1) by decide +kernel) ?_
  refine j_if_lt (tgt := 9) ir (show decode prog_22_method_11_code 1 = .ok (.ifCond .lt 8, 3) by decide +kernel) (by decide) (fun c => absurd c (by omega)) (fun c => ?_)
  refine j_iload_n (i := 0) rfl (show decode prog_22_method_11_code 4 = .ok (.iload_n 0, 1) by decide +kernel) ?_
  refine j_iload_n (i := 1) rfl (show decode prog_22_method_11_code 5 = .ok (.iload_n 1, 1) by decide +kernel) ?_
  refine j_icmp_lt (tgt := 16) ir (inl (by decide)) (show decode prog_22_method_11_code 6 = .ok (.if_icmp .lt 10, 3) by decide +kernel) (by decide) (fun c => ?_) (fun c => absurd c (by omega))
  refine j_iload_n (i := 0) rfl (show decode prog_22_method_11_code 16 = .ok (.iload_n 0, 1) by decide +kernel) ?_
  exact j_ret (rokI (show decode prog_22_method_11_code 17 = .ok (.ireturn, 1) by decide +kernel) rfl) ⟨rfl, rfl, h⟩
theorem c_Jpre5 {i x : Int} (i0 : 0 ≤ i ∧ i < 109) (ir : inR i) (h : Q i σ) : Ct mJ3_checkIndex d 0 t [iv i, iv 109, (5, x)] σ Q := by
  refine Ct_of (by decide +kernel) (Nat.le_of_ble_eq_true rfl) ?_
  refine j_iload_n (i := 0) rfl (show decode prog_22_method_11_code 0 = .ok (.iload_n 0, 1) by decide +kernel) ?_
  refine j_if_lt (tgt := 9) ir (show decode prog_22_method_11_code 1 = .ok (.ifCond .lt 8, 3) by decide +kernel) (by decide) (fun c => absurd c (by omega)) (fun c => ?_)
  refine j_iload_n (i := 0) rfl (show decode prog_22_method_11_code 4 = .ok (.iload_n 0, 1) by decide +kernel) ?_
  refine j_iload_n (i := 1) rfl (show decode prog_22_method_11_code 5 = .ok (.iload_n 1, 1) by decide +kernel) ?_
  refine j_icmp_lt (tgt := 16) ir (inl (by decide)) (show decode prog_22_method_11_code 6 = .ok (.if_icmp .lt 10, 3) by decide +kernel) (by decide) (fun c => ?_) (fun c => absurd c (by omega))
  refine j_iload_n (i := 0) rfl (show decode prog_22_method_11_code 16 = .ok (.iload_n 0, 1) by decide +kernel) ?_
  exact j_ret (rokI (show decode prog_22_method_11_code 17 = .ok (.ireturn, 1) by decide +kernel) rfl) ⟨rfl, rfl, h⟩
theorem c_Jchk {i : Int} (i0 : 0 ≤ i ∧ i < 109) (ir : inR i) (h : Q 0 σ) : Ct mJ0_checkIndex (d + 1) 9 t [iv i, iv 109] σ Q := by
  refine Ct_of (by decide +kernel) (Nat.le_of_ble_eq_true rfl) ?_
  refine j_iload_n (i := 0) rfl (show decode prog_18_method_155_code 0 = .ok (.iload_n 0, 1) by decide +kernel) ?_
  refine j_iload_n (i := 1) rfl (show decode prog_18_method_155_code 1 = .ok (.iload_n 1, 1) by decide +kernel) ?_
  refine j_gsF rfl (show decode prog_18_method_155_code 2 = .ok (.getstatic 1053, 3) by decide +kernel) ?_ (fun x => ?_)
  · refine j_ctS (m' := mJ3_checkIndex) (As := [iv i, iv 109, rv 0]) (tag := 0) (cw_J0_1059 rfl) (show decode prog_18_method_155_code 5 = .ok (.invokestatic 1059, 3) by decide +kernel) rfl (Nat.le_of_ble_eq_true rfl) (by decide) (Nat.le_refl _) (c_Jpre0 (Q := fun r σ' => σ' = σ) i0 ir rfl) (fun r σ' h2 => ?_)
    rw [h2]
    refine j_pop (show (0 : Nat) ≠ 1 by decide) (show decode prog_18_method_155_code 8 = .ok (.pop, 1) by decide +kernel) ?_
    exact j_ret (rokV (show decode prog_18_method_155_code 9 = .ok (.return_, 1) by decide +kernel) rfl) ⟨rfl, rfl, h⟩
  · refine j_ctS (m' := mJ3_checkIndex) (As := [iv i, iv 109, (5, (x : Int))]) (tag := 0) (cw_J0_1059 rfl) (show decode prog_18_method_155_code 5 = .ok (.invokestatic 1059, 3) by decide +kernel) rfl (Nat.le_of_ble_eq_true rfl) (by decide) (Nat.le_refl _) (c_Jpre5 (Q := fun r σ' => σ' = σ) i0 ir rfl) (fun r σ' h2 => ?_)
    rw [h2]
    refine j_pop (show (0 : Nat) ≠ 1 by decide) (show decode prog_18_method_155_code 8 = .ok (.pop, 1) by decide +kernel) ?_
    exact j_ret (rokV (show decode prog_18_method_155_code 9 = .ok (.return_, 1) by decide +kernel) rfl) ⟨rfl, rfl, h⟩
theorem c_Jlch {i : Int} (i0 : 0 ≤ i ∧ i < 109) (ir : inR i) (h : Q (i_and (chA i) 255) σ) : Ct mJ1_charAt (d + 2) 0 t [(6, 0), iv i] σ Q := by
  refine Ct_of (by decide +kernel) (Nat.le_of_ble_eq_true rfl) ?_
  refine j_iload_n (i := 1) rfl (show decode prog_19_method_2_code 0 = .ok (.iload_n 1, 1) by decide +kernel) ?_
  refine j_aload_n (i := 0) (v := (6, 0)) rfl (Or.inr (Or.inr (Or.inr (Or.inr rfl)))) (show decode prog_19_method_2_code 1 = .ok (.aload_n 0, 1) by decide +kernel) ?_
  refine j_strL (show decode prog_19_method_2_code 2 = .ok (.arraylength, 1) by decide +kernel) ?_
  refine j_ctSv (m' := mJ0_checkIndex) (As := [iv i, iv 109]) (cw_J1_9 rfl) (show decode prog_19_method_2_code 3 = .ok (.invokestatic 9, 3) by decide +kernel) rfl (Nat.le_of_ble_eq_true rfl) (Nat.le_refl _) (c_Jchk (Q := fun r σ' => σ' = σ) i0 ir rfl) (fun r σ' h2 => ?_)
  rw [h2]
  refine j_aload_n (i := 0) (v := (6, 0)) rfl (Or.inr (Or.inr (Or.inr (Or.inr rfl)))) (show decode prog_19_method_2_code 6 = .ok (.aload_n 0, 1) by decide +kernel) ?_
  refine j_iload_n (i := 1) rfl (show decode prog_19_method_2_code 7 = .ok (.iload_n 1, 1) by decide +kernel) ?_
  refine j_strB i0 (show decode prog_19_method_2_code 8 = .ok (.baload, 1) by decide +kernel) ?_
  refine j_sipush (n := 255) (by decide +kernel) (show decode prog_19_method_2_code 9 = .ok (.sipush 255, 3) by decide +kernel) ?_
  refine j_iand (show decode prog_19_method_2_code 12 = .ok (.iand, 1) by decide +kernel) ?_
  refine j_i2c (show decode prog_19_method_2_code 13 = .ok (.i2c, 1) by decide +kernel) ?_
  exact j_ret (rokC (show decode prog_19_method_2_code 14 = .ok (.ireturn, 1) by decide +kernel) rfl) ⟨rfl, rfl, h⟩
theorem c_Jchr {i : Int} (i0 : 0 ≤ i ∧ i < 109) (h : Q (WD.getD i.toNat 0) σ) : Ct mJ0_charAt_5068e (d + 3) 0 t [(4, 0), iv i] σ Q := by
  refine Ct_of (by decide +kernel) (Nat.le_of_ble_eq_true rfl) ?_
  have ir : inR i := rng (by omega) (by omega)
  have ev : i_and (chA i) 255 = WD.getD i.toNat 0 := by
    have := chA_all ⟨i.toNat, by omega⟩
    rw [show ((i.toNat : Nat) : Int) = i by omega] at this
    exact this
  refine j_aload_n (i := 0) (v := (4, 0)) rfl (Or.inr (Or.inr (Or.inl rfl))) (show decode prog_18_method_56_code 0 = .ok (.aload_n 0, 1) by decide +kernel) ?_
  refine j_ctT (m' := mJ0_isLatin1) (As := []) (tag := 0) (cw_J0_492 rfl) (show decode prog_18_method_56_code 1 = .ok (.invokevirtual 492, 3) by decide +kernel) rfl (Nat.le_of_ble_eq_true rfl) (by decide) rfl (Nat.le_refl _) (c_Jlat (Q := fun r σ' => r = 1 ∧ σ' = σ) ⟨rfl, rfl⟩) (fun r σ' h2 => ?_)
  rw [h2.1, h2.2]
  refine j_if_eq (tgt := 16) (inl (by decide)) (show decode prog_18_method_56_code 4 = .ok (.ifCond .eq 12, 3) by decide +kernel) (by decide) (fun c => absurd c (by decide)) (fun c => ?_)
  refine j_aload_n (i := 0) (v := (4, 0)) rfl (Or.inr (Or.inr (Or.inl rfl))) (show decode prog_18_method_56_code 7 = .ok (.aload_n 0, 1) by decide +kernel) ?_
  refine j_strV rfl (show decode prog_18_method_56_code 8 = .ok (.getfield 9, 3) by decide +kernel) ?_
  refine j_iload_n (i := 1) rfl (show decode prog_18_method_56_code 11 = .ok (.iload_n 1, 1) by decide +kernel) ?_
  refine j_ctS (m' := mJ1_charAt) (As := [(6, 0), iv i]) (tag := 0) (cw_J0_495 rfl) (show decode prog_18_method_56_code 12 = .ok (.invokestatic 495, 3) by decide +kernel) rfl (Nat.le_of_ble_eq_true rfl) (by decide) (Nat.le_refl _) (c_Jlch (Q := fun r σ' => r = i_and (chA i) 255 ∧ σ' = σ) i0 ir ⟨rfl, rfl⟩) (fun r σ' h2 => ?_)
  rw [h2.1, h2.2]
  exact j_ret (rokC (show decode prog_18_method_56_code 15 = .ok (.ireturn, 1) by decide +kernel) rfl) ⟨rfl, rfl, by rw [ev]; exact h⟩
end JW
