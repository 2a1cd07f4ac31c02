/-! ===== the judgement J: a method's frame over a memory of whole numbers ===== -/
/-- the good words of the tables: every method's words -/
def TT : List Cond := lw_tbl.filter goodWord
theorem tt_in {w : Cond} (i : Nat) (h : lw_tbl[i]? = some w) (hg : goodWord w = true) : w ∈ TT := List.mem_filter.mpr ⟨List.mem_of_getElem? h, hg⟩
theorem tt_good : GoodIn TT TT := fun _ h => ⟨h, good_of_word (List.mem_filter.mp h).2⟩
theorem tt_ins {ws : List Cond} (ps : List Nat) (hp : ws = ps.filterMap (fun i => lw_tbl[i]?)) (hg : ws.all goodWord = true) : ∀ w ∈ ws, w ∈ TT := by
  intro w hw
  have h1 := List.all_eq_true.mp hg w hw
  rw [hp] at hw
  obtain ⟨i, -, hi⟩ := List.mem_filterMap.mp hw
  exact tt_in i hi h1
/-- a value: its tag (0 int, 1 long, 2 a cell, 0 being null, 3 the script, 4 the text, 6 its bytes, 5 any address, others: nothing is known) and its number -/
abbrev jV : Type := Nat × Int
abbrev iv (x : Int) : jV := (0, x)
abbrev jv (x : Int) : jV := (1, x)
abbrev rv (x : Int) : jV := (2, x)
abbrev uv : jV := (9, 0)
abbrev jM : Type := Int → Int → Int
abbrev jG : Type := jM × Nat
/-- what stays for the whole run: the address below the first cell, the script's, the text's, the tables' numbers, the array classes -/
abbrev jE : Type := Nat × (Nat × Nat × (Nat → Int32)) × (Nat × Nat) × va_G × (Nat → ClassId)
/-- a method: name, bytes, locals, answer -/
abbrev jT : Type := MethodName × ByteArray × Nat × Option FieldType
def inR (x : Int) : Prop := -2147483648 ≤ x ∧ x < 2147483648
def inL (x : Int) : Prop := -9223372036854775808 ≤ x ∧ x < 9223372036854775808
def conc (E : jE) (v : jV) : Value := if v.1 = 0 then .int (Int32.ofInt v.2) else if v.1 = 1 then .long (Int64.ofInt v.2) else if v.1 = 2 then (if v.2 = 0 then .null else .ref (E.1 + v.2.toNat)) else if v.1 = 3 then .ref E.2.1.1 else if v.1 = 4 then .ref E.2.2.1.1 else if v.1 = 6 then .ref E.2.2.1.2 else .ref v.2.toNat
theorem conc_i (E : jE) (x : Int) : conc E (iv x) = .int (Int32.ofInt x) := rfl
theorem conc_j (E : jE) (x : Int) : conc E (jv x) = .long (Int64.ofInt x) := rfl
theorem conc_r (E : jE) {x : Int} (h : x ≠ 0) : conc E (rv x) = .ref (E.1 + x.toNat) := by
  show (if x = 0 then Value.null else .ref (E.1 + x.toNat)) = _
  rw [if_neg h]
theorem conc_n (E : jE) : conc E (rv 0) = .null := rfl
def jrf (E : jE) (x : Int) : Option Nat := if x = 0 then none else some (E.1 + x.toNat)
theorem conc_rf (E : jE) (x : Int) : conc E (rv x) = va_rf (jrf E x) := by
  show (if x = 0 then Value.null else .ref (E.1 + x.toNat)) = _
  unfold jrf
  by_cases h : x = 0
  · rw [if_pos h, if_pos h]; rfl
  · rw [if_neg h, if_neg h]; rfl
theorem conc_cat (E : jE) (v : jV) : (conc E v).category = if v.1 = 1 then 2 else 1 := by
  obtain ⟨t, x⟩ := v
  unfold conc
  by_cases h0 : t = 0
  · subst h0; rfl
  · by_cases h1 : t = 1
    · subst h1; rfl
    · by_cases h2 : t = 2
      · subst h2
        by_cases h : x = 0
        · subst h; rfl
        · simp only [if_neg h]; rfl
      · by_cases h3 : t = 3
        · subst h3; rfl
        · by_cases h4 : t = 4
          · subst h4; rfl
          · by_cases h6 : t = 6
            · subst h6; rfl
            · simp only [if_neg h0, if_neg h1, if_neg h2, if_neg h3, if_neg h4, if_neg h6]; rfl
theorem bm32 {z : Int} (h : inR z) : z.bmod (2 ^ 32) = z := by
  obtain ⟨h1, h2⟩ := h
  rw [Int.bmod_eq_of_le (by omega) (by omega)]
theorem bm64 {z : Int} (h : inL z) : z.bmod (2 ^ 64) = z := by
  obtain ⟨h1, h2⟩ := h
  rw [Int.bmod_eq_of_le (by omega) (by omega)]
theorem to32 {x : Int} (h : inR x) : (Int32.ofInt x).toInt = x := by rw [Int32.toInt_ofInt, bm32 h]
theorem to64 {x : Int} (h : inL x) : (Int64.ofInt x).toInt = x := by rw [Int64.toInt_ofInt, bm64 h]
theorem lt32 {x y : Int} (hx : inR x) (hy : inR y) : Int32.ofInt x < Int32.ofInt y ↔ x < y := by rw [Int32.lt_iff_toInt_lt, to32 hx, to32 hy]
theorem le32 {x y : Int} (hx : inR x) (hy : inR y) : Int32.ofInt x ≤ Int32.ofInt y ↔ x ≤ y := by rw [Int32.le_iff_toInt_le, to32 hx, to32 hy]
theorem eq32 {x y : Int} (hx : inR x) (hy : inR y) : Int32.ofInt x = Int32.ofInt y ↔ x = y := by rw [← Int32.toInt_inj, to32 hx, to32 hy]
theorem lt64 {x y : Int} (hx : inL x) (hy : inL y) : Int64.ofInt x < Int64.ofInt y ↔ x < y := by rw [Int64.lt_iff_toInt_lt, to64 hx, to64 hy]
theorem le64 {x y : Int} (hx : inL x) (hy : inL y) : Int64.ofInt x ≤ Int64.ofInt y ↔ x ≤ y := by rw [Int64.le_iff_toInt_le, to64 hx, to64 hy]
theorem eq64 {x y : Int} (hx : inL x) (hy : inL y) : Int64.ofInt x = Int64.ofInt y ↔ x = y := by rw [← Int64.toInt_inj, to64 hx, to64 hy]
theorem in0 : inR 0 := ⟨by decide, by decide⟩
theorem zero32 : Int32.ofInt 0 = 0 := rfl
theorem nat32 {i : Int} {n : Nat} (h0 : 0 ≤ i) (h1 : i < n) (hn : (n : Int) ≤ 2147483648) : vp_in (Int32.ofInt i) n ∧ (Int32.ofInt i).toNatClampNeg = i.toNat := by
  have hr : inR i := ⟨by omega, by omega⟩
  have ht := to32 hr
  have hc : (Int32.ofInt i).toNatClampNeg = i.toNat := by
    show (Int32.ofInt i).toInt.toNat = _
    rw [ht]
  refine ⟨fun h => ?_, hc⟩
  rcases h with h | h
  · rw [Int32.lt_iff_toInt_lt, ht] at h
    have : (0 : Int32).toInt = 0 := rfl
    omega
  · rw [hc] at h
    omega
/-- a memory with one number changed -/
def up (σ : jM) (c i v : Int) : jM := fun a j => if a = c ∧ j = i then v else σ a j
theorem up_row {σ : jM} {c i v a : Int} (h : a ≠ c) : up σ c i v a = σ a := by
  funext j
  unfold up
  rw [if_neg (fun q => h q.1)]
theorem up_at {σ : jM} {c i v : Int} : up σ c i v c i = v := by
  unfold up
  rw [if_pos ⟨rfl, rfl⟩]
theorem up_ne {σ : jM} {c i v a j : Int} (h : a ≠ c ∨ j ≠ i) : up σ c i v a j = σ a j := by
  unfold up
  rw [if_neg (fun q => h.elim (fun z => z q.1) (fun z => z q.2))]
def enc (E : jE) (G σ : jM) (c : Int) : va_E :=
  if (kd c).1 = 0 then .inr ((kd c).2, (jft (kd c).2).zipIdx.map (fun q => conc E (q.1, if q.1 = 2 then G c q.2 else σ c q.2)))
  else if (kd c).1 = 1 then .inl (E.2.2.2.2 1, (kd c).2, .inl (fun j => Int32.ofInt (σ c j)))
  else if (kd c).1 = 2 then .inl (E.2.2.2.2 2, (kd c).2, .inr (.inl (fun j => Int64.ofInt (σ c j))))
  else if (kd c).1 = 3 then .inl (E.2.2.2.2 3, (kd c).2, .inl (fun j => Int32.ofInt (σ c j)))
  else .inl (E.2.2.2.2 (kd c).1, (kd c).2, .inr (.inr (.inr (.inr (fun j => jrf E (G c j))))))
def jP (E : jE) (n : Nat) (G σ : jM) : va_W := (List.range n).map (fun (k : Nat) => (E.1 + (k + 1), enc E G σ ((k : Int) + 1)))
theorem jP_at {E : jE} {n : Nat} {G σ : jM} {c : Int} (h0 : 1 ≤ c) (h1 : c ≤ n) : (jP E n G σ)[c.toNat - 1]? = some (E.1 + c.toNat, enc E G σ c) := by
  have e1 : c.toNat - 1 < n := by omega
  have e2 : ((c.toNat - 1 : Nat) : Int) + 1 = c := by omega
  have e3 : c.toNat - 1 + 1 = c.toNat := by omega
  unfold jP
  rw [List.getElem?_map, List.getElem?_range e1]
  simp only [Option.map_some, e2, e3]
theorem jP_len {E : jE} {n : Nat} {G σ : jM} : (jP E n G σ).length = n := by simp [jP]
theorem jP_set {E : jE} {n : Nat} {G σ G' σ' : jM} {c : Int} (h0 : 1 ≤ c) (h1 : c ≤ n) (h : ∀ a : Int, a ≠ c → enc E G' σ' a = enc E G σ a) : (jP E n G σ).set (c.toNat - 1) (E.1 + c.toNat, enc E G' σ' c) = jP E n G' σ' := by
  apply List.ext_getElem?
  intro i
  rw [List.getElem?_set]
  by_cases hi : i < n
  · by_cases e : c.toNat - 1 = i
    · rw [if_pos e, if_pos (by rw [jP_len]; omega)]
      subst e
      exact (jP_at h0 h1).symm
    · rw [if_neg e]
      unfold jP
      rw [List.getElem?_map, List.getElem?_map, List.getElem?_range hi]
      simp only [Option.map_some]
      rw [h _ (by omega)]
  · have e2 : (jP E n G' σ')[i]? = none := List.getElem?_eq_none (by rw [jP_len]; omega)
    have e1 : (jP E n G σ)[i]? = none := List.getElem?_eq_none (by rw [jP_len]; omega)
    rw [e1, e2]
    by_cases e : c.toNat - 1 = i
    · omega
    · rw [if_neg e]
/-- the addresses that may be written -/
def jA (E : jE) : Nat → Prop := fun q => E.1 < q
theorem jP_D {E : jE} {n : Nat} {G σ : jM} : va_D (jA E) (jP E n G σ) := by
  have key : ∀ (i : Nat) (p : Nat × va_E), (jP E n G σ)[i]? = some p → p.1 = E.1 + (i + 1) := by
    intro i p h
    unfold jP at h
    rw [List.getElem?_map] at h
    by_cases hi : i < n
    · rw [List.getElem?_range hi] at h
      simp only [Option.map_some, Option.some.injEq] at h
      rw [← h]
    · rw [List.getElem?_eq_none (by rw [List.length_range]; omega)] at h
      cases h
  refine ⟨fun i j p q hp hq h => ?_, fun k q h => ?_⟩
  · have a1 := key i p hp
    have a2 := key j q hq
    omega
  · have a1 := key k q h
    show E.1 < q.1
    omega
theorem enc_row {E : jE} {G G' σ σ' : jM} {c : Int} (hg : G' c = G c) (hs : σ' c = σ c) : enc E G' σ' c = enc E G σ c := by
  unfold enc
  simp only [hg, hs]
def HW (E : jE) (n : Nat) (G σ : jM) (H : Heap) : Prop := va_P E.2.2.2.1 jcl (jP E n G σ) H
