/-! ===== the finished world: where every row lies ===== -/
/-- the references that never change, but the Reader's target t -/
def gr (t : Int) : jM := fun a k =>
  if (kd a).1 = 4 then a + 1 + 4 * k
  else if (kd a).1 = 5 then 293 + 7 * k
  else if (kd a).1 ≠ 0 then 0
  else if (kd a).2 = 1 then (if k = 0 ∨ k = 1 ∨ k = 2 then a + 1 + k else 0)
  else if (kd a).2 = 7 then (if k = 0 then a + 1 else 0)
  else if (kd a).2 = 8 then (if k = 0 ∨ k = 1 ∨ k = 2 ∨ k = 3 ∨ k = 4 ∨ k = 5 then a + 1 + k else 0)
  else if (kd a).2 = 9 then (if k = 0 then a + 1 else 0)
  else if (kd a).2 = 10 then (if k = 0 then a + 1 else if k = 1 then a + 5 else if k = 2 then a + 127 else if k = 3 then a + 129 else if k = 4 then a + 130 else if k = 5 then a + 131 else 0)
  else if (kd a).2 = 11 then ([2, 134, 266, 270, 271, 273, 275, 286, 287, 290] : List Int).getD k.toNat 0
  else if (kd a).2 = 3 then (if k = 0 then 272 else if k = 4 then t else 0)
  else if (kd a).2 = 2 then (if k = 0 then 274 else 0)
  else if (kd a).2 = 0 then ([276, 277, 278, 279, 280, 0, 0, 281, 282, 283, 284, 0, 285, 0] : List Int).getD k.toNat 0
  else if (kd a).2 = 4 then (if k = 0 then 288 else if k = 1 then 289 else 0)
  else if (kd a).2 = 6 then (if k = 0 then 291 else if k = 1 then 292 else 0)
  else if (kd a).2 = 12 then ([322, 323, 324, 325, 0, 0, 0, 0, 0, 0, 0, 0, 0, 0, 0, 326, 0, 0, 0, 0, 327, 328, 329, 0, 0, 330, 331, 332, 333, 334, 335, 336, 0, 337, 338, 339, 340] : List Int).getD k.toNat 0
  else 0
def GG (t : Int) : jG := (gr t, 340)
theorem okob {t a : Int} {ci : Nat} (h : (decide (kd a = (0, ci)) && decide (1 ≤ a) && decide (a ≤ 340)) = true) : ob (GG t) a ci := by
  simp only [Bool.and_eq_true, decide_eq_true_eq] at h
  exact ⟨h.1.1, h.1.2, h.2⟩
theorem okar {t a : Int} {k n : Nat} (h : (decide (kd a = (k, n)) && decide (1 ≤ a) && decide (a ≤ 340)) = true) : ar (GG t) a k n := by
  simp only [Bool.and_eq_true, decide_eq_true_eq] at h
  exact ⟨h.1.1, h.1.2, h.2⟩
def lay (f : Nat → Bool) : Bool := (List.range 341).all f
theorem lay_at {f : Nat → Bool} (h : lay f = true) {a : Int} (h0 : 0 ≤ a) (h1 : a ≤ 340) : f a.toNat = true := List.all_eq_true.mp h _ (List.mem_range.mpr (by omega))
def layok (q : Nat × Nat) (n : Nat) (off : Nat) (w : Nat × Nat) : Bool := !(decide (kd (n : Int) = q)) || (decide (kd ((n : Int) + (off : Int)) = w) && decide (n + off ≤ 340))
theorem lay_ok {q w : Nat × Nat} {off : Nat} (h : lay (fun n => layok q n off w) = true) {t a : Int} (ha : kd a = q) (h0 : 1 ≤ a) (h1 : a ≤ 340) : kd (a + (off : Int)) = w ∧ 1 ≤ a + (off : Int) ∧ a + (off : Int) ≤ ((GG t).2 : Int) := by
  have k := lay_at h (a := a) (by omega) h1
  unfold layok at k
  rw [show ((a.toNat : Nat) : Int) = a by omega, ha] at k
  simp only [decide_true, Bool.not_true, Bool.false_or, Bool.and_eq_true, decide_eq_true_eq] at k
  refine ⟨k.1, by omega, ?_⟩
  show _ ≤ (340 : Int)
  omega
theorem ok_1_0 {t a : Int} (h : ob (GG t) a 1) : ar (GG t) (a + 1) 1 8 := lay_ok (off := 1) (by decide +kernel) h.1 h.2.1 h.2.2
theorem gr_1_0 {t a : Int} (h : ob (GG t) a 1) : (GG t).1 a 0 = a + 1 := by
  show gr t a 0 = _
  unfold gr
  rw [h.1]
  simp <;> omega
theorem ok_1_1 {t a : Int} (h : ob (GG t) a 1) : ar (GG t) (a + 2) 1 8 := lay_ok (off := 2) (by decide +kernel) h.1 h.2.1 h.2.2
theorem gr_1_1 {t a : Int} (h : ob (GG t) a 1) : (GG t).1 a 1 = a + 2 := by
  show gr t a 1 = _
  unfold gr
  rw [h.1]
  simp <;> omega
theorem ok_1_2 {t a : Int} (h : ob (GG t) a 1) : ar (GG t) (a + 3) 2 25 := lay_ok (off := 3) (by decide +kernel) h.1 h.2.1 h.2.2
theorem gr_1_2 {t a : Int} (h : ob (GG t) a 1) : (GG t).1 a 2 = a + 3 := by
  show gr t a 2 = _
  unfold gr
  rw [h.1]
  simp <;> omega
theorem ok_7_0 {t a : Int} (h : ob (GG t) a 7) : ar (GG t) (a + 1) 4 30 := lay_ok (off := 1) (by decide +kernel) h.1 h.2.1 h.2.2
theorem gr_7_0 {t a : Int} (h : ob (GG t) a 7) : (GG t).1 a 0 = a + 1 := by
  show gr t a 0 = _
  unfold gr
  rw [h.1]
  simp <;> omega
theorem ok_8_0 {t a : Int} (h : ob (GG t) a 8) : ar (GG t) (a + 1) 1 24 := lay_ok (off := 1) (by decide +kernel) h.1 h.2.1 h.2.2
theorem gr_8_0 {t a : Int} (h : ob (GG t) a 8) : (GG t).1 a 0 = a + 1 := by
  show gr t a 0 = _
  unfold gr
  rw [h.1]
  simp <;> omega
theorem ok_8_1 {t a : Int} (h : ob (GG t) a 8) : ar (GG t) (a + 2) 1 24 := lay_ok (off := 2) (by decide +kernel) h.1 h.2.1 h.2.2
theorem gr_8_1 {t a : Int} (h : ob (GG t) a 8) : (GG t).1 a 1 = a + 2 := by
  show gr t a 1 = _
  unfold gr
  rw [h.1]
  simp <;> omega
theorem ok_8_2 {t a : Int} (h : ob (GG t) a 8) : ar (GG t) (a + 3) 1 24 := lay_ok (off := 3) (by decide +kernel) h.1 h.2.1 h.2.2
theorem gr_8_2 {t a : Int} (h : ob (GG t) a 8) : (GG t).1 a 2 = a + 3 := by
  show gr t a 2 = _
  unfold gr
  rw [h.1]
  simp <;> omega
theorem ok_8_3 {t a : Int} (h : ob (GG t) a 8) : ar (GG t) (a + 4) 1 300 := lay_ok (off := 4) (by decide +kernel) h.1 h.2.1 h.2.2
theorem gr_8_3 {t a : Int} (h : ob (GG t) a 8) : (GG t).1 a 3 = a + 4 := by
  show gr t a 3 = _
  unfold gr
  rw [h.1]
  simp <;> omega
theorem ok_8_4 {t a : Int} (h : ob (GG t) a 8) : ar (GG t) (a + 5) 1 2 := lay_ok (off := 5) (by decide +kernel) h.1 h.2.1 h.2.2
theorem gr_8_4 {t a : Int} (h : ob (GG t) a 8) : (GG t).1 a 4 = a + 5 := by
  show gr t a 4 = _
  unfold gr
  rw [h.1]
  simp <;> omega
theorem ok_8_5 {t a : Int} (h : ob (GG t) a 8) : ar (GG t) (a + 6) 1 2 := lay_ok (off := 6) (by decide +kernel) h.1 h.2.1 h.2.2
theorem gr_8_5 {t a : Int} (h : ob (GG t) a 8) : (GG t).1 a 5 = a + 6 := by
  show gr t a 5 = _
  unfold gr
  rw [h.1]
  simp <;> omega
theorem ok_9_0 {t a : Int} (h : ob (GG t) a 9) : ar (GG t) (a + 1) 1 12 := lay_ok (off := 1) (by decide +kernel) h.1 h.2.1 h.2.2
theorem gr_9_0 {t a : Int} (h : ob (GG t) a 9) : (GG t).1 a 0 = a + 1 := by
  show gr t a 0 = _
  unfold gr
  rw [h.1]
  simp <;> omega
theorem ok_10_0 {t a : Int} (h : ob (GG t) a 10) : ob (GG t) (a + 1) 1 := lay_ok (off := 1) (by decide +kernel) h.1 h.2.1 h.2.2
theorem gr_10_0 {t a : Int} (h : ob (GG t) a 10) : (GG t).1 a 0 = a + 1 := by
  show gr t a 0 = _
  unfold gr
  rw [h.1]
  simp <;> omega
theorem ok_10_1 {t a : Int} (h : ob (GG t) a 10) : ob (GG t) (a + 5) 7 := lay_ok (off := 5) (by decide +kernel) h.1 h.2.1 h.2.2
theorem gr_10_1 {t a : Int} (h : ob (GG t) a 10) : (GG t).1 a 1 = a + 5 := by
  show gr t a 1 = _
  unfold gr
  rw [h.1]
  simp <;> omega
theorem ok_10_2 {t a : Int} (h : ob (GG t) a 10) : ob (GG t) (a + 127) 9 := lay_ok (off := 127) (by decide +kernel) h.1 h.2.1 h.2.2
theorem gr_10_2 {t a : Int} (h : ob (GG t) a 10) : (GG t).1 a 2 = a + 127 := by
  show gr t a 2 = _
  unfold gr
  rw [h.1]
  simp <;> omega
theorem ok_10_3 {t a : Int} (h : ob (GG t) a 10) : ar (GG t) (a + 129) 1 4 := lay_ok (off := 129) (by decide +kernel) h.1 h.2.1 h.2.2
theorem gr_10_3 {t a : Int} (h : ob (GG t) a 10) : (GG t).1 a 3 = a + 129 := by
  show gr t a 3 = _
  unfold gr
  rw [h.1]
  simp <;> omega
theorem ok_10_4 {t a : Int} (h : ob (GG t) a 10) : ar (GG t) (a + 130) 1 8 := lay_ok (off := 130) (by decide +kernel) h.1 h.2.1 h.2.2
theorem gr_10_4 {t a : Int} (h : ob (GG t) a 10) : (GG t).1 a 4 = a + 130 := by
  show gr t a 4 = _
  unfold gr
  rw [h.1]
  simp <;> omega
theorem ok_10_5 {t a : Int} (h : ob (GG t) a 10) : ar (GG t) (a + 131) 1 8 := lay_ok (off := 131) (by decide +kernel) h.1 h.2.1 h.2.2
theorem gr_10_5 {t a : Int} (h : ob (GG t) a 10) : (GG t).1 a 5 = a + 131 := by
  show gr t a 5 = _
  unfold gr
  rw [h.1]
  simp <;> omega
