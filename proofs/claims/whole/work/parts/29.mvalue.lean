/-! ===== the reference's summedUp runs a law's code ===== -/
def mop1 (r : Int → Int) (op x : Int) : Int := if op = 5 then -x else if op = 4 then (if 0 ≤ x ∧ x < 8 then r (4 + x) else 0) else clipL (2 * x)
def mop2 (op x y : Int) : Int := if op = 6 then clipL (x + y) else if op = 7 then clipL (x - y) else if op = 8 then clipL (x * y) else (if y = 0 then 0 else Int.tdiv x y)
def mcmp (op x y : Int) : Int := if op = 10 then b01 (decide (x < y)) else if op = 11 then b01 (decide (x ≤ y)) else if op = 12 then b01 (decide (y < x)) else if op = 13 then b01 (decide (y ≤ x)) else if op = 14 then b01 (decide (x = y)) else b01 (decide (x ≠ y))
def mjoin (op x y : Int) : Int := if op = 21 then (if x = 0 then 0 else y) else (if x = 0 then y else 1)
/-- one step: at i with values s and truths u; mf i = (op, v) -/
def mstep (r : Int → Int) (c : Int) (mf mg : Int → Int) (to i : Int) (s u : List Int) (s' u' : List Int) : Prop :=
  0 ≤ i ∧ i < to ∧ (s.length : Int) ≤ i ∧ (u.length : Int) ≤ i ∧
    ((mf i = 0 ∧ LV (mg i) ∧ s' = mg i :: s ∧ u' = u) ∨
     (mf i = 1 ∧ 0 ≤ mg i ∧ mg i ≤ 6 ∧ s' = nmV r c (mg i + 1) :: s ∧ u' = u) ∨
     (mf i = 3 ∧ ∃ x y s0 b u0, s = x :: y :: s0 ∧ u = b :: u0 ∧ s' = (if b = 0 then x else y) :: s0 ∧ u' = u0) ∨
     ((mf i = 2 ∨ mf i = 4 ∨ mf i = 5) ∧ ∃ x s0, s = x :: s0 ∧ s' = mop1 r (mf i) x :: s0 ∧ u' = u) ∨
     (6 ≤ mf i ∧ mf i ≤ 9 ∧ ∃ x y s0, s = y :: x :: s0 ∧ s' = mop2 (mf i) x y :: s0 ∧ u' = u) ∨
     (10 ≤ mf i ∧ mf i ≤ 15 ∧ ∃ x y s0, s = y :: x :: s0 ∧ s' = s0 ∧ u' = mcmp (mf i) x y :: u) ∨
     (mf i = 20 ∧ ∃ b u0, u = b :: u0 ∧ s' = s ∧ u' = (1 - b) :: u0) ∨
     ((mf i = 21 ∨ mf i = 22) ∧ ∃ x y u0, u = y :: x :: u0 ∧ s' = s ∧ u' = mjoin (mf i) x y :: u0))
def mruns (r : Int → Int) (c : Int) (mf mg : Int → Int) (to : Int) : Nat → Int → List Int → List Int → Int → List Int → List Int → Prop
  | 0, i, s, u, j, s', u' => i = j ∧ s = s' ∧ u = u'
  | n + 1, i, s, u, j, s', u' => ∃ s1 u1, mstep r c mf mg to i s u s1 u1 ∧ mruns r c mf mg to n (i + 1) s1 u1 j s' u'
theorem mop1_LV {r : Int → Int} {op x : Int} (v : RV r) (h : LV x) : LV (mop1 r op x) := by
  have h1 := h.1
  have h2 := h.2
  unfold mop1
  split
  · exact ⟨by omega, by omega⟩
  · split
    · split
      · rename_i q
        have := v.2.2.2.2.1 x q.1 q.2
        exact ⟨by omega, by omega⟩
      · exact ⟨by decide, by decide⟩
    · exact clipL_LV _
theorem mop2_LV {op x y : Int} (hx : LV x) : LV (mop2 op x y) := by
  unfold mop2
  split
  · exact clipL_LV _
  · split
    · exact clipL_LV _
    · split
      · exact clipL_LV _
      · split
        · exact ⟨by decide, by decide⟩
        · exact tdiv_LV hx
theorem mcmp_01 {op x y : Int} : mcmp op x y = 0 ∨ mcmp op x y = 1 := by
  unfold mcmp
  split
  · exact b01_2
  · split
    · exact b01_2
    · split
      · exact b01_2
      · split
        · exact b01_2
        · split <;> exact b01_2
def stv (τ : jM) : List Int → Prop
  | [] => True
  | x :: s => τ 328 (s.length : Int) = x ∧ LV x ∧ stv τ s
def stb (τ : jM) : List Int → Prop
  | [] => True
  | x :: s => τ 329 (s.length : Int) = x ∧ (x = 0 ∨ x = 1) ∧ stb τ s
theorem stv_up {τ : jM} {k v : Int} : ∀ (s : List Int), stv τ s → (s.length : Int) ≤ k → stv (up τ 328 k v) s
  | [], _, _ => trivial
  | x :: s, h, hk => by
    have hl : ((x :: s).length : Int) = (s.length : Int) + 1 := by simp
    rw [hl] at hk
    exact ⟨by rw [up_ne (Or.inr (by omega))]; exact h.1, h.2.1, stv_up s h.2.2 (by omega)⟩
theorem stb_up {τ : jM} {k v : Int} : ∀ (s : List Int), stb τ s → (s.length : Int) ≤ k → stb (up τ 329 k v) s
  | [], _, _ => trivial
  | x :: s, h, hk => by
    have hl : ((x :: s).length : Int) = (s.length : Int) + 1 := by simp
    rw [hl] at hk
    exact ⟨by rw [up_ne (Or.inr (by omega))]; exact h.1, h.2.1, stb_up s h.2.2 (by omega)⟩
theorem stv_same {τ τ' : jM} (e : τ' 328 = τ 328) : ∀ (s : List Int), stv τ s → stv τ' s
  | [], _ => trivial
  | _ :: s, h => ⟨by rw [e]; exact h.1, h.2.1, stv_same e s h.2.2⟩
theorem stb_same {τ τ' : jM} (e : τ' 329 = τ 329) : ∀ (s : List Int), stb τ s → stb τ' s
  | [], _ => trivial
  | _ :: s, h => ⟨by rw [e]; exact h.1, h.2.1, stb_same e s h.2.2⟩
