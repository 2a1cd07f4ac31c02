/-! ===== a World against a row A as the reference keeps it ===== -/
def mrow (A : Int → Int) : Int → Int := fun i => if i < 20 then A (6 + i) else A (2138 + i)
def srow (A : Int → Int) (k : Int) : Int → Int := fun i => A (58 + 70 * k + i)
def WR (σ : jM) (w : Int) (A : Int → Int) : Prop := HR σ (w + 1) (mrow A) ∧ SR σ (w + 5) (A 2) (srow A) ∧ (σ (w + 127) 1 = A 4 ∧ ∀ i, 0 ≤ i → i < A 4 → σ (w + 128) i = A (30 + i)) ∧ (σ w 8 = A 3 ∧ ∀ i, 0 ≤ i → i < A 3 → σ (w + 129) i = A (26 + i)) ∧ (σ w 9 = A 5 ∧ ∀ i, 0 ≤ i → i < A 5 → (σ (w + 130) i = A (42 + 2 * i) ∧ σ (w + 131) i = A (43 + 2 * i))) ∧ σ w 6 = A 0 ∧ σ w 7 = A 1
/-- what such a row may hold -/
def AV (A : Int → Int) : Prop := RV (mrow A) ∧ (0 ≤ A 2 ∧ A 2 ≤ 30 ∧ ∀ k, 0 ≤ k → k < A 2 → RV (srow A k)) ∧ (1 ≤ A 4 ∧ A 4 ≤ 12 ∧ A 30 = 1 ∧ ∀ i, 0 ≤ i → i < A 4 → (1 ≤ A (30 + i) ∧ A (30 + i) ≤ 9999)) ∧ (0 ≤ A 3 ∧ A 3 ≤ 4 ∧ ∀ i, 0 ≤ i → i < A 3 → (1 ≤ A (26 + i) ∧ A (26 + i) ≤ 40)) ∧ (0 ≤ A 5 ∧ A 5 ≤ 8 ∧ ∀ i, 0 ≤ i → i < A 5 → (0 ≤ A (42 + 2 * i) ∧ A (42 + 2 * i) < 8 ∧ 0 ≤ A (43 + 2 * i) ∧ A (43 + 2 * i) ≤ 10)) ∧ (0 ≤ A 0 ∧ A 0 ≤ 4) ∧ (-1 ≤ A 1 ∧ A 1 < A 0)
def offW (w : Int) (σ σ' : jM) : Prop := ∀ c, c < w ∨ w + 131 < c → σ' c = σ c
theorem SR_same {σ σ' : jM} {s n : Int} {f : Int → Int → Int} (q : SR σ s n f) (e : ∀ c, s ≤ c → c ≤ s + 121 → σ' c = σ c) : SR σ' s n f := by
  obtain ⟨a1, a2, a3, a4⟩ := q
  have e0 := e s (by omega) (by omega)
  refine ⟨by rw [e0]; exact a1, by rw [e0]; exact a2, a3, fun k k0 k1 => ?_⟩
  rw [e0]
  exact HR_same (a4 k k0 k1) (fun c g1 g2 => e c (by omega) (by omega))
theorem WR_same {σ σ' : jM} {w : Int} {A : Int → Int} (q : WR σ w A) (e : ∀ c, w ≤ c → c ≤ w + 131 → σ' c = σ c) : WR σ' w A := by
  obtain ⟨a1, a2, a3, a4, a5, a6⟩ := q
  refine ⟨HR_same a1 (fun c g1 g2 => e c (by omega) (by omega)), SR_same a2 (fun c g1 g2 => e c (by omega) (by omega)), ?_, ?_, ?_, ?_⟩
  · rw [e (w + 127) (by omega) (by omega), e (w + 128) (by omega) (by omega)]; exact a3
  · rw [e w (by omega) (by omega), e (w + 129) (by omega) (by omega)]; exact a4
  · rw [e w (by omega) (by omega), e (w + 130) (by omega) (by omega), e (w + 131) (by omega) (by omega)]; exact a5
  · rw [e w (by omega) (by omega)]; exact a6
section WS
variable {d : Nat} {t : Int} {Q : Int → jM → Prop} {σ : jM}
theorem w_copyFrom {w p : Int} {A : Int → Int} (h0 : ob (GG t) w 10) (h1 : ob (GG t) p 10) (hd : w + 131 < p ∨ p + 131 < w) (q : WR σ p A) (hv : AV A) (k : ∀ σ', WR σ' w A → offW w σ σ' → Q 0 σ') : Ct mX10_copyFrom (d + 2 + 2) 9 t [rv w, rv p] σ Q := by
  have v4 := hv.2.2.1
  have v3 := hv.2.2.2.1
  have v5 := hv.2.2.2.2.1
  refine c_X10_copyFrom h0 h1 ?_
  refine h_copyFrom (d := d + 1) (ok_10_0 h0) (ok_10_0 h1) (by omega) q.1 (fun σ1 q1 o1 => ?_)
  have qs : SR σ1 (p + 5) (A 2) (srow A) := SR_same q.2.1 (fun c g1 g2 => o1 c (by omega))
  refine s_copyFrom (d := d) (ok_10_1 h0) (ok_10_1 h1) (by omega) qs (fun σ2 q2 o2 => ?_)
  refine c_X9_copyFrom (d := d + 1) (ok_10_2 h0) (ok_10_2 h1) (fun σ3 e3 σ4 e4 σ5 e5 σ6 e6 σ7 e7 σ8 e8 σ9 e9 σ10 e10 σ11 e11 => ?_)
  have same : ∀ c, (c ≠ w ∧ c ≠ w + 127 ∧ c ≠ w + 128 ∧ c ≠ w + 129 ∧ c ≠ w + 130 ∧ c ≠ w + 131) → σ11 c = σ2 c := by
    intro c hc
    rw [e11, up_row (by omega), e10, up_row (by omega), e9, up_row (by omega), e8, up_row (by omega), e7, cpy_row (by omega), e6, cpy_row (by omega), e5, cpy_row (by omega), e4, up_row (by omega), e3, cpy_row (by omega)]
  have pp : ∀ c, p ≤ c → c ≤ p + 131 → σ2 c = σ c := fun c g1 g2 => by rw [o2 c (by omega), o1 c (by omega)]
  have p3 : ∀ c, p ≤ c → c ≤ p + 131 → σ3 c = σ c := fun c g1 g2 => by rw [e3, cpy_row (by omega)]; exact pp c g1 g2
  have p4 : ∀ c, p ≤ c → c ≤ p + 131 → σ4 c = σ c := fun c g1 g2 => by rw [e4, up_row (by omega)]; exact p3 c g1 g2
  have p5 : ∀ c, p ≤ c → c ≤ p + 131 → σ5 c = σ c := fun c g1 g2 => by rw [e5, cpy_row (by omega)]; exact p4 c g1 g2
  have p6 : ∀ c, p ≤ c → c ≤ p + 131 → σ6 c = σ c := fun c g1 g2 => by rw [e6, cpy_row (by omega)]; exact p5 c g1 g2
  have p7 : ∀ c, p ≤ c → c ≤ p + 131 → σ7 c = σ c := fun c g1 g2 => by rw [e7, cpy_row (by omega)]; exact p6 c g1 g2
  have p8 : ∀ c, p ≤ c → c ≤ p + 131 → σ8 c = σ c := fun c g1 g2 => by rw [e8, up_row (by omega)]; exact p7 c g1 g2
  have p9 : ∀ c, p ≤ c → c ≤ p + 131 → σ9 c = σ c := fun c g1 g2 => by rw [e9, up_row (by omega)]; exact p8 c g1 g2
  have p10 : ∀ c, p ≤ c → c ≤ p + 131 → σ10 c = σ c := fun c g1 g2 => by rw [e10, up_row (by omega)]; exact p9 c g1 g2
  obtain ⟨a1, a2, a3, a4, a5, a6, a7⟩ := q
  refine k σ11 ⟨?_, ?_, ⟨?_, fun i i0 i1 => ?_⟩, ⟨?_, fun i i0 i1 => ?_⟩, ⟨?_, fun i i0 i1 => ⟨?_, ?_⟩⟩, ?_, ?_⟩ (fun c hc => by rw [same c (by omega), o2 c (by omega), o1 c (by omega)])
  · exact HR_same q1 (fun c g1 g2 => by rw [same c (by omega), o2 c (by omega)])
  · exact SR_same q2 (fun c g1 g2 => same c (by omega))
  · rw [e11, up_row (by omega), e10, up_row (by omega), e9, up_row (by omega), e8, up_row (by omega), e7, cpy_row (by omega), e6, cpy_row (by omega), e5, cpy_row (by omega), e4, up_at, p3 _ (by omega) (by omega)]
    exact a3.1
  · rw [e11, up_row (by omega), e10, up_row (by omega), e9, up_row (by omega), e8, up_row (by omega), e7, cpy_row (by omega), e6, cpy_row (by omega), e5, cpy_row (by omega), e4, up_row (by omega), e3, cpy_in (by omega) i0 (by omega), show 0 + (i - 0) = i by omega, show p + 127 + 1 = p + 128 by omega, pp _ (by omega) (by omega)]
    exact a3.2 i i0 i1
  · rw [e11, up_ne (by omega), e10, up_at, p9 _ (by omega) (by omega)]
    exact a4.1
  · rw [e11, up_row (by omega), e10, up_row (by omega), e9, up_row (by omega), e8, up_row (by omega), e7, cpy_row (by omega), e6, cpy_row (by omega), e5, cpy_in rfl i0 (by omega), show 0 + (i - 0) = i by omega, p4 _ (by omega) (by omega)]
    exact a4.2 i i0 i1
  · rw [e11, up_at, p10 _ (by omega) (by omega)]
    exact a5.1
  · rw [e11, up_row (by omega), e10, up_row (by omega), e9, up_row (by omega), e8, up_row (by omega), e7, cpy_row (by omega), e6, cpy_in rfl i0 (by omega), show 0 + (i - 0) = i by omega, p5 _ (by omega) (by omega)]
    exact (a5.2 i i0 i1).1
  · rw [e11, up_row (by omega), e10, up_row (by omega), e9, up_row (by omega), e8, up_row (by omega), e7, cpy_in rfl i0 (by omega), show 0 + (i - 0) = i by omega, p6 _ (by omega) (by omega)]
    exact (a5.2 i i0 i1).2
  · rw [e11, up_ne (by omega), e10, up_ne (by omega), e9, up_ne (by omega), e8, up_at, p7 _ (by omega) (by omega)]
    exact a6
  · rw [e11, up_ne (by omega), e10, up_ne (by omega), e9, up_at, p8 _ (by omega) (by omega)]
    exact a7
end WS
