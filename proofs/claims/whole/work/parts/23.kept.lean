/-! ===== copies: House, Steps, Told, World; steps remembered and taken back ===== -/
theorem cpy_in {σ : jM} {a sp b dp n c j : Int} (h : c = b) (h1 : dp ≤ j) (h2 : j < dp + n) : cpy σ a sp b dp n c j = σ a (sp + (j - dp)) := by
  unfold cpy
  rw [if_pos ⟨h, h1, h2⟩]
theorem cpy_ne {σ : jM} {a sp b dp n c j : Int} (h : c ≠ b) : cpy σ a sp b dp n c j = σ c j := by
  unfold cpy
  rw [if_neg (fun q => h q.1)]
theorem HR_same {σ σ' : jM} {h : Int} {r : Int → Int} (q : HR σ h r) (e : ∀ c, h ≤ c → c ≤ h + 3 → σ' c = σ c) : HR σ' h r := by
  unfold HR
  rw [e h (by omega) (by omega), e (h + 1) (by omega) (by omega), e (h + 2) (by omega) (by omega), e (h + 3) (by omega) (by omega)]
  exact q
section KS
variable {d : Nat} {t : Int} {Q : Int → jM → Prop} {σ : jM}
theorem h_copyFrom {h p : Int} {r : Int → Int} (h0 : ob (GG t) h 1) (h1 : ob (GG t) p 1) (hd : h + 3 < p ∨ p + 3 < h) (q : HR σ p r) (k : ∀ σ', HR σ' h r → off4 h σ σ' → Q 0 σ') : Ct mX1_copyFrom (d + 2) 9 t [rv h, rv p] σ Q := by
  refine c_X1_copyFrom h0 h1 (fun σ1 e1 σ2 e2 σ3 e3 σ4 e4 σ5 e5 σ6 e6 σ7 e7 σ8 e8 => ?_)
  have o : off4 h σ σ8 := by
    have o3 : off4 h σ σ3 := fun c hc => by rw [e3, cpy_row (by omega), e2, cpy_row (by omega), e1, cpy_row (by omega)]
    rw [e8, e7, e6, e5, e4]
    exact off4_up (off4_up (off4_up (off4_up (off4_up o3 (by omega) (by omega)) (by omega) (by omega)) (by omega) (by omega)) (by omega) (by omega)) (by omega) (by omega)
  have pr : ∀ (τ : jM), off4 h σ τ → ∀ c, p ≤ c → c ≤ p + 3 → τ c = σ c := fun τ hτ c c1 c2 => hτ c (by omega)
  have o3 : off4 h σ σ3 := fun c hc => by rw [e3, cpy_row (by omega), e2, cpy_row (by omega), e1, cpy_row (by omega)]
  have o4 : off4 h σ σ4 := by rw [e4]; exact off4_up o3 (by omega) (by omega)
  have o5 : off4 h σ σ5 := by rw [e5]; exact off4_up o4 (by omega) (by omega)
  have o6 : off4 h σ σ6 := by rw [e6]; exact off4_up o5 (by omega) (by omega)
  have o7 : off4 h σ σ7 := by rw [e7]; exact off4_up o6 (by omega) (by omega)
  rw [pr _ o3 p (by omega) (by omega)] at e4
  rw [pr _ o4 p (by omega) (by omega)] at e5
  rw [pr _ o5 p (by omega) (by omega)] at e6
  rw [pr _ o6 p (by omega) (by omega)] at e7
  rw [pr _ o7 p (by omega) (by omega)] at e8
  obtain ⟨a1, a2, a3, a4, a5, a6, a7⟩ := q
  have r3 : σ8 h 3 = σ p 3 := by rw [e8, up_ne (by omega), e7, up_ne (by omega), e6, up_ne (by omega), e5, up_ne (by omega), e4, up_at]
  refine k σ8 ⟨?_, ?_, ?_, ?_, by rw [r3]; exact a5, fun i i0 i1 => ⟨?_, ?_⟩, fun i i0 i1 => ?_⟩ o
  · rw [e8, up_ne (by omega), e7, up_at]; exact a1
  · rw [e8, up_at]; exact a2
  · rw [e8, up_ne (by omega), e7, up_ne (by omega), e6, up_at]; exact a3
  · rw [e8, up_ne (by omega), e7, up_ne (by omega), e6, up_ne (by omega), e5, up_at]; exact a4
  · rw [e8, up_ne (by omega), e7, up_ne (by omega), e6, up_ne (by omega), e5, up_ne (by omega), e4, up_ne (by omega), e3, cpy_ne (by omega), e2, cpy_ne (by omega), e1, cpy_in rfl i0 (by omega), show 0 + (i - 0) = i by omega]
    exact (a6 i i0 i1).1
  · rw [e8, up_ne (by omega), e7, up_ne (by omega), e6, up_ne (by omega), e5, up_ne (by omega), e4, up_ne (by omega), e3, cpy_ne (by omega), e2, cpy_in rfl i0 (by omega), show 0 + (i - 0) = i by omega, e1, cpy_ne (by omega)]
    exact (a6 i i0 i1).2
  · rw [r3, e8, up_ne (by omega), e7, up_ne (by omega), e6, up_ne (by omega), e5, up_ne (by omega), e4, up_ne (by omega), e3, cpy_in rfl (by omega) (by omega), show 0 + ((σ p 3 + i) % 25 - 0) = (σ p 3 + i) % 25 by omega, e2, cpy_ne (by omega), e1, cpy_ne (by omega)]
    exact a7 i i0 i1
/-- the steps at cell s hold so many rows, the eldest first -/
def SR (σ : jM) (s : Int) (n : Int) (f : Int → Int → Int) : Prop := (0 ≤ σ s 1 ∧ σ s 1 < 30) ∧ σ s 2 = n ∧ (0 ≤ n ∧ n ≤ 30) ∧ ∀ k, 0 ≤ k → k < n → HR σ (s + 2 + 4 * ((σ s 1 + k) % 30)) (f k)
/-- nothing but the steps' cells has changed -/
def offS (s : Int) (σ σ' : jM) : Prop := ∀ c, c < s ∨ s + 121 < c → σ' c = σ c
/-- one row more; the eldest goes if there are 30 -/
def pushF (n : Int) (f : Int → Int → Int) (r : Int → Int) : Int → Int → Int := fun k => if n = 30 then (if k = 29 then r else f (k + 1)) else (if k = n then r else f k)
theorem s_remember {s h : Int} {n : Int} {f : Int → Int → Int} {r : Int → Int} (h0 : ob (GG t) s 7) (h1 : ob (GG t) h 1) (hd : h + 3 < s ∨ s + 121 < h) (q : SR σ s n f) (qh : HR σ h r) (k : ∀ σ', SR σ' s (if n = 30 then 30 else n + 1) (pushF n f r) → offS s σ σ' → Q 0 σ') : Ct mX7_remember (d + 2 + 1) 9 t [rv s, rv h] σ Q := by
  obtain ⟨a1, a2, a3, a4⟩ := q
  refine c_X7_remember h0 h1 ?_
  rw [a2, tm (by omega)]
  refine ⟨rng (by omega) (by omega), by omega, ?_⟩
  have hb : ob (GG t) (s + 1 + 1 + 4 * ((σ s 1 + n) % 30)) 1 := ok_4 (ok_7_0 h0) (by omega) (by omega)
  refine h_copyFrom hb h1 (by omega) qh (fun σ3 q3 o3 => ?_)
  have c1 : σ3 s = σ s := o3 s (by omega)
  rw [c1, a2]
  have old : ∀ j, 0 ≤ j → j < n → (σ s 1 + j) % 30 ≠ (σ s 1 + n) % 30 → HR σ3 (s + 2 + 4 * ((σ s 1 + j) % 30)) (f j) := fun j j0 j1 hne => HR_same (a4 j j0 j1) (fun c g1 g2 => o3 c (by omega))
  have new : HR σ3 (s + 2 + 4 * ((σ s 1 + n) % 30)) r := by rw [show s + 2 + 4 * ((σ s 1 + n) % 30) = s + 1 + 1 + 4 * ((σ s 1 + n) % 30) by omega]; exact q3
  refine ⟨rng (by omega) (by omega), fun z => ⟨rng (by omega) (by omega), fun σ6 e6 => ?_⟩, fun z => fun σ7 e7 => ?_⟩
  · have n30 : n = 30 := by omega
    rw [tm (by omega)] at e6
    have s1 : σ6 s 1 = (σ s 1 + 1) % 30 := by rw [e6, up_at]
    have s2 : σ6 s 2 = n := by rw [e6, up_ne (by omega), c1, a2]
    refine k σ6 ⟨by rw [s1]; omega, by rw [s2, if_pos n30, n30], by rw [if_pos n30]; omega, fun j j0 j1 => ?_⟩ (fun c hc => by rw [e6, up_row (by omega)]; exact o3 c (by omega))
    rw [if_pos n30] at j1
    rw [s1]
    refine HR_same (σ := σ3) ?_ (fun c g1 g2 => by rw [e6, up_row (by omega)])
    unfold pushF
    rw [if_pos n30]
    by_cases e : j = 29
    · rw [if_pos e, show ((σ s 1 + 1) % 30 + j) % 30 = (σ s 1 + n) % 30 by omega]
      exact new
    · rw [if_neg e, show ((σ s 1 + 1) % 30 + j) % 30 = (σ s 1 + (j + 1)) % 30 by omega]
      exact old (j + 1) (by omega) (by omega) (by omega)
  · have n30 : n ≠ 30 := by omega
    have s1 : σ7 s 1 = σ s 1 := by rw [e7, up_ne (by omega), c1]
    have s2 : σ7 s 2 = n + 1 := by rw [e7, up_at]
    refine k σ7 ⟨by rw [s1]; omega, by rw [s2, if_neg n30], by rw [if_neg n30]; omega, fun j j0 j1 => ?_⟩ (fun c hc => by rw [e7, up_row (by omega)]; exact o3 c (by omega))
    rw [if_neg n30] at j1
    rw [s1]
    refine HR_same (σ := σ3) ?_ (fun c g1 g2 => by rw [e7, up_row (by omega)])
    unfold pushF
    rw [if_neg n30]
    by_cases e : j = n
    · rw [if_pos e, e]
      exact new
    · rw [if_neg e]
      exact old j j0 (by omega) (by omega)
theorem s_takeBack {s h : Int} {n : Int} {f : Int → Int → Int} (h0 : ob (GG t) s 7) (h1 : ob (GG t) h 1) (hd : h + 3 < s ∨ s + 121 < h) (q : SR σ s n f) (k0 : n = 0 → Q 0 σ) (k1 : n ≠ 0 → ∀ σ', SR σ' s (n - 1) f → HR σ' h (f (n - 1)) → (∀ c, (c < s ∨ s + 121 < c) → (c < h ∨ h + 3 < c) → σ' c = σ c) → Q 1 σ') : Ct mX7_takeBack (d + 2 + 1) 0 t [rv s, rv h] σ Q := by
  obtain ⟨a1, a2, a3, a4⟩ := q
  refine c_X7_takeBack h0 h1 ?_
  rw [a2]
  refine ⟨rng (by omega) (by omega), fun z σ2 e2 => ?_, fun z => k0 z⟩
  have s1 : σ2 s 1 = σ s 1 := by rw [e2, up_ne (by omega)]
  have s2 : σ2 s 2 = n - 1 := by rw [e2, up_at]
  rw [s1, s2, tm (by omega)]
  refine ⟨rng (by omega) (by omega), by omega, ?_⟩
  have hb : ob (GG t) (s + 1 + 1 + 4 * ((σ s 1 + (n - 1)) % 30)) 1 := ok_4 (ok_7_0 h0) (by omega) (by omega)
  have q2 : HR σ2 (s + 1 + 1 + 4 * ((σ s 1 + (n - 1)) % 30)) (f (n - 1)) := by
    rw [show s + 1 + 1 + 4 * ((σ s 1 + (n - 1)) % 30) = s + 2 + 4 * ((σ s 1 + (n - 1)) % 30) by omega]
    exact HR_same (a4 (n - 1) (by omega) (by omega)) (fun c g1 g2 => by rw [e2, up_row (by omega)])
  refine h_copyFrom h1 hb (by omega) q2 (fun σ5 q5 o5 => ?_)
  have c5 : σ5 s = σ2 s := o5 s (by omega)
  refine k1 z σ5 ⟨by rw [c5, s1]; exact a1, by rw [c5, s2], by omega, fun j j0 j1 => ?_⟩ q5 (fun c g1 g2 => by rw [o5 c g2, e2, up_row (by omega)])
  rw [c5, s1]
  exact HR_same (a4 j j0 (by omega)) (fun c g1 g2 => by rw [o5 c (by omega), e2, up_row (by omega)])
theorem s_copyFrom {s p : Int} {n : Int} {f : Int → Int → Int} (h0 : ob (GG t) s 7) (h1 : ob (GG t) p 7) (hd : s + 121 < p ∨ p + 121 < s) (q : SR σ p n f) (k : ∀ σ', SR σ' s n f → offS s σ σ' → Q 0 σ') : Ct mX7_copyFrom (d + 2 + 1) 9 t [rv s, rv p] σ Q := by
  obtain ⟨a1, a2, a3, a4⟩ := q
  refine c_X7_copyFrom h0 h1 (fun σ1 e1 σ2 e2 => ?_)
  have s1 : σ2 s 1 = σ p 1 := by rw [e2, up_ne (by omega), e1, up_at]
  have s2 : σ2 s 2 = n := by rw [e2, up_at, e1, up_ne (by omega)]; exact a2
  have o2 : offS s σ σ2 := fun c hc => by rw [e2, up_row (by omega), e1, up_row (by omega)]
  have loop : ∀ (j : Nat) (i : Int) (τ : jM), 0 ≤ i → i + j = n → τ s = σ2 s → offS s σ τ → (∀ k, 0 ≤ k → k < i → HR τ (s + 2 + 4 * ((σ p 1 + k) % 30)) (f k)) → Jt mX7_copyFrom (d + 2 + 1) 9 t Q 18 [rv s, rv p, iv i, uv] [] τ := by
    intro j
    induction j with
    | zero =>
      intro i τ i0 hi ts ot hk
      refine b_X7_copyFrom_18 h0 h1 ?_
      rw [ts, s2]
      refine ⟨rng (by omega) (by omega), rng (by omega) (by omega), fun _ => ?_, fun z => absurd z (by omega)⟩
      refine k τ ⟨by rw [ts, s1]; exact a1, by rw [ts, s2], a3, fun w w0 w1 => ?_⟩ ot
      rw [ts, s1]
      exact hk w w0 (by omega)
    | succ j ih =>
      intro i τ i0 hi ts ot hk
      refine b_X7_copyFrom_18 h0 h1 ?_
      rw [ts, s2, s1, tm (by omega)]
      refine ⟨rng (by omega) (by omega), rng (by omega) (by omega), fun z => absurd z (by omega), fun _ => ⟨rng (by omega) (by omega), by omega, by omega, ?_⟩⟩
      have hb : ob (GG t) (s + 1 + 1 + 4 * ((σ p 1 + i) % 30)) 1 := ok_4 (ok_7_0 h0) (by omega) (by omega)
      have hc : ob (GG t) (p + 1 + 1 + 4 * ((σ p 1 + i) % 30)) 1 := ok_4 (ok_7_0 h1) (by omega) (by omega)
      have qi : HR τ (p + 1 + 1 + 4 * ((σ p 1 + i) % 30)) (f i) := by
        rw [show p + 1 + 1 + 4 * ((σ p 1 + i) % 30) = p + 2 + 4 * ((σ p 1 + i) % 30) by omega]
        exact HR_same (a4 i i0 (by omega)) (fun c g1 g2 => ot c (by omega))
      refine h_copyFrom hb hc (by omega) qi (fun τ2 q2 o2' => ?_)
      refine ih (i + 1) τ2 (by omega) (by omega) (by rw [o2' s (by omega)]; exact ts) (fun c hc' => by rw [o2' c (by omega)]; exact ot c hc') (fun w w0 w1 => ?_)
      by_cases e : w = i
      · rw [e, show s + 2 + 4 * ((σ p 1 + i) % 30) = s + 1 + 1 + 4 * ((σ p 1 + i) % 30) by omega]
        exact q2
      · exact HR_same (hk w w0 (by omega)) (fun c g1 g2 => o2' c (by omega))
  obtain ⟨j, hj⟩ : ∃ j : Nat, (0 : Int) + j = n := ⟨n.toNat, by omega⟩
  exact loop j 0 σ2 (by omega) hj rfl o2 (fun w w0 w1 => absurd w1 (by omega))
end KS
