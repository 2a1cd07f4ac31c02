/-! ===== the reference's ways through a sum ===== -/
def cA (T : Int → Int) (n p : Int) : Bool → List Int → Prop
  | true, P => opA P = 41 ∧ akA P = true
  | false, P => kT T n p = 121 → akA P = false
def cE : Bool → List Int → Prop
  | true, E => cmA E = true
  | false, _ => True
def lenA (o : Int) (E P0 : List Int) : Prop := ((E ++ P0).length : Int) ≤ 7 * (o + opC E) + 6 ∧ o + opC E ≤ 8
/-- one: what waits of minus, double, crock (U) is put behind it -/
def RG1 (T : Int → Int) (n t b l p q o : Int) (f : DT) : Prop := ∀ (d : Nat) (Q : Int → jM → Prop) (σ : jM) (w : Int) (U P0 : List Int), RS T n b l σ p w (U ++ P0) o 0 → (∀ x ∈ U, x = 2 ∨ x = 4 ∨ x = 5) → hdR P0 < 7 → ((U ++ P0).length : Int) ≤ 7 * o + 6 → cA T n p false (U ++ P0) → (∀ σ' w', RS T n b l σ' q w' P0 (o - (U.length : Int)) 1 → w < w' → offZ b w σ σ' → GX false (mfA σ' b) (mgA σ' b) w w' (apU U f) → SJ d t Q σ') → SJ d t Q σ
def RB1 (T : Int → Int) (n t b l p o kind pl : Int) : Prop := ∀ (d : Nat) (Q : Int → jM → Prop) (σ : jM) (w : Int) (U P0 : List Int), RS T n b l σ p w (U ++ P0) o 0 → (∀ x ∈ U, x = 2 ∨ x = 4 ∨ x = 5) → hdR P0 < 7 → ((U ++ P0).length : Int) ≤ 7 * o + 6 → cA T n p false (U ++ P0) → (∀ σ', offZ b w σ σ' → σ' 321 8 = pl → Q kind σ') → SJ d t Q σ
/-- a product, a sum, what is asked: E waits at its end -/
def RGm (T : Int → Int) (n t b l : Int) (k : Bool) (r0 r1 β p q o : Int) (f : DT) : Prop := ∀ (d : Nat) (Q : Int → jM → Prop) (σ : jM) (w : Int) (P0 : List Int), RS T n b l σ p w P0 o 0 → hdR P0 < r0 → (P0.length : Int) ≤ 7 * o + β → cA T n p k P0 → (∀ σ' w' E, RS T n b l σ' q w' (E ++ P0) (o + opC E) 1 → (∀ x ∈ E, r1 ≤ rkA x) → lenA o E P0 → w < w' → cE k E → offZ b w σ σ' → PM k (mfA σ' b) (mgA σ' b) w w' E f → SJ d t Q σ') → SJ d t Q σ
def RBm (T : Int → Int) (n t b l : Int) (k : Bool) (r0 β p o kind pl : Int) : Prop := ∀ (d : Nat) (Q : Int → jM → Prop) (σ : jM) (w : Int) (P0 : List Int), RS T n b l σ p w P0 o 0 → hdR P0 < r0 → (P0.length : Int) ≤ 7 * o + β → cA T n p k P0 → (∀ σ', offZ b w σ σ' → σ' 321 8 = pl → Q kind σ') → SJ d t Q σ
/-- the same from behind its first part on -/
def RLg (T : Int → Int) (n t b l : Int) (k : Bool) (r1 β : Int) (B : DT → Prop) (q q' o : Int) (F : DT → DT) : Prop := ∀ (d : Nat) (Q : Int → jM → Prop) (σ : jM) (w0 w : Int) (E P0 : List Int) (f : DT), RS T n b l σ q w (E ++ P0) (o + opC E) 1 → hdR P0 < r1 → (P0.length : Int) ≤ 7 * o + β → (k = true → opA P0 = 41) → (∀ x ∈ E, r1 ≤ rkA x) → lenA o E P0 → (0 ≤ w0 ∧ w0 < w) → cE k E → B f → PM k (mfA σ b) (mgA σ b) w0 w E f → (∀ σ' w' E', RS T n b l σ' q' w' (E' ++ P0) (o + opC E') 1 → (∀ x ∈ E', r1 ≤ rkA x) → lenA o E' P0 → w ≤ w' → cE k E' → offZ b w σ σ' → PM k (mfA σ' b) (mgA σ' b) w0 w' E' (F f) → SJ d t Q σ') → SJ d t Q σ
def RLb (T : Int → Int) (n t b l : Int) (k : Bool) (r1 β : Int) (B : DT → Prop) (q o kind pl : Int) : Prop := ∀ (d : Nat) (Q : Int → jM → Prop) (σ : jM) (w0 w : Int) (E P0 : List Int) (f : DT), RS T n b l σ q w (E ++ P0) (o + opC E) 1 → hdR P0 < r1 → (P0.length : Int) ≤ 7 * o + β → (k = true → opA P0 = 41) → (∀ x ∈ E, r1 ≤ rkA x) → lenA o E P0 → (0 ≤ w0 ∧ w0 < w) → cE k E → B f → PM k (mfA σ b) (mgA σ b) w0 w E f → (∀ σ', offZ b w σ σ' → σ' 321 8 = pl → Q kind σ') → SJ d t Q σ
theorem opA_E {P : List Int} : ∀ (E : List Int), (∀ x ∈ E, 1 ≤ rkA x) → opA (E ++ P) = opA P
  | [], _ => rfl
  | x :: E, h => by
    show opA (x :: (E ++ P)) = opA P
    rw [opA, if_neg (by have := rk_lo (h x List.mem_cons_self); omega)]
    exact opA_E E (fun y hy => h y (List.mem_cons_of_mem _ hy))
theorem cmA_E {P : List Int} : ∀ (E : List Int), cmA E = true → cmA (E ++ P) = true
  | [], h => by rw [cmA] at h; cases h
  | x :: E, h => by
    show cmA (x :: (E ++ P)) = true
    rw [cmA] at h ⊢
    split
    · rename_i z
      rw [if_pos z] at h
      exact cmA_E E h
    · rename_i z
      rw [if_neg z] at h
      exact h
theorem cmA_lo {P : List Int} (hP : hdR P < 4) : ∀ (E : List Int), (∀ x ∈ E, 5 ≤ rkA x) → cmA (E ++ P) = false
  | [], _ => by
    cases P with
    | nil => rfl
    | cons y P =>
      have hy : rkA y < 4 := hP
      show cmA (y :: P) = false
      rw [cmA, if_neg (by omega), decide_eq_false (by omega)]
  | x :: E, h => by
    show cmA (x :: (E ++ P)) = false
    have := h x List.mem_cons_self
    rw [cmA, if_pos (by omega)]
    exact cmA_lo hP E (fun y hy => h y (List.mem_cons_of_mem _ hy))
theorem opC_app : ∀ (E F : List Int), opC (E ++ F) = opC E + opC F
  | [], F => by show opC F = 0 + opC F; omega
  | x :: E, F => by
    show opC (x :: (E ++ F)) = _
    rw [opC, opC, opC_app E F]
    omega
theorem opC_0 : ∀ (E : List Int), 0 ≤ opC E
  | [] => by rw [opC]; omega
  | x :: E => by
    have := opC_0 E
    rw [opC]
    split <;> omega
section RD
variable {T : Int → Int} {n t b l o : Int} {k : Bool} {r0 r1 β : Int} {B : DT → Prop}
theorem r_go {d : Nat} {Q : Int → jM → Prop} {σ : jM} {q w0 w op : Int} {E P0 : List Int} {f : DT} (tp : TP T n) (s : RS T n b l σ q w (E ++ P0) (o + opC E) 1) (h0 : hdR P0 < rkU op) (hE : ∀ x ∈ E, rkU op ≤ rkA x) (hlen : lenA o E P0) (hop : btwA (E ++ P0) (kT T n q) = op) (op0 : 0 ≤ op) (hk : kT T n q ≠ 0) (w1 : 0 ≤ w0 ∧ w0 < w) (pm : PM k (mfA σ b) (mgA σ b) w0 w E f) (go : ∀ σ1, RS T n b l σ1 (nxT T n q) (w + (E.length : Int)) (op :: P0) o 0 → offZ b w σ σ1 → GX k (mfA σ1 b) (mgA σ1 b) w0 (w + (E.length : Int)) f → SJ d t Q σ1) : SJ d t Q σ := by
  have h1 := hlen.1
  have h2 := hlen.2
  refine jh_behind s.2.2.2.2.2.2.2.2.1 (m_bh_op tp s (by omega) hop op0 h0 hE hk (fun σ1 r1 o1 g1 => ⟨rfl, go σ1 ?_ o1 (g1 k w0 f (by omega) pm)⟩))
  rw [show o + opC E - opC E = o by omega] at r1
  exact r1
theorem r_of1 {p q : Int} {f : DT} (h : RG1 T n t b l p q o f) (ho : o ≤ 8) : RGm T n t b l false 7 7 6 p q o f := by
  intro d Q σ w P0 s h0 hl hc k
  refine h d Q σ w [] P0 s (fun x hx => absurd hx List.not_mem_nil) h0 hl hc (fun σ' w' s' hw hz g => ?_)
  refine k σ' w' [] ?_ (fun x hx => absurd hx List.not_mem_nil) ⟨?_, ?_⟩ hw trivial hz g
  · have e1 : o - (([] : List Int).length : Int) = o + opC [] := by rw [opC]; simp
    rw [e1] at s'
    exact s'
  · show (P0.length : Int) ≤ 7 * (o + 0) + 6
    omega
  · show o + 0 ≤ 8
    omega
theorem r_of1B {p kind pl : Int} (h : RB1 T n t b l p o kind pl) : RBm T n t b l false 7 6 p o kind pl := by
  intro d Q σ w P0 s h0 hl hc k
  exact h d Q σ w [] P0 s (fun x hx => absurd hx List.not_mem_nil) h0 hl hc k
theorem r_stop {q : Int} : RLg T n t b l k r1 β B q q o (fun f => f) := by
  intro d Q σ w0 w E P0 f s h0 hl hk hE hn hw hc hB pm g
  exact g σ w E s hE hn (Int.le_refl _) hc offZ_rf pm
theorem r_first {r0' r1' β' p q q' : Int} {f : DT} {F : DT → DT} (hf : RGm T n t b l k r0' r1' β' p q o f) (bf : B f) (hl : RLg T n t b l k r1 β B q q' o F) (e0 : r1 ≤ r0') (e1 : r1 ≤ r1') (e2 : β ≤ β') : RGm T n t b l k r1 r1 β p q' o (F f) := by
  intro d Q σ w P0 s h0 hl0 hc g
  have w0 := s.2.2.2.2.2.2.2.2.2.1
  refine hf d Q σ w P0 s (by omega) (by omega) hc (fun σ1 w1 E s1 hE hn hw hcE hz pm => ?_)
  refine hl d Q σ1 w w1 E P0 f s1 h0 hl0 (fun z => by subst z; exact hc.1) (fun x hx => by have := hE x hx; omega) hn ⟨w0, hw⟩ hcE bf pm (fun σ2 w2 E2 s2 hE2 hn2 hw2 hc2 hz2 pm2 => ?_)
  exact g σ2 w2 E2 s2 hE2 hn2 (by omega) hc2 (offZ_tr hz (by omega) hz2) pm2
theorem r_firstB {r0' β' p kind pl : Int} (hf : RBm T n t b l k r0' β' p o kind pl) (e0 : r1 ≤ r0') (e2 : β ≤ β') : RBm T n t b l k r1 β p o kind pl := by
  intro d Q σ w P0 s h0 hl0 hc g
  exact hf d Q σ w P0 s (by omega) (by omega) hc g
theorem r_firstL {r0' r1' β' p q kind pl : Int} {f : DT} (hf : RGm T n t b l k r0' r1' β' p q o f) (bf : B f) (hl : RLb T n t b l k r1 β B q o kind pl) (e0 : r1 ≤ r0') (e1 : r1 ≤ r1') (e2 : β ≤ β') : RBm T n t b l k r1 β p o kind pl := by
  intro d Q σ w P0 s h0 hl0 hc g
  have w0 := s.2.2.2.2.2.2.2.2.2.1
  refine hf d Q σ w P0 s (by omega) (by omega) hc (fun σ1 w1 E s1 hE hn hw hcE hz pm => ?_)
  refine hl d Q σ1 w w1 E P0 f s1 h0 hl0 (fun z => by subst z; exact hc.1) (fun x hx => by have := hE x hx; omega) hn ⟨w0, hw⟩ hcE bf pm (fun σ2 hz2 e2 => g σ2 (offZ_tr hz (by omega) hz2) e2)
/-- what a sign between two does: its place in what waits, and what it makes of two -/
def opOk (T : Int → Int) (n q : Int) (k : Bool) (r1 r0' β β' : Int) (B : DT → Prop) (op : Int) (cb : DT → DT → DT) : Prop := (0 ≤ op ∧ rkU op = r1 ∧ rkA op = r1 ∧ r1 < r0' ∧ β + 1 ≤ β' ∧ opC [op] = 0) ∧ (∀ E P0, (∀ x ∈ E, r1 ≤ rkA x) → (k = true → opA P0 = 41) → cE k E → btwA (E ++ P0) (kT T n q) = op) ∧ (∀ P0, (k = true → opA P0 = 41) → cA T n (nxT T n q) k (op :: P0)) ∧ (∀ E, cE k E → cE k (E ++ [op])) ∧ (∀ f g, B f → B g → B (cb f g)) ∧ (∀ (mf mg : Int → Int) (a c e : Int) (f g : DT), 0 ≤ a → a < c → c < e → mf e = op → B g → GX k mf mg a c f → GX k mf mg c e g → GX k mf mg a (e + 1) (cb f g))
theorem r_step {r0' r1' β' q q2 q' op : Int} {g : DT} {F : DT → DT} {cb : DT → DT → DT} (tp : TP T n) (hk : kT T n q ≠ 0) (ok : opOk T n q k r1 r0' β β' B op cb) (hs : RGm T n t b l k r0' r1' β' (nxT T n q) q2 o g) (bg : B g) (e1 : r1 ≤ r1') (hl : RLg T n t b l k r1 β B q2 q' o F) : RLg T n t b l k r1 β B q q' o (fun f => F (cb f g)) := by
  intro d Q σ w0 w E P0 f s h0 hlp hk2 hE hn hw hc hB pm go
  obtain ⟨⟨o1, o2, o2', o3, o4, o5⟩, o6, o7, o8, o9, o10⟩ := ok
  refine r_go tp s (by rw [o2]; exact h0) (by rw [o2]; exact hE) hn (o6 E P0 hE hk2 hc) o1 hk hw pm (fun σ1 s1 z1 g1 => ?_)
  have el : ((op :: P0).length : Int) = (P0.length : Int) + 1 := by simp
  refine hs d Q σ1 _ (op :: P0) s1 (show rkA op < r0' by omega) (by omega) (o7 P0 hk2) (fun σ2 w2 E2 s2 hE2 hn2 hw2 hc2 z2 pm2 => ?_)
  have ea : E2 ++ op :: P0 = (E2 ++ [op]) ++ P0 := by simp
  have eo : opC (E2 ++ [op]) = opC E2 := by rw [opC_app, o5]; omega
  unfold lenA at hn2
  rw [ea] at s2 hn2
  rw [← eo] at s2 hn2
  have pm3 : PM k (mfA σ2 b) (mgA σ2 b) w0 w2 (E2 ++ [op]) (cb f g) := by
    refine PM_lift (b := w + (E.length : Int)) (by omega) E2 w2 _ _ (by omega) (fun mf' mg' e he a1 a2 gg em => o10 mf' mg' w0 _ e f g hw.1 (by omega) (by omega) em bg ?_ gg) pm2
    exact GX_ag (GX_ag g1 (fun i i0 i1 => offZ_f (a := w0) z2 i i0 (by omega)) (fun i i0 i1 => offZ_g (a := w0) z2 i i0 (by omega))) a1 a2
  refine hl d Q σ2 w0 w2 (E2 ++ [op]) P0 (cb f g) s2 h0 hlp hk2 (fun x hx => ?_) hn2 ⟨hw.1, by omega⟩ (o8 E2 hc2) (o9 f g hB bg) pm3 (fun σ3 w3 E3 s3 hE3 hn3 hw3 hc3 z3 pm3' => go σ3 w3 E3 s3 hE3 hn3 (by omega) hc3 (offZ_tr (offZ_tr z1 (by omega) z2) (by omega) z3) pm3')
  rcases List.mem_append.mp hx with hx | hx
  · have := hE2 x hx
    omega
  · rw [List.mem_singleton.mp hx]; omega
theorem r_bad {r0' β' q op kind pl : Int} {cb : DT → DT → DT} (tp : TP T n) (hk : kT T n q ≠ 0) (ok : opOk T n q k r1 r0' β β' B op cb) (hs : RBm T n t b l k r0' β' (nxT T n q) o kind pl) : RLb T n t b l k r1 β B q o kind pl := by
  intro d Q σ w0 w E P0 f s h0 hlp hk2 hE hn hw hc hB pm go
  obtain ⟨⟨o1, o2, o2', o3, o4, o5⟩, o6, o7, o8, o9, o10⟩ := ok
  refine r_go tp s (by rw [o2]; exact h0) (by rw [o2]; exact hE) hn (o6 E P0 hE hk2 hc) o1 hk hw pm (fun σ1 s1 z1 g1 => ?_)
  have el : ((op :: P0).length : Int) = (P0.length : Int) + 1 := by simp
  exact hs d Q σ1 _ (op :: P0) s1 (show rkA op < r0' by omega) (by omega) (o7 P0 hk2) (fun σ2 z2 e2 => go σ2 (offZ_tr z1 (by omega) z2) e2)
theorem r_later {r0' r1' β' q q2 op kind pl : Int} {g : DT} {cb : DT → DT → DT} (tp : TP T n) (hk : kT T n q ≠ 0) (ok : opOk T n q k r1 r0' β β' B op cb) (hs : RGm T n t b l k r0' r1' β' (nxT T n q) q2 o g) (bg : B g) (e1 : r1 ≤ r1') (hl : RLb T n t b l k r1 β B q2 o kind pl) : RLb T n t b l k r1 β B q o kind pl := by
  intro d Q σ w0 w E P0 f s h0 hlp hk2 hE hn hw hc hB pm go
  obtain ⟨⟨o1, o2, o2', o3, o4, o5⟩, o6, o7, o8, o9, o10⟩ := ok
  refine r_go tp s (by rw [o2]; exact h0) (by rw [o2]; exact hE) hn (o6 E P0 hE hk2 hc) o1 hk hw pm (fun σ1 s1 z1 g1 => ?_)
  have el : ((op :: P0).length : Int) = (P0.length : Int) + 1 := by simp
  refine hs d Q σ1 _ (op :: P0) s1 (show rkA op < r0' by omega) (by omega) (o7 P0 hk2) (fun σ2 w2 E2 s2 hE2 hn2 hw2 hc2 z2 pm2 => ?_)
  have ea : E2 ++ op :: P0 = (E2 ++ [op]) ++ P0 := by simp
  have eo : opC (E2 ++ [op]) = opC E2 := by rw [opC_app, o5]; omega
  unfold lenA at hn2
  rw [ea] at s2 hn2
  rw [← eo] at s2 hn2
  have pm3 : PM k (mfA σ2 b) (mgA σ2 b) w0 w2 (E2 ++ [op]) (cb f g) := by
    refine PM_lift (b := w + (E.length : Int)) (by omega) E2 w2 _ _ (by omega) (fun mf' mg' e he a1 a2 gg em => o10 mf' mg' w0 _ e f g hw.1 (by omega) (by omega) em bg ?_ gg) pm2
    exact GX_ag (GX_ag g1 (fun i i0 i1 => offZ_f (a := w0) z2 i i0 (by omega)) (fun i i0 i1 => offZ_g (a := w0) z2 i i0 (by omega))) a1 a2
  refine hl d Q σ2 w0 w2 (E2 ++ [op]) P0 (cb f g) s2 h0 hlp hk2 (fun x hx => ?_) hn2 ⟨hw.1, by omega⟩ (o8 E2 hc2) (o9 f g hB bg) pm3 (fun σ3 z3 e3 => go σ3 (offZ_tr (offZ_tr z1 (by omega) z2) (by omega) z3) e3)
  rcases List.mem_append.mp hx with hx | hx
  · have := hE2 x hx
    omega
  · rw [List.mem_singleton.mp hx]; omega
end RD
