/-! ===== the reference's loop: one step of it ===== -/
/-- the reference's state; what is written and what waits: B at most -/
def RX (T : Int → Int) (n b l B : Int) (σ : jM) (p w : Int) (P : List Int) (o wh : Int) : Prop := RT σ T n p ∧ (0 ≤ p ∧ p ≤ n) ∧ (σ 321 12 = b ∧ 0 ≤ b ∧ b ≤ 2043) ∧ σ 321 13 = w ∧ σ 321 14 = l ∧ pilA σ P ∧ σ 321 16 = (P.length : Int) ∧ σ 321 17 = o ∧ σ 321 18 = wh ∧ (0 ≤ w ∧ w + (P.length : Int) ≤ B)
theorem RT_off {σ σ' : jM} {T : Int → Int} {n p : Int} (r : RT σ T n p) (h : ∀ j, j < 12 → σ' 321 j = σ 321 j) (h2 : σ' 325 = σ 325) : RT σ' T n p := ⟨⟨(h 4 (by omega)).trans r.1.1, fun i i0 i1 => by rw [h2]; exact r.1.2 i i0 i1⟩, (h 7 (by omega)).trans r.2.1, (h 8 (by omega)).trans r.2.2.1, (h 9 (by omega)).trans r.2.2.2.1, fun z => (h 10 (by omega)).trans (r.2.2.2.2.1 z), fun z => (h 11 (by omega)).trans (r.2.2.2.2.2 z)⟩
theorem offZ_f {b w a : Int} {σ σ' : jM} (h : offZ b w σ σ') : agA a w (mfA σ b) (mfA σ' b) := fun i _ i1 => h.2.2 (b + 73 + 2 * i) (Or.inl (by omega))
theorem offZ_g {b w a : Int} {σ σ' : jM} (h : offZ b w σ σ') : agA a w (mgA σ b) (mgA σ' b) := fun i _ i1 => h.2.2 (b + 73 + 2 * i + 1) (Or.inl (by omega))
theorem pilA_app {σ : jM} {P : List Int} : ∀ (E : List Int), pilA σ (E ++ P) → pilA σ P
  | [], h => h
  | _ :: E, h => pilA_app E h.2.2
theorem PM_U {a : Int} : ∀ (U : List Int) (w : Int) (mf mg : Int → Int) (f : DT), (∀ x ∈ U, x = 2 ∨ x = 4 ∨ x = 5) → 0 ≤ a → a < w → GX false mf mg a w f → PM false mf mg a w U (apU U f)
  | [], _, _, _, _, _, _, _, h => h
  | x :: U, w, mf, mg, f, hU, a0, aw, h => fun mf' mg' g1 g2 e => PM_U U (w + 1) mf' mg' (fun r c => mop1 r x (f r c)) (fun y hy => hU y (List.mem_cons_of_mem _ hy)) a0 (by omega) (GX_one a0 aw (hU x List.mem_cons_self) e (GX_ag h g1 g2))
theorem rk_U {x : Int} (h : x = 2 ∨ x = 4 ∨ x = 5) : rkA x = 7 := by rcases h with rfl | rfl | rfl <;> decide
theorem opC_U : ∀ (U : List Int), (∀ x ∈ U, x = 2 ∨ x = 4 ∨ x = 5) → opC U = (U.length : Int)
  | [], _ => rfl
  | x :: U, h => by
    have ih := opC_U U (fun y hy => h y (List.mem_cons_of_mem _ hy))
    have hl : ((x :: U).length : Int) = (U.length : Int) + 1 := by simp
    rw [opC, if_pos (Or.inl (rk_U (h x List.mem_cons_self))), ih, hl]
    omega
section RB
variable {d : Nat} {t : Int} {Q : Int → jM → Prop} {σ : jM} {T : Int → Int} {n b l B p w o wh : Int} {P : List Int}
theorem x_settle {E P0 : List Int} {lst : Int} (s : RX T n b l B σ p w (E ++ P0) o wh) (hB : B ≤ 304) (hl : (E ++ P0).length ≤ 160) (h0 : hdR P0 < lst) (l0 : 0 ≤ lst ∧ lst ≤ 7) (hE : ∀ x ∈ E, lst ≤ rkA x) (k : ∀ σ', RX T n b l B σ' p (w + (E.length : Int)) P0 (o - opC E) wh → offZ b w σ σ' → (∀ (k : Bool) (a : Int) (f : DT), PM k (mfA σ b) (mgA σ b) a w E f → GX k (mfA σ' b) (mgA σ' b) a (w + (E.length : Int)) f) → Q 0 σ') : Ct mX12_settle (d + 1) 9 t [rv 321, iv lst] σ Q := by
  obtain ⟨s1, s2, s3, s4, s5, s6, s7, s8, s9, s10⟩ := s
  have el : ((E ++ P0).length : Int) = (E.length : Int) + (P0.length : Int) := by simp
  refine Ct_of (by decide +kernel) (Nat.le_of_ble_eq_true rfl) (m_settleJ s3.2 h0 l0 E σ w o hE s6 hl s3.1 s4 s7 s8 (by omega) (fun σ' g1 g2 g3 g4 g5 g6 g7 => ?_))
  refine k σ' ⟨RT_off s1 (fun j hj => g4 j (by omega) (by omega) (by omega)) (g5 325 (by omega) (by omega)), s2, ⟨(g4 12 (by omega) (by omega) (by omega)).trans s3.1, s3.2⟩, g2, (g4 14 (by omega) (by omega) (by omega)).trans s5, pilA_same P0 (pilA_app E s6) (fun i _ _ => by rw [g5 326 (by omega) (by omega)]), g1, g3, (g4 18 (by omega) (by omega) (by omega)).trans s9, by omega⟩ ⟨fun x h1 h2 h3 => g5 x h1 h2, fun j hj => g4 j (by omega) (by omega) (by omega), fun i hi => g6 i (by omega)⟩ g7
theorem x_next (tp : TP T n) (s : RX T n b l B σ p w P o wh) (hB : B ≤ nxT T n p) (k : ∀ σ', RS T n b l σ' (nxT T n p) w P o wh → offZ b w σ σ' → σ' 324 = σ 324 → Q 0 σ') : Ct mX12_nextToken (d + 1) 9 t [rv 321] σ Q := by
  obtain ⟨s1, s2, s3, s4, s5, s6, s7, s8, s9, s10⟩ := s
  have a := (nx_in tp s2).1
  refine m_next (σ := σ) tp s1 s2 (fun _ _ => rfl) rfl (fun σ' rt ot => ?_)
  refine k σ' ⟨rt, by omega, ⟨(ot.2 12 (by omega)).trans s3.1, s3.2⟩, (ot.2 13 (by omega)).trans s4, (ot.2 14 (by omega)).trans s5, pilA_same P s6 (fun i _ _ => by rw [ot.1 326 (by omega)]), (ot.2 16 (by omega)).trans s7, (ot.2 17 (by omega)).trans s8, (ot.2 18 (by omega)).trans s9, by omega⟩ (offZ_T ot) (ot.1 324 (by omega))
theorem x_with {σ' : jM} {P' : List Int} {o' wh' B' : Int} (s : RX T n b l B σ p w P o wh) (h1 : ∀ j, j ≠ 16 → j ≠ 17 → j ≠ 18 → σ' 321 j = σ 321 j) (h2 : ∀ x, x ≠ 321 → x ≠ 326 → σ' x = σ x) (hp : pilA σ' P') (e16 : σ' 321 16 = (P'.length : Int)) (e17 : σ' 321 17 = o') (e18 : σ' 321 18 = wh') (hB : w + (P'.length : Int) ≤ B') : RX T n b l B' σ' p w P' o' wh' ∧ offZ b w σ σ' := by
  obtain ⟨s1, s2, s3, s4, s5, s6, s7, s8, s9, s10⟩ := s
  refine ⟨⟨RT_off s1 (fun j hj => h1 j (by omega) (by omega) (by omega)) (h2 325 (by omega) (by omega)), s2, ⟨(h1 12 (by omega) (by omega) (by omega)).trans s3.1, s3.2⟩, (h1 13 (by omega) (by omega) (by omega)).trans s4, (h1 14 (by omega) (by omega) (by omega)).trans s5, hp, e16, e17, e18, s10.1, hB⟩, fun x a1 a2 a3 => h2 x a1 a3, fun j hj => h1 j (by omega) (by omega) (by omega), fun i _ => by rw [h2 324 (by omega) (by omega)]⟩
theorem x_emit {op v : Int} (s : RX T n b l B σ p w P o wh) (hB : B < 304) (k : ∀ σ', RX T n b l (B + 1) σ' p (w + 1) P o wh → offZ b w σ σ' → mfA σ' b w = op → mgA σ' b w = v → Q 0 σ') : Ct mX12_emit d 9 t [rv 321, iv op, iv v] σ Q := by
  obtain ⟨s1, s2, s3, s4, s5, s6, s7, s8, s9, s10⟩ := s
  refine m_emit s3.1 s4 s3.2 (by omega) (fun σ' f1 f2 f3 f4 f5 f6 => ?_)
  refine k σ' ⟨RT_off s1 (fun j hj => f2 j (by omega)) (f3 325 (by omega) (by omega)), s2, ⟨(f2 12 (by omega)).trans s3.1, s3.2⟩, f1, (f2 14 (by omega)).trans s5, pilA_same P s6 (fun i _ _ => by rw [f3 326 (by omega) (by omega)]), (f2 16 (by omega)).trans s7, (f2 17 (by omega)).trans s8, (f2 18 (by omega)).trans s9, by omega⟩ ⟨fun x a1 a2 a3 => f3 x a1 a2, fun j hj => f2 j (by omega), fun i hi => f4 i (by omega) (by omega)⟩ f5 f6
/-- what stands there as it is: a number or a name -/
def isF (T : Int → Int) (n l p : Int) (f : DT) : Prop := (kT T n p = 1 ∧ nmT T n p ≤ 9999 ∧ f = fun _ _ => nmT T n p) ∨ ((106 ≤ kT T n p ∧ kT T n p ≤ 112) ∧ kT T n p ≠ (if l = 0 then 112 else 111) ∧ f = fun r c => nmV r c (kT T n p - 105))
def isX (P : List Int) (k x : Int) : Prop := (k = 40 ∧ x = 40) ∨ (k = 45 ∧ x = 5) ∨ (k = 113 ∧ x = 2) ∨ (k = 114 ∧ x = 4) ∨ (k = 115 ∧ x = 41) ∨ ((k = 121 ∧ akA P = true) ∧ x = 20)
theorem m_begin81 {U P0 : List Int} {v1 u0 u1 : Int} {f : DT} (tp : TP T n) (s : RS T n b l σ p w (U ++ P0) o wh) (hl : (U ++ P0).length ≤ 100) (hU : ∀ x ∈ U, x = 2 ∨ x = 4 ∨ x = 5) (h7 : hdR P0 < 7) (hk : kT T n p ≠ 0) (hf : ∀ mf mg : Int → Int, mf w = u1 → mg w = u0 → GX false mf mg w (w + 1) f) (one : ∀ σ', RS T n b l σ' (nxT T n p) (w + 1 + (U.length : Int)) P0 (o - (U.length : Int)) 1 → offZ b w σ σ' → GX false (mfA σ' b) (mgA σ' b) w (w + 1 + (U.length : Int)) (apU U f) → Q 0 σ') : Jt mX12_beginOne (d + 7) 0 t Q 81 [rv 321, iv v1] [iv u0, iv u1, rv 321] σ := by
  have tp0 := tp.1
  have s2 := s.2.1
  have a := (nx_in tp s2).2 hk
  have a1 := (nx_in tp s2).1
  have w0 := s.2.2.2.2.2.2.2.2.2
  refine b_X12_beginOne_81 (x_emit (B := p) s (by omega) (fun σ1 r1 o1 f1 g1 => x_next tp r1 (by omega) (fun σ2 r2 o2 e2 => fun σ3 e3 => ?_)))
  obtain ⟨r3, o3⟩ := x_with (B := nxT T n p) (B' := nxT T n p) (P' := U ++ P0) (o' := o) (wh' := 1) (σ' := σ3) r2 (fun j h1 h2 h3 => by rw [e3, up_ne (Or.inr h3)]) (fun x h1 h2 => by rw [e3, up_row h1]) (pilA_same _ r2.2.2.2.2.2.1 (fun i _ _ => by rw [e3, up_row (by omega)])) (by rw [e3, up_ne (Or.inr (by omega))]; exact r2.2.2.2.2.2.2.1) (by rw [e3, up_ne (Or.inr (by omega))]; exact r2.2.2.2.2.2.2.2.1) (by rw [e3, up_at]) r2.2.2.2.2.2.2.2.2.2.2
  refine x_settle r3 (by omega) (by omega) h7 (by omega) (fun x hx => by rw [rk_U (hU x hx)]; omega) (fun σ4 r4 o4 g4 => ?_)
  rw [opC_U U hU] at r4
  refine one σ4 r4 (offZ_tr (offZ_tr (offZ_tr o1 (by omega) o2) (by omega) o3) (by omega) o4) (g4 false w _ ?_)
  refine PM_U U (w + 1) _ _ f hU w0.1 (by omega) (hf _ _ ?_ ?_)
  · show σ3 324 (b + 73 + 2 * w) = u1
    rw [e3, up_row (by omega), e2]; exact f1
  · show σ3 324 (b + 73 + 2 * w + 1) = u0
    rw [e3, up_row (by omega), e2]; exact g1
theorem m_begin {U P0 : List Int} (tp : TP T n) (s : RS T n b l σ p w (U ++ P0) o wh) (hl : (U ++ P0).length ≤ 100) (hU : ∀ x ∈ U, x = 2 ∨ x = 4 ∨ x = 5) (h7 : hdR P0 < 7) (ll : l = 0 ∨ l = 1) (ho : 0 ≤ o ∧ o ≤ 8)
    (big : kT T n p = 1 → 9999 < nmT T n p → Q 2 σ)
    (oth : (106 ≤ kT T n p ∧ kT T n p ≤ 112) → kT T n p = (if l = 0 then 112 else 111) → Q 5 σ)
    (one : ∀ f : DT, isF T n l p f → ∀ σ', RS T n b l σ' (nxT T n p) (w + 1 + (U.length : Int)) P0 (o - (U.length : Int)) 1 → offZ b w σ σ' → GX false (mfA σ' b) (mgA σ' b) w (w + 1 + (U.length : Int)) (apU U f) → Q 0 σ')
    (opn : ∀ x, isX (U ++ P0) (kT T n p) x → (o = 8 → Q 3 σ) ∧ (o < 8 → ∀ σ', RS T n b l σ' (nxT T n p) w (x :: (U ++ P0)) (o + 1) wh → offZ b w σ σ' → σ' 324 = σ 324 → Q 0 σ'))
    (non : kT T n p ≠ 1 → ¬ (106 ≤ kT T n p ∧ kT T n p ≤ 112) → ¬ isOpen (kT T n p) → ¬ (kT T n p = 121 ∧ akA (U ++ P0) = true) → Q 1 σ) : Ct mX12_beginOne (d + 7) 0 t [rv 321] σ Q := by
  have s1 : RT σ T n p := s.1
  have s2 := s.2.1
  have s6 : pilA σ (U ++ P0) := s.2.2.2.2.2.1
  have s7 : σ 321 16 = ((U ++ P0).length : Int) := s.2.2.2.2.2.2.1
  have w0 := s.2.2.2.2.2.2.2.2.2
  have r9 := RT_9 s1
  have r9' : inR (σ 321 9) := rng (by omega) (by omega)
  have a := (RT_tk s1).1
  unfold TK at a
  have e1 : σ 321 9 = 1 ↔ kT T n p = 1 := by omega
  have nn := nm_in tp s2
  have e10 : σ 321 9 = 1 → σ 321 10 = nmT T n p := fun z => by
    have e9 : σ 321 9 = tmQ T n (plT T n p) := s1.2.2.2.1
    exact s1.2.2.2.2.1 (by omega)
  have op1 : ∀ x, (0 ≤ x ∧ x ≤ 43) → isX (U ++ P0) (kT T n p) x → Ct mX12_opened (d + 6) 0 t [rv 321, iv x] σ Q := fun x x0 hx => m_opened tp s x0 (by omega) ho (fun z => by unfold isX at hx; omega) (fun z => (opn x hx).1 z) (fun z => (opn x hx).2 z)
  have at51 : ∀ v1, (kT T n p = 1 → nmT T n p ≤ 9999) → (kT T n p ≠ 1 → (106 ≤ kT T n p ∧ kT T n p ≤ 112) ∧ kT T n p ≠ (if l = 0 then 112 else 111) ∧ v1 = kT T n p - 106) → Jt mX12_beginOne (d + 7) 0 t Q 51 [rv 321, iv v1] [] σ := by
    intro v1 h1 h2
    refine b_X12_beginOne_51 ⟨r9', fun z => b_X12_beginOne_65 ⟨r9', fun _ => ?_, fun y => absurd y z⟩, fun z => b_X12_beginOne_65 ⟨r9', fun y => absurd z y, fun _ => ?_⟩⟩
    · obtain ⟨q1, q2, q3⟩ := h2 (fun y => z (e1.mpr y))
      refine m_begin81 (f := fun r c => nmV r c (v1 + 1)) tp s hl hU h7 (by omega) (fun mf mg m1 m2 => GX_name w0.1 (by omega) m1 m2) (fun σ' g1 g2 g3 => one _ (Or.inr ⟨q1, q2, ?_⟩) σ' g1 g2 g3)
      funext r c
      rw [q3]
      congr 1
      omega
    · have k1 := e1.mp z
      rw [e10 z]
      exact m_begin81 (f := fun _ _ => nmT T n p) tp s hl hU h7 (by omega) (fun mf mg m1 m2 => GX_num w0.1 ⟨nn.1, h1 k1⟩ m1 m2) (fun σ' g1 g2 g3 => one _ (Or.inl ⟨k1, h1 k1, rfl⟩) σ' g1 g2 g3)
  have at39 : ∀ v1, v1 = nmK (kT T n p) → (kT T n p = 1 → nmT T n p ≤ 9999) → ((106 ≤ kT T n p ∧ kT T n p ≤ 112) → kT T n p ≠ (if l = 0 then 112 else 111)) → Jt mX12_beginOne (d + 7) 0 t Q 39 [rv 321, iv v1] [] σ := by
    intro v1 hv h1 h2
    have v0 : inR v1 := by rw [hv]; unfold nmK; split <;> exact rng (by omega) (by omega)
    refine b_X12_beginOne_39 ⟨r9', fun z => at51 v1 h1 (fun y => absurd (e1.mp z) y), fun z => ⟨v0, fun y => ?_, fun y => at51 v1 h1 (fun _ => ?_)⟩⟩
    · have hn : ¬ (106 ≤ kT T n p ∧ kT T n p ≤ 112) := fun u => by rw [hv] at y; unfold nmK at y; rw [if_pos u] at y; omega
      have k1 : kT T n p ≠ 1 := fun u => z (e1.mpr u)
      refine ⟨r9', fun z40 => ⟨r9', fun z45 => ?_, fun z45 => op1 5 (by omega) (Or.inr (Or.inl ⟨by omega, rfl⟩))⟩, fun z40 => op1 40 (by omega) (Or.inl ⟨by omega, rfl⟩)⟩
      refine m_w6 (by omega) (by omega) (by omega) (by omega) (by omega) (by omega) (m_isWord (k := 113) tp s2 s1 (by omega) (fun v => wk_13.trans ⟨fun e => by omega, fun e => by omega⟩) (rngL (by omega) (by omega)) ⟨b01_R, fun q => ?_, fun q => op1 2 (by omega) (Or.inr (Or.inr (Or.inl ⟨of_decide_eq_true (b01_1 q), rfl⟩)))⟩)
      refine m_w5 (by omega) (by omega) (by omega) (by omega) (by omega) (m_isWord (k := 114) tp s2 s1 (by omega) (fun v => wk_14.trans ⟨fun e => by omega, fun e => by omega⟩) (rngL (by omega) (by omega)) ⟨b01_R, fun q2 => ?_, fun q2 => op1 4 (by omega) (Or.inr (Or.inr (Or.inr (Or.inl ⟨of_decide_eq_true (b01_1 q2), rfl⟩))))⟩)
      refine m_w2 (by omega) (by omega) (m_isWord (k := 115) tp s2 s1 (by omega) (fun v => wk_15.trans ⟨fun e => by omega, fun e => by omega⟩) (rngL (by omega) (by omega)) ⟨b01_R, fun q3 => ?_, fun q3 => op1 41 (by omega) (Or.inr (Or.inr (Or.inr (Or.inr (Or.inl ⟨of_decide_eq_true (b01_1 q3), rfl⟩)))))⟩)
      have n13 := of_decide_eq_false (b01_0.mp q)
      have n14 := of_decide_eq_false (b01_0.mp q2)
      have n15 := of_decide_eq_false (b01_0.mp q3)
      have no : ¬ isOpen (kT T n p) := fun u => by unfold isOpen at u; omega
      refine m_w3 (by omega) (by omega) (by omega) (m_isWord (k := 121) tp s2 s1 (by omega) (fun v => wk_21.trans ⟨fun e => by omega, fun e => by omega⟩) (rngL (by omega) (by omega)) ⟨b01_R, fun q4 => ?_, fun q4 => ?_⟩)
      · exact b_X12_beginOne_239 (b_X12_beginOne_240 (non k1 hn no (fun u => of_decide_eq_false (b01_0.mp q4) u.1)))
      · refine m_isAskAhead s6 (by omega) s7 ⟨b01_R, fun q5 => ?_, fun q5 => ?_⟩
        · exact b_X12_beginOne_239 (b_X12_beginOne_240 (non k1 hn no (fun u => by rw [b01_0.mp q5] at u; exact absurd u.2 (by decide))))
        · exact Ct_mono (op1 20 (by omega) (Or.inr (Or.inr (Or.inr (Or.inr (Or.inr ⟨⟨of_decide_eq_true (b01_1 q4), b01_1 q5⟩, rfl⟩)))))) (fun r σ' u => b_X12_beginOne_240 u)
    · have hn : 106 ≤ kT T n p ∧ kT T n p ≤ 112 := by
        rw [hv] at y
        unfold nmK at y
        split at y
        · assumption
        · omega
      refine ⟨hn, h2 hn, ?_⟩
      rw [hv]; unfold nmK; rw [if_pos hn]
  have nin : -1 ≤ nmK (kT T n p) ∧ nmK (kT T n p) ≤ 6 ∧ (0 ≤ nmK (kT T n p) → (106 ≤ kT T n p ∧ kT T n p ≤ 112) ∧ nmK (kT T n p) = kT T n p - 106) := by
    unfold nmK
    split <;> omega
  have nam : (kT T n p = 1 → nmT T n p ≤ 9999) → Ct mX12_nameOf (d + 6) 0 t [rv 321] σ (fun r2 σ2 => ((inR r2) ∧ ((r2 < 0 → (Jt mX12_beginOne (d + 7) 0 t Q 39 [rv 321, iv r2] [] σ2)) ∧ (0 ≤ r2 → (Ct mX12_isOf (d + 6) 0 t [rv 321, iv r2] σ2 (fun r4 σ4 => ((inR r4) ∧ ((¬ r4 = 0 → (Jt mX12_beginOne (d + 7) 0 t Q 39 [rv 321, iv r2] [] σ4)) ∧ (r4 = 0 → (Q 5 σ4)))))))))) := by
    intro h1
    refine m_nameOf tp s2 s1 ⟨rng (by omega) (by omega), fun y => at39 _ rfl h1 (fun u => ?_), fun y => ?_⟩
    · unfold nmK at y
      rw [if_pos u] at y
      omega
    · have y2 := nin.2.2 y
      refine m_isOf ⟨y, nin.2.1⟩ s.2.2.2.2.1 ll ⟨b01_R, fun q => at39 _ rfl h1 (fun u => ?_), fun q => oth y2.1 ?_⟩
      · have := of_decide_eq_true (b01_1 q)
        rcases ll with e | e
        · rw [if_pos e] at this ⊢; omega
        · rw [if_neg (by omega)] at this ⊢; omega
      · have := of_decide_eq_false (b01_0.mp q)
        rcases ll with e | e
        · rw [if_pos e] at this ⊢; omega
        · rw [if_neg (by omega)] at this ⊢; omega
  refine c_X12_beginOne ⟨r9', fun z => nam (fun y => absurd (e1.mpr y) z), fun z => ?_⟩
  rw [e10 z]
  exact ⟨rng (by omega) (by omega), fun y => nam (fun _ => y), fun y => big (e1.mp z) y⟩
end RB
