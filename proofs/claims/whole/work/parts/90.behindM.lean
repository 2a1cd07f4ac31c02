/-! ===== the reference goes on behind one ===== -/
theorem btwA_in {P : List Int} {k : Int} : -1 ≤ btwA P k ∧ btwA P k ≤ 22 := by
  unfold btwA cpK
  repeat' split
  all_goals omega
theorem prtA_in {P : List Int} {op k : Int} : -1 ≤ prtA P op k ∧ prtA P op k ≤ 43 := by
  unfold prtA
  repeat' split
  all_goals omega
theorem rk_lo {x : Int} (h : 1 ≤ rkA x) : x < 40 := by
  unfold rkA at h
  split at h
  · omega
  · omega
theorem opA_app {m : Int} {P : List Int} (hm : 40 ≤ m) : ∀ (E : List Int), (∀ x ∈ E, 1 ≤ rkA x) → opA (E ++ m :: P) = m
  | [], _ => by
    show opA (m :: P) = m
    rw [opA, if_pos hm]
  | x :: E, h => by
    show opA (x :: (E ++ m :: P)) = m
    rw [opA, if_neg (by have := rk_lo (h x List.mem_cons_self); omega)]
    exact opA_app hm E (fun y hy => h y (List.mem_cons_of_mem _ hy))
section RC
variable {d : Nat} {t : Int} {Q : Int → jM → Prop} {σ : jM} {T : Int → Int} {n b l p w o : Int}
def rkU (op : Int) : Int := if rkA op = 4 then 5 else rkA op
theorem m_bh_op {E P0 : List Int} {op : Int} (tp : TP T n) (s : RS T n b l σ p w (E ++ P0) o 1) (hl : (E ++ P0).length ≤ 100) (hop : btwA (E ++ P0) (kT T n p) = op) (op0 : 0 ≤ op) (h0 : hdR P0 < rkU op) (hE : ∀ x ∈ E, rkU op ≤ rkA x) (hk : kT T n p ≠ 0) (k : ∀ σ', RS T n b l σ' (nxT T n p) (w + (E.length : Int)) (op :: P0) (o - opC E) 0 → offZ b w σ σ' → (∀ (k : Bool) (a : Int) (f : DT), a ≤ w → PM k (mfA σ b) (mgA σ b) a w E f → GX k (mfA σ' b) (mgA σ' b) a (w + (E.length : Int)) f) → Q 1 σ') : Ct mX12_behindOne (d + 7) 0 t [rv 321] σ Q := by
  have tp0 := tp.1
  have s2 := s.2.1
  have a := (nx_in tp s2).2 hk
  have bi := btwA_in (P := E ++ P0) (k := kT T n p)
  have w0 := s.2.2.2.2.2.2.2.2.2
  have ri := rkA_in (o := op)
  have el : (E ++ P0).length = E.length + P0.length := by simp
  have el' : ((E ++ P0).length : Int) = (E.length : Int) + (P0.length : Int) := by simp
  have fin : ∀ σ22, RX T n b l p σ22 p (w + (E.length : Int)) P0 (o - opC E) 1 → offZ b w σ σ22 → (∀ (k : Bool) (a : Int) (f : DT), PM k (mfA σ b) (mgA σ b) a w E f → GX k (mfA σ22 b) (mgA σ22 b) a (w + (E.length : Int)) f) → (((0 : Int) ≤ (σ22 321 16) ∧ (σ22 321 16) < 160) ∧ (∀ σ24 : jM, σ24 = up σ22 326 (σ22 321 16) op → (∀ σ25 : jM, σ25 = up σ24 321 16 ((σ24 321 16) + 1) → (∀ σ26 : jM, σ26 = up σ25 321 18 0 → (Ct mX12_nextToken (d + 6) 9 t [rv 321] σ26 (fun r27 σ27 => (Q 1 σ27))))))) := by
    intro σ22 r o1 g1
    have e16 : σ22 321 16 = (P0.length : Int) := r.2.2.2.2.2.2.1
    rw [e16]
    refine ⟨by omega, fun σ24 e24 σ25 e25 σ26 e26 => ?_⟩
    have hP : pilA σ22 P0 := r.2.2.2.2.2.1
    obtain ⟨r3, o3⟩ := x_with (B' := p + 1) (P' := op :: P0) (o' := o - opC E) (wh' := 0) (σ' := σ26) r (fun j h1 h2 h3 => by rw [e26, up_ne (Or.inr h3), e25, up_ne (Or.inr h1), e24, up_row (by omega)]) (fun x h1 h2 => by rw [e26, up_row h1, e25, up_row h1, e24, up_row h2]) ⟨by rw [e26, up_row (by omega), e25, up_row (by omega), e24, up_at], by omega, pilA_same P0 hP (fun i i0 i1 => by rw [e26, up_row (by omega), e25, up_row (by omega), e24, up_ne (Or.inr (by omega))])⟩ (by rw [e26, up_ne (Or.inr (by omega)), e25, up_at, e24, up_row (by omega), e16]; simp) (by rw [e26, up_ne (Or.inr (by omega)), e25, up_ne (Or.inr (by omega)), e24, up_row (by omega)]; exact r.2.2.2.2.2.2.2.1) (by rw [e26, up_at]) (by simp; omega)
    refine x_next tp r3 (by omega) (fun σ4 r4 o4 e4 => ?_)
    refine k σ4 r4 (offZ_tr (offZ_tr o1 (by omega) o3) (by omega) o4) (fun k' a' f' _ h => GX_ag (GX_ag (g1 k' a' f' h) (offZ_f o3) (offZ_g o3)) (offZ_f o4) (offZ_g o4))
  refine c_X12_behindOne (m_betweenOf tp s2 s.1 s.2.2.2.2.2.1 (by omega) s.2.2.2.2.2.2.1 ?_)
  rw [hop]
  refine ⟨rng (by omega) (by omega), fun z => absurd z (by omega), fun _ => m_rank (by omega) ⟨rng (by omega) (by omega), fun z => m_rank (by omega) ?_, fun z => ?_⟩⟩
  · have eU : rkU op = rkA op := by unfold rkU; rw [if_neg z]
    rw [eU] at h0 hE
    exact x_settle (B := p) s (by omega) (by omega) h0 (by omega) hE fin
  · have eU : rkU op = 5 := by unfold rkU; rw [if_pos z]
    rw [eU] at h0 hE
    exact x_settle (B := p) s (by omega) (by omega) h0 (by omega) hE fin
theorem m_bh_part {E P0 : List Int} {m part : Int} (tp : TP T n) (s : RS T n b l σ p w (E ++ m :: P0) o 1) (hl : (E ++ m :: P0).length ≤ 100) (hE : ∀ x ∈ E, 1 ≤ rkA x) (hm : 40 ≤ m) (hb : btwA (E ++ m :: P0) (kT T n p) < 0) (hp : prtA (E ++ m :: P0) m (kT T n p) = part) (p0 : 40 ≤ part) (k : ∀ σ', RS T n b l σ' (nxT T n p) (w + (E.length : Int)) (part :: P0) (o - opC E) 0 → offZ b w σ σ' → (∀ (k : Bool) (a : Int) (f : DT), a ≤ w → PM k (mfA σ b) (mgA σ b) a w E f → GX k (mfA σ' b) (mgA σ' b) a (w + (E.length : Int)) f) → Q 1 σ') : Ct mX12_behindOne (d + 7) 0 t [rv 321] σ Q := by
  have tp0 := tp.1
  have s2 := s.2.1
  have a := (nx_in tp s2).1
  have bi := btwA_in (P := E ++ m :: P0) (k := kT T n p)
  have pi := prtA_in (P := E ++ m :: P0) (op := m) (k := kT T n p)
  have w0 := s.2.2.2.2.2.2.2.2.2
  have s6 : pilA σ (E ++ m :: P0) := s.2.2.2.2.2.1
  have el : (E ++ m :: P0).length = E.length + (P0.length + 1) := by simp
  have el' : ((E ++ m :: P0).length : Int) = (E.length : Int) + ((P0.length : Int) + 1) := by simp
  have em : opA (E ++ m :: P0) = m := opA_app hm E hE
  have mi : m ≤ 43 := by have := opA_in _ s6; omega
  have rm : rkA m = 0 := by unfold rkA; rw [if_pos hm]
  refine c_X12_behindOne (m_betweenOf tp s2 s.1 s6 (by omega) s.2.2.2.2.2.2.1 ⟨rng (by omega) (by omega), fun _ => ?_, fun z => absurd z (by omega)⟩)
  refine m_openNow s6 (by omega) s.2.2.2.2.2.2.1 ?_
  rw [em]
  refine m_partOf tp s2 s.1 s6 (by omega) s.2.2.2.2.2.2.1 (by omega) ?_
  rw [hp]
  refine ⟨rng (by omega) (by omega), fun _ => ?_, fun z => absurd z (by omega)⟩
  refine x_settle (B := p) s (by omega) (by omega) (show rkA m < 1 by omega) (by omega) hE (fun σ6 r6 o6 g6 => ?_)
  refine x_next tp r6 (by omega) (fun σ7 r7 o7 e7 => ⟨rng (by omega) (by omega), fun z => absurd z (by omega), fun _ => ?_⟩)
  have p7 : pilA σ7 (m :: P0) := r7.2.2.2.2.2.1
  refine m_openAt p7 (by simp; omega) r7.2.2.2.2.2.2.1 ?_
  have eo : opI (m :: P0) = (P0.length : Int) := by rw [opI, if_pos hm]
  rw [eo]
  refine ⟨by omega, fun σ17 e17 σ18 e18 => ?_⟩
  obtain ⟨r3, o3⟩ := x_with (B := nxT T n p) (B' := nxT T n p) (P' := part :: P0) (o' := o - opC E) (wh' := 0) (σ' := σ18) r7 (fun j h1 h2 h3 => by rw [e18, up_ne (Or.inr h3), e17, up_row (by omega)]) (fun x h1 h2 => by rw [e18, up_row h1, e17, up_row h2]) ⟨by rw [e18, up_row (by omega), e17, up_at], by omega, pilA_same P0 p7.2.2 (fun i i0 i1 => by rw [e18, up_row (by omega), e17, up_ne (Or.inr (by omega))])⟩ (by rw [e18, up_ne (Or.inr (by omega)), e17, up_row (by omega)]; exact r7.2.2.2.2.2.2.1) (by rw [e18, up_ne (Or.inr (by omega)), e17, up_row (by omega)]; exact r7.2.2.2.2.2.2.2.1) (by rw [e18, up_at]) (by simp; omega)
  exact k σ18 r3 (offZ_tr (offZ_tr o6 (by omega) o7) (by omega) o3) (fun k' a' f' _ h => GX_ag (GX_ag (g6 k' a' f' h) (offZ_f o7) (offZ_g o7)) (offZ_f o3) (offZ_g o3))
/-- what is open is shut: a parenthesis, a choice -/
theorem m_bh_shut {E U P0 : List Int} {m : Int} (tp : TP T n) (s : RS T n b l σ p w (E ++ m :: (U ++ P0)) o 1) (hl : (E ++ m :: (U ++ P0)).length ≤ 100) (hE : ∀ x ∈ E, 1 ≤ rkA x) (hU : ∀ x ∈ U, x = 2 ∨ x = 4 ∨ x = 5) (h7 : hdR P0 < 7) (hm : (m = 40 ∧ kT T n p = 41) ∨ (m = 43 ∧ kT T n p = 118))
    (k40 : m = 40 → ∀ σ', RS T n b l σ' (nxT T n p) (w + (E.length : Int) + (U.length : Int)) P0 (o - opC E - 1 - (U.length : Int)) 1 → offZ b w σ σ' → (∀ (a : Int) (f : DT), 0 ≤ a → a < w → PM false (mfA σ b) (mgA σ b) a w E f → GX false (mfA σ' b) (mgA σ' b) a (w + (E.length : Int) + (U.length : Int)) (apU U f)) → Q 1 σ')
    (k43 : m = 43 → ∀ σ', RS T n b l σ' (nxT T n p) (w + (E.length : Int) + 1 + (U.length : Int)) P0 (o - opC E - 1 - (U.length : Int)) 1 → offZ b w σ σ' → (∀ (a a1 a2 : Int) (c f g : DT), 0 ≤ a → a < a1 → a1 < a2 → a2 < w → GX true (mfA σ b) (mgA σ b) a a1 c → GX false (mfA σ b) (mgA σ b) a1 a2 f → PM false (mfA σ b) (mgA σ b) a2 w E g → GX false (mfA σ' b) (mgA σ' b) a (w + (E.length : Int) + 1 + (U.length : Int)) (apU U (fun r x => if c r x = 0 then g r x else f r x))) → Q 1 σ') : Ct mX12_behindOne (d + 7) 0 t [rv 321] σ Q := by
  have tp0 := tp.1
  have s2 := s.2.1
  have a := (nx_in tp s2).1
  have w0 := s.2.2.2.2.2.2.2.2.2
  have s6 : pilA σ (E ++ m :: (U ++ P0)) := s.2.2.2.2.2.1
  have el : (E ++ m :: (U ++ P0)).length = E.length + ((U ++ P0).length + 1) := by simp
  have el' : ((E ++ m :: (U ++ P0)).length : Int) = (E.length : Int) + (((U ++ P0).length : Int) + 1) := by rw [el]; simp
  have eu : ((U ++ P0).length : Int) = (U.length : Int) + (P0.length : Int) := by simp
  have hm4 : 40 ≤ m := by omega
  have em : opA (E ++ m :: (U ++ P0)) = m := opA_app hm4 E hE
  have rm : rkA m = 0 := by unfold rkA; rw [if_pos hm4]
  have hb : btwA (E ++ m :: (U ++ P0)) (kT T n p) = -1 := by
    unfold btwA
    rw [em, if_neg (by omega), if_neg (by omega), if_neg (by omega), if_neg (by omega), if_pos (by omega)]
  have hp : prtA (E ++ m :: (U ++ P0)) m (kT T n p) = 0 := by
    unfold prtA
    rcases hm with ⟨e1, e2⟩ | ⟨e1, e2⟩
    · rw [if_pos e1, if_pos e2]
    · rw [if_neg (by omega), if_neg (by omega), if_neg (by omega), if_pos e1, if_pos e2]
  refine c_X12_behindOne (m_betweenOf tp s2 s.1 s6 (by omega) s.2.2.2.2.2.2.1 ?_)
  rw [hb]
  refine ⟨inl (by decide), fun _ => ?_, fun z => absurd z (by decide)⟩
  refine m_openNow s6 (by omega) s.2.2.2.2.2.2.1 ?_
  rw [em]
  refine m_partOf tp s2 s.1 s6 (by omega) s.2.2.2.2.2.2.1 (by omega) ?_
  rw [hp]
  refine ⟨inl (by decide), fun _ => ?_, fun z => absurd z (by decide)⟩
  refine x_settle (B := p) s (by omega) (by omega) (show rkA m < 1 by omega) (by omega) hE (fun σ6 r6 o6 g6 => ?_)
  refine x_next tp r6 (by omega) (fun σ7 r7 o7 e7 => ⟨inl (by decide), fun _ => fun σ9 e9 σ10 e10 => ?_, fun z => absurd z (by decide)⟩)
  have p7 : pilA σ7 (m :: (U ++ P0)) := r7.2.2.2.2.2.1
  have q16 : σ7 321 16 = ((U ++ P0).length : Int) + 1 := by rw [r7.2.2.2.2.2.2.1]; simp
  have b7 := r7.2.2.2.2.2.2.2.2.2
  have b7' : w + (E.length : Int) + (((U ++ P0).length : Int) + 1) ≤ p := by omega
  obtain ⟨r3, o3⟩ := x_with (B := nxT T n p) (B' := p - 1) (P' := U ++ P0) (o' := o - opC E - 1) (wh' := 1) (σ' := σ10) r7 (fun j h1 h2 h3 => by rw [e10, up_ne (Or.inr h1), e9, up_ne (Or.inr h2)]) (fun x h1 h2 => by rw [e10, up_row h1, e9, up_row h1]) (pilA_same _ p7.2.2 (fun i i0 i1 => by rw [e10, up_row (by omega), e9, up_row (by omega)])) (by rw [e10, up_at, e9, up_ne (Or.inr (by omega)), q16]; omega) (by rw [e10, up_ne (Or.inr (by omega)), e9, up_at, r7.2.2.2.2.2.2.2.1]) (by rw [e10, up_ne (Or.inr (by omega)), e9, up_ne (Or.inr (by omega))]; exact r7.2.2.2.2.2.2.2.2.1) (by omega)
  have gA : ∀ (k : Bool) (a : Int) (f : DT), PM k (mfA σ b) (mgA σ b) a w E f → GX k (mfA σ10 b) (mgA σ10 b) a (w + (E.length : Int)) f := fun k' a' f' h => GX_ag (GX_ag (g6 k' a' f' h) (offZ_f o7) (offZ_g o7)) (offZ_f o3) (offZ_g o3)
  have oA : offZ b w σ σ10 := offZ_tr (offZ_tr o6 (by omega) o7) (by omega) o3
  have hU7 : ∀ x ∈ U, 7 ≤ rkA x := fun x hx => by rw [rk_U (hU x hx)]; omega
  have up1 : ∀ {τ : jM} {B q w' o' : Int} {P : List Int}, RX T n b l B τ q w' P o' 1 → B ≤ q → RS T n b l τ q w' P o' 1 := fun h hq => ⟨h.1, h.2.1, h.2.2.1, h.2.2.2.1, h.2.2.2.2.1, h.2.2.2.2.2.1, h.2.2.2.2.2.2.1, h.2.2.2.2.2.2.2.1, h.2.2.2.2.2.2.2.2.1, h.2.2.2.2.2.2.2.2.2.1, Int.le_trans h.2.2.2.2.2.2.2.2.2.2 hq⟩
  refine ⟨rng (by omega) (by omega), fun z => ?_, fun z => ?_⟩
  · refine x_settle r3 (by omega) (by omega) h7 (by omega) hU7 (fun σ12 r12 o12 g12 => ?_)
    rw [opC_U U hU] at r12
    refine k40 (by omega) σ12 (up1 r12 (by omega)) (offZ_tr oA (by omega) o12) (fun a' f' h1 h2 h => ?_)
    exact g12 false a' _ (PM_U U _ _ _ f' hU h1 (by omega) (gA false a' f' h))
  · refine x_emit r3 (by omega) (fun σ13 r13 o13 f13 g13 => ?_)
    refine x_settle r13 (by omega) (by omega) h7 (by omega) hU7 (fun σ14 r14 o14 g14 => ?_)
    rw [opC_U U hU] at r14
    refine k43 z σ14 (up1 r14 (by omega)) (offZ_tr (offZ_tr oA (by omega) o13) (by omega) o14) (fun a' a1 a2 c f g h1 h2 h3 h4 hc hf hg => ?_)
    refine g14 false a' _ (PM_U U _ _ _ _ hU h1 (by omega) ?_)
    have c1 : GX true (mfA σ13 b) (mgA σ13 b) a' a1 c := GX_ag hc (fun i i0 i1 => (offZ_f (w := w) (a := a') (offZ_tr oA (by omega) o13)) i i0 (by omega)) (fun i i0 i1 => (offZ_g (w := w) (a := a') (offZ_tr oA (by omega) o13)) i i0 (by omega))
    have c2 : GX false (mfA σ13 b) (mgA σ13 b) a1 a2 f := GX_ag hf (fun i i0 i1 => (offZ_f (w := w) (a := a1) (offZ_tr oA (by omega) o13)) i i0 (by omega)) (fun i i0 i1 => (offZ_g (w := w) (a := a1) (offZ_tr oA (by omega) o13)) i i0 (by omega))
    have c3 : GX false (mfA σ13 b) (mgA σ13 b) a2 (w + (E.length : Int)) g := GX_ag (gA false a2 g hg) (offZ_f o13) (offZ_g o13)
    exact GX_sel h1 h2 h3 (by omega) f13 c1 c2 c3
theorem m_bh_no {P : List Int} (tp : TP T n) (s : RS T n b l σ p w P o 1) (hl : P.length ≤ 100) (hb : btwA P (kT T n p) < 0) (hp : prtA P (opA P) (kT T n p) < 0) (k : Q 0 σ) : Ct mX12_behindOne (d + 7) 0 t [rv 321] σ Q := by
  have s2 := s.2.1
  have s6 : pilA σ P := s.2.2.2.2.2.1
  have bi := btwA_in (P := P) (k := kT T n p)
  have pi := prtA_in (P := P) (op := opA P) (k := kT T n p)
  have oi := opA_in P s6
  refine c_X12_behindOne (m_betweenOf tp s2 s.1 s6 (by omega) s.2.2.2.2.2.2.1 ⟨rng (by omega) (by omega), fun _ => ?_, fun z => absurd z (by omega)⟩)
  refine m_openNow s6 (by omega) s.2.2.2.2.2.2.1 ?_
  refine m_partOf tp s2 s.1 s6 (by omega) s.2.2.2.2.2.2.1 (by omega) ⟨rng (by omega) (by omega), fun z => absurd z (by omega), fun _ => k⟩
/-! ===== the head of the loop ===== -/
abbrev SJ (d : Nat) (t : Int) (Q : Int → jM → Prop) (σ : jM) : Prop := Jt mX12_summed (d + 8) 0 t Q 15 [rv 321, uv] [] σ
theorem jh_begin (e18 : σ 321 18 = 0) (h : Ct mX12_beginOne (d + 7) 0 t [rv 321] σ (fun r2 σ2 => ((inR r2) ∧ ((r2 = 0 → SJ d t Q σ2) ∧ (¬ r2 = 0 → (Q r2 σ2)))))) : SJ d t Q σ := by
  refine b_X12_summed_15 ?_
  rw [e18]
  exact ⟨inl (by decide), fun _ => h, fun z => absurd rfl z⟩
theorem jh_behind (e18 : σ 321 18 = 1) (h : Ct mX12_behindOne (d + 7) 0 t [rv 321] σ (fun r4 σ4 => r4 = 1 ∧ SJ d t Q σ4)) : SJ d t Q σ := by
  refine b_X12_summed_15 ?_
  rw [e18]
  refine ⟨inl (by decide), fun z => absurd z (by decide), fun _ => Ct_mono h (fun r σ' u => ?_)⟩
  rw [u.1]
  exact ⟨inl (by decide), fun z => absurd z (by decide), fun _ => u.2⟩
theorem jh_fault {P : List Int} (tp : TP T n) (s : RS T n b l σ p w P o 1) (hl : P.length ≤ 100) (hb : btwA P (kT T n p) < 0) (hp : prtA P (opA P) (kT T n p) < 0) (ho : 0 ≤ opA P) (k : Q 1 σ) : SJ d t Q σ := by
  have s6 : pilA σ P := s.2.2.2.2.2.1
  have e18 : σ 321 18 = 1 := s.2.2.2.2.2.2.2.2.1
  have oi := opA_in P s6
  refine b_X12_summed_15 ?_
  rw [e18]
  refine ⟨inl (by decide), fun z => absurd z (by decide), fun _ => m_bh_no tp s hl hb hp ⟨inl (by decide), fun _ => ?_, fun z => absurd rfl z⟩⟩
  exact m_openNow s6 (by omega) s.2.2.2.2.2.2.1 ⟨rng (by omega) (by omega), fun z => absurd z (by omega), fun _ => k⟩
theorem opA_no : ∀ (E : List Int), (∀ x ∈ E, 1 ≤ rkA x) → opA E = -1
  | [], _ => rfl
  | x :: E, h => by
    rw [opA, if_neg (by have := rk_lo (h x List.mem_cons_self); omega)]
    exact opA_no E (fun y hy => h y (List.mem_cons_of_mem _ hy))
/-- the sum's end -/
theorem jh_end {E : List Int} (tp : TP T n) (s : RS T n b l σ p w E o 1) (hl : E.length ≤ 100) (hE : ∀ x ∈ E, 1 ≤ rkA x) (h1 : kT T n p ≠ 43) (h2 : kT T n p ≠ 45) (h3 : kT T n p ≠ 42) (h4 : kT T n p ≠ 47) (k : ∀ σ', RS T n b l σ' p (w + (E.length : Int)) [] (o - opC E) 1 → offZ b w σ σ' → (∀ (k : Bool) (a : Int) (f : DT), PM k (mfA σ b) (mgA σ b) a w E f → GX k (mfA σ' b) (mgA σ' b) a (w + (E.length : Int)) f) → Q 0 σ') : SJ d t Q σ := by
  have tp0 := tp.1
  have s2 := s.2.1
  have s6 : pilA σ E := s.2.2.2.2.2.1
  have e18 : σ 321 18 = 1 := s.2.2.2.2.2.2.2.2.1
  have em := opA_no E hE
  have hb : btwA E (kT T n p) = -1 := by
    unfold btwA
    rw [em, if_neg h1, if_neg h2, if_neg h3, if_neg h4, if_pos (by omega)]
  have hp : prtA E (opA E) (kT T n p) = -1 := by
    unfold prtA
    rw [em, if_neg (by omega), if_neg (by omega), if_neg (by omega), if_neg (by omega)]
  refine b_X12_summed_15 ?_
  rw [e18]
  refine ⟨inl (by decide), fun z => absurd z (by decide), fun _ => m_bh_no tp s hl (by omega) (by omega) ⟨inl (by decide), fun _ => ?_, fun z => absurd rfl z⟩⟩
  refine m_openNow s6 (by omega) s.2.2.2.2.2.2.1 ?_
  rw [em]
  refine ⟨inl (by decide), fun _ => ?_, fun z => absurd z (by decide)⟩
  have s' : RX T n b l p σ p w (E ++ []) o 1 := by rw [List.append_nil]; exact s
  exact x_settle s' (by omega) (by simp; omega) (show (-1 : Int) < 1 by decide) (by omega) hE (fun σ' r1 o1 g1 => k σ' r1 o1 g1)
end RC
