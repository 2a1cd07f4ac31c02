/-! ===== the reference reads one ===== -/
section RF
variable {T : Int → Int} {n t b l o p : Int}
theorem r_one {f : DT} (tp : TP T n) (ll : l = 0 ∨ l = 1) (ho : 0 ≤ o ∧ o ≤ 8) (hf : isF T n l p f) : RG1 T n t b l p (nxT T n p) o f := by
  intro d Q σ w U P0 s hU h7 hl hc k
  have hf2 := hf
  unfold isF at hf2
  have hk : kT T n p = 1 ∨ (106 ≤ kT T n p ∧ kT T n p ≤ 112) := hf2.elim (fun x => Or.inl x.1) (fun x => Or.inr x.1)
  refine jh_begin s.2.2.2.2.2.2.2.2.1 (m_begin tp s (by omega) hU h7 ll ho (fun z y => ?_) (fun z y => ?_) (fun f' hf' σ' s' z g => ⟨inl (by decide), fun _ => ?_, fun y => absurd rfl y⟩) (fun y hy => ?_) (fun z1 z2 z3 z4 => absurd hk (fun u => u.elim z1 z2)))
  · rcases hf2 with x | x
    · exact absurd x.2.1 (by omega)
    · exact absurd x.1 (by omega)
  · rcases hf2 with x | x
    · exact absurd x.1 (by omega)
    · exact absurd y x.2.1
  · have e : f' = f := by
      rcases hf' with x | x
      · rcases hf2 with u | u
        · rw [x.2.2, u.2.2]
        · exact absurd u.1 (by omega)
      · rcases hf2 with u | u
        · exact absurd x.1 (by omega)
        · rw [x.2.2, u.2.2]
    rw [e] at g
    exact k σ' _ s' (by omega) z g
  · unfold isX at hy
    exact absurd hk (by omega)
theorem r_bad1 {kind : Int} (tp : TP T n) (ll : l = 0 ∨ l = 1) (ho : 0 ≤ o ∧ o ≤ 8) (hf : (kind = 2 ∧ kT T n p = 1 ∧ 9999 < nmT T n p) ∨ (kind = 5 ∧ (106 ≤ kT T n p ∧ kT T n p ≤ 112) ∧ kT T n p = (if l = 0 then 112 else 111)) ∨ (kind = 1 ∧ kT T n p ≠ 1 ∧ ¬ (106 ≤ kT T n p ∧ kT T n p ≤ 112) ∧ ¬ isOpen (kT T n p)) ∨ (kind = 3 ∧ isOpen (kT T n p) ∧ o = 8)) : RB1 T n t b l p o kind (plT T n p) := by
  intro d Q σ w U P0 s hU h7 hl hc k
  have q := k σ offZ_rf s.1.2.2.1
  have fin : ∀ v : Int, v = kind → v ≠ 0 → inR v → (inR v ∧ ((v = 0 → SJ d t Q σ) ∧ (¬ v = 0 → Q v σ))) := fun v e h0 hr => ⟨hr, fun y => absurd y h0, fun _ => by rw [e]; exact q⟩
  refine jh_begin s.2.2.2.2.2.2.2.2.1 (m_begin tp s (by omega) hU h7 ll ho (fun z y => fin 2 ?_ (by decide) (inl (by decide))) (fun z y => fin 5 ?_ (by decide) (inl (by decide))) (fun f' hf' σ' s' z g => ?_) (fun y hy => ?_) (fun z1 z2 z3 z4 => fin 1 ?_ (by decide) (inl (by decide))))
  · rcases hf with x | x | x | x
    · exact x.1.symm
    · exact absurd x.2.1 (by omega)
    · exact absurd z x.2.1
    · have := x.2.1
      unfold isOpen at this
      exact absurd z (by omega)
  · rcases hf with x | x | x | x
    · exact absurd x.2.1 (by omega)
    · exact x.1.symm
    · exact absurd z x.2.2.1
    · have := x.2.1
      unfold isOpen at this
      exact absurd z (by omega)
  · exfalso
    rcases hf with x | x | x | x
    · rcases hf' with u | u
      · have := u.2.1
        have := x.2.2
        omega
      · have := u.1
        have := x.2.1
        omega
    · rcases hf' with u | u
      · have := u.1
        have := x.2.1
        omega
      · exact u.2.1 x.2.2
    · rcases hf' with u | u
      · exact x.2.1 u.1
      · exact x.2.2.1 u.1
    · have h := x.2.1
      unfold isOpen at h
      rcases hf' with u | u
      · have := u.1
        omega
      · have := u.1
        omega
  · have hy2 := hy
    unfold isX at hy2
    have no : kT T n p = 121 → False := fun e => by
      have h1 : akA (U ++ P0) = false := hc e
      rcases hy2 with u | u | u | u | u | u
      · omega
      · omega
      · omega
      · omega
      · omega
      · rw [h1] at u; exact absurd u.1.2 (by decide)
    have io : isOpen (kT T n p) := by
      unfold isOpen
      rcases hy2 with u | u | u | u | u | u
      · omega
      · omega
      · omega
      · omega
      · omega
      · exact absurd u.1.1 no
    rcases hf with x | x | x | x
    · unfold isOpen at io
      exact absurd x.2.1 (by omega)
    · unfold isOpen at io
      exact absurd x.2.1 (by omega)
    · exact absurd io x.2.2.2
    · exact ⟨fun z => fin 3 x.1.symm (by decide) (inl (by decide)), fun z => absurd z (by omega)⟩
  · rcases hf with x | x | x | x
    · exact absurd x.2.1 z1
    · exact absurd x.2.1 z2
    · exact x.1.symm
    · exact absurd x.2.1 z3
def unM (k : Int) : Int := if k = 45 then 5 else if k = 113 then 2 else 4
theorem un_eq {k : Int} (hk : k = 45 ∨ k = 113 ∨ k = 114) : (unM k = 2 ∨ unM k = 4 ∨ unM k = 5) ∧ (∀ r x, cop1 r (unC k) x = mop1 r (unM k) x) ∧ ∀ P, isX P k (unM k) := by
  rcases hk with rfl | rfl | rfl
  · exact ⟨by decide, fun _ _ => c1_10, fun P => Or.inr (Or.inl ⟨rfl, rfl⟩)⟩
  · exact ⟨by decide, fun _ _ => c1_11, fun P => Or.inr (Or.inr (Or.inl ⟨rfl, rfl⟩))⟩
  · exact ⟨by decide, fun _ _ => c1_12, fun P => Or.inr (Or.inr (Or.inr (Or.inl ⟨rfl, rfl⟩)))⟩
theorem r_un {q : Int} {f : DT} (tp : TP T n) (ll : l = 0 ∨ l = 1) (ho : 0 ≤ o ∧ o < 8) (hk : kT T n p = 45 ∨ kT T n p = 113 ∨ kT T n p = 114) (h : RG1 T n t b l (nxT T n p) q (o + 1) f) : RG1 T n t b l p q o (fun r x => cop1 r (unC (kT T n p)) (f r x)) := by
  intro d Q σ w U P0 s hU h7 hl hc k
  obtain ⟨u1, u2, u3⟩ := un_eq hk
  refine jh_open tp ll s hU h7 hl (by omega) (u3 _) (fun z => absurd z (by omega)) (fun _ σ1 s1 z1 => ?_)
  have el : ((unM (kT T n p) :: (U ++ P0)).length : Int) = ((U ++ P0).length : Int) + 1 := by simp
  refine h d Q σ1 w (unM (kT T n p) :: U) P0 s1 (fun x hx => ?_) h7 (show ((unM (kT T n p) :: (U ++ P0)).length : Int) ≤ 7 * (o + 1) + 6 by omega) (fun _ => akA_no (by omega) (by rw [rk_U u1]; omega)) (fun σ2 w2 s2 hw z2 g2 => ?_)
  · rcases List.mem_cons.mp hx with e | e
    · rw [e]; exact u1
    · exact hU x e
  · have e1 : o + 1 - ((unM (kT T n p) :: U).length : Int) = o - (U.length : Int) := by simp; omega
    rw [e1] at s2
    refine k σ2 w2 s2 hw (offZ_tr z1 (by omega) z2) ?_
    have e2 : (fun r x => cop1 r (unC (kT T n p)) (f r x)) = (fun r c => mop1 r (unM (kT T n p)) (f r c)) := by
      funext r x
      exact u2 _ _
    rw [e2]
    exact g2
theorem r_unB {kind pl : Int} (tp : TP T n) (ll : l = 0 ∨ l = 1) (ho : 0 ≤ o ∧ o < 8) (hk : kT T n p = 45 ∨ kT T n p = 113 ∨ kT T n p = 114) (h : RB1 T n t b l (nxT T n p) (o + 1) kind pl) : RB1 T n t b l p o kind pl := by
  intro d Q σ w U P0 s hU h7 hl hc k
  obtain ⟨u1, u2, u3⟩ := un_eq hk
  refine jh_open tp ll s hU h7 hl (by omega) (u3 _) (fun z => absurd z (by omega)) (fun _ σ1 s1 z1 => ?_)
  have el : ((unM (kT T n p) :: (U ++ P0)).length : Int) = ((U ++ P0).length : Int) + 1 := by simp
  refine h d Q σ1 w (unM (kT T n p) :: U) P0 s1 (fun x hx => ?_) h7 (show ((unM (kT T n p) :: (U ++ P0)).length : Int) ≤ 7 * (o + 1) + 6 by omega) (fun _ => akA_no (by omega) (by rw [rk_U u1]; omega)) (fun σ2 z2 e2 => k σ2 (offZ_tr z1 (by omega) z2) e2)
  rcases List.mem_cons.mp hx with e | e
  · rw [e]; exact u1
  · exact hU x e
/-- the sum in what is open (a parenthesis, the two parts of a choice): a fault behind it -/
theorem jh_foul {d : Nat} {Q : Int → jM → Prop} {σ : jM} {q w m o2 : Int} {E R : List Int} (tp : TP T n) (s : RS T n b l σ q w (E ++ m :: R) o2 1) (hE : ∀ x ∈ E, 5 ≤ rkA x) (hl : (E ++ m :: R).length ≤ 100) (hN : N3 (kT T n q)) (hm : (m = 40 ∧ kT T n q ≠ 41) ∨ (m = 42 ∧ kT T n q ≠ 117) ∨ (m = 43 ∧ kT T n q ≠ 118)) (k : Q 1 σ) : SJ d t Q σ := by
  have em : opA (E ++ m :: R) = m := opA_app (by omega) E (fun x hx => by have := hE x hx; omega)
  have hN1 := hN
  unfold N3 at hN1
  refine jh_fault tp s hl ?_ ?_ (by omega) k
  · unfold btwA
    rw [if_neg (by omega), if_neg (by omega), if_neg (by omega), if_neg (by omega), if_pos (by omega)]
    decide
  · unfold prtA
    rw [em]
    rcases hm with ⟨e1, e2⟩ | ⟨e1, e2⟩ | ⟨e1, e2⟩
    · rw [if_pos e1, if_neg e2]; decide
    · rw [if_neg (by omega), if_neg (by omega), if_pos e1, if_neg e2]; decide
    · rw [if_neg (by omega), if_neg (by omega), if_neg (by omega), if_pos e1, if_neg e2]; decide
theorem r_parB {kind pl : Int} (tp : TP T n) (ll : l = 0 ∨ l = 1) (ho : 0 ≤ o ∧ o < 8) (hk : kT T n p = 40) (h : RBm T n t b l false 5 4 (nxT T n p) (o + 1) kind pl) : RB1 T n t b l p o kind pl := by
  intro d Q σ w U P0 s hU h7 hl hc k
  refine jh_open tp ll s hU h7 hl (by omega) (Or.inl ⟨hk, rfl⟩) (fun z => absurd z (by omega)) (fun _ σ1 s1 z1 => ?_)
  have el : ((40 :: (U ++ P0)).length : Int) = ((U ++ P0).length : Int) + 1 := by simp
  exact h d Q σ1 w (40 :: (U ++ P0)) s1 (show rkA 40 < 5 by decide) (by omega) (fun _ => akA_op (by omega) (by omega)) (fun σ2 z2 e2 => k σ2 (offZ_tr z1 (by omega) z2) e2)
theorem r_par {q : Int} {f : DT} (tp : TP T n) (ll : l = 0 ∨ l = 1) (ho : 0 ≤ o ∧ o < 8) (hk : kT T n p = 40) (h : RGm T n t b l false 5 5 4 (nxT T n p) q (o + 1) f) (hN : N3 (kT T n q)) : (kT T n q = 41 → RG1 T n t b l p (nxT T n q) o f) ∧ (kT T n q ≠ 41 → RB1 T n t b l p o 1 (plT T n q)) := by
  constructor
  · intro hq d Q σ w U P0 s hU h7 hl hc k
    have w0 := s.2.2.2.2.2.2.2.2.2.1
    refine jh_open tp ll s hU h7 hl (by omega) (Or.inl ⟨hk, rfl⟩) (fun z => absurd z (by omega)) (fun _ σ1 s1 z1 => ?_)
    have el : ((40 :: (U ++ P0)).length : Int) = ((U ++ P0).length : Int) + 1 := by simp
    refine h d Q σ1 w (40 :: (U ++ P0)) s1 (show rkA 40 < 5 by decide) (by omega) (fun _ => akA_op (by omega) (by omega)) (fun σ2 w2 E s2 hE hn hw _ z2 pm => ?_)
    have hn1 := hn.1
    have hn2 := hn.2
    refine jh_behind s2.2.2.2.2.2.2.2.2.1 (m_bh_shut (m := 40) tp s2 (by omega) (fun x hx => by have := hE x hx; omega) hU h7 (Or.inl ⟨rfl, hq⟩) (fun _ σ3 s3 z3 g3 => ⟨rfl, ?_⟩) (fun z => absurd z (by decide)))
    rw [show o + 1 + opC E - opC E - 1 - (U.length : Int) = o - (U.length : Int) by omega] at s3
    exact k σ3 _ s3 (by omega) (offZ_tr (offZ_tr z1 (by omega) z2) (by omega) z3) (g3 w f w0 hw pm)
  · intro hq d Q σ w U P0 s hU h7 hl hc k
    refine jh_open tp ll s hU h7 hl (by omega) (Or.inl ⟨hk, rfl⟩) (fun z => absurd z (by omega)) (fun _ σ1 s1 z1 => ?_)
    have el : ((40 :: (U ++ P0)).length : Int) = ((U ++ P0).length : Int) + 1 := by simp
    refine h d Q σ1 w (40 :: (U ++ P0)) s1 (show rkA 40 < 5 by decide) (by omega) (fun _ => akA_op (by omega) (by omega)) (fun σ2 w2 E s2 hE hn hw _ z2 pm => ?_)
    have hn1 := hn.1
    have hn2 := hn.2
    exact jh_foul tp s2 hE (by omega) hN (Or.inl ⟨rfl, hq⟩) (k σ2 (offZ_tr z1 (by omega) z2) s2.1.2.2.1)
/-- a choice, up to 'then' -/
theorem i_one {d : Nat} {Q : Int → jM → Prop} {σ : jM} {w q1 : Int} {c : DT} {U P0 : List Int} (tp : TP T n) (ll : l = 0 ∨ l = 1) (ho : 0 ≤ o ∧ o < 8) (hk : kT T n p = 115) (h : RGm T n t b l true 1 1 0 (nxT T n p) q1 (o + 1) c) (hN : N6 (kT T n q1)) (s : RS T n b l σ p w (U ++ P0) o 0) (hU : ∀ x ∈ U, x = 2 ∨ x = 4 ∨ x = 5) (h7 : hdR P0 < 7) (hl : ((U ++ P0).length : Int) ≤ 7 * o + 6) (bad : kT T n q1 ≠ 116 → ∀ σ', offZ b w σ σ' → σ' 321 8 = plT T n q1 → Q 1 σ') (go : kT T n q1 = 116 → ∀ σ3 w3, RS T n b l σ3 (nxT T n q1) w3 (42 :: (U ++ P0)) (o + 1) 0 → w < w3 → offZ b w σ σ3 → GX true (mfA σ3 b) (mgA σ3 b) w w3 c → SJ d t Q σ3) : SJ d t Q σ := by
  have w0 := s.2.2.2.2.2.2.2.2.2.1
  refine jh_open tp ll s hU h7 hl (by omega) (Or.inr (Or.inr (Or.inr (Or.inr (Or.inl ⟨hk, rfl⟩))))) (fun z => absurd z (by omega)) (fun _ σ1 s1 z1 => ?_)
  have el : ((41 :: (U ++ P0)).length : Int) = ((U ++ P0).length : Int) + 1 := by simp
  have e41 : opA (41 :: (U ++ P0)) = 41 := by rw [opA, if_pos (by decide)]
  refine h d Q σ1 w (41 :: (U ++ P0)) s1 (show rkA 41 < 1 by decide) (by omega) ⟨e41, akA_yes e41 (Or.inl (by decide))⟩ (fun σ2 w2 E s2 hE hn hw hcE z2 pm => ?_)
  have hn1 := hn.1
  have hn2 := hn.2
  have hN1 := hN
  unfold N6 N5 N3 at hN1
  have e2 : opA (E ++ 41 :: (U ++ P0)) = 41 := opA_app (by decide) E hE
  have ecm : cmA (E ++ 41 :: (U ++ P0)) = true := cmA_E E hcE
  have hb : btwA (E ++ 41 :: (U ++ P0)) (kT T n q1) = -1 := by
    unfold btwA
    rw [if_neg (by omega), if_neg (by omega), if_neg (by omega), if_neg (by omega), if_neg (by omega), if_neg (by rw [ecm]; decide), if_neg (by omega), if_neg (by omega)]
  by_cases hq : kT T n q1 = 116
  · have hp : prtA (E ++ 41 :: (U ++ P0)) 41 (kT T n q1) = 42 := by
      unfold prtA
      rw [if_neg (by decide), if_pos rfl, if_pos ⟨hq, ecm⟩]
    refine jh_behind s2.2.2.2.2.2.2.2.2.1 (m_bh_part tp s2 (by omega) hE (by decide) (by omega) hp (by decide) (fun σ3 s3 z3 g3 => ⟨rfl, ?_⟩))
    rw [show o + 1 + opC E - opC E = o + 1 by omega] at s3
    exact go hq σ3 _ s3 (by omega) (offZ_tr (offZ_tr z1 (by omega) z2) (by omega) z3) (g3 true w c (by omega) pm)
  · refine jh_fault tp s2 (by omega) (by omega) ?_ (by omega) (bad hq σ2 (offZ_tr z1 (by omega) z2) s2.1.2.2.1)
    rw [e2]
    unfold prtA
    rw [if_neg (by decide), if_pos rfl, if_neg (fun y => hq y.1)]
    decide
/-- from 'then' to 'else' -/
theorem i_two {d : Nat} {Q : Int → jM → Prop} {σ : jM} {w q q2 : Int} {f : DT} {R : List Int} (tp : TP T n) (ho : 0 ≤ o ∧ o ≤ 8) (h : RGm T n t b l false 5 5 4 q q2 o f) (hN : N3 (kT T n q2)) (s : RS T n b l σ q w (42 :: R) o 0) (hl : ((42 :: R).length : Int) ≤ 7 * o) (bad : kT T n q2 ≠ 117 → ∀ σ', offZ b w σ σ' → σ' 321 8 = plT T n q2 → Q 1 σ') (go : kT T n q2 = 117 → ∀ σ3 w3, RS T n b l σ3 (nxT T n q2) w3 (43 :: R) o 0 → w < w3 → offZ b w σ σ3 → GX false (mfA σ3 b) (mgA σ3 b) w w3 f → SJ d t Q σ3) : SJ d t Q σ := by
  refine h d Q σ w (42 :: R) s (show rkA 42 < 5 by decide) (by omega) (fun _ => akA_op (by omega) (by omega)) (fun σ2 w2 E s2 hE hn hw hcE z2 pm => ?_)
  have hn1 := hn.1
  have hn2 := hn.2
  have hN1 := hN
  unfold N3 at hN1
  have hE1 : ∀ x ∈ E, 1 ≤ rkA x := fun x hx => by have := hE x hx; omega
  have e2 : opA (E ++ 42 :: R) = 42 := opA_app (by decide) E hE1
  by_cases hq : kT T n q2 = 117
  · have hb : btwA (E ++ 42 :: R) (kT T n q2) = -1 := by
      unfold btwA
      rw [if_neg (by omega), if_neg (by omega), if_neg (by omega), if_neg (by omega), if_pos (by omega)]
    have hp : prtA (E ++ 42 :: R) 42 (kT T n q2) = 43 := by
      unfold prtA
      rw [if_neg (by decide), if_neg (by decide), if_pos rfl, if_pos hq]
    refine jh_behind s2.2.2.2.2.2.2.2.2.1 (m_bh_part tp s2 (by omega) hE1 (by decide) (by omega) hp (by decide) (fun σ3 s3 z3 g3 => ⟨rfl, ?_⟩))
    rw [show o + opC E - opC E = o by omega] at s3
    exact go hq σ3 _ s3 (by omega) (offZ_tr z2 (by omega) z3) (g3 false w f (by omega) pm)
  · exact jh_foul tp s2 hE (by omega) hN (Or.inr (Or.inl ⟨rfl, hq⟩)) (bad hq σ2 z2 s2.1.2.2.1)
/-- from 'else' to 'end' -/
theorem i_three {d : Nat} {Q : Int → jM → Prop} {σ : jM} {w w1 w2 q q3 : Int} {c f g : DT} {U P0 : List Int} (tp : TP T n) (ho : 0 ≤ o ∧ o ≤ 7) (h : RGm T n t b l false 5 5 4 q q3 (o + 1) g) (hN : N3 (kT T n q3)) (s : RS T n b l σ q w2 (43 :: (U ++ P0)) (o + 1) 0) (hU : ∀ x ∈ U, x = 2 ∨ x = 4 ∨ x = 5) (h7 : hdR P0 < 7) (hl : ((43 :: (U ++ P0)).length : Int) ≤ 7 * (o + 1)) (hw : 0 ≤ w ∧ w < w1 ∧ w1 < w2) (gc : GX true (mfA σ b) (mgA σ b) w w1 c) (gf : GX false (mfA σ b) (mgA σ b) w1 w2 f) (bad : kT T n q3 ≠ 118 → ∀ σ', offZ b w2 σ σ' → σ' 321 8 = plT T n q3 → Q 1 σ') (go : kT T n q3 = 118 → ∀ σ3 w3, RS T n b l σ3 (nxT T n q3) w3 P0 (o - (U.length : Int)) 1 → w2 < w3 → offZ b w2 σ σ3 → GX false (mfA σ3 b) (mgA σ3 b) w w3 (apU U (fun r x => if c r x = 0 then g r x else f r x)) → SJ d t Q σ3) : SJ d t Q σ := by
  refine h d Q σ w2 (43 :: (U ++ P0)) s (show rkA 43 < 5 by decide) (by omega) (fun _ => akA_op (by omega) (by omega)) (fun σ2 w3 E s2 hE hn hw3 hcE z2 pm => ?_)
  have hn1 := hn.1
  have hn2 := hn.2
  have hE1 : ∀ x ∈ E, 1 ≤ rkA x := fun x hx => by have := hE x hx; omega
  by_cases hq : kT T n q3 = 118
  · refine jh_behind s2.2.2.2.2.2.2.2.2.1 (m_bh_shut (m := 43) tp s2 (by omega) hE1 hU h7 (Or.inr ⟨rfl, hq⟩) (fun z => absurd z (by decide)) (fun _ σ3 s3 z3 g3 => ⟨rfl, ?_⟩))
    rw [show o + 1 + opC E - opC E - 1 - (U.length : Int) = o - (U.length : Int) by omega] at s3
    refine go hq σ3 _ s3 (by omega) (offZ_tr z2 (by omega) z3) (g3 w w1 w2 c f g hw.1 hw.2.1 hw.2.2 hw3 ?_ ?_ pm)
    · exact GX_ag gc (fun i i0 i1 => offZ_f (a := w) z2 i i0 (by omega)) (fun i i0 i1 => offZ_g (a := w) z2 i i0 (by omega))
    · exact GX_ag gf (fun i i0 i1 => offZ_f (a := w1) z2 i i0 (by omega)) (fun i i0 i1 => offZ_g (a := w1) z2 i i0 (by omega))
  · exact jh_foul tp s2 hE (by omega) hN (Or.inr (Or.inr ⟨rfl, hq⟩)) (bad hq σ2 z2 s2.1.2.2.1)
theorem r_if0B {kind pl : Int} (tp : TP T n) (ll : l = 0 ∨ l = 1) (ho : 0 ≤ o ∧ o < 8) (hk : kT T n p = 115) (h : RBm T n t b l true 1 0 (nxT T n p) (o + 1) kind pl) : RB1 T n t b l p o kind pl := by
  intro d Q σ w U P0 s hU h7 hl hc k
  refine jh_open tp ll s hU h7 hl (by omega) (Or.inr (Or.inr (Or.inr (Or.inr (Or.inl ⟨hk, rfl⟩))))) (fun z => absurd z (by omega)) (fun _ σ1 s1 z1 => ?_)
  have el : ((41 :: (U ++ P0)).length : Int) = ((U ++ P0).length : Int) + 1 := by simp
  have e41 : opA (41 :: (U ++ P0)) = 41 := by rw [opA, if_pos (by decide)]
  exact h d Q σ1 w (41 :: (U ++ P0)) s1 (show rkA 41 < 1 by decide) (by omega) ⟨e41, akA_yes e41 (Or.inl (by decide))⟩ (fun σ2 z2 e2 => k σ2 (offZ_tr z1 (by omega) z2) e2)
theorem r_if1B {q1 : Int} {c : DT} (tp : TP T n) (ll : l = 0 ∨ l = 1) (ho : 0 ≤ o ∧ o < 8) (hk : kT T n p = 115) (h : RGm T n t b l true 1 1 0 (nxT T n p) q1 (o + 1) c) (hN : N6 (kT T n q1)) (hq : kT T n q1 ≠ 116) : RB1 T n t b l p o 1 (plT T n q1) := by
  intro d Q σ w U P0 s hU h7 hl hc k
  exact i_one tp ll ho hk h hN s hU h7 hl (fun _ => k) (fun z => absurd z hq)
theorem r_if2B {q1 kind pl : Int} {c : DT} (tp : TP T n) (ll : l = 0 ∨ l = 1) (ho : 0 ≤ o ∧ o < 8) (hk : kT T n p = 115) (h : RGm T n t b l true 1 1 0 (nxT T n p) q1 (o + 1) c) (hN : N6 (kT T n q1)) (hq : kT T n q1 = 116) (h2 : RBm T n t b l false 5 4 (nxT T n q1) (o + 1) kind pl) : RB1 T n t b l p o kind pl := by
  intro d Q σ w U P0 s hU h7 hl hc k
  refine i_one tp ll ho hk h hN s hU h7 hl (fun z => absurd hq z) (fun _ σ3 w3 s3 hw z3 g3 => ?_)
  have el : ((42 :: (U ++ P0)).length : Int) = ((U ++ P0).length : Int) + 1 := by simp
  exact h2 d Q σ3 w3 (42 :: (U ++ P0)) s3 (show rkA 42 < 5 by decide) (by omega) (fun _ => akA_op (by omega) (by omega)) (fun σ2 z2 e2 => k σ2 (offZ_tr z3 (by omega) z2) e2)
theorem r_if3B {q1 q2 : Int} {c f : DT} (tp : TP T n) (ll : l = 0 ∨ l = 1) (ho : 0 ≤ o ∧ o < 8) (hk : kT T n p = 115) (h : RGm T n t b l true 1 1 0 (nxT T n p) q1 (o + 1) c) (hN : N6 (kT T n q1)) (hq : kT T n q1 = 116) (h2 : RGm T n t b l false 5 5 4 (nxT T n q1) q2 (o + 1) f) (hN2 : N3 (kT T n q2)) (hq2 : kT T n q2 ≠ 117) : RB1 T n t b l p o 1 (plT T n q2) := by
  intro d Q σ w U P0 s hU h7 hl hc k
  refine i_one tp ll ho hk h hN s hU h7 hl (fun z => absurd hq z) (fun _ σ3 w3 s3 hw z3 g3 => ?_)
  have el : ((42 :: (U ++ P0)).length : Int) = ((U ++ P0).length : Int) + 1 := by simp
  exact i_two tp (by omega) h2 hN2 s3 (by omega) (fun _ σ2 z2 e2 => k σ2 (offZ_tr z3 (by omega) z2) e2) (fun z => absurd z hq2)
theorem r_if4B {q1 q2 kind pl : Int} {c f : DT} (tp : TP T n) (ll : l = 0 ∨ l = 1) (ho : 0 ≤ o ∧ o < 8) (hk : kT T n p = 115) (h : RGm T n t b l true 1 1 0 (nxT T n p) q1 (o + 1) c) (hN : N6 (kT T n q1)) (hq : kT T n q1 = 116) (h2 : RGm T n t b l false 5 5 4 (nxT T n q1) q2 (o + 1) f) (hN2 : N3 (kT T n q2)) (hq2 : kT T n q2 = 117) (h3 : RBm T n t b l false 5 4 (nxT T n q2) (o + 1) kind pl) : RB1 T n t b l p o kind pl := by
  intro d Q σ w U P0 s hU h7 hl hc k
  refine i_one tp ll ho hk h hN s hU h7 hl (fun z => absurd hq z) (fun _ σ3 w3 s3 hw z3 g3 => ?_)
  have el : ((42 :: (U ++ P0)).length : Int) = ((U ++ P0).length : Int) + 1 := by simp
  have el2 : ((43 :: (U ++ P0)).length : Int) = ((U ++ P0).length : Int) + 1 := by simp
  refine i_two tp (by omega) h2 hN2 s3 (by omega) (fun z => absurd hq2 z) (fun _ σ4 w4 s4 hw4 z4 g4 => ?_)
  exact h3 d Q σ4 w4 (43 :: (U ++ P0)) s4 (show rkA 43 < 5 by decide) (by omega) (fun _ => akA_op (by omega) (by omega)) (fun σ2 z2 e2 => k σ2 (offZ_tr (offZ_tr z3 (by omega) z4) (by omega) z2) e2)
theorem r_if {q1 q2 q3 : Int} {c f g : DT} (tp : TP T n) (ll : l = 0 ∨ l = 1) (ho : 0 ≤ o ∧ o < 8) (hk : kT T n p = 115) (h : RGm T n t b l true 1 1 0 (nxT T n p) q1 (o + 1) c) (hN : N6 (kT T n q1)) (hq : kT T n q1 = 116) (h2 : RGm T n t b l false 5 5 4 (nxT T n q1) q2 (o + 1) f) (hN2 : N3 (kT T n q2)) (hq2 : kT T n q2 = 117) (h3 : RGm T n t b l false 5 5 4 (nxT T n q2) q3 (o + 1) g) (hN3 : N3 (kT T n q3)) : (kT T n q3 = 118 → RG1 T n t b l p (nxT T n q3) o (fun r x => if c r x = 0 then g r x else f r x)) ∧ (kT T n q3 ≠ 118 → RB1 T n t b l p o 1 (plT T n q3)) := by
  constructor
  · intro hq3 d Q σ w U P0 s hU h7 hl hc k
    have w0 := s.2.2.2.2.2.2.2.2.2.1
    refine i_one tp ll ho hk h hN s hU h7 hl (fun z => absurd hq z) (fun _ σ3 w3 s3 hw z3 g3 => ?_)
    have el : ((42 :: (U ++ P0)).length : Int) = ((U ++ P0).length : Int) + 1 := by simp
    have el2 : ((43 :: (U ++ P0)).length : Int) = ((U ++ P0).length : Int) + 1 := by simp
    refine i_two tp (by omega) h2 hN2 s3 (by omega) (fun z => absurd hq2 z) (fun _ σ4 w4 s4 hw4 z4 g4 => ?_)
    refine i_three tp (by omega) h3 hN3 s4 hU h7 (by omega) ⟨w0, hw, hw4⟩ (GX_ag g3 (fun i i0 i1 => offZ_f (a := w) z4 i i0 (by omega)) (fun i i0 i1 => offZ_g (a := w) z4 i i0 (by omega))) g4 (fun z => absurd hq3 z) (fun _ σ5 w5 s5 hw5 z5 g5 => ?_)
    exact k σ5 w5 s5 (by omega) (offZ_tr (offZ_tr z3 (by omega) z4) (by omega) z5) g5
  · intro hq3 d Q σ w U P0 s hU h7 hl hc k
    have w0 := s.2.2.2.2.2.2.2.2.2.1
    refine i_one tp ll ho hk h hN s hU h7 hl (fun z => absurd hq z) (fun _ σ3 w3 s3 hw z3 g3 => ?_)
    have el : ((42 :: (U ++ P0)).length : Int) = ((U ++ P0).length : Int) + 1 := by simp
    have el2 : ((43 :: (U ++ P0)).length : Int) = ((U ++ P0).length : Int) + 1 := by simp
    refine i_two tp (by omega) h2 hN2 s3 (by omega) (fun z => absurd hq2 z) (fun _ σ4 w4 s4 hw4 z4 g4 => ?_)
    exact i_three tp (by omega) h3 hN3 s4 hU h7 (by omega) ⟨w0, hw, hw4⟩ (GX_ag g3 (fun i i0 i1 => offZ_f (a := w) z4 i i0 (by omega)) (fun i i0 i1 => offZ_g (a := w) z4 i i0 (by omega))) g4 (fun _ σ5 z5 e5 => k σ5 (offZ_tr (offZ_tr z3 (by omega) z4) (by omega) z5) e5) (fun z => absurd z hq3)
end RF
