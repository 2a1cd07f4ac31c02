/-! ===== the reference's search ===== -/
def cntO (P : Int → Bool) (c : Nat) (v : Int) : Int := sumO (fun x => if P x = true then 1 else 0) c v
def ShortP (P : Int → Bool) (a v left : Int) : Prop := (∃ x, a < x ∧ x < v ∧ P x = true) ∨ left < cntO P (40 - v).toNat (v + 1)
/-- what is sought by the reference: n alone, or all orders -/
def PH (σ : jM) (P : Int → Bool) (n p4 : Int) : Prop := (∀ x, P x = true → 1 ≤ x ∧ x ≤ n) ∧ ((p4 = 0 ∧ P = Pn n) ∨ (p4 = 1 ∧ n ≤ 40 ∧ ∃ c : Nat, c ≤ 4 ∧ σ 322 3 = (c : Int) ∧ (∀ i, 0 ≤ i → i < (c : Int) → (1 ≤ σ 322 (26 + i) ∧ σ 322 (26 + i) ≤ 40)) ∧ P = Po (fun i => σ 322 (26 + i)) c))
theorem PH_same {σ σ' : jM} {P : Int → Bool} {n p4 : Int} (h : PH σ P n p4) (e : σ' 322 = σ 322) : PH σ' P n p4 := by
  unfold PH at h ⊢
  rw [e]
  exact h
def CdN (f : Int → Int) (n : Int) (P : Int → Bool) (p4 : Int) (k l : Nat) (v : Int) : Prop := (v = n ↔ l = 0) ∧ n ≤ v * pw2 l ∧ SumP f ((k : Int) + 1) v ∧ (p4 = 0 ∨ ¬ ShortP P (f k) v l)
theorem cnt_room {P : Int → Bool} {n : Int} {g : Int → Int} (hP : ∀ x, P x = true → 1 ≤ x ∧ x ≤ n) (hn : n ≤ 40) : ∀ (l : Nat) (k : Int), 0 ≤ k → Pre g (k + l) → OkP P n g (k + l) → cntO P (40 - g k).toNat (g k + 1) ≤ l
  | 0, k, k0, p, ok => by
    have e : g k = n := by rw [← ok.1]; congr 1; omega
    unfold cntO
    rw [sumO_zero]
    · omega
    · intro x x0 x1
      rw [if_neg (fun q => by have := hP x q; omega)]
  | l + 1, k, k0, p, ok => by
    have ih := cnt_room (P := P) hP hn l (k + 1) (by omega) (by rw [show k + 1 + (l : Int) = k + ((l + 1 : Nat) : Int) by omega]; exact p) (by rw [show k + 1 + (l : Int) = k + ((l + 1 : Nat) : Int) by omega]; exact ok)
    have lt := (p.2 (k + 1) (by omega) (by omega)).1
    rw [show k + 1 - 1 = k by omega] at lt
    have le : g (k + 1) ≤ n := by
      have := Pre_leq p (i := k + 1) (j := k + ((l + 1 : Nat) : Int)) (by omega) (by omega) (by omega)
      rw [ok.1] at this
      exact this
    have g0 := Pre_pos p k0 (show k ≤ k + ((l + 1 : Nat) : Int) by omega)
    unfold cntO at ih ⊢
    rw [show (40 - g k).toNat = (g (k + 1) - g k - 1).toNat + ((40 - g (k + 1)).toNat + 1) by omega, sumO_skip _ _ _ (fun x x0 x1 => ?_), show g k + 1 + (((g (k + 1) - g k - 1).toNat : Nat) : Int) = g (k + 1) by omega, sumO]
    · split <;> omega
    · rw [if_neg (fun q => ?_)]
      obtain ⟨j, j0, j1, e⟩ := ok.2 x (by omega) (hP x q).2 q
      rcases Int.lt_or_le k j with w | w
      · have := Pre_leq p (i := k + 1) (j := j) (by omega) (by omega) j1
        omega
      · have := Pre_leq p j0 w (by omega)
        omega
/-- what the reference passes over no chain goes on from -/
theorem Cd_dead {f g : Int → Int} {P : Int → Bool} {n p4 v : Int} {σ : jM} {k l : Nat} (hP : PH σ P n p4) (hv : v ≤ n) (hs : SumP f ((k : Int) + 1) v) (hc : ¬ CdN f n P p4 k l v) (p : Pre g (k + 1 + l : Nat)) (ok : OkP P n g (k + 1 + l : Nat)) (ag : agK (wr f ((k : Int) + 1) v) g ((k + 1 : Nat) : Int)) : False := by
  have gv : g ((k : Int) + 1) = v := by rw [← ag ((k : Int) + 1) (by omega) (by omega), wr_at]
  have gk : g k = f k := by rw [← ag k (by omega) (by omega), wr_ne (by omega)]
  apply hc
  refine ⟨⟨fun e => ?_, fun e => ?_⟩, ?_, hs, ?_⟩
  · rcases Nat.eq_zero_or_pos l with q | q
    · exact q
    · have := Pre_lt p (i := (k : Int) + 1) (j := ((k + 1 + l : Nat) : Int)) (by omega) (by omega) (by omega)
      rw [ok.1, gv] at this
      omega
  · subst e
    have := ok.1
    rw [show ((k + 1 + 0 : Nat) : Int) = (k : Int) + 1 by omega, gv] at this
    exact this
  · have := Pre_grow p l ((k : Int) + 1) (by omega) (by omega)
    rw [show (k : Int) + 1 + (l : Int) = ((k + 1 + l : Nat) : Int) by omega, ok.1, gv] at this
    exact this
  · rcases hP.2 with ⟨h0, _⟩ | ⟨h1, hn, _⟩
    · exact Or.inl h0
    · right
      rintro (⟨x, x0, x1, px⟩ | q)
      · have hx := hP.1 x px
        obtain ⟨j, j0, j1, e⟩ := ok.2 x (by omega) hx.2 px
        rcases Int.lt_or_le k j with w | w
        · have := Pre_leq p (i := (k : Int) + 1) (j := j) (by omega) (by omega) j1
          omega
        · have := Pre_leq p j0 w (by omega)
          omega
      · have := cnt_room (P := P) (n := n) (g := g) hP.1 hn l ((k : Int) + 1) (by omega) (by rw [show (k : Int) + 1 + (l : Int) = ((k + 1 + l : Nat) : Int) by omega]; exact p) (by rw [show (k : Int) + 1 + (l : Int) = ((k + 1 + l : Nat) : Int) by omega]; exact ok)
        rw [gv] at this
        omega
def InvO (P : Int → Bool) (f : Int → Int) (k : Int) : Prop := ∀ x, P x = true → x ≤ f k → ∃ j, 0 ≤ j ∧ j ≤ k ∧ f j = x
theorem InvO_wr {P : Int → Bool} {f : Int → Int} {n p4 v : Int} {σ : jM} {k l : Nat} (hP : PH σ P n p4) (hi : InvO P f k) (hc : CdN f n P p4 k l v) (hv : f k < v ∧ v ≤ n) : InvO P (wr f ((k : Int) + 1) v) ((k + 1 : Nat) : Int) := by
  intro x px hx
  rw [wr_eq (by omega)] at hx
  by_cases e : x = v
  · exact ⟨(k : Int) + 1, by omega, by omega, by rw [wr_at, e]⟩
  · rcases Int.lt_or_le (f k) x with w | w
    · rcases hP.2 with ⟨_, h⟩ | ⟨h1, _⟩
      · rw [h] at px
        have := of_decide_eq_true px
        omega
      · rcases hc.2.2.2 with q | q
        · omega
        · exact absurd (Or.inl ⟨x, w, by omega, px⟩) q
    · obtain ⟨j, j0, j1, ej⟩ := hi x px w
      exact ⟨j, j0, by omega, by rw [wr_ne (by omega)]; exact ej⟩
theorem shl_v : ∀ (v : Fin 128) (s : Fin 24), i_shl (v.val : Int) (s.val : Int) = (v.val : Int) * pw2 s.val := by decide +kernel
section MS
variable {t : Int}
theorem m_isOrder {d : Nat} {Q : Int → jM → Prop} {σ : jM} {x : Int} {c : Nat} (hx : inR x) (hc : c ≤ 4) (h3 : σ 322 3 = (c : Int)) (ho : ∀ i, 0 ≤ i → i < (c : Int) → (1 ≤ σ 322 (26 + i) ∧ σ 322 (26 + i) ≤ 40)) (k1 : Po (fun i => σ 322 (26 + i)) c x = true → Q 1 σ) (k0 : ¬ Po (fun i => σ 322 (26 + i)) c x = true → Q 0 σ) : Ct mX12_isOrder d 0 t [rv 321, iv x] σ Q := by
  refine c_X12_isOrder ?_
  have loop : ∀ (j : Nat) (i : Int), 0 ≤ i → i + j = (c : Int) → (∀ q, 0 ≤ q → q < i → σ 322 (26 + q) ≠ x) → Jt mX12_isOrder d 0 t Q 2 [rv 321, iv x, iv i] [] σ := by
    intro j
    induction j with
    | zero =>
      intro i i0 hi no
      refine b_X12_isOrder_2 ⟨by omega, rng (by omega) (by omega), ?_⟩
      rw [h3]
      refine ⟨rng (by omega) (by omega), fun _ => k0 (fun q => ?_), fun z => absurd z (by omega)⟩
      obtain ⟨w, w0, w1, e⟩ := Po_iff.mp q
      exact no w w0 (by omega) e
    | succ j ih =>
      intro i i0 hi no
      have oi := ho i i0 (by omega)
      refine b_X12_isOrder_2 ⟨by omega, rng (by omega) (by omega), ?_⟩
      rw [h3]
      refine ⟨rng (by omega) (by omega), fun z => absurd z (by omega), fun _ => ⟨by omega, rng (by omega) (by omega), hx, fun z => ?_, fun z => k1 (Po_iff.mpr ⟨i, i0, by omega, z⟩)⟩⟩
      refine ih (i + 1) (by omega) (by omega) (fun q q0 q1 => ?_)
      by_cases e : q = i
      · rw [e]; exact z
      · exact no q q0 (by omega)
  exact loop c 0 (by omega) (by omega) (fun q q0 q1 => absurd q1 (by omega))
theorem m_isShort {d : Nat} {Q : Int → jM → Prop} {σ : jM} {P : Int → Bool} {a v left : Int} {c : Nat} (ha : 0 ≤ a ∧ a ≤ 1000) (hv : 0 ≤ v ∧ v ≤ 40) (hl : inR left) (hc : c ≤ 4) (h3 : σ 322 3 = (c : Int)) (ho : ∀ i, 0 ≤ i → i < (c : Int) → (1 ≤ σ 322 (26 + i) ∧ σ 322 (26 + i) ≤ 40)) (eP : P = Po (fun i => σ 322 (26 + i)) c) (k1 : ShortP P a v left → Q 1 σ) (k0 : ¬ ShortP P a v left → Q 0 σ) : Ct mX12_isShort (d + 1) 0 t [rv 321, iv a, iv v, iv left] σ Q := by
  refine c_X12_isShort ?_
  have cb : ∀ (cc : Nat) (x : Int), 0 ≤ cntO P cc x ∧ cntO P cc x ≤ cc * 1 := fun cc x => sumO_bd (fun y => by split <;> omega) (by decide) cc x
  have total := cb (40 - v).toNat (v + 1)
  -- what stands between
  have second : ∀ (j : Nat) (i : Int), a + 1 ≤ i → i + j = max (a + 1) v → (∀ x, a < x → x < i → ¬ P x = true) → Jt mX12_isShort (d + 1) 0 t Q 45 [rv 321, iv a, iv v, iv left, iv (cntO P (40 - v).toNat (v + 1)), iv i] [] σ := by
    intro j
    induction j with
    | zero =>
      intro i i0 hi no
      refine b_X12_isShort_45 ⟨rng (by omega) (by omega), rng (by omega) (by omega), fun _ => ⟨rng (by omega) (by omega), hl, fun z => k0 (fun q => ?_), fun z => k1 (Or.inr z)⟩, fun z => absurd z (by omega)⟩
      rcases q with ⟨x, x0, x1, px⟩ | q
      · exact no x x0 (by omega) px
      · omega
    | succ j ih =>
      intro i i0 hi no
      refine b_X12_isShort_45 ⟨rng (by omega) (by omega), rng (by omega) (by omega), fun z => absurd z (by omega), fun _ => ?_⟩
      refine m_isOrder (rng (by omega) (by omega)) hc h3 ho (fun q => ⟨⟨by decide, by decide⟩, fun z => absurd z (by decide), fun _ => k1 (Or.inl ⟨i, by omega, by omega, by rw [eP]; exact q⟩)⟩) (fun q => ⟨in0, fun _ => ih (i + 1) (by omega) (by omega) (fun x x0 x1 => ?_), fun z => absurd rfl z⟩)
      by_cases e : x = i
      · rw [e, eP]; exact q
      · exact no x x0 (by omega)
  have first : ∀ (j : Nat) (i acc : Int), v + 1 ≤ i → i + j = 41 → acc + cntO P j i = cntO P (40 - v).toNat (v + 1) → Jt mX12_isShort (d + 1) 0 t Q 8 [rv 321, iv a, iv v, iv left, iv acc, iv i] [] σ := by
    intro j
    induction j with
    | zero =>
      intro i acc i0 hi h
      have h' : acc = cntO P (40 - v).toNat (v + 1) := by
        rw [← h]
        show acc = acc + 0
        omega
      rw [h']
      exact b_X12_isShort_8 ⟨rng (by omega) (by omega), fun _ => second (max (a + 1) v - (a + 1)).toNat (a + 1) (by omega) (by omega) (fun x x0 x1 => absurd x1 (by omega)), fun z => absurd z (by omega)⟩
    | succ j ih =>
      intro i acc i0 hi h
      unfold cntO at h
      rw [sumO] at h
      refine b_X12_isShort_8 ⟨rng (by omega) (by omega), fun z => absurd z (by omega), fun _ => ?_⟩
      refine m_isOrder (rng (by omega) (by omega)) hc h3 ho (fun q => ⟨⟨by decide, by decide⟩, fun z => absurd z (by decide), fun _ => ih (i + 1) (acc + 1) (by omega) (by omega) ?_⟩) (fun q => ⟨in0, fun _ => ih (i + 1) (acc + 0) (by omega) (by omega) ?_, fun z => absurd rfl z⟩)
      · rw [← eP] at q
        rw [if_pos q] at h
        unfold cntO
        omega
      · rw [← eP] at q
        rw [if_neg q] at h
        unfold cntO
        omega
  exact first (40 - v).toNat (v + 1) 0 (by omega) (by omega) (by omega)
/-- the next number that the reference tries -/
theorem m_nextNumber {d : Nat} {Q : Int → jM → Prop} {σ : jM} {P : Int → Bool} {f : Int → Int} {n p4 w : Int} {k l J : Nat} (hn : 1 ≤ n ∧ n ≤ 120) (hJ : J < 24) (hk : k + 1 + l = J) (hP : PH σ P n p4) (p : Pre f k) (hf : ∀ i, 0 ≤ i → i ≤ (k : Int) → σ 331 i = f i) (fn : f k ≤ n) (hw : σ 331 ((k : Int) + 1) = w) (w0 : f k ≤ w) (wn : w ≤ n) (kk : ∀ r, ((w < r ∧ r ≤ n ∧ CdN f n P p4 k l r ∧ ∀ x, w < x → x < r → ¬ CdN f n P p4 k l x) ∨ (r = n + 1 ∧ ∀ x, w < x → x ≤ n → ¬ CdN f n P p4 k l x)) → Q r σ) : Ct mX12_nextNumber (d + 2 + 1) 0 t [rv 321, iv n, iv (J : Int), iv ((k : Int) + 1), iv p4] σ Q := by
  have fpos : ∀ i, 0 ≤ i → i ≤ (k : Int) → (1 ≤ f i ∧ f i ≤ 120) := fun i a b => by
    have x := Pre_pos p a b
    have y := Pre_leq p a b (by omega)
    omega
  have fk := fpos k (by omega) (by omega)
  have p4R : inR p4 := by rcases hP.2 with ⟨h, _⟩ | ⟨h, _⟩ <;> rw [h] <;> exact ⟨by decide, by decide⟩
  refine c_X12_nextNumber ⟨by omega, ?_⟩
  rw [hw]
  have loop : ∀ (N : Nat) (v : Int), w < v → v + N = n + 1 → (∀ x, w < x → x < v → ¬ CdN f n P p4 k l x) → Jt mX12_nextNumber (d + 2 + 1) 0 t Q 10 [rv 321, iv n, iv (J : Int), iv ((k : Int) + 1), iv p4, iv v] [] σ := by
    intro N
    induction N with
    | zero =>
      intro v v0 vn no
      exact b_X12_nextNumber_10 ⟨rng (by omega) (by omega), rng (by omega) (by omega), fun _ => kk (n + 1) (Or.inr ⟨rfl, fun x x0 x1 => no x x0 (by omega)⟩), fun z => absurd z (by omega)⟩
    | succ N ih =>
      intro v v0 vn no
      have vR : inR v := rng (by omega) (by omega)
      have nR : inR n := rng (by omega) (by omega)
      -- v is passed over
      have pass : ¬ CdN f n P p4 k l v → Jt mX12_nextNumber (d + 2 + 1) 0 t Q 106 [rv 321, iv n, iv (J : Int), iv ((k : Int) + 1), iv p4, iv v] [] σ := fun hc => by
        refine b_X12_nextNumber_106 (ih (v + 1) (by omega) (by omega) (fun x x0 x1 => ?_))
        by_cases e : x = v
        · rw [e]; exact hc
        · exact no x x0 (by omega)
      have take : CdN f n P p4 k l v → Jt mX12_nextNumber (d + 2 + 1) 0 t Q 103 [rv 321, iv n, iv (J : Int), iv ((k : Int) + 1), iv p4, iv v] [] σ := fun hc => b_X12_nextNumber_103 (kk v (Or.inl ⟨v0, by omega, hc, no⟩))
      have mid : ∀ u0 u1, inR u0 → inR u1 → (u1 = u0 ↔ (v = n ↔ l = 0)) → v ≤ 2 * f k → Jt mX12_nextNumber (d + 2 + 1) 0 t Q 52 [rv 321, iv n, iv (J : Int), iv ((k : Int) + 1), iv p4, iv v] [iv u0, iv u1] σ := by
        intro u0 u1 h0 h1 hu hv2
        have sh : i_shl v ((J : Int) - ((k : Int) + 1)) = v * pw2 l := by
          have := shl_v ⟨v.toNat, by omega⟩ ⟨l, by omega⟩
          simp only at this
          rw [show ((v.toNat : Nat) : Int) = v by omega] at this
          rw [show (J : Int) - ((k : Int) + 1) = (l : Int) by omega]
          exact this
        have shR : inR (v * pw2 l) := by
          have a := pw2_le ⟨l, by omega⟩
          have b := pw2_pos l
          simp only at a
          have c1 : v * pw2 l ≤ v * 8388608 := Int.mul_le_mul_of_nonneg_left a (by omega)
          have c2 : 0 ≤ v * pw2 l := Int.mul_nonneg (by omega) (by omega)
          exact rng (by omega) (by omega)
        refine b_X12_nextNumber_52 ⟨h1, h0, fun z => pass (fun hc => z (hu.mpr hc.1)), fun z => ?_⟩
        rw [sh]
        refine ⟨shR, nR, fun y => pass (fun hc => by have := hc.2.1; omega), fun y => ?_⟩
        have sag : SumP (σ 331) ((k : Int) + 1) v ↔ SumP f ((k : Int) + 1) v := SumP_agr (fun i a b => hf i a (by omega))
        refine m_isSum vR (by omega) (fun i a b => by rw [hf i a (by omega)]; have := fpos i a (by omega); omega) (fun s => ⟨⟨by decide, by decide⟩, fun _ => ⟨p4R, fun h4 => take ⟨hu.mp z, y, sag.mp s, Or.inl h4⟩, fun h4 => ⟨by omega, ?_⟩⟩, fun q => absurd q (by decide)⟩) (fun s => ⟨in0, fun q => absurd rfl q, fun _ => pass (fun hc => s (sag.mpr hc.2.2.1))⟩)
        rcases hP.2 with ⟨h, _⟩ | ⟨h, hn40, c, hc4, h3, ho, eP⟩
        · exact absurd h h4
        · rw [show (k : Int) + 1 - 1 = k by omega, hf k (by omega) (by omega), show (J : Int) - ((k : Int) + 1) = (l : Int) by omega]
          refine m_isShort (d := d + 1) (P := P) (by omega) (by omega) (rng (by omega) (by omega)) hc4 h3 ho eP (fun q => ⟨⟨by decide, by decide⟩, fun _ => pass (fun hc => hc.2.2.2.elim h4 (fun z => z q)), fun q => absurd q (by decide)⟩) (fun q => ⟨in0, fun q => absurd rfl q, fun _ => take ⟨hu.mp z, y, sag.mp s, Or.inr q⟩⟩)
      refine b_X12_nextNumber_10 ⟨vR, nR, fun z => absurd z (by omega), fun _ => ⟨by omega, vR, ?_⟩⟩
      rw [show (k : Int) + 1 - 1 = k by omega, hf k (by omega) (by omega)]
      refine ⟨rng (by omega) (by omega), fun z => kk (n + 1) (Or.inr ⟨rfl, fun x x0 x1 hc => ?_⟩), fun z => ⟨vR, nR, fun y => ⟨rng (by omega) (by omega), rng (by omega) (by omega), fun u => mid 0 0 in0 in0 ?_ z, fun u => mid 1 0 ⟨by decide, by decide⟩ in0 ?_ z⟩, fun y => ⟨rng (by omega) (by omega), rng (by omega) (by omega), fun u => mid 0 1 in0 ⟨by decide, by decide⟩ ?_ z, fun u => mid 1 1 ⟨by decide, by decide⟩ ⟨by decide, by decide⟩ ?_ z⟩⟩⟩
      · rcases Int.lt_or_le x v with q | q
        · exact no x x0 q hc
        · obtain ⟨a, b, b0, ba, ak, e⟩ := hc.2.2.1
          have := Pre_leq p (i := a) (j := (k : Int)) (by omega) (by omega) (by omega)
          have := Pre_leq p (i := b) (j := (k : Int)) (by omega) (by omega) (by omega)
          omega
      · exact ⟨fun _ => ⟨fun q => absurd q y, fun q => absurd q (by omega)⟩, fun _ => rfl⟩
      · exact ⟨fun q => absurd q (by decide), fun q => absurd (q.mpr (by omega)) y⟩
      · exact ⟨fun q => absurd q (by decide), fun q => absurd (q.mp y) (by omega)⟩
      · exact ⟨fun _ => ⟨fun _ => by omega, fun _ => y⟩, fun _ => rfl⟩
  exact loop (n - w).toNat (w + 1) (by omega) (by omega) (fun x x0 x1 => absurd x1 (by omega))
/-- the first chain that the reference finds -/
theorem m_srch {d : Nat} {Q : Int → jM → Prop} {σ0 : jM} {P : Int → Bool} {n p4 : Int} {J : Nat} (hn : 1 ≤ n ∧ n ≤ 120) (hJ : J < 24) (hP : PH σ0 P n p4) : ∀ (l : Nat) {k : Nat} {f : Int → Int}, k + 1 + l = J → Pre f k → f k ≤ n → InvO P f k → ∀ (N : Nat) (w : Int) (σ : jM), n - w ≤ N → f k ≤ w → w ≤ n → (∀ i, 0 ≤ i → i ≤ (k : Int) → σ 331 i = f i) → σ 331 ((k : Int) + 1) = w → (∀ x, x ≠ 331 → σ x = σ0 x) → (∀ g σ', lowO (fun v => if sumB f (k + 1) v then DD P n l (wr f ((k : Int) + 1) v) (k + 1) else none) (n - w).toNat (w + 1) = some g → (∀ i, 0 ≤ i → i ≤ (J : Int) → σ' 331 i = g i) → (∀ x, x ≠ 331 → σ' x = σ0 x) → Q 1 σ') → (∀ σ', lowO (fun v => if sumB f (k + 1) v then DD P n l (wr f ((k : Int) + 1) v) (k + 1) else none) (n - w).toNat (w + 1) = none → (∀ i, 0 ≤ i → i ≤ (k : Int) → σ' 331 i = f i) → (∀ x, x ≠ 331 → σ' x = σ0 x) → Jt mX12_searched (d + 3 + 1) 1 t Q 35 [rv 321, iv n, iv (J : Int), iv 0, iv p4, jv 0, uv, iv (k : Int), uv] [] σ') → Jt mX12_searched (d + 3 + 1) 1 t Q 35 [rv 321, iv n, iv (J : Int), iv 0, iv p4, jv 0, uv, iv ((k : Int) + 1), uv] [] σ := by
  intro l
  induction l with
  | zero =>
    intro k f hkl p fn hi N
    have fk1 := Pre_pos p (i := (k : Int)) (by omega) (by omega)
    intro w σ _ w0 wn hf hw of ks kf
    obtain ⟨pv, hpv⟩ : ∃ pv : Int → Option (Int → Int), pv = fun v => if sumB f (k + 1) v then DD P n 0 (wr f ((k : Int) + 1) v) (k + 1) else none := ⟨_, rfl⟩
    rw [← hpv] at ks kf
    have hP' : PH σ P n p4 := PH_same hP (of 322 (by decide))
    have dead : ∀ x, f k < x → x ≤ n → ¬ CdN f n P p4 k 0 x → pv x = none := fun x x0 x1 hc => by
      rw [hpv]
      by_cases hs : sumB f (k + 1) x = true
      · simp only [hs, if_true]
        exact DD_not (by omega) (Pre_wr (by omega) p x0 (sumB_iff.mp hs)) (fun g a b c => Cd_dead hP' x1 (sumB_iff.mp hs) hc a b c)
      · simp only [hs]
        rfl
    refine b_X12_searched_35 ⟨rng (by omega) (by omega), fun z => absurd z (by omega), fun _ => ?_⟩
    refine m_nextNumber (d := d) (P := P) (f := f) (k := k) (l := 0) hn hJ hkl hP' p hf (by omega) hw w0 wn (fun r hr => ⟨by omega, fun σ4 e4 => ?_⟩)
    have of4 : ∀ x, x ≠ 331 → σ4 x = σ0 x := fun x hx => by rw [e4, up_row hx]; exact of x hx
    rcases hr with ⟨r0, r1, hc, no⟩ | ⟨r1, no⟩
    · refine ⟨rng (by omega) (by omega), rng (by omega) (by omega), fun _ => ⟨rng (by omega) (by omega), rng (by omega) (by omega), fun _ => ⟨in0, fun q => absurd rfl q, fun _ => ?_⟩, fun z => absurd z (by omega)⟩, fun z => absurd z (by omega)⟩
      have rn : r = n := hc.1.mpr rfl
      have hs : sumB f (k + 1) r = true := sumB_iff.mpr hc.2.2.1
      have io := InvO_wr hP' hi hc ⟨by omega, r1⟩
      have ok : okB P n (wr f ((k : Int) + 1) r) (k + 1) = true := (okB_iff (by omega)).mpr ⟨by rw [wr_eq (by omega)]; exact rn, fun x x0 x1 px => by
        obtain ⟨j, j0, j1, e⟩ := io x px (by rw [wr_eq (by omega)]; omega)
        exact ⟨j, j0, j1, e⟩⟩
      refine ks (wr f ((k : Int) + 1) r) σ4 ?_ (fun i i0 i1 => ?_) of4
      · rw [show (n - w).toNat = (r - (w + 1)).toNat + ((n - r).toNat + 1) by omega, lowO_skip _ _ _ (fun x x0 x1 => dead x (by omega) (by omega) (no x (by omega) (by omega))), show w + 1 + (((r - (w + 1)).toNat : Nat) : Int) = r by omega, lowO]
        have : pv r = some (wr f ((k : Int) + 1) r) := by
          rw [hpv]
          simp only [hs, if_true]
          rw [DD, if_pos ok]
        rw [this]
      · by_cases e : i = (k : Int) + 1
        · rw [e4, up_eq rfl e, wr_eq e]
        · rw [e4, up_ne (Or.inr e), wr_ne e]; exact hf i i0 (by omega)
    · refine ⟨rng (by omega) (by omega), rng (by omega) (by omega), fun z => absurd z (by omega), fun _ => ?_⟩
      rw [show (k : Int) + 1 + -1 = k by omega]
      refine kf σ4 (lowO_none _ _ (fun x x0 x1 => dead x (by omega) (by omega) (no x (by omega) (by omega)))) (fun i i0 i1 => ?_) of4
      rw [e4, up_ne (Or.inr (by omega))]; exact hf i i0 i1
  | succ l ih =>
    intro k f hkl p fn hi N
    have fk1 := Pre_pos p (i := (k : Int)) (by omega) (by omega)
    obtain ⟨pv, hpv⟩ : ∃ pv : Int → Option (Int → Int), pv = fun v => if sumB f (k + 1) v then DD P n (l + 1) (wr f ((k : Int) + 1) v) (k + 1) else none := ⟨_, rfl⟩
    rw [← hpv]
    induction N with
    | zero =>
      intro w σ hN w0 wn hf hw of ks kf
      have hP' : PH σ P n p4 := PH_same hP (of 322 (by decide))
      have ew : w = n := by omega
      refine b_X12_searched_35 ⟨rng (by omega) (by omega), fun z => absurd z (by omega), fun _ => ?_⟩
      refine m_nextNumber (d := d) (P := P) (f := f) (k := k) (l := l + 1) hn hJ hkl hP' p hf (by omega) hw w0 wn (fun r hr => ⟨by omega, fun σ4 e4 => ?_⟩)
      rcases hr with ⟨r0, r1, hc, no⟩ | ⟨r1, no⟩
      · omega
      · refine ⟨rng (by omega) (by omega), rng (by omega) (by omega), fun z => absurd z (by omega), fun _ => ?_⟩
        rw [show (k : Int) + 1 + -1 = k by omega]
        refine kf σ4 (by rw [show (n - w).toNat = 0 by omega]; rfl) (fun i i0 i1 => ?_) (fun x hx => by rw [e4, up_row hx]; exact of x hx)
        rw [e4, up_ne (Or.inr (by omega))]; exact hf i i0 i1
    | succ N ihN =>
      intro w σ hN w0 wn hf hw of ks kf
      have hP' : PH σ P n p4 := PH_same hP (of 322 (by decide))
      have dead : ∀ x, f k < x → x ≤ n → ¬ CdN f n P p4 k (l + 1) x → pv x = none := fun x x0 x1 hc => by
        rw [hpv]
        by_cases hs : sumB f (k + 1) x = true
        · simp only [hs, if_true]
          exact DD_not (by omega) (Pre_wr (by omega) p x0 (sumB_iff.mp hs)) (fun g a b c => Cd_dead hP' x1 (sumB_iff.mp hs) hc a b c)
        · simp only [hs]
          rfl
      refine b_X12_searched_35 ⟨rng (by omega) (by omega), fun z => absurd z (by omega), fun _ => ?_⟩
      refine m_nextNumber (d := d) (P := P) (f := f) (k := k) (l := l + 1) hn hJ hkl hP' p hf (by omega) hw w0 wn (fun r hr => ⟨by omega, fun σ4 e4 => ?_⟩)
      have of4 : ∀ x, x ≠ 331 → σ4 x = σ0 x := fun x hx => by rw [e4, up_row hx]; exact of x hx
      rcases hr with ⟨r0, r1, hc, no⟩ | ⟨r1, no⟩
      · have rn : r < n := by
          rcases Int.lt_or_eq_of_le r1 with q | q
          · exact q
          · exact absurd (hc.1.mp q) (by omega)
        refine ⟨rng (by omega) (by omega), rng (by omega) (by omega), fun _ => ⟨rng (by omega) (by omega), rng (by omega) (by omega), fun z => absurd z (by omega), fun _ => ⟨by omega, by omega, fun σ11 e11 => ?_⟩⟩, fun z => absurd z (by omega)⟩
        rw [show (k : Int) + 1 + 1 - 1 = (k : Int) + 1 by omega, show σ4 331 ((k : Int) + 1) = r by rw [e4, up_at]] at e11
        have hs := hc.2.2.1
        have pw := Pre_wr (by omega) p (show f k < r by omega) hs
        have pvr : pv r = lowO (fun v => if sumB (wr f ((k : Int) + 1) r) (k + 1 + 1) v then DD P n l (wr (wr f ((k : Int) + 1) r) (((k + 1 : Nat) : Int) + 1) v) (k + 1 + 1) else none) (n - r).toNat (r + 1) := by
          rw [hpv]
          have : sumB f (k + 1) r = true := sumB_iff.mpr hs
          simp only [this, if_true]
          rw [DD, show wr f ((k : Int) + 1) r ((k + 1 : Nat) : Int) = r from wr_eq (by omega)]
        have hcnt : (n - w).toNat = (r - (w + 1)).toNat + ((n - r).toNat + 1) := by omega
        have hlow : ∀ o, pv r = o → lowO pv (n - w).toNat (w + 1) = (match o with | some g => some g | none => lowO pv (n - r).toNat (r + 1)) := fun o ho => by
          rw [hcnt, lowO_skip _ _ _ (fun x x0 x1 => dead x (by omega) (by omega) (no x (by omega) (by omega))), show w + 1 + (((r - (w + 1)).toNat : Nat) : Int) = r by omega, lowO, ho]
          cases o <;> rfl
        have fw : wr f ((k : Int) + 1) r ((k + 1 : Nat) : Int) = r := wr_eq (by omega)
        have h11 : ∀ i, 0 ≤ i → i ≤ ((k + 1 : Nat) : Int) → σ11 331 i = wr f ((k : Int) + 1) r i := fun i i0 i1 => by
          rw [e11, up_ne (Or.inr (by omega))]
          by_cases e : i = (k : Int) + 1
          · rw [e4, up_eq rfl e, wr_eq e]
          · rw [e4, up_ne (Or.inr e), wr_ne e]; exact hf i i0 (by omega)
        have := ih (k := k + 1) (f := wr f ((k : Int) + 1) r) (by omega) pw (by rw [fw]; omega) (InvO_wr hP' hi hc ⟨by omega, r1⟩) (n - r).toNat r σ11 (by omega) (by rw [fw]; omega) (by omega) h11 (by rw [show ((k + 1 : Nat) : Int) + 1 = (k : Int) + 1 + 1 by omega, e11, up_at]) (fun x hx => by rw [e11, up_row hx]; exact of4 x hx) (fun g σ' hg hi' of' => ks g σ' (hlow _ (pvr.trans hg)) hi' of') (fun σ' hg hi' of' => ?_)
        · rw [show ((k + 1 : Nat) : Int) + 1 = (k : Int) + 1 + 1 by omega] at this
          exact this
        · rw [show ((k + 1 : Nat) : Int) = (k : Int) + 1 by omega]
          have hnone : lowO pv (n - w).toNat (w + 1) = lowO pv (n - r).toNat (r + 1) := hlow _ (pvr.trans hg)
          refine ihN r σ' (by omega) (by omega) (by omega) (fun i i0 i1 => ?_) ?_ of' (fun g σ2 hg2 => ks g σ2 (by rw [hnone]; exact hg2)) (fun σ2 hg2 => kf σ2 (by rw [hnone]; exact hg2))
          · rw [hi' i i0 (by omega), wr_ne (by omega)]
          · rw [hi' ((k : Int) + 1) (by omega) (by omega), wr_at]
      · refine ⟨rng (by omega) (by omega), rng (by omega) (by omega), fun z => absurd z (by omega), fun _ => ?_⟩
        rw [show (k : Int) + 1 + -1 = k by omega]
        refine kf σ4 (lowO_none _ _ (fun x x0 x1 => dead x (by omega) (by omega) (no x (by omega) (by omega)))) (fun i i0 i1 => ?_) of4
        rw [e4, up_ne (Or.inr (by omega))]; exact hf i i0 i1
theorem m_searched {d : Nat} {Q : Int → jM → Prop} {σ : jM} {P : Int → Bool} {n p4 : Int} {J : Nat} (hn : 1 ≤ n ∧ n ≤ 120) (hJ : J < 24) (hP : PH σ P n p4) (k1 : ∀ g σ', DD P n J f1 0 = some g → (∀ i, 0 ≤ i → i ≤ (J : Int) → σ' 331 i = g i) → (∀ x, x ≠ 331 → σ' x = σ x) → Q 1 σ') (k0 : ∀ σ', DD P n J f1 0 = none → (∀ x, x ≠ 331 → σ' x = σ x) → Q 0 σ') : Ct mX12_searched (d + 3 + 1) 1 t [rv 321, iv n, iv (J : Int), iv 0, iv p4] σ Q := by
  refine c_X12_searched ⟨by omega, fun σ2 e2 => ⟨rng (by omega) (by omega), fun z => ⟨by omega, fun σ5 e5 => ?_⟩, fun z => ⟨rng (by omega) (by omega), fun y => ?_, fun y => ?_⟩⟩⟩
  · have o5 : ∀ x, x ≠ 331 → σ5 x = σ x := fun x hx => by rw [e5, up_row hx, e2, up_row hx]
    have s0 : σ5 331 0 = 1 := by rw [e5, up_ne (by decide), e2, up_at]
    have s1 : σ5 331 1 = 1 := by rw [e5, up_at]
    obtain ⟨l, hl⟩ : ∃ l, J = l + 1 := ⟨J - 1, by omega⟩
    subst hl
    have endd : ∀ τ, Q 0 τ → Jt mX12_searched (d + 3 + 1) 1 t Q 35 [rv 321, iv n, iv ((l + 1 : Nat) : Int), iv 0, iv p4, jv 0, uv, iv ((0 : Nat) : Int), uv] [] τ := fun τ q => b_X12_searched_35 ⟨in0, fun _ => q, fun z => absurd z (by decide)⟩
    have eDD : ∀ {N : Nat} {z : Int}, (n - 1).toNat = N → z = 1 + 1 → lowO (fun v => if sumB f1 (0 + 1) v then DD P n l (wr f1 (((0 : Nat) : Int) + 1) v) (0 + 1) else none) N z = DD P n (l + 1) f1 0 := fun {N z} hN hz => by
      subst hN
      subst hz
      rw [DD]
      rfl
    have := m_srch (d := d) (Q := Q) (σ0 := σ) (P := P) (n := n) (p4 := p4) hn hJ hP l (k := 0) (f := f1) (by omega) Pre_f1 (by show (1 : Int) ≤ n; omega) (fun x px hx => ⟨0, by omega, by omega, by
      have a := hP.1 x px
      have b : x ≤ 1 := hx
      show (1 : Int) = x
      omega⟩) (n - 1).toNat 1 σ5 (by omega) (by decide) (by omega) (fun i a b => by
      have : i = 0 := by omega
      subst this
      exact s0) s1 o5 (fun g σ' hg hi of => k1 g σ' (by rw [← eDD rfl rfl]; exact hg) hi of) (fun σ' hg hi of => endd σ' (k0 σ' (by rw [← eDD rfl rfl]; exact hg) of))
    exact this
  · have J0 : J = 0 := by omega
    subst J0
    refine k0 σ2 ?_ (fun x hx => by rw [e2, up_row hx])
    rw [DD, if_neg (fun q => ?_)]
    have := ((okB_iff (by omega)).mp q).1
    exact y this.symm
  · have J0 : J = 0 := by omega
    subst J0
    refine k1 f1 σ2 ?_ (fun i a b => ?_) (fun x hx => by rw [e2, up_row hx])
    · rw [DD, if_pos]
      refine (okB_iff (by omega)).mpr ⟨y.symm, fun x x0 x1 px => ⟨0, by omega, by omega, ?_⟩⟩
      have := hP.1 x px
      show (1 : Int) = x
      omega
    · have : i = 0 := by omega
      subst this
      rw [e2, up_at]
      rfl
/-- how many there are -/
theorem m_count {d : Nat} {Q : Int → jM → Prop} {σ0 : jM} {n : Int} {J : Nat} (hn : 1 ≤ n ∧ n ≤ 120) (hJ : J < 24) : ∀ (l : Nat) {k : Nat} {f : Int → Int}, k + 1 + l = J → Pre f k → f k ≤ n → ∀ (N : Nat) (w acc : Int) (σ : jM), n - w ≤ N → f k ≤ w → w ≤ n → (∀ i, 0 ≤ i → i ≤ (k : Int) → σ 331 i = f i) → σ 331 ((k : Int) + 1) = w → (∀ x, x ≠ 331 → σ x = σ0 x) → (∀ σ', (∀ i, 0 ≤ i → i ≤ (k : Int) → σ' 331 i = f i) → (∀ x, x ≠ 331 → σ' x = σ0 x) → Jt mX12_searched (d + 3 + 1) 1 t Q 35 [rv 321, iv n, iv (J : Int), iv 1, iv 0, jv (acc + sumO (fun v => if sumB f (k + 1) v then NN n l (wr f ((k : Int) + 1) v) (k + 1) else 0) (n - w).toNat (w + 1)), uv, iv (k : Int), uv] [] σ') → Jt mX12_searched (d + 3 + 1) 1 t Q 35 [rv 321, iv n, iv (J : Int), iv 1, iv 0, jv acc, uv, iv ((k : Int) + 1), uv] [] σ := by
  have hPH : ∀ σ : jM, PH σ (Pn n) n 0 := fun σ => ⟨fun x px => by have := of_decide_eq_true px; omega, Or.inl ⟨rfl, rfl⟩⟩
  intro l
  induction l with
  | zero =>
    intro k f hkl p fn N
    have fk1 := Pre_pos p (i := (k : Int)) (by omega) (by omega)
    obtain ⟨pv, hpv⟩ : ∃ pv : Int → Int, pv = fun v => if sumB f (k + 1) v then NN n 0 (wr f ((k : Int) + 1) v) (k + 1) else 0 := ⟨_, rfl⟩
    rw [← hpv]
    have dead : ∀ x, f k < x → x ≤ n → ¬ CdN f n (Pn n) 0 k 0 x → pv x = 0 := fun x x0 x1 hc => by
      rw [hpv]
      by_cases hs : sumB f (k + 1) x = true
      · simp only [hs, if_true]
        exact NN_not 0 (Pre_wr (by omega) p x0 (sumB_iff.mp hs)) (fun g a b c => Cd_dead (hPH σ0) x1 (sumB_iff.mp hs) hc a ((OkPn (by omega)).mpr b) c)
      · simp only [hs]
        rfl
    induction N with
    | zero =>
      intro w acc σ hN w0 wn hf hw of kf
      refine b_X12_searched_35 ⟨rng (by omega) (by omega), fun z => absurd z (by omega), fun _ => ?_⟩
      refine m_nextNumber (d := d) (P := Pn n) (f := f) (k := k) (l := 0) hn hJ hkl (hPH σ) p hf (by omega) hw w0 wn (fun r hr => ⟨by omega, fun σ4 e4 => ?_⟩)
      rcases hr with ⟨r0, r1, hc, no⟩ | ⟨r1, no⟩
      · omega
      · refine ⟨rng (by omega) (by omega), rng (by omega) (by omega), fun z => absurd z (by omega), fun _ => ?_⟩
        have := kf σ4 (fun i i0 i1 => by rw [e4, up_ne (Or.inr (by omega))]; exact hf i i0 i1) (fun x hx => by rw [e4, up_row hx]; exact of x hx)
        rw [show (n - w).toNat = 0 by omega, sumO, Int.add_zero] at this
        rw [show (k : Int) + 1 + -1 = k by omega]
        exact this
    | succ N ihN =>
      intro w acc σ hN w0 wn hf hw of kf
      refine b_X12_searched_35 ⟨rng (by omega) (by omega), fun z => absurd z (by omega), fun _ => ?_⟩
      refine m_nextNumber (d := d) (P := Pn n) (f := f) (k := k) (l := 0) hn hJ hkl (hPH σ) p hf (by omega) hw w0 wn (fun r hr => ⟨by omega, fun σ4 e4 => ?_⟩)
      have of4 : ∀ x, x ≠ 331 → σ4 x = σ0 x := fun x hx => by rw [e4, up_row hx]; exact of x hx
      have hf4 : ∀ i, 0 ≤ i → i ≤ (k : Int) → σ4 331 i = f i := fun i i0 i1 => by rw [e4, up_ne (Or.inr (by omega))]; exact hf i i0 i1
      rcases hr with ⟨r0, r1, hc, no⟩ | ⟨r1, no⟩
      · have rn : r = n := hc.1.mpr rfl
        refine ⟨rng (by omega) (by omega), rng (by omega) (by omega), fun _ => ⟨rng (by omega) (by omega), rng (by omega) (by omega), fun _ => ⟨⟨by decide, by decide⟩, fun _ => ?_, fun q => absurd q (by decide)⟩, fun z => absurd z (by omega)⟩, fun z => absurd z (by omega)⟩
        refine ihN r (acc + 1) σ4 (by omega) (by omega) r1 hf4 (by rw [e4, up_at]) of4 (fun σ' h1 h2 => ?_)
        have := kf σ' h1 h2
        have pvr : pv r = 1 := by
          rw [hpv]
          have hs : sumB f (k + 1) r = true := sumB_iff.mpr hc.2.2.1
          simp only [hs, if_true]
          rw [NN, if_pos (by rw [wr_eq (by omega)]; exact rn)]
        rw [show (n - w).toNat = (r - (w + 1)).toNat + ((n - r).toNat + 1) by omega, sumO_skip _ _ _ (fun x x0 x1 => dead x (by omega) (by omega) (no x (by omega) (by omega))), show w + 1 + (((r - (w + 1)).toNat : Nat) : Int) = r by omega, sumO, pvr, ← Int.add_assoc] at this
        exact this
      · refine ⟨rng (by omega) (by omega), rng (by omega) (by omega), fun z => absurd z (by omega), fun _ => ?_⟩
        have := kf σ4 hf4 of4
        rw [sumO_zero _ _ (fun x x0 x1 => dead x (by omega) (by omega) (no x (by omega) (by omega))), Int.add_zero] at this
        rw [show (k : Int) + 1 + -1 = k by omega]
        exact this
  | succ l ih =>
    intro k f hkl p fn N
    have fk1 := Pre_pos p (i := (k : Int)) (by omega) (by omega)
    obtain ⟨pv, hpv⟩ : ∃ pv : Int → Int, pv = fun v => if sumB f (k + 1) v then NN n (l + 1) (wr f ((k : Int) + 1) v) (k + 1) else 0 := ⟨_, rfl⟩
    rw [← hpv]
    have dead : ∀ x, f k < x → x ≤ n → ¬ CdN f n (Pn n) 0 k (l + 1) x → pv x = 0 := fun x x0 x1 hc => by
      rw [hpv]
      by_cases hs : sumB f (k + 1) x = true
      · simp only [hs, if_true]
        exact NN_not (l + 1) (Pre_wr (by omega) p x0 (sumB_iff.mp hs)) (fun g a b c => Cd_dead (hPH σ0) x1 (sumB_iff.mp hs) hc a ((OkPn (by omega)).mpr b) c)
      · simp only [hs]
        rfl
    induction N with
    | zero =>
      intro w acc σ hN w0 wn hf hw of kf
      refine b_X12_searched_35 ⟨rng (by omega) (by omega), fun z => absurd z (by omega), fun _ => ?_⟩
      refine m_nextNumber (d := d) (P := Pn n) (f := f) (k := k) (l := l + 1) hn hJ hkl (hPH σ) p hf (by omega) hw w0 wn (fun r hr => ⟨by omega, fun σ4 e4 => ?_⟩)
      rcases hr with ⟨r0, r1, hc, no⟩ | ⟨r1, no⟩
      · omega
      · refine ⟨rng (by omega) (by omega), rng (by omega) (by omega), fun z => absurd z (by omega), fun _ => ?_⟩
        have := kf σ4 (fun i i0 i1 => by rw [e4, up_ne (Or.inr (by omega))]; exact hf i i0 i1) (fun x hx => by rw [e4, up_row hx]; exact of x hx)
        rw [show (n - w).toNat = 0 by omega, sumO, Int.add_zero] at this
        rw [show (k : Int) + 1 + -1 = k by omega]
        exact this
    | succ N ihN =>
      intro w acc σ hN w0 wn hf hw of kf
      refine b_X12_searched_35 ⟨rng (by omega) (by omega), fun z => absurd z (by omega), fun _ => ?_⟩
      refine m_nextNumber (d := d) (P := Pn n) (f := f) (k := k) (l := l + 1) hn hJ hkl (hPH σ) p hf (by omega) hw w0 wn (fun r hr => ⟨by omega, fun σ4 e4 => ?_⟩)
      have of4 : ∀ x, x ≠ 331 → σ4 x = σ0 x := fun x hx => by rw [e4, up_row hx]; exact of x hx
      have hf4 : ∀ i, 0 ≤ i → i ≤ (k : Int) → σ4 331 i = f i := fun i i0 i1 => by rw [e4, up_ne (Or.inr (by omega))]; exact hf i i0 i1
      rcases hr with ⟨r0, r1, hc, no⟩ | ⟨r1, no⟩
      · have rn : r < n := by
          rcases Int.lt_or_eq_of_le r1 with q | q
          · exact q
          · exact absurd (hc.1.mp q) (by omega)
        refine ⟨rng (by omega) (by omega), rng (by omega) (by omega), fun _ => ⟨rng (by omega) (by omega), rng (by omega) (by omega), fun z => absurd z (by omega), fun _ => ⟨by omega, by omega, fun σ11 e11 => ?_⟩⟩, fun z => absurd z (by omega)⟩
        rw [show (k : Int) + 1 + 1 - 1 = (k : Int) + 1 by omega, show σ4 331 ((k : Int) + 1) = r by rw [e4, up_at]] at e11
        have hs := hc.2.2.1
        have pw := Pre_wr (by omega) p (show f k < r by omega) hs
        have fw : wr f ((k : Int) + 1) r ((k + 1 : Nat) : Int) = r := wr_eq (by omega)
        have pvr : pv r = sumO (fun v => if sumB (wr f ((k : Int) + 1) r) (k + 1 + 1) v then NN n l (wr (wr f ((k : Int) + 1) r) (((k + 1 : Nat) : Int) + 1) v) (k + 1 + 1) else 0) (n - r).toNat (r + 1) := by
          rw [hpv]
          have : sumB f (k + 1) r = true := sumB_iff.mpr hs
          simp only [this, if_true]
          rw [NN, fw]
        have h11 : ∀ i, 0 ≤ i → i ≤ ((k + 1 : Nat) : Int) → σ11 331 i = wr f ((k : Int) + 1) r i := fun i i0 i1 => by
          rw [e11, up_ne (Or.inr (by omega))]
          by_cases e : i = (k : Int) + 1
          · rw [e4, up_eq rfl e, wr_eq e]
          · rw [e4, up_ne (Or.inr e), wr_ne e]; exact hf i i0 (by omega)
        have := ih (k := k + 1) (f := wr f ((k : Int) + 1) r) (by omega) pw (by rw [fw]; omega) (n - r).toNat r acc σ11 (by omega) (by rw [fw]; omega) (by omega) h11 (by rw [show ((k + 1 : Nat) : Int) + 1 = (k : Int) + 1 + 1 by omega, e11, up_at]) (fun x hx => by rw [e11, up_row hx]; exact of4 x hx) (fun σ' hi' of' => ?_)
        · rw [show ((k + 1 : Nat) : Int) + 1 = (k : Int) + 1 + 1 by omega] at this
          exact this
        · rw [← pvr, show ((k + 1 : Nat) : Int) = (k : Int) + 1 by omega]
          refine ihN r (acc + pv r) σ' (by omega) (by omega) (by omega) (fun i i0 i1 => ?_) ?_ of' (fun σ2 h1 h2 => ?_)
          · rw [hi' i i0 (by omega), wr_ne (by omega)]
          · rw [hi' ((k : Int) + 1) (by omega) (by omega), wr_at]
          · have := kf σ2 h1 h2
            rw [show (n - w).toNat = (r - (w + 1)).toNat + ((n - r).toNat + 1) by omega, sumO_skip _ _ _ (fun x x0 x1 => dead x (by omega) (by omega) (no x (by omega) (by omega))), show w + 1 + (((r - (w + 1)).toNat : Nat) : Int) = r by omega, sumO, ← Int.add_assoc] at this
            exact this
      · refine ⟨rng (by omega) (by omega), rng (by omega) (by omega), fun z => absurd z (by omega), fun _ => ?_⟩
        have := kf σ4 hf4 of4
        rw [sumO_zero _ _ (fun x x0 x1 => dead x (by omega) (by omega) (no x (by omega) (by omega))), Int.add_zero] at this
        rw [show (k : Int) + 1 + -1 = k by omega]
        exact this
theorem m_searchedAll {d : Nat} {Q : Int → jM → Prop} {σ : jM} {n : Int} {J : Nat} (hn : 1 ≤ n ∧ n ≤ 120) (hJ : J < 24) (hJ0 : J = 0 → n = 1) (kk : ∀ σ', (∀ x, x ≠ 331 → σ' x = σ x) → Q (NN n J f1 0) σ') : Ct mX12_searched (d + 3 + 1) 1 t [rv 321, iv n, iv (J : Int), iv 1, iv 0] σ Q := by
  refine c_X12_searched ⟨by omega, fun σ2 e2 => ⟨rng (by omega) (by omega), fun z => ⟨by omega, fun σ5 e5 => ?_⟩, fun z => ⟨rng (by omega) (by omega), fun y => absurd (hJ0 (by omega)) y, fun y => ?_⟩⟩⟩
  · have o5 : ∀ x, x ≠ 331 → σ5 x = σ x := fun x hx => by rw [e5, up_row hx, e2, up_row hx]
    have s0 : σ5 331 0 = 1 := by rw [e5, up_ne (by decide), e2, up_at]
    have s1 : σ5 331 1 = 1 := by rw [e5, up_at]
    obtain ⟨l, hl⟩ : ∃ l, J = l + 1 := ⟨J - 1, by omega⟩
    subst hl
    have := m_count (t := t) (d := d) (Q := Q) (σ0 := σ) (n := n) hn hJ l (k := 0) (f := f1) (by omega) Pre_f1 (by show (1 : Int) ≤ n; omega) (n - 1).toNat 1 0 σ5 (by omega) (by decide) (by omega) (fun i a b => by
        have : i = 0 := by omega
        subst this
        exact s0) s1 o5 (fun σ' hi of => b_X12_searched_35 ⟨in0, fun _ => ?_, fun z => absurd z (by decide)⟩)
    · exact this
    · have e : NN n (l + 1) f1 0 = 0 + sumO (fun v => if sumB f1 (0 + 1) v then NN n l (wr f1 (((0 : Nat) : Int) + 1) v) (0 + 1) else 0) (n - 1).toNat (1 + 1) := by
        rw [NN, Int.zero_add]
        rfl
      have := kk σ' of
      rw [e] at this
      exact this
  · have J0 : J = 0 := by omega
    subst J0
    have := kk σ2 (fun x hx => by rw [e2, up_row hx])
    rw [NN, if_pos (by show (1 : Int) = n; omega)] at this
    exact this
end MS
