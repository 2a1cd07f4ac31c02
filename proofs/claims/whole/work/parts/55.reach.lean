/-! ===== chains by the kernel; first, reach, reached ===== -/
def anyN (p : Nat → Bool) : Nat → Nat → Bool
  | 0, _ => false
  | c + 1, v => p v || anyN p c (v + 1)
theorem anyN_iff {p : Nat → Bool} : ∀ (c v : Nat), anyN p c v = true ↔ ∃ x, v ≤ x ∧ x < v + c ∧ p x = true
  | 0, v => ⟨fun h => (by rw [anyN] at h; cases h), fun ⟨x, a, b, _⟩ => by omega⟩
  | c + 1, v => by
    rw [anyN, Bool.or_eq_true, anyN_iff c (v + 1)]
    constructor
    · rintro (h | ⟨x, a, b, e⟩)
      · exact ⟨v, by omega, by omega, h⟩
      · exact ⟨x, by omega, by omega, e⟩
    · rintro ⟨x, a, b, e⟩
      by_cases q : x = v
      · left; rw [← q]; exact e
      · right; exact ⟨x, by omega, by omega, e⟩
def chL (n : Nat) : Nat → Nat → Nat → Nat → Bool
  | 0, last, _, _ => Nat.beq last n
  | l + 1, last, H, S => anyN (fun v => S.testBit v && (Nat.ble n (v * 2 ^ l) && chL n l v (H ||| (1 <<< v)) (S ||| ((H ||| (1 <<< v)) <<< v)))) (n - last) (last + 1)
def chB (n l : Nat) : Bool := chL n l 1 2 4
def BitN (f : Int → Int) (k : Int) (H S : Nat) : Prop := (∀ s : Nat, H.testBit s = true ↔ ∃ i, 0 ≤ i ∧ i ≤ k ∧ f i = s) ∧ (∀ s : Nat, S.testBit s = true ↔ SumP f (k + 1) s)
theorem BitN_wr {f : Int → Int} {k : Nat} {H S v : Nat} (h : BitN f k H S) (hp : ∀ i, 0 ≤ i → i ≤ (k : Int) → 0 ≤ f i) : BitN (wr f ((k : Int) + 1) v) ((k + 1 : Nat) : Int) (H ||| (1 <<< v)) (S ||| ((H ||| (1 <<< v)) <<< v)) := by
  have hA : ∀ s : Nat, (H ||| (1 <<< v)).testBit s = true ↔ (v = s ∨ ∃ i, 0 ≤ i ∧ i ≤ (k : Int) ∧ f i = s) := fun s => by
    rw [Nat.testBit_or, Nat.one_shiftLeft, Nat.testBit_two_pow, Bool.or_eq_true, h.1 s, decide_eq_true_eq]
    exact Or.comm
  refine ⟨fun s => ?_, fun s => ?_⟩
  · rw [hA s]
    constructor
    · rintro (e | ⟨i, a, b, e⟩)
      · exact ⟨(k : Int) + 1, by omega, by omega, by rw [wr_at]; omega⟩
      · exact ⟨i, a, by omega, by rw [wr_ne (by omega)]; exact e⟩
    · rintro ⟨i, a, b, e⟩
      by_cases q : i = (k : Int) + 1
      · rw [wr_eq q] at e; left; omega
      · rw [wr_ne q] at e; right; exact ⟨i, a, by omega, e⟩
  · rw [Nat.testBit_or, Nat.testBit_shiftLeft, Bool.or_eq_true, Bool.and_eq_true, h.2 s, decide_eq_true_eq, hA (s - v), show ((k + 1 : Nat) : Int) + 1 = (k : Int) + 1 + 1 by omega, SumP_wr (by omega)]
    refine or_congr Iff.rfl ?_
    constructor
    · rintro ⟨q, e | ⟨i, a, b, e⟩⟩
      · left; omega
      · right; exact ⟨i, a, by omega, by omega⟩
    · rintro (e | ⟨i, a, b, e⟩)
      · exact ⟨by omega, Or.inl (by omega)⟩
      · have := hp i a (by omega)
        exact ⟨by omega, Or.inr ⟨i, a, by omega, by omega⟩⟩
theorem pw2_cast : ∀ l : Nat, pw2 l = ((2 ^ l : Nat) : Int)
  | 0 => rfl
  | l + 1 => by
    show 2 * pw2 l = _
    rw [pw2_cast l, Nat.pow_succ]
    omega
theorem chL_iff {n : Nat} : ∀ (l : Nat) {f : Int → Int} {k last H S : Nat}, Pre f k → BitN f k H S → f k = (last : Int) → (chL n l last H S = true ↔ ∃ g, Pre g (k + l : Nat) ∧ g (k + l : Nat) = (n : Int) ∧ agK f g k)
  | 0, f, k, last, H, S, p, hb, e => by
    rw [chL]
    constructor
    · intro h
      have := Nat.eq_of_beq_eq_true h
      exact ⟨f, p, by rw [Nat.add_zero, e, this], fun _ _ _ => rfl⟩
    · rintro ⟨g, a, b, c⟩
      have := c k (by omega) (by omega)
      rw [Nat.add_zero] at b
      have : last = n := by omega
      rw [this]
      exact Nat.beq_refl n
  | l + 1, f, k, last, H, S, p, hb, e => by
    have fp : ∀ i, 0 ≤ i → i ≤ (k : Int) → 0 ≤ f i := fun i a b => by have := Pre_pos p a b; omega
    rw [chL, anyN_iff]
    constructor
    · rintro ⟨v, v0, v1, h⟩
      rw [Bool.and_eq_true, Bool.and_eq_true] at h
      have hs := (hb.2 v).mp h.1
      have p' : Pre (wr f ((k : Int) + 1) v) ((k + 1 : Nat) : Int) := Pre_wr (by omega) p (by omega) hs
      obtain ⟨g, a, b, c⟩ := (chL_iff l p' (BitN_wr hb fp) (wr_eq (by omega))).mp h.2.2
      refine ⟨g, by rw [show k + (l + 1) = k + 1 + l by omega]; exact a, by rw [show k + (l + 1) = k + 1 + l by omega]; exact b, fun i i0 i1 => ?_⟩
      rw [← c i i0 (by omega), wr_ne (by omega)]
    · rintro ⟨g, a, b, c⟩
      have p1 := a.2 ((k : Int) + 1) (by omega) (by omega)
      rw [show (k : Int) + 1 - 1 = k by omega] at p1
      have ck := c k (by omega) (by omega)
      have gn : g ((k : Int) + 1) ≤ n := by
        have := Pre_leq a (i := (k : Int) + 1) (j := ((k + (l + 1) : Nat) : Int)) (by omega) (by omega) (by omega)
        rw [b] at this
        exact this
      have gr := Pre_grow a l ((k : Int) + 1) (by omega) (by omega)
      rw [show (k : Int) + 1 + (l : Int) = ((k + (l + 1) : Nat) : Int) by omega, b, pw2_cast] at gr
      obtain ⟨v, hv⟩ : ∃ v : Nat, g ((k : Int) + 1) = (v : Int) := ⟨(g ((k : Int) + 1)).toNat, by omega⟩
      refine ⟨v, by omega, by omega, ?_⟩
      have hs : SumP f ((k : Int) + 1) v := by
        rw [← hv]
        exact (SumP_agr (fun x x0 x1 => (c x x0 (by omega)).symm)).mp p1.2
      have p' : Pre (wr f ((k : Int) + 1) v) ((k + 1 : Nat) : Int) := Pre_wr (by omega) p (by omega) hs
      rw [Bool.and_eq_true, Bool.and_eq_true]
      refine ⟨(hb.2 v).mpr hs, Nat.ble_eq.mpr ?_, (chL_iff l p' (BitN_wr hb fp) (wr_eq (by omega))).mpr ⟨g, by rw [show k + 1 + l = k + (l + 1) by omega]; exact a, by rw [show k + 1 + l = k + (l + 1) by omega]; exact b, fun i i0 i1 => ?_⟩⟩
      · rw [hv] at gr
        have : ((v * 2 ^ l : Nat) : Int) = (v : Int) * ((2 ^ l : Nat) : Int) := Int.natCast_mul v (2 ^ l)
        omega
      · by_cases q : i = (k : Int) + 1
        · rw [wr_eq q, q, hv]
        · rw [wr_ne q]; exact c i i0 (by omega)
theorem chB_iff {n l : Nat} : chB n l = true ↔ ∃ g, Pre g l ∧ g l = (n : Int) := by
  unfold chB
  rw [chL_iff l (f := f1) (k := 0) Pre_f1 ?_ rfl]
  · constructor
    · rintro ⟨g, a, b, _⟩
      rw [Nat.zero_add] at a b
      exact ⟨g, a, b⟩
    · rintro ⟨g, a, b⟩
      refine ⟨g, by rw [Nat.zero_add]; exact a, by rw [Nat.zero_add]; exact b, fun i i0 i1 => ?_⟩
      have : i = 0 := by omega
      subst this
      exact a.1.symm
  · have h2 : (2 : Nat) = 2 ^ 1 := rfl
    have h4 : (4 : Nat) = 2 ^ 2 := rfl
    refine ⟨fun s => ?_, fun s => ?_⟩
    · rw [h2, Nat.testBit_two_pow, decide_eq_true_eq]
      constructor
      · intro e; exact ⟨0, by omega, by omega, by show (1 : Int) = s; omega⟩
      · rintro ⟨i, _, _, e⟩
        have : (1 : Int) = s := e
        omega
    · rw [h4, Nat.testBit_two_pow, decide_eq_true_eq]
      constructor
      · intro e; exact ⟨0, 0, by omega, by omega, by omega, by show (1 : Int) + 1 = s; omega⟩
      · rintro ⟨i, j, _, _, _, e⟩
        have : (1 : Int) + 1 = s := e
        omega
theorem Lst_chB {n : Int} {J : Nat} {g : Int → Int} (h : 1 ≤ n) (hL : Lst (Pn n) n J g) {j : Nat} : (∃ g', Pre g' j ∧ g' j = n) → J ≤ j := by
  rintro ⟨g', a, b⟩
  rcases Nat.lt_or_ge j J with w | w
  · exact (Lst_min (by omega) hL w a ((OkPn (by omega)).mpr b)).elim
  · exact w
theorem fw_71 : 9 ≤ fw 71 := by
  obtain ⟨g, _, hL⟩ := fw_ok (n := 71) (by omega)
  obtain ⟨p, ok⟩ := Lst_Pre (by omega) hL
  rcases Nat.lt_or_ge (fw 71) 9 with w | w
  · have key : ∀ j : Fin 9, chB 71 j.val = false := by decide +kernel
    have := key ⟨fw 71, w⟩
    rw [chB_iff.mpr ⟨g, p, ok.1⟩] at this
    cases this
  · exact w
theorem first_ex {p : Int} (hp : p ≤ 9) : ∃ r : Int, 1 ≤ r ∧ r ≤ 71 ∧ p ≤ fw r ∧ ∀ x, 1 ≤ x → x < r → (fw x : Int) < p := by
  have aux : ∀ (c : Nat) (v : Int), 1 ≤ v → v + c = 71 → (∀ x, 1 ≤ x → x < v → (fw x : Int) < p) → ∃ r : Int, 1 ≤ r ∧ r ≤ 71 ∧ p ≤ fw r ∧ ∀ x, 1 ≤ x → x < r → (fw x : Int) < p := by
    intro c
    induction c with
    | zero =>
      intro v v0 hv no
      have := fw_71
      have e : v = 71 := by omega
      subst e
      exact ⟨71, by omega, by omega, by omega, no⟩
    | succ c ih =>
      intro v v0 hv no
      rcases Int.lt_or_le (fw v : Int) p with w | w
      · refine ih (v + 1) (by omega) (by omega) (fun x x0 x1 => ?_)
        by_cases e : x = v
        · rw [e]; exact w
        · exact no x x0 (by omega)
      · exact ⟨v, v0, by omega, w, no⟩
  exact aux 70 1 (by omega) (by omega) (fun x x0 x1 => absurd x1 (by omega))
section FR
variable {t : Int} {L : LT} {σ : jM}
theorem a_first {p : Int} (d : Nat) (I : I0 L σ) (hK : K1 σ) (hR : KR σ) (hp : inR p) {Q : Int → jM → Prop} (k : ∀ r σ1, inR r → (∀ (d2 : Nat) Q2, (∀ r' σ2, SameN L σ r r' σ2 → Q2 r' σ2) → Ct mX12_first (d2 + 11) 0 t [rv 321, iv p] σ1 Q2) → Q r σ1) : Ct mX11_first (d + 40) 0 t [rv 1, iv p] σ Q := by
  have bad : (p < 0 ∨ 9 < p) → Q (-1) σ := fun hb => k _ σ ⟨by decide, by decide⟩ (fun d2 Q2 k2 => c_X12_first (m_isIn hp in0 ⟨by decide, by decide⟩ ⟨b01_R, fun z => by have := inB_t (b01_1 z); omega, fun _ => k2 _ _ (SameN_of I hK offC_rf hR offR_rf)⟩))
  refine c_X11_first ⟨hp, fun z => bad (by omega), fun z => ⟨hp, fun y => ?_, fun y => bad (by omega)⟩⟩
  obtain ⟨r, r0, r1, hr, no⟩ := first_ex y
  have loop : ∀ (c : Nat) (v : Int) (τ : jM), 1 ≤ v → v + c = r → K1 τ → offC σ τ → (∀ τ', K1 τ' → offC σ τ' → Q r τ') → Jt mX11_first (d + 40) 0 t Q 14 [rv 1, iv p, iv v] [] τ := by
    intro c
    induction c with
    | zero =>
      intro v τ v0 hv Kτ oτ kk
      have e : v = r := by omega
      subst e
      refine b_X11_first_14 ⟨rng (by omega) (by omega), fun z => absurd z (by omega), fun _ => q_jn (d := d + 10) ⟨by omega, by omega⟩ Kτ (fun g σ2 _ hrw K2 o2 => ?_)⟩
      have := hrw.1
      exact ⟨rng (by omega) (by omega), hp, fun z => absurd z (by omega), fun _ => kk σ2 K2 (offC_tr oτ o2)⟩
    | succ c ih =>
      intro v τ v0 hv Kτ oτ kk
      have lt := no v v0 (by omega)
      refine b_X11_first_14 ⟨rng (by omega) (by omega), fun z => absurd z (by omega), fun _ => q_jn (d := d + 10) ⟨by omega, by omega⟩ Kτ (fun g σ2 _ hrw K2 o2 => ?_)⟩
      exact ⟨rng (by omega) (by omega), hp, fun _ => ih (v + 1) σ2 (by omega) (by omega) K2 (offC_tr oτ o2) kk, fun z => absurd z (by omega)⟩
  refine loop (r - 1).toNat 1 σ (by omega) (by omega) hK offC_rf (fun σ1 K1' o1 => k r σ1 (rng (by omega) (by omega)) (fun d2 Q2 k2 => ?_))
  have loop2 : ∀ (c : Nat) (v : Int) (τ : jM), 1 ≤ v → v + c = r → KR τ → offR σ1 τ → (∀ τ', KR τ' → offR σ1 τ' → Q2 r τ') → Jt mX12_first (d2 + 11) 0 t Q2 14 [rv 321, iv p, iv v] [] τ := by
    intro c
    induction c with
    | zero =>
      intro v τ v0 hv Kτ oτ kk
      have e : v = r := by omega
      subst e
      refine b_X12_first_14 (m_layChain (d := d2 + 5) ⟨by omega, by omega⟩ Kτ (fun g σ2 _ a _ K2 o2 => ?_))
      exact ⟨rng (by omega) (by omega), hp, fun _ => kk σ2 K2 (offR_tr oτ o2), fun z => absurd z (by omega)⟩
    | succ c ih =>
      intro v τ v0 hv Kτ oτ kk
      have lt := no v v0 (by omega)
      refine b_X12_first_14 (m_layChain (d := d2 + 5) ⟨by omega, by omega⟩ Kτ (fun g σ2 _ a _ K2 o2 => ?_))
      exact ⟨rng (by omega) (by omega), hp, fun z => absurd z (by omega), fun _ => ih (v + 1) σ2 (by omega) (by omega) K2 (offR_tr oτ o2) kk⟩
  exact c_X12_first (m_isIn hp in0 ⟨by decide, by decide⟩ ⟨b01_R, fun _ => loop2 (r - 1).toNat 1 σ1 (by omega) (by omega) (KR_same hR (o1 332 (by omega))) offR_rf (fun τ' R' o' => k2 _ _ (SameN_of I K1' o1 R' o')), fun u => by have := inB_f (b01_0.mp u); omega⟩)
/-- what is reached by going on from the first K + 1 with a number above w -/
def Rch (f : Int → Int) (K : Nat) (w : Int) (l : Nat) (v : Int) : Prop := ∃ g, Pre g (K + 1 + l : Nat) ∧ agK f g K ∧ w < g ((K : Int) + 1) ∧ g (K + 1 + l : Nat) = v
theorem Rch_end {f : Int → Int} {K l : Nat} {w v : Int} (p : Pre f K) (h : 2 * f K ≤ w) : ¬ Rch f K w l v := by
  rintro ⟨g, a, b, c, e⟩
  have := Pre_dbl a (i := (K : Int)) (by omega) (by omega)
  rw [← b K (by omega) (by omega)] at this
  omega
theorem Rch_0 {f : Int → Int} {K : Nat} {w v : Int} (p : Pre f K) (h : f K ≤ w) : Rch f K w 0 v ↔ ((SumP f ((K : Int) + 1) (w + 1) ∧ v = w + 1) ∨ Rch f K (w + 1) 0 v) := by
  constructor
  · rintro ⟨g, a, b, c, e⟩
    by_cases q : g ((K : Int) + 1) = w + 1
    · left
      have s := (a.2 ((K : Int) + 1) (by omega) (by omega)).2
      rw [q] at s
      refine ⟨(SumP_agr (fun x x0 x1 => (b x x0 (by omega)).symm)).mp s, ?_⟩
      rw [← e, ← q]
      congr 1
    · right; exact ⟨g, a, b, by omega, e⟩
  · rintro (⟨s, e⟩ | ⟨g, a, b, c, e⟩)
    · exact ⟨wr f ((K : Int) + 1) (w + 1), Pre_wr (by omega) p (by omega) s, fun i i0 i1 => (wr_ne (by omega)).symm, by rw [wr_at]; omega, by rw [wr_eq (by omega), e]⟩
    · exact ⟨g, a, b, by omega, e⟩
theorem Rch_s {f : Int → Int} {K l : Nat} {w v : Int} (p : Pre f K) (h : f K ≤ w) : Rch f K w (l + 1) v ↔ ((SumP f ((K : Int) + 1) (w + 1) ∧ Rch (wr f ((K : Int) + 1) (w + 1)) (K + 1) (w + 1) l v) ∨ Rch f K (w + 1) (l + 1) v) := by
  constructor
  · rintro ⟨g, a, b, c, e⟩
    by_cases q : g ((K : Int) + 1) = w + 1
    · left
      have s := (a.2 ((K : Int) + 1) (by omega) (by omega)).2
      rw [q] at s
      have s2 := (a.2 ((K : Int) + 1 + 1) (by omega) (by omega)).1
      rw [show (K : Int) + 1 + 1 - 1 = (K : Int) + 1 by omega, q] at s2
      refine ⟨(SumP_agr (fun x x0 x1 => (b x x0 (by omega)).symm)).mp s, g, by rw [show K + 1 + 1 + l = K + 1 + (l + 1) by omega]; exact a, fun i i0 i1 => ?_, by rw [show ((K + 1 : Nat) : Int) + 1 = (K : Int) + 1 + 1 by omega]; exact s2, by rw [show K + 1 + 1 + l = K + 1 + (l + 1) by omega]; exact e⟩
      by_cases r : i = (K : Int) + 1
      · rw [wr_eq r, r, q]
      · rw [wr_ne r]; exact b i i0 (by omega)
    · right; exact ⟨g, a, b, by omega, e⟩
  · rintro (⟨s, g, a, b, c, e⟩ | ⟨g, a, b, c, e⟩)
    · refine ⟨g, by rw [show K + 1 + (l + 1) = K + 1 + 1 + l by omega]; exact a, fun i i0 i1 => ?_, ?_, by rw [show K + 1 + (l + 1) = K + 1 + 1 + l by omega]; exact e⟩
      · rw [← b i i0 (by omega), wr_ne (by omega)]
      · rw [← b ((K : Int) + 1) (by omega) (by omega), wr_at]; omega
    · exact ⟨g, a, b, by omega, e⟩
def bitsOk (σ : jM) : Prop := ∀ v, 0 ≤ v → v ≤ 64 → (σ 339 v = 0 ∨ σ 339 v = 1)
theorem or_1 {x : Int} (h : x = 0 ∨ x = 1) : i_or x 1 = 1 := by rcases h with rfl | rfl <;> decide
theorem m_lay {d : Nat} {Q : Int → jM → Prop} {σ0 : jM} {j : Nat} (hj : j ≤ 6) : ∀ (l : Nat) {K : Nat} {f : Int → Int}, K + 1 + l = j → Pre f K → f K ≤ pw2 K → ∀ (N : Nat) (w : Int) (σ : jM), 2 * f K - w ≤ N → f K ≤ w → w ≤ 2 * f K → (∀ i, 0 ≤ i → i ≤ (K : Int) → σ 331 i = f i) → σ 331 ((K : Int) + 1) = w → (∀ x, x ≠ 331 → x ≠ 339 → σ x = σ0 x) → bitsOk σ → (∀ σ', (∀ i, 0 ≤ i → i ≤ (K : Int) → σ' 331 i = f i) → (∀ x, x ≠ 331 → x ≠ 339 → σ' x = σ0 x) → bitsOk σ' → (∀ v, 0 ≤ v → v ≤ 64 → (σ' 339 v = 1 ↔ (σ 339 v = 1 ∨ Rch f K w l v))) → Jt mX12_layReached (d + 1) 9 t Q 58 [rv 321, iv (j : Int), iv (K : Int), uv] [] σ') → Jt mX12_layReached (d + 1) 9 t Q 58 [rv 321, iv (j : Int), iv ((K : Int) + 1), uv] [] σ := by
  intro l
  induction l with
  | zero =>
    intro K f hK p fb N
    have pb := pw2_le ⟨K, by omega⟩
    have pk : pw2 K ≤ 32 := by
      rcases (show K = 0 ∨ K = 1 ∨ K = 2 ∨ K = 3 ∨ K = 4 ∨ K = 5 by omega) with rfl | rfl | rfl | rfl | rfl | rfl <;> decide
    have fk := Pre_pos p (i := (K : Int)) (by omega) (by omega)
    have fall : ∀ i, 0 ≤ i → i ≤ (K : Int) → (0 ≤ f i ∧ f i ≤ 99999) := fun i a b => by
      have x := Pre_pos p a b
      have y := Pre_leq p a b (by omega)
      omega
    induction N with
    | zero =>
      intro w σ hN w0 wn hf hw of bo kf
      refine b_X12_layReached_58 ⟨rng (by omega) (by omega), fun z => absurd z (by omega), fun _ => ⟨by omega, by omega, fun σ3 e3 => ⟨by omega, by omega, ?_⟩⟩⟩
      rw [show σ3 331 ((K : Int) + 1) = w + 1 by rw [e3, up_at, hw], show (K : Int) + 1 - 1 = K by omega, show σ3 331 (K : Int) = f K by rw [e3, up_ne (Or.inr (by omega))]; exact hf K (by omega) (by omega)]
      refine ⟨rng (by omega) (by omega), rng (by omega) (by omega), fun z => absurd z (by omega), fun _ => ?_⟩
      rw [show (K : Int) + 1 + -1 = K by omega]
      refine kf σ3 (fun i i0 i1 => by rw [e3, up_ne (Or.inr (by omega))]; exact hf i i0 i1) (fun x h1 h2 => by rw [e3, up_row h1]; exact of x h1 h2) (fun v v0 v1 => by rw [e3, up_row (by decide)]; exact bo v v0 v1) (fun v v0 v1 => ?_)
      rw [e3, up_row (by decide)]
      exact ⟨fun h => Or.inl h, fun h => h.elim id (fun q => absurd q (Rch_end p (by omega)))⟩
    | succ N ihN =>
      intro w σ hN w0 wn hf hw of bo kf
      refine b_X12_layReached_58 ⟨rng (by omega) (by omega), fun z => absurd z (by omega), fun _ => ⟨by omega, by omega, fun σ3 e3 => ⟨by omega, by omega, ?_⟩⟩⟩
      have e3w : σ3 331 ((K : Int) + 1) = w + 1 := by rw [e3, up_at, hw]
      have hf3 : ∀ i, 0 ≤ i → i ≤ (K : Int) → σ3 331 i = f i := fun i i0 i1 => by rw [e3, up_ne (Or.inr (by omega))]; exact hf i i0 i1
      have of3 : ∀ x, x ≠ 331 → x ≠ 339 → σ3 x = σ0 x := fun x h1 h2 => by rw [e3, up_row h1]; exact of x h1 h2
      have e339 : σ3 339 = σ 339 := by rw [e3, up_row (by decide)]
      have bo3 : bitsOk σ3 := fun v v0 v1 => by rw [e339]; exact bo v v0 v1
      rw [e3w, show (K : Int) + 1 - 1 = K by omega, hf3 K (by omega) (by omega)]
      refine ⟨rng (by omega) (by omega), rng (by omega) (by omega), fun z => ?_, fun z => ?_⟩
      · have sag : SumP (σ3 331) ((K : Int) + 1) (w + 1) ↔ SumP f ((K : Int) + 1) (w + 1) := SumP_agr (fun i a b => hf3 i a (by omega))
        refine m_isSum (rng (by omega) (by omega)) (by omega) (fun i a b => by rw [hf3 i a (by omega)]; exact fall i a (by omega)) (fun s => ⟨⟨by decide, by decide⟩, fun q => absurd q (by decide), fun _ => ⟨by omega, rng (by omega) (by omega), rng (by omega) (by omega), fun q => absurd q (by omega), fun _ => ⟨by omega, ?_, fun σ19 e19 => ⟨rng (by omega) (by omega), rng (by omega) (by omega), fun _ => ?_, fun q => absurd q (by omega)⟩⟩⟩⟩) (fun s => ⟨in0, fun _ => ?_, fun q => absurd rfl q⟩)
        · rw [or_1 (bo3 _ (by omega) (by omega))]; exact Or.inr rfl
        · rw [or_1 (bo3 _ (by omega) (by omega))] at e19
          have r331 : σ19 331 = σ3 331 := by rw [e19, up_row (by decide)]
          refine ihN (w + 1) σ19 (by omega) (by omega) (by omega) (fun i i0 i1 => by rw [r331]; exact hf3 i i0 i1) (by rw [r331]; exact e3w) (fun x h1 h2 => by rw [e19, up_row h2]; exact of3 x h1 h2) (fun v v0 v1 => ?_) (fun σ' h1 h2 h3 h4 => kf σ' h1 h2 h3 (fun v v0 v1 => ?_))
          · by_cases e : v = w + 1
            · right; rw [e19, up_eq rfl e]
            · rw [e19, up_ne (Or.inr e)]; exact bo3 v v0 v1
          · rw [h4 v v0 v1, Rch_0 p w0]
            by_cases e : v = w + 1
            · constructor
              · intro _; exact Or.inr (Or.inl ⟨sag.mp s, e⟩)
              · intro _; left; rw [e19, up_eq rfl e]
            · rw [e19, up_ne (Or.inr e), e339]
              constructor
              · rintro (q | q)
                · exact Or.inl q
                · exact Or.inr (Or.inr q)
              · rintro (q | ⟨_, q⟩ | q)
                · exact Or.inl q
                · exact absurd q e
                · exact Or.inr q
        · refine ihN (w + 1) σ3 (by omega) (by omega) (by omega) hf3 e3w of3 bo3 (fun σ' h1 h2 h3 h4 => kf σ' h1 h2 h3 (fun v v0 v1 => ?_))
          rw [h4 v v0 v1, Rch_0 p w0, e339]
          constructor
          · rintro (q | q)
            · exact Or.inl q
            · exact Or.inr (Or.inr q)
          · rintro (q | ⟨q, _⟩ | q)
            · exact Or.inl q
            · exact absurd (sag.mpr q) s
            · exact Or.inr q
      · rw [show (K : Int) + 1 + -1 = K by omega]
        refine kf σ3 hf3 of3 bo3 (fun v v0 v1 => ?_)
        rw [e339]
        exact ⟨fun h => Or.inl h, fun h => h.elim id (fun q => absurd q (Rch_end p (by omega)))⟩
  | succ l ih =>
    intro K f hK p fb N
    have pk : pw2 K ≤ 32 := by
      rcases (show K = 0 ∨ K = 1 ∨ K = 2 ∨ K = 3 ∨ K = 4 ∨ K = 5 by omega) with rfl | rfl | rfl | rfl | rfl | rfl <;> decide
    have fk := Pre_pos p (i := (K : Int)) (by omega) (by omega)
    have fall : ∀ i, 0 ≤ i → i ≤ (K : Int) → (0 ≤ f i ∧ f i ≤ 99999) := fun i a b => by
      have x := Pre_pos p a b
      have y := Pre_leq p a b (by omega)
      omega
    induction N with
    | zero =>
      intro w σ hN w0 wn hf hw of bo kf
      refine b_X12_layReached_58 ⟨rng (by omega) (by omega), fun z => absurd z (by omega), fun _ => ⟨by omega, by omega, fun σ3 e3 => ⟨by omega, by omega, ?_⟩⟩⟩
      rw [show σ3 331 ((K : Int) + 1) = w + 1 by rw [e3, up_at, hw], show (K : Int) + 1 - 1 = K by omega, show σ3 331 (K : Int) = f K by rw [e3, up_ne (Or.inr (by omega))]; exact hf K (by omega) (by omega)]
      refine ⟨rng (by omega) (by omega), rng (by omega) (by omega), fun z => absurd z (by omega), fun _ => ?_⟩
      rw [show (K : Int) + 1 + -1 = K by omega]
      refine kf σ3 (fun i i0 i1 => by rw [e3, up_ne (Or.inr (by omega))]; exact hf i i0 i1) (fun x h1 h2 => by rw [e3, up_row h1]; exact of x h1 h2) (fun v v0 v1 => by rw [e3, up_row (by decide)]; exact bo v v0 v1) (fun v v0 v1 => ?_)
      rw [e3, up_row (by decide)]
      exact ⟨fun h => Or.inl h, fun h => h.elim id (fun q => absurd q (Rch_end p (by omega)))⟩
    | succ N ihN =>
      intro w σ hN w0 wn hf hw of bo kf
      refine b_X12_layReached_58 ⟨rng (by omega) (by omega), fun z => absurd z (by omega), fun _ => ⟨by omega, by omega, fun σ3 e3 => ⟨by omega, by omega, ?_⟩⟩⟩
      have e3w : σ3 331 ((K : Int) + 1) = w + 1 := by rw [e3, up_at, hw]
      have hf3 : ∀ i, 0 ≤ i → i ≤ (K : Int) → σ3 331 i = f i := fun i i0 i1 => by rw [e3, up_ne (Or.inr (by omega))]; exact hf i i0 i1
      have of3 : ∀ x, x ≠ 331 → x ≠ 339 → σ3 x = σ0 x := fun x h1 h2 => by rw [e3, up_row h1]; exact of x h1 h2
      have e339 : σ3 339 = σ 339 := by rw [e3, up_row (by decide)]
      have bo3 : bitsOk σ3 := fun v v0 v1 => by rw [e339]; exact bo v v0 v1
      rw [e3w, show (K : Int) + 1 - 1 = K by omega, hf3 K (by omega) (by omega)]
      refine ⟨rng (by omega) (by omega), rng (by omega) (by omega), fun z => ?_, fun z => ?_⟩
      · have sag : SumP (σ3 331) ((K : Int) + 1) (w + 1) ↔ SumP f ((K : Int) + 1) (w + 1) := SumP_agr (fun i a b => hf3 i a (by omega))
        refine m_isSum (rng (by omega) (by omega)) (by omega) (fun i a b => by rw [hf3 i a (by omega)]; exact fall i a (by omega)) (fun s => ⟨⟨by decide, by decide⟩, fun q => absurd q (by decide), fun _ => ⟨by omega, rng (by omega) (by omega), rng (by omega) (by omega), fun _ => ⟨by omega, ?_, fun σ12 e12 => ⟨rng (by omega) (by omega), rng (by omega) (by omega), fun q => absurd q (by omega), fun _ => ⟨by omega, by omega, fun σ16 e16 => ?_⟩⟩⟩, fun q => absurd q (by omega)⟩⟩) (fun s => ⟨in0, fun _ => ?_, fun q => absurd rfl q⟩)
        · rw [i_or_0 (by rcases bo3 (w + 1) (by omega) (by omega) with q | q <;> rw [q] <;> exact ⟨by decide, by decide⟩)]
          exact bo3 _ (by omega) (by omega)
        · rw [i_or_0 (by rcases bo3 (w + 1) (by omega) (by omega) with q | q <;> rw [q] <;> exact ⟨by decide, by decide⟩)] at e12
          have s12 : σ12 = σ3 := by
            rw [e12]
            funext a b
            unfold up
            split
            · rename_i q; rw [q.1, q.2]
            · rfl
          rw [s12, show (K : Int) + 1 + 1 - 1 = (K : Int) + 1 by omega, e3w] at e16
          have sf := sag.mp s
          have pw := Pre_wr (by omega) p (show f K < w + 1 by omega) sf
          have fw' : wr f ((K : Int) + 1) (w + 1) ((K + 1 : Nat) : Int) = w + 1 := wr_eq (by omega)
          have r339 : σ16 339 = σ 339 := by rw [e16, up_row (by decide)]; exact e339
          have h16 : ∀ i, 0 ≤ i → i ≤ ((K + 1 : Nat) : Int) → σ16 331 i = wr f ((K : Int) + 1) (w + 1) i := fun i i0 i1 => by
            rw [e16, up_ne (Or.inr (by omega))]
            by_cases e : i = (K : Int) + 1
            · rw [wr_eq e, e]; exact e3w
            · rw [wr_ne e]; exact hf3 i i0 (by omega)
          have := ih (K := K + 1) (f := wr f ((K : Int) + 1) (w + 1)) (by omega) pw (by rw [fw']; show w + 1 ≤ 2 * pw2 K; omega) (2 * (w + 1) - (w + 1)).toNat (w + 1) σ16 (by rw [fw']; omega) (by rw [fw']; omega) (by rw [fw']; omega) h16 (by rw [show ((K + 1 : Nat) : Int) + 1 = (K : Int) + 1 + 1 by omega, e16, up_at]) (fun x h1 h2 => by rw [e16, up_row h1]; exact of3 x h1 h2) (fun v v0 v1 => by rw [r339]; exact bo v v0 v1) (fun σ' h1 h2 h3 h4 => ?_)
          · rw [show ((K + 1 : Nat) : Int) + 1 = (K : Int) + 1 + 1 by omega] at this
            exact this
          · rw [show ((K + 1 : Nat) : Int) = (K : Int) + 1 by omega]
            refine ihN (w + 1) σ' (by omega) (by omega) (by omega) (fun i i0 i1 => by rw [h1 i i0 (by omega), wr_ne (by omega)]) (by rw [h1 ((K : Int) + 1) (by omega) (by omega), wr_at]) h2 h3 (fun σ2 g1 g2 g3 g4 => kf σ2 g1 g2 g3 (fun v v0 v1 => ?_))
            rw [g4 v v0 v1, h4 v v0 v1, Rch_s p w0, r339]
            constructor
            · rintro ((q | q) | q)
              · exact Or.inl q
              · exact Or.inr (Or.inl ⟨sf, q⟩)
              · exact Or.inr (Or.inr q)
            · rintro (q | ⟨_, q⟩ | q)
              · exact Or.inl (Or.inl q)
              · exact Or.inl (Or.inr q)
              · exact Or.inr q
        · refine ihN (w + 1) σ3 (by omega) (by omega) (by omega) hf3 e3w of3 bo3 (fun σ' h1 h2 h3 h4 => kf σ' h1 h2 h3 (fun v v0 v1 => ?_))
          rw [h4 v v0 v1, Rch_s p w0, e339]
          constructor
          · rintro (q | q)
            · exact Or.inl q
            · exact Or.inr (Or.inr q)
          · rintro (q | ⟨q, _⟩ | q)
            · exact Or.inl q
            · exact absurd (sag.mpr q) s
            · exact Or.inr q
      · rw [show (K : Int) + 1 + -1 = K by omega]
        refine kf σ3 hf3 of3 bo3 (fun v v0 v1 => ?_)
        rw [e339]
        exact ⟨fun h => Or.inl h, fun h => h.elim id (fun q => absurd q (Rch_end p (by omega)))⟩
/-- n is the last of a chain of just j joinings -/
def Ends (j : Nat) (v : Int) : Prop := ∃ g, Pre g j ∧ g j = v
theorem m_layReached {d : Nat} {Q : Int → jM → Prop} {j : Nat} (hj : j ≤ 6) (k : ∀ σ', (∀ x, x ≠ 331 → x ≠ 339 → σ' x = σ x) → bitsOk σ' → (∀ v, 0 ≤ v → v ≤ 64 → (σ' 339 v = 1 ↔ Ends j v)) → Q 0 σ') : Ct mX12_layReached (d + 1) 9 t [rv 321, iv (j : Int)] σ Q := by
  refine c_X12_layReached ?_
  -- the end of it
  have fin : ∀ (τ : jM), (∀ x, x ≠ 331 → x ≠ 339 → τ x = σ x) → (∀ v, 0 ≤ v → v ≤ 64 → τ 339 v = if v = 1 ∧ j = 0 then 1 else 0) → Jt mX12_layReached (d + 1) 9 t Q 2 [rv 321, iv (j : Int), iv 65, uv] [] τ := by
    intro τ ot h339
    have bo : ∀ τ' : jM, τ' 339 = τ 339 → bitsOk τ' := fun τ' e v v0 v1 => by
      rw [e, h339 v v0 v1]
      split
      · exact Or.inr rfl
      · exact Or.inl rfl
    refine b_X12_layReached_2 ⟨⟨by decide, by decide⟩, fun _ => ⟨by omega, fun σ3 e3 => ⟨by omega, fun σ5 e5 => ⟨rng (by omega) (by omega), fun z => ?_, fun z => ?_⟩⟩⟩, fun z => absurd z (by decide)⟩
    · have r339 : σ5 339 = τ 339 := by rw [e5, up_row (by decide), e3, up_row (by decide)]
      obtain ⟨l, hl⟩ : ∃ l, j = l + 1 := ⟨j - 1, by omega⟩
      have := m_lay (t := t) (d := d) (Q := Q) (σ0 := σ) (j := j) hj l (K := 0) (f := f1) (by omega) Pre_f1 (by decide) 1 1 σ5 (by decide) (by decide) (by decide) (fun i a b => by
        have : i = 0 := by omega
        subst this
        rw [e5, up_ne (by decide), e3, up_at]; rfl) (by rw [e5]; exact up_at) (fun x h1 h2 => by rw [e5, up_row h1, e3, up_row h1]; exact ot x h1 h2) (bo σ5 r339) (fun σ' h1 h2 h3 h4 => b_X12_layReached_58 ⟨in0, fun _ => k σ' h2 h3 (fun v v0 v1 => ?_), fun q => absurd q (by decide)⟩)
      · exact this
      · rw [h4 v v0 v1, r339, h339 v v0 v1, if_neg (by omega)]
        constructor
        · rintro (q | ⟨g, a, b, c, e⟩)
          · exact absurd q (by decide)
          · exact ⟨g, by rw [show j = 0 + 1 + l by omega]; exact a, by rw [show j = 0 + 1 + l by omega]; exact e⟩
        · rintro ⟨g, a, e⟩
          right
          have p1 := Pre_pos a (i := 1) (by omega) (by omega)
          exact ⟨g, by rw [show 0 + 1 + l = j by omega]; exact a, fun i i0 i1 => by
            have : i = 0 := by omega
            subst this
            exact a.1.symm, by show 1 < g (((0 : Nat) : Int) + 1); rw [show ((0 : Nat) : Int) + 1 = 1 by omega]; omega, by rw [show 0 + 1 + l = j by omega]; exact e⟩
    · have j0 : j = 0 := by omega
      have r339 : σ5 339 = τ 339 := by rw [e5, up_row (by decide), e3, up_row (by decide)]
      refine b_X12_layReached_58 ⟨in0, fun _ => k σ5 (fun x h1 h2 => by rw [e5, up_row h1, e3, up_row h1]; exact ot x h1 h2) (bo σ5 r339) (fun v v0 v1 => ?_), fun q => absurd q (by decide)⟩
      rw [r339, h339 v v0 v1]
      subst j0
      constructor
      · intro h
        by_cases e : v = 1
        · exact ⟨f1, Pre_f1, e.symm⟩
        · rw [if_neg (fun q => e q.1)] at h; cases h
      · rintro ⟨g, a, e⟩
        rw [if_pos ⟨by rw [← e]; exact a.1, rfl⟩]
  have loop : ∀ (c : Nat) (n : Int) (τ : jM), 0 ≤ n → n + c = 65 → (∀ x, x ≠ 339 → τ x = σ x) → (∀ v, 0 ≤ v → v < n → τ 339 v = if v = 1 ∧ j = 0 then 1 else 0) → Jt mX12_layReached (d + 1) 9 t Q 2 [rv 321, iv (j : Int), iv n, uv] [] τ := by
    intro c
    induction c with
    | zero =>
      intro n τ n0 hn ot h339
      have e : n = 65 := by omega
      subst e
      exact fin τ (fun x _ h2 => ot x h2) (fun v v0 v1 => h339 v v0 (by omega))
    | succ c ih =>
      intro n τ n0 hn ot h339
      have stp : ∀ (b : Int) (σ9 : jM), b = (if n = 1 ∧ j = 0 then 1 else 0) → σ9 = up τ 339 n b → Jt mX12_layReached (d + 1) 9 t Q 2 [rv 321, iv (j : Int), iv (n + 1), uv] [] σ9 := fun b σ9 hb e9 => by
        refine ih (n + 1) σ9 (by omega) (by omega) (fun x hx => by rw [e9, up_row hx]; exact ot x hx) (fun v v0 v1 => ?_)
        by_cases e : v = n
        · rw [e9, up_eq rfl e, hb, e]
        · rw [e9, up_ne (Or.inr e)]; exact h339 v v0 (by omega)
      refine b_X12_layReached_2 ⟨rng (by omega) (by omega), fun z => absurd z (by omega), fun _ => ⟨rng (by omega) (by omega), fun z => ⟨by omega, fun σ9 e9 => stp 0 σ9 (by rw [if_neg (fun q => z q.1)]) e9⟩, fun z => ⟨rng (by omega) (by omega), fun y => ⟨by omega, fun σ9 e9 => stp 0 σ9 (by rw [if_neg (fun q => y (by omega))]) e9⟩, fun y => ⟨by omega, fun σ9 e9 => stp 1 σ9 (by rw [if_pos ⟨z, by omega⟩]) e9⟩⟩⟩⟩
  exact loop 65 0 σ (by omega) (by omega) (fun _ _ => rfl) (fun v v0 v1 => absurd v1 (by omega))
/-- by the kernel: what ends a chain of just j joinings is what the fewest allow -/
theorem reach_tab : ∀ (j : Fin 7) (n : Fin 65), chB n.val j.val = (decide (j.val + 1 ≤ n.val) && decide (n.val ≤ 2 ^ j.val) && anyN (fun i => chB n.val i) (j.val + 1) 0) := by decide +kernel
theorem Ends_iff {j : Nat} {v : Int} (hj : j ≤ 6) (hv : 0 ≤ v ∧ v ≤ 64) : Ends j v ↔ ((j : Int) + 1 ≤ v ∧ v ≤ pw2 j ∧ fw v ≤ j) := by
  have tb := reach_tab ⟨j, by omega⟩ ⟨v.toNat, by omega⟩
  simp only at tb
  have e1 : Ends j v ↔ chB v.toNat j = true := by
    rw [chB_iff, show ((v.toNat : Nat) : Int) = v by omega]
    rfl
  rw [e1, tb, Bool.and_eq_true, Bool.and_eq_true, decide_eq_true_eq, decide_eq_true_eq, anyN_iff, pw2_cast]
  constructor
  · rintro ⟨⟨a, b⟩, i, _, i1, h⟩
    rw [chB_iff, show ((v.toNat : Nat) : Int) = v by omega] at h
    obtain ⟨g, _, hL⟩ := fw_ok (n := v) (by omega)
    have := Lst_chB (by omega) hL h
    exact ⟨by omega, by omega, by omega⟩
  · rintro ⟨a, b, c⟩
    obtain ⟨g, _, hL⟩ := fw_ok (n := v) (by omega)
    obtain ⟨p, ok⟩ := Lst_Pre (by omega) hL
    refine ⟨⟨by omega, by omega⟩, fw v, by omega, by omega, ?_⟩
    rw [chB_iff, show ((v.toNat : Nat) : Int) = v by omega]
    exact ⟨g, p, ok.1⟩
end FR
