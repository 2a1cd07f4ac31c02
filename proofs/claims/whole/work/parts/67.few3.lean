/-! ===== the reference's queue; few alike ===== -/
section BQ
variable {t : Int} {n C : Int} {L : LT}
theorem m_inPlace {d : Nat} {Q : Int → jM → Prop} {σ : jM} {x i : Int} (hx : 0 ≤ x ∧ x < 68921) (hi : 0 ≤ i ∧ i < 3) (k : Q (dcd x i) σ) : Ct mX12_inPlace d 0 t [iv x, iv i] σ Q := by
  have xR : inR x := rng (by omega) (by omega)
  refine c_X12_inPlace ?_
  rw [tm hx.1, td hx.1, td hx.1, tm (by omega)]
  unfold dcd at k
  refine ⟨rng (by omega) (by omega), fun z => ⟨rng (by omega) (by omega), fun y => ⟨xR, ?_⟩, fun y => ⟨xR, rng (by omega) (by omega), ?_⟩⟩, fun z => ⟨xR, ?_⟩⟩
  · rw [if_neg z, if_neg y] at k; exact k
  · rw [if_neg z, if_pos y] at k; exact k
  · rw [if_pos z] at k; exact k
theorem m_laid {d : Nat} {Q : Int → jM → Prop} {σ : jM} {x e p : Int} (hx : 0 ≤ x ∧ x < 68921) (he : 0 ≤ e ∧ e < 3) (k : Q (lyd x e p) σ) : Ct mX12_laid (d + 1) 0 t [iv x, iv e, iv p] σ Q := by
  refine c_X12_laid (m_inPlace hx he ?_)
  unfold lyd at k
  refine ⟨rng (by omega) (by omega), fun z => ⟨rng (by omega) (by omega), fun y => ?_, fun y => ?_⟩, fun z => ?_⟩
  · rw [if_neg z, if_neg y] at k; exact k
  · rw [if_neg z, if_pos y] at k; exact k
  · rw [if_pos z] at k; exact k
theorem m_standsIn {d : Nat} {Q : Int → jM → Prop} {σ : jM} {x : Int} (hn : 1 ≤ n ∧ n ≤ 40) (hx : 0 ≤ x ∧ x < 68921) (k1 : HasN n x → Q 1 σ) (k0 : ¬ HasN n x → Q 0 σ) : Ct mX12_standsIn (d + 1) 0 t [iv x, iv n] σ Q := by
  have nR : inR n := rng (by omega) (by omega)
  have dR : ∀ i, inR (dcd x i) := fun i => by have := dcd_in (i := i) hx; exact rng (by omega) (by omega)
  refine c_X12_standsIn (m_inPlace hx (by omega) ⟨dR 0, nR, fun z => k1 ⟨0, by omega, by omega, z⟩, fun z0 => m_inPlace hx (by omega) ⟨dR 1, nR, fun z => k1 ⟨1, by omega, by omega, z⟩, fun z1 => m_inPlace hx (by omega) ⟨dR 2, nR, fun z2 => k0 (fun ⟨i, i0, i1, e⟩ => ?_), fun z => k1 ⟨2, by omega, by omega, z⟩⟩⟩⟩)
  rcases i3 i0 i1 with rfl | rfl | rfl
  · exact z0 e
  · exact z1 e
  · exact z2 e
/-- the queue: q states, each with how many joinings; none above D + 1 -/
def QI (n C : Int) (N : Nat) (σ : jM) (q D : Int) : Prop := (1 ≤ q ∧ q ≤ 68921) ∧ σ 321 32 = q ∧ (∀ i, 0 ≤ i → i < q → (0 ≤ σ 336 i ∧ σ 336 i < 68921 ∧ 0 ≤ σ 335 (σ 336 i) ∧ σ 335 (σ 336 i) ≤ i ∧ σ 335 (σ 336 i) ≤ D + 1 ∧ Pth n C (σ 335 (σ 336 i)).toNat (σ 336 i))) ∧ (∀ i j, 0 ≤ i → i ≤ j → j < q → σ 335 (σ 336 i) ≤ σ 335 (σ 336 j)) ∧ (∀ y, 0 ≤ y → y < 68921 → (-1 ≤ σ 335 y ∧ (0 ≤ σ 335 y → ∃ i, 0 ≤ i ∧ i < q ∧ σ 336 i = y))) ∧ sumO (fun y => if σ 335 y < 0 then 0 else 1) N 0 = q
/-- it only grows -/
def Ext (σ0 σ : jM) (q0 q : Int) : Prop := q0 ≤ q ∧ (∀ i, 0 ≤ i → i < q0 → σ 336 i = σ0 336 i) ∧ (∀ y, 0 ≤ σ0 335 y → σ 335 y = σ0 335 y) ∧ (∀ x, x ≠ 321 → x ≠ 335 → x ≠ 336 → σ x = σ0 x) ∧ ∀ j, j ≠ 32 → σ 321 j = σ0 321 j
theorem Ext_rf {σ : jM} {q : Int} : Ext σ σ q q := ⟨Int.le_refl _, fun _ _ _ => rfl, fun _ _ => rfl, fun _ _ _ _ => rfl, fun _ _ => rfl⟩
theorem Ext_tr {σ0 σ1 σ2 : jM} {q0 q1 q2 : Int} (a : Ext σ0 σ1 q0 q1) (b : Ext σ1 σ2 q1 q2) : Ext σ0 σ2 q0 q2 :=
  ⟨by have := a.1; have := b.1; omega, fun i i0 i1 => (b.2.1 i i0 (by have := a.1; omega)).trans (a.2.1 i i0 i1), fun y hy => (b.2.2.1 y (by rw [a.2.2.1 y hy]; exact hy)).trans (a.2.2.1 y hy), fun x h1 h2 h3 => (b.2.2.2.1 x h1 h2 h3).trans (a.2.2.2.1 x h1 h2 h3), fun j hj => (b.2.2.2.2 j hj).trans (a.2.2.2.2 j hj)⟩
/-- one more -/
theorem QI_add {N : Nat} (hN : (N : Int) = 68921) {σ σ6 σ8 σ9 : jM} {q D x y : Int} (h : QI n C N σ q D) (hD : 0 ≤ D ∧ D + 1 ≤ q) (px : Pth n C D.toNat x) (ex : Ed n C x y) (iy : 0 ≤ y ∧ y < 68921) (ny : σ 335 y < 0) (e6 : σ6 = up σ 335 y (D + 1)) (e8 : σ8 = up σ6 336 q y) (e9 : σ9 = up σ8 321 32 (q + 1)) : QI n C N σ9 (q + 1) D ∧ Ext σ σ9 q (q + 1) ∧ q < 68921 := by
  obtain ⟨a1, a2, a3, a4, a5, a6⟩ := h
  have r335 : ∀ z, z ≠ y → σ9 335 z = σ 335 z := fun z hz => by rw [e9, up_row (by decide), e8, up_row (by decide), e6, up_ne (Or.inr hz)]
  have y335 : σ9 335 y = D + 1 := by rw [e9, up_row (by decide), e8, up_row (by decide), e6, up_at]
  have r336 : ∀ i, i ≠ q → σ9 336 i = σ 336 i := fun i hi => by rw [e9, up_row (by decide), e8, up_ne (Or.inr hi), e6, up_row (by decide)]
  have q336 : σ9 336 q = y := by rw [e9, up_row (by decide), e8, up_at]
  have cn : sumO (fun z => if σ9 335 z < 0 then (0 : Int) else 1) N 0 = q + 1 := by
    rw [sumO_congr (q := fun z => (if σ 335 z < 0 then (0 : Int) else 1) + (if z = y then 1 else 0)) N 0 (fun z _ _ => ?_), sumO_add, a6, sumO_pt, if_pos (by omega)]
    by_cases e : z = y
    · subst e
      rw [y335, if_neg (by omega), if_pos ny, if_pos rfl]
      rfl
    · rw [r335 z e, if_neg e]
      omega
  have le : q + 1 ≤ 68921 := by
    have := (sumO_bd (p := fun z => if σ9 335 z < 0 then (0 : Int) else 1) (B := 1) (fun z => by split <;> omega) (by decide) N 0).2
    omega
  have old : ∀ i, 0 ≤ i → i < q → σ9 336 i = σ 336 i ∧ σ9 335 (σ 336 i) = σ 335 (σ 336 i) := fun i i0 i1 => by
    refine ⟨r336 i (by omega), r335 _ (fun e => ?_)⟩
    have := (a3 i i0 i1).2.2.1
    rw [e] at this
    omega
  refine ⟨⟨⟨by omega, le⟩, by rw [e9, up_at], fun i i0 i1 => ?_, fun i j i0 ij j1 => ?_, fun z z0 z1 => ?_, cn⟩, ⟨by omega, fun i i0 i1 => (old i i0 i1).1, fun z hz => r335 z (fun e => by rw [e] at hz; omega), fun w h1 h2 h3 => by rw [e9, up_row h1, e8, up_row h3, e6, up_row h2], fun j hj => by rw [e9, up_ne (Or.inr hj), e8, up_row (by decide), e6, up_row (by decide)]⟩, by omega⟩
  · by_cases e : i = q
    · rw [e, q336, y335]
      refine ⟨iy.1, iy.2, by omega, by omega, by omega, ?_⟩
      rw [show (D + 1).toNat = D.toNat + 1 by omega, Pth]
      exact ⟨x, px, ex⟩
    · have o := old i i0 (by omega)
      rw [o.1, o.2]
      exact a3 i i0 (by omega)
  · by_cases e : j = q
    · rw [e, q336, y335]
      by_cases e2 : i = q
      · rw [e2, q336, y335]; exact Int.le_refl _
      · have o := old i i0 (by omega)
        rw [o.1, o.2]
        exact (a3 i i0 (by omega)).2.2.2.2.1
    · have o := old i i0 (by omega)
      have o' := old j (by omega) (by omega)
      rw [o.1, o.2, o'.1, o'.2]
      exact a4 i j i0 ij (by omega)
  · by_cases e : z = y
    · rw [e, y335]
      exact ⟨by omega, fun _ => ⟨q, by omega, by omega, q336⟩⟩
    · rw [r335 z e]
      refine ⟨(a5 z z0 z1).1, fun hz => ?_⟩
      obtain ⟨i, i0, i1, ei⟩ := (a5 z z0 z1).2 hz
      exact ⟨i, i0, by omega, by rw [r336 i (by omega)]; exact ei⟩
theorem m_spread {d : Nat} {Q : Int → jM → Prop} {σ : jM} {N : Nat} (hN : (N : Int) = 68921) {x q D k : Int} (hn : 1 ≤ n ∧ n ≤ 40) (hC : 1 ≤ C ∧ C ≤ 3) (hq : QI n C N σ q D) (hk : 0 ≤ k ∧ k < q ∧ σ 336 k = x ∧ σ 335 x = D) (kk : ∀ σ' q', QI n C N σ' q' D → Ext σ σ' q q' → (∀ y, Ed n C x y → 0 ≤ σ' 335 y) → Q 0 σ') : Ct mX12_spread (d + 3) 9 t [rv 321, iv x, iv n, iv C] σ Q := by
  obtain ⟨k0, k1, kx, kD⟩ := hk
  have hx := hq.2.2.1 k k0 k1
  rw [kx, kD] at hx
  obtain ⟨x0, x1, D0, Dk, _, px⟩ := hx
  have ix : 0 ≤ x ∧ x < 68921 := ⟨x0, x1⟩
  have nR : inR n := rng (by omega) (by omega)
  refine c_X12_spread ?_
  -- the places for one sum
  have inner : ∀ (P : Int → Prop) (c e v : Int), 0 ≤ c → c ≤ e → e < C → dcd x c ≠ 0 → dcd x e ≠ 0 → v = dcd x c + dcd x e → v ≤ n → (∀ τ' q', QI n C N τ' q' D → Ext σ τ' q q' → (∀ p, 0 ≤ p → p < C → 0 ≤ τ' 335 (lyd x p v)) → (∀ y, P y → 0 ≤ τ' 335 y) → Jt mX12_spread (d + 3) 9 t Q 13 [rv 321, iv x, iv n, iv C, iv c, iv (e + 1), uv, uv, uv] [] τ') → ∀ (m : Nat) (p : Int) (τ : jM) (q1 : Int), 0 ≤ p → p + m = C → QI n C N τ q1 D → Ext σ τ q q1 → (∀ y, P y → 0 ≤ τ 335 y) → (∀ p', 0 ≤ p' → p' < p → 0 ≤ τ 335 (lyd x p' v)) → Jt mX12_spread (d + 3) 9 t Q 64 [rv 321, iv x, iv n, iv C, iv c, iv e, iv v, iv p, uv] [] τ := by
    intro P c e v c0 ce eC zc ze ev vn nx m
    have dc := dcd_in (i := c) ix
    have de := dcd_in (i := e) ix
    induction m with
    | zero =>
      intro p τ q1 p0 hp hQ hE hP no
      exact b_X12_spread_64 ⟨rng (by omega) (by omega), rng (by omega) (by omega), fun _ => nx τ q1 hQ hE (fun p' a b => no p' a (by omega)) hP, fun z => absurd z (by omega)⟩
    | succ m ih =>
      intro p τ q1 p0 hp hQ hE hP no
      obtain ⟨l1, l2⟩ := lyd_in (e := p) (p := v) ix (by omega) (by omega)
      have q1le := hE.1
      have xD : τ 335 x = D := by rw [hE.2.2.1 x (by rw [kD]; exact D0)]; exact kD
      refine b_X12_spread_64 ⟨rng (by omega) (by omega), rng (by omega) (by omega), fun z => absurd z (by omega), fun _ => m_laid (d := d + 1) ix (by omega) ?_⟩
      have r5 := hQ.2.2.2.2.1 (lyd x p v) l1.1 l1.2
      have rR : inR (τ 335 (lyd x p v)) := by
        by_cases w : 0 ≤ τ 335 (lyd x p v)
        · obtain ⟨i, i0, i1, ei⟩ := r5.2 w
          have := hQ.2.2.1 i i0 i1
          rw [ei] at this
          have := hQ.1.2
          exact rng (by omega) (by omega)
        · exact rng (by omega) (by omega)
      refine ⟨⟨l1.1, l1.2⟩, rR, fun z => ⟨⟨x0, x1⟩, ⟨l1.1, l1.2⟩, fun σ6 e6 => ?_⟩, fun z => ih (p + 1) τ q1 (by omega) (by omega) hQ hE hP (fun p' a b => ?_)⟩
      · rw [xD] at e6
        have s6 : σ6 321 32 = q1 := by rw [e6, up_row (by decide)]; exact hQ.2.1
        rw [s6]
        have add := fun (σ8 σ9 : jM) (e8 : σ8 = up σ6 336 q1 (lyd x p v)) (e9 : σ9 = up σ8 321 32 (q1 + 1)) => QI_add hN hQ (x := x) (y := lyd x p v) ⟨D0, by omega⟩ px ⟨c, e, p, c0, ce, eC, p0, by omega, zc, ze, by omega, by rw [ev]⟩ l1 z e6 e8 e9
        have lt := (add _ _ rfl rfl).2.2
        refine ⟨⟨by have := hQ.1; omega, lt⟩, fun σ8 e8 σ9 e9 => ?_⟩
        have s8 : σ8 321 32 = q1 := by rw [e8, up_row (by decide)]; exact s6
        rw [s8] at e9
        obtain ⟨Q9, E9, _⟩ := add σ8 σ9 e8 e9
        refine ih (p + 1) σ9 (q1 + 1) (by omega) (by omega) Q9 (Ext_tr hE E9) (fun y hy => by rw [E9.2.2.1 y (hP y hy)]; exact hP y hy) (fun p' a b => ?_)
        by_cases w : p' = p
        · rw [w, e9, up_row (by decide), e8, up_row (by decide), e6, up_at]; omega
        · have := no p' a (by omega)
          rw [E9.2.2.1 _ this]; exact this
      · by_cases w : p' = p
        · rw [w]; exact z
        · exact no p' a (by omega)
  -- what is done ahead of (c, e)
  have mid : ∀ (c : Int), 0 ≤ c → c < C → (∀ τ' q', QI n C N τ' q' D → Ext σ τ' q q' → (∀ c' e' p, 0 ≤ c' → c' ≤ e' → e' < C → 0 ≤ p → p < C → c' < c + 1 → dcd x c' ≠ 0 → dcd x e' ≠ 0 → dcd x c' + dcd x e' ≤ n → 0 ≤ τ' 335 (lyd x p (dcd x c' + dcd x e'))) → Jt mX12_spread (d + 3) 9 t Q 3 [rv 321, iv x, iv n, iv C, iv (c + 1), uv, uv, uv, uv] [] τ') → ∀ (m : Nat) (e : Int) (τ : jM) (q1 : Int), c ≤ e → e + m = C → QI n C N τ q1 D → Ext σ τ q q1 → (∀ c' e' p, 0 ≤ c' → c' ≤ e' → e' < C → 0 ≤ p → p < C → (c' < c ∨ (c' = c ∧ e' < e)) → dcd x c' ≠ 0 → dcd x e' ≠ 0 → dcd x c' + dcd x e' ≤ n → 0 ≤ τ 335 (lyd x p (dcd x c' + dcd x e'))) → Jt mX12_spread (d + 3) 9 t Q 13 [rv 321, iv x, iv n, iv C, iv c, iv e, uv, uv, uv] [] τ := by
    intro c c0 cC nx m
    have dc := dcd_in (i := c) ix
    induction m with
    | zero =>
      intro e τ q1 ce he hQ hE dn
      exact b_X12_spread_13 ⟨rng (by omega) (by omega), rng (by omega) (by omega), fun _ => nx τ q1 hQ hE (fun c' e' p a1 a2 a3 a4 a5 a6 => dn c' e' p a1 a2 a3 a4 a5 (by omega)), fun z => absurd z (by omega)⟩
    | succ m ih =>
      intro e τ q1 ce he hQ hE dn
      have de := dcd_in (i := e) ix
      have skip : (dcd x c ≠ 0 → dcd x e ≠ 0 → dcd x c + dcd x e ≤ n → False) → Jt mX12_spread (d + 3) 9 t Q 13 [rv 321, iv x, iv n, iv C, iv c, iv (e + 1), uv, uv, uv] [] τ := fun no => ih (e + 1) τ q1 (by omega) (by omega) hQ hE (fun c' e' p a1 a2 a3 a4 a5 a6 z1 z2 z3 => by
        by_cases w : c' = c ∧ e' = e
        · rw [w.1] at z1 z3; rw [w.2] at z2 z3
          exact (no z1 z2 z3).elim
        · exact dn c' e' p a1 a2 a3 a4 a5 (by omega) z1 z2 z3)
      refine b_X12_spread_13 ⟨rng (by omega) (by omega), rng (by omega) (by omega), fun z => absurd z (by omega), fun _ => m_inPlace ix (by omega) (m_inPlace ix (by omega) (m_inPlace ix (by omega) ⟨rng (by omega) (by omega), fun z => skip (fun a _ _ => a z), fun zc => m_inPlace ix (by omega) ⟨rng (by omega) (by omega), fun z => skip (fun _ a _ => a z), fun ze => ⟨rng (by omega) (by omega), nR, fun le => ?_, fun gt => skip (fun _ _ a => by omega)⟩⟩⟩))⟩
      refine inner (fun y => ∃ c' e' p, 0 ≤ c' ∧ c' ≤ e' ∧ e' < C ∧ 0 ≤ p ∧ p < C ∧ (c' < c ∨ (c' = c ∧ e' < e)) ∧ dcd x c' ≠ 0 ∧ dcd x e' ≠ 0 ∧ dcd x c' + dcd x e' ≤ n ∧ y = lyd x p (dcd x c' + dcd x e')) c e (dcd x c + dcd x e) c0 ce (by omega) zc ze rfl le (fun τ' q' hQ' hE' hp hP => ?_) C.toNat 0 τ q1 (by omega) (by omega) hQ hE (fun y ⟨c', e', p, a1, a2, a3, a4, a5, a6, a7, a8, a9, ey⟩ => by rw [ey]; exact dn c' e' p a1 a2 a3 a4 a5 a6 a7 a8 a9) (fun p' a b => absurd b (by omega))
      refine ih (e + 1) τ' q' (by omega) (by omega) hQ' hE' (fun c' e' p a1 a2 a3 a4 a5 a6 z1 z2 z3 => ?_)
      by_cases w : c' = c ∧ e' = e
      · rw [w.1, w.2]; exact hp p a4 a5
      · exact hP _ ⟨c', e', p, a1, a2, a3, a4, a5, by omega, z1, z2, z3, rfl⟩
  have outer : ∀ (m : Nat) (c : Int) (τ : jM) (q1 : Int), 0 ≤ c → c + m = C → QI n C N τ q1 D → Ext σ τ q q1 → (∀ c' e' p, 0 ≤ c' → c' ≤ e' → e' < C → 0 ≤ p → p < C → c' < c → dcd x c' ≠ 0 → dcd x e' ≠ 0 → dcd x c' + dcd x e' ≤ n → 0 ≤ τ 335 (lyd x p (dcd x c' + dcd x e'))) → Jt mX12_spread (d + 3) 9 t Q 3 [rv 321, iv x, iv n, iv C, iv c, uv, uv, uv, uv] [] τ := by
    intro m
    induction m with
    | zero =>
      intro c τ q1 c0 hc hQ hE dn
      exact b_X12_spread_3 ⟨rng (by omega) (by omega), rng (by omega) (by omega), fun _ => kk τ q1 hQ hE (fun y ⟨c', e', p, a1, a2, a3, a4, a5, a6, a7, a8, ey⟩ => by rw [ey]; exact dn c' e' p a1 a2 a3 a4 a5 (by omega) a6 a7 a8), fun z => absurd z (by omega)⟩
    | succ m ih =>
      intro c τ q1 c0 hc hQ hE dn
      refine b_X12_spread_3 ⟨rng (by omega) (by omega), rng (by omega) (by omega), fun z => absurd z (by omega), fun _ => ?_⟩
      exact mid c c0 (by omega) (fun τ' q' hQ' hE' dn' => ih (c + 1) τ' q' (by omega) (by omega) hQ' hE' dn') (C - c).toNat c τ q1 (Int.le_refl _) (by omega) hQ hE (fun c' e' p a1 a2 a3 a4 a5 a6 => dn c' e' p a1 a2 a3 a4 a5 (by omega))
  exact outer C.toNat 0 σ q (by omega) (by omega) hq Ext_rf (fun c' e' p a1 a2 a3 a4 a5 a6 => absurd a6 (by omega))
theorem m_few {d : Nat} {Q : Int → jM → Prop} {σ : jM} (hn : 1 ≤ n ∧ n ≤ 40) (hC : 1 ≤ C ∧ C ≤ 3) (k : ∀ r σ', FvA n C r → (∀ x, x ≠ 321 → x ≠ 335 → x ≠ 336 → σ' x = σ x) → (∀ j, j ≠ 32 → σ' 321 j = σ 321 j) → Q r σ') : Ct mX12_few (d + 4) 0 t [rv 321, iv n, iv C] σ Q := by
  obtain ⟨N, hN⟩ : ∃ N : Nat, (N : Int) = 68921 := ⟨68921, rfl⟩
  have nR : inR n := rng (by omega) (by omega)
  have CR : inR C := rng (by omega) (by omega)
  refine c_X12_few (m_isIn nR ⟨by decide, by decide⟩ ⟨by decide, by decide⟩ ⟨b01_R, fun u => (by have := inB_f (b01_0.mp u); omega), fun _ => m_isIn CR ⟨by decide, by decide⟩ ⟨by decide, by decide⟩ ⟨b01_R, fun _ => ?_, fun u => (by have := inB_f (b01_0.mp u); omega)⟩⟩)
  have cover : ∀ (τ : jM) (q D : Int) (i : Int), 0 ≤ i → QI n C N τ q D → (∀ j, 0 ≤ j → j < i → (¬ HasN n (τ 336 j) ∧ ∀ y, Ed n C (τ 336 j) y → 0 ≤ τ 335 y ∧ τ 335 y ≤ τ 335 (τ 336 j) + 1)) → ∀ (j : Nat) (y : Int), Pth n C j y → (i < q → (j : Int) ≤ τ 335 (τ 336 i)) → ∃ a, 0 ≤ a ∧ a < q ∧ τ 336 a = y ∧ τ 335 y ≤ j := by
    intro τ q D i i0 hQ hcl j
    obtain ⟨a1, a2, a3, a4, a5, a6⟩ := hQ
    induction j with
    | zero =>
      intro y py _
      rw [Pth] at py
      have z := a3 0 (by omega) (by omega)
      have r0 : τ 335 (τ 336 0) = 0 := by omega
      have p0 := z.2.2.2.2.2
      rw [r0] at p0
      have p0 : Pth n C 0 (τ 336 0) := p0
      rw [Pth] at p0
      exact ⟨0, by omega, by omega, by rw [p0, py], by rw [py, ← p0, r0]; exact Int.le_refl _⟩
    | succ j ihj =>
      intro y py hj
      rw [Pth] at py
      obtain ⟨y', py', he⟩ := py
      obtain ⟨a, b1, b2, b3, b4⟩ := ihj y' py' (fun w => by have := hj w; omega)
      rcases Int.lt_or_le a i with w | w
      · have cl := (hcl a b1 w).2 y (by rw [b3]; exact he)
        have iy : 0 ≤ y ∧ y < 68921 := (Pth_in hn hC (j + 1) (by rw [Pth]; exact ⟨y', py', he⟩)).1
        obtain ⟨c, c1, c2, c3⟩ := (a5 y iy.1 iy.2).2 cl.1
        rw [b3] at cl
        exact ⟨c, c1, c2, c3, by omega⟩
      · have := hj (by omega)
        have := a4 i a i0 w b2
        rw [b3] at this
        omega
  have main : ∀ (m : Nat) (i : Int) (τ : jM) (q D : Int), 0 ≤ i → i + m = 68921 → i ≤ q → QI n C N τ q D → (i < q → D ≤ τ 335 (τ 336 i)) → (∀ j, 0 ≤ j → j < i → (¬ HasN n (τ 336 j) ∧ ∀ y, Ed n C (τ 336 j) y → 0 ≤ τ 335 y ∧ τ 335 y ≤ τ 335 (τ 336 j) + 1)) → (∀ x, x ≠ 321 → x ≠ 335 → x ≠ 336 → τ x = σ x) → (∀ j, j ≠ 32 → τ 321 j = σ 321 j) → Jt mX12_few (d + 4) 0 t Q 67 [rv 321, iv n, iv C, iv i] [] τ := by
    intro m
    have done : ∀ (i : Int) (τ : jM) (q D : Int), 0 ≤ i → i = q → QI n C N τ q D → (∀ j, 0 ≤ j → j < i → (¬ HasN n (τ 336 j) ∧ ∀ y, Ed n C (τ 336 j) y → 0 ≤ τ 335 y ∧ τ 335 y ≤ τ 335 (τ 336 j) + 1)) → (∀ x, x ≠ 321 → x ≠ 335 → x ≠ 336 → τ x = σ x) → (∀ j, j ≠ 32 → τ 321 j = σ 321 j) → Jt mX12_few (d + 4) 0 t Q 67 [rv 321, iv n, iv C, iv i] [] τ := by
      intro i τ q D i0 iq hQ hcl o1 o2
      have hq := hQ.1
      refine b_X12_few_67 ⟨rng (by omega) (by omega), ?_⟩
      rw [hQ.2.1]
      refine ⟨rng (by omega) (by omega), fun _ => k (-1) τ (FvA_none hn hC (fun j y py hy => ?_)) o1 o2, fun z => absurd z (by omega)⟩
      obtain ⟨a, b1, b2, b3, b4⟩ := cover τ q D i i0 hQ hcl j y py (fun w => by omega)
      exact (hcl a b1 (by omega)).1 (by rw [b3]; exact hy)
    induction m with
    | zero =>
      intro i τ q D i0 hi iq hQ hD hcl o1 o2
      have hq := hQ.1
      exact done i τ q D i0 (by omega) hQ hcl o1 o2
    | succ m ih =>
      intro i τ q D i0 hi iq hQ hD hcl o1 o2
      have hq := hQ.1
      rcases Int.lt_or_eq_of_le iq with lt | e
      · have qi := hQ.2.2.1 i i0 lt
        have hDi := hD lt
        -- the bound by the state at hand
        have hQ' : QI n C N τ q (τ 335 (τ 336 i)) := ⟨hQ.1, hQ.2.1, fun j j0 j1 => by
          have := hQ.2.2.1 j j0 j1
          exact ⟨this.1, this.2.1, this.2.2.1, this.2.2.2.1, by omega, this.2.2.2.2.2⟩, hQ.2.2.2⟩
        refine b_X12_few_67 ⟨rng (by omega) (by omega), ?_⟩
        rw [hQ.2.1]
        refine ⟨rng (by omega) (by omega), fun z => absurd z (by omega), fun _ => ⟨⟨i0, by omega⟩, m_standsIn (d := d + 2) hn ⟨qi.1, qi.2.1⟩ (fun hx => ⟨⟨by decide, by decide⟩, fun z => absurd z (by decide), fun _ => ⟨⟨i0, by omega⟩, ⟨qi.1, qi.2.1⟩, ?_⟩⟩) (fun hx => ⟨in0, fun _ => ⟨⟨i0, by omega⟩, ?_⟩, fun z => absurd rfl z⟩)⟩⟩
        · obtain ⟨D', eD⟩ : ∃ D' : Nat, τ 335 (τ 336 i) = (D' : Int) := ⟨(τ 335 (τ 336 i)).toNat, by omega⟩
          refine k _ τ ?_ o1 o2
          rw [eD]
          have px := qi.2.2.2.2.2
          rw [eD, Int.toNat_natCast] at px
          refine FvA_q hn hC px hx (fun j y hj py hy => ?_)
          obtain ⟨a, b1, b2, b3, b4⟩ := cover τ q D i i0 hQ hcl j y py (fun w => by omega)
          rcases Int.lt_or_le a i with w | w
          · exact (hcl a b1 w).1 (by rw [b3]; exact hy)
          · have := hQ.2.2.2.1 i a i0 w b2
            rw [b3] at this
            omega
        · refine m_spread (d := d) hN (k := i) hn hC hQ' ⟨i0, lt, rfl, rfl⟩ (fun σ' q' hQ2 hE hS => ?_)
          obtain ⟨E1, E2, E3, E4, E5⟩ := hE
          have same : ∀ j, 0 ≤ j → j < q → σ' 336 j = τ 336 j ∧ σ' 335 (τ 336 j) = τ 335 (τ 336 j) := fun j j0 j1 => ⟨E2 j j0 j1, E3 _ (hQ.2.2.1 j j0 j1).2.2.1⟩
          refine ih (i + 1) σ' q' (τ 335 (τ 336 i)) (by omega) (by omega) (by omega) hQ2 (fun w => ?_) (fun j j0 j1 => ?_) (fun x h1 h2 h3 => by rw [E4 x h1 h2 h3]; exact o1 x h1 h2 h3) (fun j hj => by rw [E5 j hj]; exact o2 j hj)
          · have := hQ2.2.2.2.1 i (i + 1) i0 (by omega) w
            rw [(same i i0 lt).1, (same i i0 lt).2] at this
            exact this
          · have sj := same j j0 (by omega)
            rw [sj.1, sj.2]
            by_cases w : j = i
            · rw [w]
              refine ⟨hx, fun y hy => ?_⟩
              have p := hS y hy
              have iy : 0 ≤ y ∧ y < 68921 := (Pth_in hn hC ((τ 335 (τ 336 i)).toNat + 1) (by rw [Pth]; exact ⟨τ 336 i, qi.2.2.2.2.2, hy⟩)).1
              obtain ⟨a, b1, b2, b3⟩ := (hQ2.2.2.2.2.1 y iy.1 iy.2).2 p
              have := (hQ2.2.2.1 a b1 b2).2.2.2.2.1
              rw [b3] at this
              exact ⟨p, this⟩
            · have cl := hcl j j0 (by omega)
              refine ⟨cl.1, fun y hy => ?_⟩
              have := cl.2 y hy
              rw [E3 y this.1]
              exact this
      · exact done i τ q D i0 e hQ hcl o1 o2
  -- all is wiped out first
  have wipe : ∀ (m : Nat) (v : Int) (τ : jM), 0 ≤ v → v + m = 68921 → (∀ x, x ≠ 335 → τ x = σ x) → (∀ y, 0 ≤ y → y < v → τ 335 y = -1) → Jt mX12_few (d + 4) 0 t Q 23 [rv 321, iv n, iv C, iv v] [] τ := by
    intro m
    induction m with
    | zero =>
      intro v τ v0 hv ot h
      refine b_X12_few_23 ⟨rng (by omega) (by omega), fun _ => ⟨by omega, fun σ3 e3 => ⟨by omega, fun σ5 e5 σ6 e6 => ?_⟩⟩, fun z => absurd z (by omega)⟩
      have r335 : ∀ y, y ≠ 1681 → σ6 335 y = τ 335 y := fun y hy => by rw [e6, up_row (by decide), e5, up_ne (Or.inr hy), e3, up_row (by decide)]
      have z335 : σ6 335 1681 = 0 := by rw [e6, up_row (by decide), e5, up_at]
      have z336 : σ6 336 0 = 1681 := by rw [e6, up_row (by decide), e5, up_row (by decide), e3, up_at]
      have q0 : QI n C N σ6 1 0 := by
        refine ⟨by omega, by rw [e6, up_at], fun i i0 i1 => ?_, fun i j i0 ij j1 => ?_, fun y y0 y1 => ?_, ?_⟩
        · have : i = 0 := by omega
          subst this
          rw [z336, z335]
          exact ⟨by omega, by omega, by omega, by omega, by omega, rfl⟩
        · have : i = j := by omega
          rw [this]; exact Int.le_refl _
        · by_cases e : y = 1681
          · rw [e, z335]; exact ⟨by omega, fun _ => ⟨0, by omega, by omega, z336⟩⟩
          · rw [r335 y e, h y y0 (by omega)]
            exact ⟨by omega, fun w => by omega⟩
        · rw [sumO_congr (q := fun z => if z = 1681 then (1 : Int) else 0) N 0 (fun z z0 z1 => ?_), sumO_pt, if_pos (by omega)]
          by_cases e : z = 1681
          · rw [e, z335, if_pos rfl]; rfl
          · rw [r335 z e, h z z0 (by omega), if_neg e]; rfl
      have := main N 0 σ6 1 0 (by omega) (by omega) (by omega) q0 (fun _ => by rw [z336, z335]; exact Int.le_refl _) (fun j j0 j1 => absurd j1 (by omega)) (fun x h1 h2 h3 => by rw [e6, up_row h1, e5, up_row h2, e3, up_row h3]; exact ot x h2) (fun j hj => by rw [e6, up_ne (Or.inr hj), e5, up_row (by decide), e3, up_row (by decide), ot 321 (by decide)])
      exact this
    | succ m ih =>
      intro v τ v0 hv ot h
      refine b_X12_few_23 ⟨rng (by omega) (by omega), fun z => absurd z (by omega), fun _ => ⟨by omega, fun σ8 e8 => ?_⟩⟩
      refine ih (v + 1) σ8 (by omega) (by omega) (fun x hx => by rw [e8, up_row hx]; exact ot x hx) (fun y y0 y1 => ?_)
      by_cases e : y = v
      · rw [e8, up_eq rfl e]
      · rw [e8, up_ne (Or.inr e)]; exact h y y0 (by omega)
  exact wipe N 0 σ (by omega) (by omega) (fun _ _ => rfl) (fun y y0 y1 => absurd y1 (by omega))
theorem I0_321 {σ σ' : jM} (I : I0 L σ) (e : ∀ x, x ≠ 321 → (x ≤ 274 ∨ (293 ≤ x ∧ x ≤ 325)) → σ' x = σ x) (e2 : ∀ j, (j = 4 ∨ j = 5 ∨ j = 6 ∨ j = 23) → σ' 321 j = σ 321 j) : I0 L σ' := by
  obtain ⟨⟨w1, w2, v1, v2, w3⟩, ⟨t1, t2, t3, t4⟩, f, b⟩ := I
  have hn4 : σ 322 0 ≤ 4 := v1.2.2.2.2.2.1.2
  have tx : ∀ x, 293 ≤ x → x ≤ 320 → σ' x = σ x := fun x x0 x1 => e x (by omega) (by omega)
  have e322 := e 322 (by decide) (by omega)
  have e323 := e 323 (by decide) (by omega)
  have e324 := e 324 (by decide) (by omega)
  refine ⟨⟨?_, ?_, ?_, ?_, ?_⟩, ⟨?_, ?_, ?_, ?_⟩, ?_, ?_⟩
  · rw [e322]; exact WR_same w1 (fun x x0 x1 => e x (by omega) (by omega))
  · rw [e323]; exact WR_same w2 (fun x x0 x1 => e x (by omega) (by omega))
  · rw [e322]; exact v1
  · rw [e323]; exact v2
  · rw [e322, e323]; exact w3
  · rw [e322]; exact TxC_same t1 hn4 tx
  · rw [e322]; exact TxM_same t2 e324
  · rw [e322]; exact t3
  · rw [e322]; exact CLs_same t4 hn4 tx e324
  · unfold IF
    rw [e 271 (by decide) (by omega), e 272 (by decide) (by omega), e 325 (by decide) (by omega), e2 4 (by omega), e2 5 (by omega), e2 6 (by omega)]
    exact f
  · rw [e2 23 (by omega)]; exact b
theorem a_few {a b : Int} {σ : jM} (d : Nat) (I : I0 L σ) (hK : K1 σ) (hR : KR σ) (hS : KS σ) (ha : inR a) (hb : inR b) {Q : Int → jM → Prop} (k : ∀ r σ1, inR r → (∀ (d2 : Nat) Q2, (∀ r' σ2, r' = r → I0 L σ2 → K1 σ2 → KR σ2 → KS σ2 → (∀ x, (x = 291 ∨ x = 338) → σ2 x = σ x) → Q2 r' σ2) → Ct mX12_few (d2 + 11) 0 t [rv 321, iv a, iv b] σ1 Q2) → Q r σ1) : Ct mX11_few (d + 50) 0 t [rv 1, iv a, iv b] σ Q := by
  have bad : (a < 1 ∨ 40 < a ∨ b < 1 ∨ 3 < b) → Q (-1) σ := fun hbad => k _ σ ⟨by decide, by decide⟩ (fun d2 Q2 k2 => by
    have fin := k2 (-1) σ rfl I hK hR hS (fun _ _ => rfl)
    refine c_X12_few (m_isIn ha ⟨by decide, by decide⟩ ⟨by decide, by decide⟩ ⟨b01_R, fun _ => fin, fun z => m_isIn hb ⟨by decide, by decide⟩ ⟨by decide, by decide⟩ ⟨b01_R, fun y => ?_, fun _ => fin⟩⟩)
    have := inB_t (b01_1 z)
    have := inB_t (b01_1 y)
    omega)
  refine c_X11_few ⟨ha, fun z => bad (by omega), fun a1 => ⟨ha, fun z => bad (by omega), fun a2 => ⟨hb, fun z => bad (by omega), fun b1 => ⟨hb, fun b2 => ?_, fun z => bad (by omega)⟩⟩⟩⟩
  refine q_jn (d := d + 20) ⟨a1, by omega⟩ hK (fun g σ1 hL hrw K1' o1 => ?_)
  refine h_halves ha (fun z => by omega) (fun _ _ => ?_)
  refine h_joiningsF (d := d + 3) ⟨a1, a2⟩ ⟨b1, b2⟩ (fun m c m0 m1 c0 c1 => by rw [o1 288 (by omega)]; exact hS m c m0 m1 c0 c1) (fun r σ2 hr S2 o2 => ?_)
  have rR := FvA_R ⟨a1, a2⟩ ⟨b1, b2⟩ hr
  refine k r σ2 (rng (by omega) (by omega)) (fun d2 Q2 k2 => ?_)
  refine m_few (d := d2 + 7) ⟨a1, a2⟩ ⟨b1, b2⟩ (fun r' σ3 hr' o3 p3 => k2 r' σ3 (Fv_uq hr' hr) (I0_321 I (fun x hx h => by rw [o3 x hx (by omega) (by omega), o2 x (by omega) (by omega) (by omega), o1 x (by omega)]) (fun j hj => by rw [p3 j (by omega), o2 321 (by decide) (by decide) (by decide), o1 321 (by omega)])) (K1_same K1' (fun x x0 x1 => by rw [o3 x (by omega) (by omega) (by omega), o2 x (by omega) (by omega) (by omega)])) (KR_same hR (by rw [o3 332 (by decide) (by decide) (by decide), o2 332 (by decide) (by decide) (by decide), o1 332 (by omega)])) (fun m c m0 m1 c0 c1 => by rw [o3 288 (by decide) (by decide) (by decide)]; exact S2 m c m0 m1 c0 c1) (fun x hx => by rw [o3 x (by omega) (by omega) (by omega), o2 x (by omega) (by omega) (by omega), o1 x (by omega)]))
end BQ
