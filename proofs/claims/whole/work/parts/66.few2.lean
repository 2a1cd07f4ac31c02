/-! ===== few: the class's shelf, the reference's queue ===== -/
theorem hv40 : ∀ m : Fin 41, 0 ≤ hvF 20 (m.val : Int) ∧ hvF 20 (m.val : Int) ≤ 10 := by decide +kernel
theorem hv_le {n : Int} (h : 1 ≤ n ∧ n ≤ 40) : 0 ≤ hvF 20 n ∧ hvF 20 n ≤ 10 := by
  have := hv40 ⟨n.toNat, by omega⟩
  simp only at this
  rw [show ((n.toNat : Nat) : Int) = n by omega] at this
  exact this
theorem FvA_R {n C r : Int} (hn : 1 ≤ n ∧ n ≤ 40) (hC : 1 ≤ C ∧ C ≤ 3) (h : FvA n C r) : -1 ≤ r ∧ r ≤ 40 := by
  rcases h with ⟨_, e⟩ | ⟨n2, ⟨l, e, g, no⟩ | ⟨e, _⟩⟩
  · omega
  · have gh := Gf_hv ⟨n2, hn.2⟩ hC g
    have hv := hv_le hn
    rcases Nat.lt_or_ge (hvF 20 n).toNat l with q | q
    · exact absurd gh (no _ q)
    · omega
  · omega
def KS (σ : jM) : Prop := ∀ n c, 1 ≤ n → n ≤ 40 → 1 ≤ c → c ≤ 3 → (σ 288 (n * 4 + c) = -2 ∨ FvA n c (σ 288 (n * 4 + c)))
section SQ
variable {t : Int} {n C : Int}
theorem h_soughtF {d : Nat} {Q : Int → jM → Prop} {σ : jM} (hn : 1 ≤ n ∧ n ≤ 40) (hC : 1 ≤ C ∧ C ≤ 3) (k : ∀ r σ', FvA n C r → (∀ x, x ≠ 287 → x ≠ 289 → σ' x = σ x) → Q r σ') : Ct mX4_sought (d + 45) 0 t [rv 287, iv n, iv C, iv (fw n : Int), iv (hvF 20 n)] σ Q := by
  have hv := hv_le hn
  obtain ⟨gf, f9, hL⟩ := fw_ok (n := n) (by omega)
  refine c_X4_sought (fun σ1 e1 σ2 e2 => ?_)
  have s3 : σ2 287 3 = n := by rw [e2, up_ne (by decide), e1, up_at]
  have s2 : σ2 287 2 = C := by rw [e2, up_at]
  have o2 : ∀ x, x ≠ 287 → x ≠ 289 → σ2 x = σ x := fun x h1 _ => by rw [e2, up_row h1, e1, up_row h1]
  -- one number of joinings
  have reset : ∀ (m : Nat) (τ : jM), (∀ x, x ≠ 289 → τ x = σ2 x) → (∀ τ', (∀ x, x ≠ 289 → τ' x = σ2 x) → (∀ i, 0 ≤ i → i < 3 → τ' 289 i = ini i) → Jt mX4_sought (d + 45) 0 t Q 23 [rv 287, iv n, iv C, iv (fw n : Int), iv (hvF 20 n), iv (m : Int), iv 3] [] τ') → ∀ (c : Nat) (i : Int) (τ : jM), 0 ≤ i → i + c = 3 → (∀ x, x ≠ 289 → τ x = σ2 x) → (∀ j, 0 ≤ j → j < i → τ 289 j = ini j) → Jt mX4_sought (d + 45) 0 t Q 23 [rv 287, iv n, iv C, iv (fw n : Int), iv (hvF 20 n), iv (m : Int), iv i] [] τ := by
    intro m _ _ fin c
    induction c with
    | zero =>
      intro i τ i0 hi ot h
      have e : i = 3 := by omega
      subst e
      exact fin τ ot h
    | succ c ih =>
      intro i τ i0 hi ot h
      have nx : ∀ (b : Int) (σ7 : jM), b = ini i → σ7 = up τ 289 i b → Jt mX4_sought (d + 45) 0 t Q 23 [rv 287, iv n, iv C, iv (fw n : Int), iv (hvF 20 n), iv (m : Int), iv (i + 1)] [] σ7 := fun b σ7 hb e7 => by
        refine ih (i + 1) σ7 (by omega) (by omega) (fun x hx => by rw [e7, up_row hx]; exact ot x hx) (fun j j0 j1 => ?_)
        by_cases q : j = i
        · rw [e7, up_eq rfl q, hb, q]
        · rw [e7, up_ne (Or.inr q)]; exact h j j0 (by omega)
      exact b_X4_sought_23 ⟨rng (by omega) (by omega), fun z => absurd z (by omega), fun _ => ⟨rng (by omega) (by omega), fun z => ⟨by omega, fun σ7 e7 => nx 0 σ7 (by unfold ini; rw [if_neg z]) e7⟩, fun z => ⟨by omega, fun σ7 e7 => nx 1 σ7 (by unfold ini; rw [if_pos z]) e7⟩⟩⟩
  by_cases n1 : n = 1
  · -- one pound stands there
    have f0 : fw n = 0 := by
      have := Lst_chB (n := n) (by omega) hL (j := 0) ⟨f1, Pre_f1, by rw [n1]; rfl⟩
      omega
    have h0 : hvF 20 n = 0 := by rw [n1]; rfl
    rw [f0, h0] at reset ⊢
    refine b_X4_sought_13 ⟨in0, in0, fun z => absurd z (by decide), fun _ => ?_⟩
    refine reset 0 σ2 (fun _ _ => rfl) (fun τ' ot h => b_X4_sought_23 ⟨⟨by decide, by decide⟩, fun _ => ⟨in0, fun _ => k 0 τ' (Or.inl ⟨n1, rfl⟩) (fun x x1 x2 => by rw [ot x x2]; exact o2 x x1 x2), fun z => absurd rfl z⟩, fun z => absurd z (by decide)⟩) 3 0 σ2 (by omega) (by omega) (fun _ _ => rfl) (fun j j0 j1 => absurd j1 (by omega))
  · have n2 : 2 ≤ n := by omega
    have loop : ∀ (c m : Nat) (τ : jM), (m : Int) + c = hvF 20 n + 1 → 1 ≤ m → (∀ x, x ≠ 289 → τ x = σ2 x) → (∀ j, j < m → ¬ Gf n C j ini) → Jt mX4_sought (d + 45) 0 t Q 13 [rv 287, iv n, iv C, iv (fw n : Int), iv (hvF 20 n), iv (m : Int), uv] [] τ := by
      intro c
      induction c with
      | zero =>
        intro m τ hm m1 ot no
        refine b_X4_sought_13 ⟨rng (by omega) (by omega), rng (by omega) (by omega), fun _ => k (-1) τ (Or.inr ⟨n2, Or.inr ⟨rfl, fun l g => ?_⟩⟩) (fun x x1 x2 => by rw [ot x x2]; exact o2 x x1 x2), fun z => absurd z (by omega)⟩
        exact no _ (by omega) (Gf_hv ⟨n2, hn.2⟩ hC g)
      | succ c ih =>
        intro m τ hm m1 ot no
        refine b_X4_sought_13 ⟨rng (by omega) (by omega), rng (by omega) (by omega), fun z => absurd z (by omega), fun _ => ?_⟩
        refine reset m τ ot (fun τ' ot' h => b_X4_sought_23 ⟨⟨by decide, by decide⟩, fun _ => ⟨rng (by omega) (by omega), fun z => absurd z (by omega), fun _ => ?_⟩, fun z => absurd z (by decide)⟩) 3 0 τ (by omega) (by omega) ot (fun j j0 j1 => absurd j1 (by omega))
        have gc : Gf n C m (τ' 289) ↔ Gf n C m ini := Gf_congr hC (fun i i0 i1 => h i i0 (by omega))
        refine Ct_le (d := d + 2 * m + 1) (h_reachF (t := t) (n := n) (C := C) ⟨n2, hn.2⟩ hC m (d := d) (by omega) (by rw [ot' 287 (by decide)]; exact s2) (by rw [ot' 287 (by decide)]; exact s3) (fun i i0 i1 => by
          rw [h i i0 (by omega)]
          unfold ini
          split <;> omega) (fun g => ⟨⟨by decide, by decide⟩, fun q => absurd q (by decide), fun _ => k m τ' (Or.inr ⟨n2, Or.inl ⟨m, rfl, gc.mp g, no⟩⟩) (fun x x1 x2 => by rw [ot' x x2]; exact o2 x x1 x2)⟩) (fun g => ⟨in0, fun _ => ?_, fun q => absurd rfl q⟩)) (by omega)
        have := ih (m + 1) τ' (by omega) (by omega) ot' (fun j hj => by
          rcases Nat.lt_or_ge j m with w | w
          · exact no j w
          · rw [show j = m by omega]; exact fun q => g (gc.mpr q))
        rw [show ((m + 1 : Nat) : Int) = (m : Int) + 1 by omega] at this
        exact this
    have f1' : 1 ≤ fw n := by
      obtain ⟨p, ok⟩ := Lst_Pre (by omega) hL
      rcases Nat.eq_zero_or_pos (fw n) with q | q
      · have h := ok.1
        rw [q] at h
        have h0 : gf 0 = n := h
        rw [p.1] at h0
        omega
      · exact q
    have noF : ∀ j, j < fw n → ¬ Gf n C j ini := fun j hj g => by have := Gf_fw ⟨n2, hn.2⟩ g; omega
    rcases Int.lt_or_le (hvF 20 n) (fw n : Int) with q | q
    · refine b_X4_sought_13 ⟨rng (by omega) (by omega), rng (by omega) (by omega), fun _ => k (-1) σ2 (Or.inr ⟨n2, Or.inr ⟨rfl, fun l g => ?_⟩⟩) o2, fun z => absurd z (by omega)⟩
      exact noF _ (by omega) (Gf_hv ⟨n2, hn.2⟩ hC g)
    · exact loop (hvF 20 n + 1 - (fw n : Int)).toNat (fw n) σ2 (by omega) f1' (fun _ _ => rfl) noF
theorem h_joiningsF {d : Nat} {Q : Int → jM → Prop} {σ : jM} (hn : 1 ≤ n ∧ n ≤ 40) (hC : 1 ≤ C ∧ C ≤ 3) (hS : KS σ) (k : ∀ r σ', FvA n C r → KS σ' → (∀ x, x ≠ 287 → x ≠ 288 → x ≠ 289 → σ' x = σ x) → Q r σ') : Ct mX4_joiningsOf (d + 46) 0 t [rv 287, iv n, iv C, iv (fw n : Int), iv (hvF 20 n)] σ Q := by
  refine c_X4_joiningsOf ⟨by omega, ?_⟩
  have seek : Ct mX4_sought (d + 45) 0 t [rv 287, iv n, iv C, iv (fw n : Int), iv (hvF 20 n)] σ (fun r2 σ2 => (((0 : Int) ≤ ((n * 4) + C) ∧ ((n * 4) + C) < 164) ∧ (∀ σ4 : jM, σ4 = up σ2 288 ((n * 4) + C) r2 → (((0 : Int) ≤ ((n * 4) + C) ∧ ((n * 4) + C) < 164) ∧ (Q (σ4 288 ((n * 4) + C)) σ4))))) := h_soughtF (d := d) hn hC (fun r σ2 hr o2 => ⟨by omega, fun σ4 e4 => ⟨by omega, by
      rw [show σ4 288 (n * 4 + C) = r by rw [e4, up_at]]
      refine k r σ4 hr (fun m c m0 m1 c0 c1 => ?_) (fun x h1 h2 h3 => by rw [e4, up_row h2]; exact o2 x h1 h3)
      by_cases q : m * 4 + c = n * 4 + C
      · have em : m = n := by omega
        have ec : c = C := by omega
        subst em
        subst ec
        rw [e4, up_at]
        exact Or.inr hr
      · rw [e4, up_ne (Or.inr q), o2 288 (by decide) (by decide)]
        exact hS m c m0 m1 c0 c1⟩⟩)
  rcases hS n C hn.1 hn.2 hC.1 hC.2 with e | e
  · rw [e]
    exact ⟨⟨by decide, by decide⟩, fun z => absurd rfl z, fun _ => seek⟩
  · have := FvA_R hn hC e
    exact ⟨rng (by omega) (by omega), fun _ => ⟨by omega, k _ σ e hS (fun _ _ _ _ => rfl)⟩, fun _ => seek⟩
end SQ
/-! ===== states as numbers ===== -/
def dcd (x i : Int) : Int := if i = 0 then x / 1681 else if i = 1 then x / 41 % 41 else x % 41
def lyd (x e p : Int) : Int := x + (p - dcd x e) * (if e = 0 then 1681 else if e = 1 then 41 else 1)
theorem dcd_in {x i : Int} (h : 0 ≤ x ∧ x < 68921) : 0 ≤ dcd x i ∧ dcd x i ≤ 40 := by
  unfold dcd
  split
  · omega
  · split <;> omega
theorem i3 {i : Int} (h0 : 0 ≤ i) (h1 : i < 3) : i = 0 ∨ i = 1 ∨ i = 2 := by omega
theorem lyd_in {x e p : Int} (h : 0 ≤ x ∧ x < 68921) (he : 0 ≤ e ∧ e < 3) (hp : 0 ≤ p ∧ p ≤ 40) : (0 ≤ lyd x e p ∧ lyd x e p < 68921) ∧ ∀ i, 0 ≤ i → i < 3 → dcd (lyd x e p) i = if i = e then p else dcd x i := by
  rcases i3 he.1 he.2 with rfl | rfl | rfl
  · have hl : lyd x 0 p = x + (p - x / 1681) * 1681 := rfl
    rw [hl]
    refine ⟨by omega, fun i i0 i1 => ?_⟩
    rcases i3 i0 i1 with rfl | rfl | rfl
    · show (x + (p - x / 1681) * 1681) / 1681 = p
      omega
    · show (x + (p - x / 1681) * 1681) / 41 % 41 = x / 41 % 41
      omega
    · show (x + (p - x / 1681) * 1681) % 41 = x % 41
      omega
  · have hl : lyd x 1 p = x + (p - x / 41 % 41) * 41 := rfl
    rw [hl]
    refine ⟨by omega, fun i i0 i1 => ?_⟩
    rcases i3 i0 i1 with rfl | rfl | rfl
    · show (x + (p - x / 41 % 41) * 41) / 1681 = x / 1681
      omega
    · show (x + (p - x / 41 % 41) * 41) / 41 % 41 = p
      omega
    · show (x + (p - x / 41 % 41) * 41) % 41 = x % 41
      omega
  · have hl : lyd x 2 p = x + (p - x % 41) * 1 := rfl
    rw [hl]
    refine ⟨by omega, fun i i0 i1 => ?_⟩
    rcases i3 i0 i1 with rfl | rfl | rfl
    · show (x + (p - x % 41) * 1) / 1681 = x / 1681
      omega
    · show (x + (p - x % 41) * 1) / 41 % 41 = x / 41 % 41
      omega
    · show (x + (p - x % 41) * 1) % 41 = p
      omega
def Ed (n C x y : Int) : Prop := ∃ c d e, 0 ≤ c ∧ c ≤ d ∧ d < C ∧ 0 ≤ e ∧ e < C ∧ dcd x c ≠ 0 ∧ dcd x d ≠ 0 ∧ dcd x c + dcd x d ≤ n ∧ y = lyd x e (dcd x c + dcd x d)
def Pth (n C : Int) : Nat → Int → Prop
  | 0, x => x = 1681
  | j + 1, x => ∃ y, Pth n C j y ∧ Ed n C y x
section PT
variable {n C : Int}
theorem Pth_in (hn : 1 ≤ n ∧ n ≤ 40) (hC : 1 ≤ C ∧ C ≤ 3) : ∀ (j : Nat) {x : Int}, Pth n C j x → (0 ≤ x ∧ x < 68921) ∧ ∀ i, C ≤ i → i < 3 → dcd x i = 0
  | 0, x, h => by
    rw [Pth] at h
    subst h
    refine ⟨by omega, fun i i0 i1 => ?_⟩
    rcases i3 (show 0 ≤ i by omega) i1 with rfl | rfl | rfl
    · omega
    · decide
    · decide
  | j + 1, x, h => by
    rw [Pth] at h
    obtain ⟨y, py, c, d, e, a1, a2, a3, a4, a5, a6, a7, a8, rfl⟩ := h
    obtain ⟨iy, zy⟩ := Pth_in hn hC j py
    have dc := dcd_in (i := c) iy
    have dd := dcd_in (i := d) iy
    obtain ⟨l1, l2⟩ := lyd_in (e := e) (p := dcd y c + dcd y d) iy (by omega) (by omega)
    refine ⟨l1, fun i i0 i1 => ?_⟩
    rw [l2 i (by omega) i1, if_neg (by omega)]
    exact zy i i0 i1
/-- a step of the queue is a joining -/
theorem Gf_Ed (hn : 1 ≤ n ∧ n ≤ 40) (hC : 1 ≤ C ∧ C ≤ 3) {x y : Int} {l : Nat} (ix : 0 ≤ x ∧ x < 68921) (h : Ed n C x y) (g : Gf n C l (dcd y)) : Gf n C (l + 1) (dcd x) := by
  obtain ⟨c, d, e, a1, a2, a3, a4, a5, a6, a7, a8, rfl⟩ := h
  have dc := dcd_in (i := c) ix
  have dd := dcd_in (i := d) ix
  obtain ⟨l1, l2⟩ := lyd_in (e := e) (p := dcd x c + dcd x d) ix (by omega) (by omega)
  rw [Gf]
  refine ⟨c, d, a1, a2, a3, a6, a7, ?_⟩
  by_cases q : dcd x c + dcd x d = n
  · exact Or.inl q
  · refine Or.inr ⟨by omega, e, a4, a5, ?_⟩
    rw [← Gf_congr hC (s := dcd (lyd x e (dcd x c + dcd x d))) (fun i i0 i1 => ?_)]
    · exact g
    · rw [l2 i i0 (by omega)]
      by_cases ie : i = e
      · rw [if_pos ie, wr_eq ie]
      · rw [if_neg ie, wr_ne ie]
theorem Gf_Pth (hn : 1 ≤ n ∧ n ≤ 40) (hC : 1 ≤ C ∧ C ≤ 3) : ∀ (j : Nat) {x : Int} {l : Nat}, Pth n C j x → Gf n C l (dcd x) → Gf n C (l + j) ini
  | 0, x, l, h, g => by
    rw [Pth] at h
    subst h
    rw [Nat.add_zero, ← Gf_congr hC (s := dcd 1681) (fun i i0 i1 => ?_)]
    · exact g
    · rcases i3 i0 (show i < 3 by omega) with rfl | rfl | rfl <;> decide
  | j + 1, x, l, h, g => by
    rw [Pth] at h
    obtain ⟨y, py, he⟩ := h
    have := Gf_Pth hn hC j py (Gf_Ed hn hC (Pth_in hn hC j py).1 he g)
    rw [show l + (j + 1) = l + 1 + j by omega]
    exact this
def HasN (n x : Int) : Prop := ∃ i, 0 ≤ i ∧ i < 3 ∧ dcd x i = n
theorem Gf_of_has (hn : 2 ≤ n ∧ n ≤ 40) (hC : 1 ≤ C ∧ C ≤ 3) : ∀ (j : Nat) {x : Int}, Pth n C j x → HasN n x → Gf n C j ini
  | 0, x, h, hx => by
    rw [Pth] at h
    subst h
    obtain ⟨i, i0, i1, e⟩ := hx
    rcases i3 i0 i1 with rfl | rfl | rfl
    · have e : (1 : Int) = n := e; omega
    · have e : (0 : Int) = n := e; omega
    · have e : (0 : Int) = n := e; omega
  | j + 1, x, h, hx => by
    rw [Pth] at h
    obtain ⟨y, py, he⟩ := h
    have iy := (Pth_in (by omega) hC j py).1
    by_cases hy : HasN n y
    · exact Gf_succ j (Gf_of_has hn hC j py hy)
    · obtain ⟨c, d, e, a1, a2, a3, a4, a5, a6, a7, a8, rfl⟩ := he
      have dc := dcd_in (i := c) iy
      have dd := dcd_in (i := d) iy
      obtain ⟨l1, l2⟩ := lyd_in (e := e) (p := dcd y c + dcd y d) iy (by omega) (by omega)
      obtain ⟨i, i0, i1, ei⟩ := hx
      rw [l2 i i0 i1] at ei
      by_cases ie : i = e
      · rw [if_pos ie] at ei
        have : Gf n C 1 (dcd y) := by
          rw [Gf]
          exact ⟨c, d, a1, a2, a3, a6, a7, Or.inl ei⟩
        have := Gf_Pth (by omega) hC j py this
        rw [Nat.add_comm] at this
        exact this
      · rw [if_neg ie] at ei
        exact absurd ⟨i, i0, i1, ei⟩ hy
theorem has_of_Gf (hn : 1 ≤ n ∧ n ≤ 40) (hC : 1 ≤ C ∧ C ≤ 3) : ∀ (l : Nat) {x : Int} {j : Nat}, Pth n C j x → Gf n C l (dcd x) → ∃ j' y, j' ≤ j + l ∧ Pth n C j' y ∧ HasN n y
  | 0, x, j, _, g => by rw [Gf] at g; exact g.elim
  | l + 1, x, j, h, g => by
    rw [Gf] at g
    obtain ⟨c, d, a1, a2, a3, a4, a5, g⟩ := g
    have ix := (Pth_in hn hC j h).1
    have dc := dcd_in (i := c) ix
    have dd := dcd_in (i := d) ix
    rcases g with g | ⟨g, e, e0, e1, g2⟩
    · obtain ⟨l1, l2⟩ := lyd_in (e := 0) (p := dcd x c + dcd x d) ix (by omega) (by omega)
      refine ⟨j + 1, lyd x 0 (dcd x c + dcd x d), by omega, ?_, 0, by omega, by omega, ?_⟩
      · rw [Pth]
        exact ⟨x, h, c, d, 0, a1, a2, a3, by omega, by omega, a4, a5, by omega, rfl⟩
      · rw [l2 0 (by omega) (by omega), if_pos rfl]; exact g
    · obtain ⟨l1, l2⟩ := lyd_in (e := e) (p := dcd x c + dcd x d) ix (by omega) (by omega)
      have py : Pth n C (j + 1) (lyd x e (dcd x c + dcd x d)) := by
        rw [Pth]
        exact ⟨x, h, c, d, e, a1, a2, a3, e0, e1, a4, a5, by omega, rfl⟩
      obtain ⟨j', y, x1, x2, x3⟩ := has_of_Gf hn hC l py (by
        rw [Gf_congr hC (u := wr (dcd x) e (dcd x c + dcd x d)) (fun i i0 i1 => ?_)]
        · exact g2
        · rw [l2 i i0 (by omega)]
          by_cases ie : i = e
          · rw [if_pos ie, wr_eq ie]
          · rw [if_neg ie, wr_ne ie])
      exact ⟨j', y, by omega, x2, x3⟩
/-- what the queue finds is what few answers -/
theorem FvA_q (hn : 1 ≤ n ∧ n ≤ 40) (hC : 1 ≤ C ∧ C ≤ 3) {D : Nat} {x : Int} (px : Pth n C D x) (hx : HasN n x) (no : ∀ j y, j < D → Pth n C j y → ¬ HasN n y) : FvA n C D := by
  by_cases n1 : n = 1
  · left
    refine ⟨n1, ?_⟩
    rcases Nat.eq_zero_or_pos D with q | q
    · omega
    · exact absurd ⟨0, by omega, by omega, by rw [n1]; decide⟩ (no 0 1681 q (by rw [Pth]))
  · right
    refine ⟨by omega, Or.inl ⟨D, rfl, Gf_of_has ⟨by omega, hn.2⟩ hC D px hx, fun j hj g => ?_⟩⟩
    have g' : Gf n C j (dcd 1681) := by
      rw [Gf_congr hC (u := ini) (fun i i0 i1 => ?_)]
      · exact g
      · rcases i3 i0 (show i < 3 by omega) with rfl | rfl | rfl <;> decide
    obtain ⟨j', y, a, b, c⟩ := has_of_Gf hn hC j (j := 0) (x := 1681) (by rw [Pth]) g'
    exact no j' y (by omega) b c
theorem FvA_none (hn : 1 ≤ n ∧ n ≤ 40) (hC : 1 ≤ C ∧ C ≤ 3) (no : ∀ j y, Pth n C j y → ¬ HasN n y) : FvA n C (-1) := by
  by_cases n1 : n = 1
  · exact absurd ⟨0, by omega, by omega, by rw [n1]; decide⟩ (no 0 1681 (by rw [Pth]))
  · right
    refine ⟨by omega, Or.inr ⟨rfl, fun l g => ?_⟩⟩
    have g' : Gf n C l (dcd 1681) := by
      rw [Gf_congr hC (u := ini) (fun i i0 i1 => ?_)]
      · exact g
      · rcases i3 i0 (show i < 3 by omega) with rfl | rfl | rfl <;> decide
    obtain ⟨j', y, a, b, c⟩ := has_of_Gf hn hC l (j := 0) (x := 1681) (by rw [Pth]) g'
    exact no j' y b c
end PT
