/-! ===== few crocks: what can be come by ===== -/
def Gf (n C : Int) : Nat → (Int → Int) → Prop
  | 0, _ => False
  | l + 1, s => ∃ c d, 0 ≤ c ∧ c ≤ d ∧ d < C ∧ s c ≠ 0 ∧ s d ≠ 0 ∧ (s c + s d = n ∨ (s c + s d < n ∧ ∃ e, 0 ≤ e ∧ e < C ∧ Gf n C l (wr s e (s c + s d))))
section FW
variable {n C : Int}
theorem Gf_succ : ∀ (l : Nat) {s : Int → Int}, Gf n C l s → Gf n C (l + 1) s
  | 0, _, h => by rw [Gf] at h; exact h.elim
  | l + 1, s, h => by
    rw [Gf] at h ⊢
    obtain ⟨c, d, a1, a2, a3, a4, a5, h⟩ := h
    refine ⟨c, d, a1, a2, a3, a4, a5, ?_⟩
    rcases h with h | ⟨h, e, e0, e1, g⟩
    · exact Or.inl h
    · exact Or.inr ⟨h, e, e0, e1, Gf_succ l g⟩
theorem Gf_le {l l' : Nat} {s : Int → Int} (h : l ≤ l') (g : Gf n C l s) : Gf n C l' s := by
  induction l' with
  | zero => rw [Nat.le_zero.mp h] at g; exact g
  | succ l' ih =>
    rcases Nat.lt_or_eq_of_le h with q | q
    · exact Gf_succ _ (ih (by omega))
    · rw [← q]; exact g
theorem third (a b : Int) : ∃ e : Int, 0 ≤ e ∧ e < 3 ∧ e ≠ a ∧ e ≠ b := by
  by_cases h0 : (0 : Int) ≠ a ∧ (0 : Int) ≠ b
  · exact ⟨0, by omega, by omega, h0.1, h0.2⟩
  · by_cases h1 : (1 : Int) ≠ a ∧ (1 : Int) ≠ b
    · exact ⟨1, by omega, by omega, h1.1, h1.2⟩
    · exact ⟨2, by omega, by omega, by omega, by omega⟩
/-- a place that none of the others needs -/
theorem pick {s u : Int → Int} {e : Int} (hC : 1 ≤ C ∧ C ≤ 3) (he : 0 ≤ e ∧ e < C) (h : ∀ i, 0 ≤ i → i < C → s i ≠ 0 → ∃ j, 0 ≤ j ∧ j < C ∧ u j = s i) : ∃ e', 0 ≤ e' ∧ e' < C ∧ ∀ i, 0 ≤ i → i < C → i ≠ e → s i ≠ 0 → ∃ j, 0 ≤ j ∧ j < C ∧ j ≠ e' ∧ u j = s i := by
  have w : ∀ i, 0 ≤ i → i < C → ∃ j, s i ≠ 0 → (0 ≤ j ∧ j < C ∧ u j = s i) := fun i i0 i1 => by
    by_cases q : s i = 0
    · exact ⟨0, fun z => absurd q z⟩
    · obtain ⟨j, x⟩ := h i i0 i1 q
      exact ⟨j, fun _ => x⟩
  rcases (show C = 1 ∨ C = 2 ∨ C = 3 by omega) with rfl | rfl | rfl
  · exact ⟨0, by omega, by omega, fun i i0 i1 ie => by omega⟩
  · obtain ⟨j, hj⟩ := w (1 - e) (by omega) (by omega)
    by_cases q : j = 0
    · refine ⟨1, by omega, by omega, fun i i0 i1 ie z => ?_⟩
      have ei : i = 1 - e := by omega
      subst ei
      have := hj z
      exact ⟨j, this.1, this.2.1, by omega, this.2.2⟩
    · refine ⟨0, by omega, by omega, fun i i0 i1 ie z => ?_⟩
      have ei : i = 1 - e := by omega
      subst ei
      have := hj z
      exact ⟨j, this.1, this.2.1, q, this.2.2⟩
  · obtain ⟨a, ha⟩ := w (if e = 0 then 1 else 0) (by split <;> omega) (by split <;> omega)
    obtain ⟨b, hb⟩ := w (if e = 2 then 1 else 2) (by split <;> omega) (by split <;> omega)
    obtain ⟨e', x0, x1, xa, xb⟩ := third a b
    refine ⟨e', x0, x1, fun i i0 i1 ie z => ?_⟩
    by_cases q : i = (if e = 0 then 1 else 0)
    · rw [← q] at ha
      have := ha z
      exact ⟨a, this.1, this.2.1, fun w => xa w.symm, this.2.2⟩
    · have q2 : i = (if e = 2 then 1 else 2) := by
        split at q <;> split <;> omega
      rw [← q2] at hb
      have := hb z
      exact ⟨b, this.1, this.2.1, fun w => xb w.symm, this.2.2⟩
/-- who has all that another has can do all that the other can -/
theorem Gf_dom (hC : 1 ≤ C ∧ C ≤ 3) : ∀ (l : Nat) {s u : Int → Int}, (∀ i, 0 ≤ i → i < C → s i ≠ 0 → ∃ j, 0 ≤ j ∧ j < C ∧ u j = s i) → Gf n C l s → Gf n C l u
  | 0, _, _, _, h => h
  | l + 1, s, u, hd, h => by
    rw [Gf] at h ⊢
    obtain ⟨c, d, a1, a2, a3, a4, a5, h⟩ := h
    obtain ⟨c', c0, c1, ec⟩ := hd c a1 (by omega) a4
    obtain ⟨d', d0, d1, ed⟩ := hd d (by omega) a3 a5
    have both : ∀ x y, 0 ≤ x → x ≤ y → y < C → u x ≠ 0 → u y ≠ 0 → u x + u y = s c + s d → (∃ c d, 0 ≤ c ∧ c ≤ d ∧ d < C ∧ u c ≠ 0 ∧ u d ≠ 0 ∧ (u c + u d = n ∨ (u c + u d < n ∧ ∃ e, 0 ≤ e ∧ e < C ∧ Gf n C l (wr u e (u c + u d))))) := fun x y x0 xy y1 ux uy es => by
      refine ⟨x, y, x0, xy, y1, ux, uy, ?_⟩
      rw [es]
      rcases h with h | ⟨h, e, e0, e1, g⟩
      · exact Or.inl h
      · obtain ⟨e', f0, f1, he⟩ := pick hC ⟨e0, e1⟩ hd
        refine Or.inr ⟨h, e', f0, f1, Gf_dom hC l (fun i i0 i1 z => ?_) g⟩
        by_cases q : i = e
        · rw [wr_eq q]
          exact ⟨e', f0, f1, wr_at⟩
        · rw [wr_ne q] at z ⊢
          obtain ⟨j, j0, j1, je, ej⟩ := he i i0 i1 q z
          exact ⟨j, j0, j1, by rw [wr_ne je]; exact ej⟩
    rcases Int.le_total c' d' with q | q
    · exact both c' d' c0 q d1 (by rw [ec]; exact a4) (by rw [ed]; exact a5) (by rw [ec, ed])
    · exact both d' c' d0 q c1 (by rw [ed]; exact a5) (by rw [ec]; exact a4) (by rw [ec, ed]; omega)
theorem Gf_congr (hC : 1 ≤ C ∧ C ≤ 3) {l : Nat} {s u : Int → Int} (h : ∀ i, 0 ≤ i → i < C → s i = u i) : Gf n C l s ↔ Gf n C l u :=
  ⟨Gf_dom hC l (fun i i0 i1 _ => ⟨i, i0, i1, (h i i0 i1).symm⟩), Gf_dom hC l (fun i i0 i1 _ => ⟨i, i0, i1, h i i0 i1⟩)⟩
theorem Gf_min {s : Int → Int} : ∀ (l : Nat), Gf n C l s → ∃ m, m ≤ l ∧ Gf n C m s ∧ ∀ j, j < m → ¬ Gf n C j s := by
  intro l
  induction l using Nat.strongRecOn with
  | ind l ih =>
    intro h
    by_cases q : ∃ j, j < l ∧ Gf n C j s
    · obtain ⟨j, j1, g⟩ := q
      obtain ⟨m, a, b, c⟩ := ih j j1 g
      exact ⟨m, by omega, b, c⟩
    · exact ⟨l, Nat.le_refl _, h, fun j j1 g => q ⟨j, j1, g⟩⟩
/-- nobody needs to make what stands there -/
theorem Gf_good (hC : 1 ≤ C ∧ C ≤ 3) {l : Nat} {s : Int → Int} (h : Gf n C (l + 1) s) : ∃ c d, 0 ≤ c ∧ c ≤ d ∧ d < C ∧ s c ≠ 0 ∧ s d ≠ 0 ∧ (s c + s d = n ∨ (s c + s d < n ∧ 1 ≤ l ∧ (¬ ∃ i, 0 ≤ i ∧ i < C ∧ s i = s c + s d) ∧ ∃ e, 0 ≤ e ∧ e < C ∧ Gf n C l (wr s e (s c + s d)))) := by
  obtain ⟨m, ml, g, no⟩ := Gf_min (l + 1) h
  cases m with
  | zero => rw [Gf] at g; exact g.elim
  | succ m =>
    rw [Gf] at g
    obtain ⟨c, d, a1, a2, a3, a4, a5, g⟩ := g
    refine ⟨c, d, a1, a2, a3, a4, a5, ?_⟩
    rcases g with g | ⟨g, e, e0, e1, g2⟩
    · exact Or.inl g
    · have m1 : 1 ≤ m := by
        rcases Nat.eq_zero_or_pos m with q | q
        · subst q; rw [Gf] at g2; exact g2.elim
        · exact q
      refine Or.inr ⟨g, by omega, fun ⟨i, i0, i1, ei⟩ => ?_, e, e0, e1, Gf_le (by omega) g2⟩
      refine no m (by omega) (Gf_dom hC m (fun j j0 j1 z => ?_) g2)
      by_cases q : j = e
      · rw [wr_eq q]; exact ⟨i, i0, i1, ei⟩
      · rw [wr_ne q]; exact ⟨j, j0, j1, rfl⟩
theorem Gf_grow : ∀ (l : Nat) {s : Int → Int} {m : Int}, 0 ≤ m → (∀ i, 0 ≤ i → i < C → s i ≤ m) → Gf n C l s → n ≤ m * pw2 l
  | 0, _, _, _, _, h => by rw [Gf] at h; exact h.elim
  | l + 1, s, m, hm, hS, h => by
    have e : m * pw2 (l + 1) = 2 * m * pw2 l := by
      show m * (2 * pw2 l) = _
      rw [← Int.mul_assoc, Int.mul_comm m 2]
    rw [Gf] at h
    obtain ⟨c, d, a1, a2, a3, a4, a5, h⟩ := h
    have hc := hS c a1 (by omega)
    have hd := hS d (by omega) a3
    rcases h with h | ⟨h, x, x0, x1, g⟩
    · have p := pw2_pos l
      have : 2 * m * 1 ≤ 2 * m * pw2 l := Int.mul_le_mul_of_nonneg_left p (by omega)
      omega
    · have := Gf_grow l (m := 2 * m) (by omega) (fun i i0 i1 => by
        by_cases q : i = x
        · rw [wr_eq q]; omega
        · rw [wr_ne q]; have := hS i i0 i1; omega) g
      omega
def ini : Int → Int := fun i => if i = 0 then 1 else 0
/-- few crocks can't do with less than the fewest -/
theorem Gf_chain (hn : n ≤ 40) : ∀ (l : Nat) {s : Int → Int} {S : Int → Bool} {k : Nat}, S 1 = true → (∀ x, 2 ≤ x → x ≤ 40 → S x = true → ∃ a b, 1 ≤ a ∧ a < x ∧ 1 ≤ b ∧ b < x ∧ S a = true ∧ S b = true ∧ a + b = x) → cntB S 40 ≤ k + 1 → (∀ i, 0 ≤ i → i < C → s i ≠ 0 → 1 ≤ s i ∧ s i < n ∧ S (s i) = true) → Gf n C l s → ∃ (g : Int → Int) (j : Nat), Pre g j ∧ g (j : Int) = n ∧ j ≤ k + l
  | 0, _, _, _, _, _, _, _, h => by rw [Gf] at h; exact h.elim
  | l + 1, s, S, k, s1, hs, hc, hv, h => by
    rw [Gf] at h
    obtain ⟨c, d, a1, a2, a3, a4, a5, h⟩ := h
    have vc := hv c a1 (by omega) a4
    have vd := hv d (by omega) a3 a5
    obtain ⟨T, hT⟩ : ∃ T : Int → Bool, T = fun x => S x || decide (x = s c + s d) := ⟨_, rfl⟩
    have T1 : T 1 = true := by rw [hT]; simp [s1]
    have Tx : ∀ x, T x = true ↔ (S x = true ∨ x = s c + s d) := fun x => by rw [hT, Bool.or_eq_true, decide_eq_true_eq]
    have Ts : ∀ x, 2 ≤ x → x ≤ 40 → T x = true → ∃ a b, 1 ≤ a ∧ a < x ∧ 1 ≤ b ∧ b < x ∧ T a = true ∧ T b = true ∧ a + b = x := fun x x0 x1 tx => by
      rcases (Tx x).mp tx with q | q
      · obtain ⟨a, b, y1, y2, y3, y4, y5, y6, y7⟩ := hs x x0 x1 q
        exact ⟨a, b, y1, y2, y3, y4, (Tx a).mpr (Or.inl y5), (Tx b).mpr (Or.inl y6), y7⟩
      · exact ⟨s c, s d, vc.1, by omega, vd.1, by omega, (Tx _).mpr (Or.inl vc.2.2), (Tx _).mpr (Or.inl vd.2.2), q.symm⟩
    have Tc : cntB T 40 ≤ k + 1 + 1 := by
      have a : cntB T 40 ≤ cntB S 40 + cntB (fun x => decide (x = s c + s d)) 40 := by rw [hT]; exact cnt_or 40
      have b : ∀ m : Nat, cntB (fun x => decide (x = s c + s d)) m ≤ 1 ∧ ((m : Int) < s c + s d → cntB (fun x => decide (x = s c + s d)) m = 0) := fun m => by
        induction m with
        | zero => exact ⟨by rw [cntB]; omega, fun _ => by rw [cntB]⟩
        | succ m ih =>
          rw [cntB]
          by_cases q : (m : Int) + 1 = s c + s d
          · have := ih.2 (by omega)
            simp only [q, decide_true, if_true, this]
            exact ⟨by omega, fun w => by omega⟩
          · simp only [q, decide_false, Bool.false_eq_true, if_false, Nat.add_zero]
            exact ⟨ih.1, fun w => ih.2 (by omega)⟩
      have := (b 40).1
      omega
    rcases h with h | ⟨h, e, e0, e1, g⟩
    · obtain ⟨g, j, p, cj, ej⟩ := set_chain T1 Ts n.toNat (by omega) (by omega)
      have tn : T n = true := (Tx n).mpr (Or.inr h.symm)
      obtain ⟨q, q0, q1, eq⟩ := (ej n).mp ⟨by omega, by omega, tn⟩
      have gj := (ej (g j)).mpr ⟨j, by omega, by omega, rfl⟩
      have le := Pre_leq p q0 q1 (Int.le_refl _)
      refine ⟨g, j, p, by omega, ?_⟩
      have := cnt_le (S := T) (show n.toNat ≤ 40 by omega)
      omega
    · have := Gf_chain hn l (s := wr s e (s c + s d)) (S := T) (k := k + 1) T1 Ts Tc (fun i i0 i1 z => by
        by_cases q : i = e
        · rw [wr_eq q]; exact ⟨by omega, h, (Tx _).mpr (Or.inr rfl)⟩
        · rw [wr_ne q] at z ⊢
          have := hv i i0 i1 z
          exact ⟨this.1, this.2.1, (Tx _).mpr (Or.inl this.2.2)⟩) g
      obtain ⟨g', j, x, y, z⟩ := this
      exact ⟨g', j, x, y, by omega⟩
theorem Gf_fw (hn : 2 ≤ n ∧ n ≤ 40) {l : Nat} (h : Gf n C l ini) : fw n ≤ l := by
  obtain ⟨g, j, p, e, le⟩ := Gf_chain (s := ini) (S := fun x => decide (x = 1)) (k := 0) hn.2 l rfl (fun x x0 _ q => by have := of_decide_eq_true q; omega) (by decide +kernel) (fun i i0 i1 z => by
    unfold ini at z ⊢
    by_cases q : i = 0
    · rw [if_pos q]; exact ⟨by omega, by omega, rfl⟩
    · rw [if_neg q] at z; exact absurd rfl z) h
  obtain ⟨g', _, hL⟩ := fw_ok (n := n) (by omega)
  have := Lst_chB (by omega) hL (j := j) ⟨g, p, e⟩
  omega
/-- by halves, with two crocks -/
def two (m : Int) : Int → Int := fun i => if i = 0 then 1 else if i = 1 then (if m = 1 then 0 else m) else 0
theorem Gf_two (hC : 2 ≤ C ∧ C ≤ 3) : ∀ (F : Nat) (m : Int) (l : Nat), 1 ≤ m → m < pw2 F → m < n → Gf n C l (two m) → Gf n C (l + (hvF F m).toNat) ini
  | 0, m, l, h1, h2, _, _ => by have : m < 1 := h2; omega
  | F + 1, m, l, h1, h2, h3, g => by
    have h2 : m < 2 * pw2 F := h2
    have hv := hvF_in F (m / 2)
    rw [hvF]
    by_cases q : m ≤ 1
    · have e : m = 1 := by omega
      rw [if_pos q]
      show Gf n C (l + 0) ini
      rw [Nat.add_zero, ← Gf_congr ⟨by omega, hC.2⟩ (s := two m) (fun i i0 i1 => ?_)]
      · exact g
      · unfold two ini
        rw [e]
        split
        · rfl
        · split <;> rfl
    · rw [if_neg q]
      -- where half of it stands
      have at' : ∃ p, 0 ≤ p ∧ p < 2 ∧ two (m / 2) p = m / 2 := by
        by_cases e : m / 2 = 1
        · exact ⟨0, by omega, by omega, by rw [e]; rfl⟩
        · exact ⟨1, by omega, by omega, by unfold two; rw [if_neg (by omega), if_pos rfl, if_neg e]⟩
      obtain ⟨p, p0, p1, ep⟩ := at'
      have tw1 : ∀ m' i, m' ≠ 1 → 0 ≤ i → i < C → wr (two (m / 2)) 1 m' i = two m' i := fun m' i hm i0 i1 => by
        unfold two
        by_cases e : i = 1
        · rw [wr_eq e, if_neg (by omega), if_pos e, if_neg hm]
        · rw [wr_ne e, if_neg e, if_neg e]
      -- the doubling
      have dbl : ∀ l', Gf n C l' (two (m / 2 + m / 2)) → Gf n C (l' + 1) (two (m / 2)) := fun l' g' => by
        rw [Gf]
        refine ⟨p, p, p0, by omega, by omega, by rw [ep]; omega, by rw [ep]; omega, Or.inr ⟨by rw [ep]; omega, 1, by omega, by omega, ?_⟩⟩
        rw [ep, Gf_congr ⟨by omega, hC.2⟩ (fun i i0 i1 => tw1 (m / 2 + m / 2) i (by omega) i0 i1)]
        exact g'
      have ih := Gf_two hC F (m / 2)
      rcases (show m % 2 = 0 ∨ m % 2 = 1 by omega) with e | e
      · have := ih (l + 1) (by omega) (by omega) (by omega) (dbl l (by rw [show m / 2 + m / 2 = m by omega]; exact g))
        rw [show l + (1 + m % 2 + hvF F (m / 2)).toNat = l + 1 + (hvF F (m / 2)).toNat by omega]
        exact this
      · have step : Gf n C (l + 1) (two (m - 1)) := by
          rw [Gf]
          have t0 : two (m - 1) 0 = 1 := rfl
          have t1 : two (m - 1) 1 = m - 1 := by unfold two; rw [if_neg (by omega), if_pos rfl, if_neg (by omega)]
          refine ⟨0, 1, by omega, by omega, by omega, by rw [t0]; omega, by rw [t1]; omega, Or.inr ⟨by rw [t0, t1]; omega, 1, by omega, by omega, ?_⟩⟩
          rw [t0, t1, show 1 + (m - 1) = m by omega, Gf_congr ⟨by omega, hC.2⟩ (u := two m) (fun i i0 i1 => ?_)]
          · exact g
          · unfold two
            by_cases z : i = 1
            · rw [wr_eq z, if_neg (by omega), if_pos z, if_neg (by omega)]
            · rw [wr_ne z, if_neg z, if_neg z]
        have := ih (l + 2) (by omega) (by omega) (by omega) (dbl (l + 1) (by rw [show m / 2 + m / 2 = m - 1 by omega]; exact step))
        rw [show l + (1 + m % 2 + hvF F (m / 2)).toNat = l + 2 + (hvF F (m / 2)).toNat by omega]
        exact this
theorem Gf_hv2 (hn : 2 ≤ n ∧ n ≤ 40) (hC : 2 ≤ C ∧ C ≤ 3) : Gf n C (hvF 20 n).toNat ini := by
  have hv := hvF_in 19 (n / 2)
  have e : hvF 20 n = 1 + n % 2 + hvF 19 (n / 2) := by rw [hvF, if_neg (by omega)]
  have at' : ∃ p, 0 ≤ p ∧ p < 2 ∧ two (n / 2) p = n / 2 := by
    by_cases e : n / 2 = 1
    · exact ⟨0, by omega, by omega, by rw [e]; rfl⟩
    · exact ⟨1, by omega, by omega, by unfold two; rw [if_neg (by omega), if_pos rfl, if_neg e]⟩
  obtain ⟨p, p0, p1, ep⟩ := at'
  have pw19 : n / 2 < pw2 19 := by show n / 2 < 524288; omega
  rcases (show n % 2 = 0 ∨ n % 2 = 1 by omega) with q | q
  · have g1 : Gf n C 1 (two (n / 2)) := by
      rw [Gf]
      exact ⟨p, p, p0, by omega, by omega, by rw [ep]; omega, by rw [ep]; omega, Or.inl (by rw [ep]; omega)⟩
    have := Gf_two hC 19 (n / 2) 1 (by omega) pw19 (by omega) g1
    rw [e, show (1 + n % 2 + hvF 19 (n / 2)).toNat = 1 + (hvF 19 (n / 2)).toNat by omega]
    exact this
  · have t0 : two (n - 1) 0 = 1 := rfl
    have t1 : two (n - 1) 1 = n - 1 := by unfold two; rw [if_neg (by omega), if_pos rfl, if_neg (by omega)]
    have g1 : Gf n C 1 (two (n - 1)) := by
      rw [Gf]
      exact ⟨0, 1, by omega, by omega, by omega, by rw [t0]; omega, by rw [t1]; omega, Or.inl (by rw [t0, t1]; omega)⟩
    have g2 : Gf n C 2 (two (n / 2)) := by
      rw [Gf]
      refine ⟨p, p, p0, by omega, by omega, by rw [ep]; omega, by rw [ep]; omega, Or.inr ⟨by rw [ep]; omega, 1, by omega, by omega, ?_⟩⟩
      rw [ep, show n / 2 + n / 2 = n - 1 by omega, Gf_congr ⟨by omega, hC.2⟩ (u := two (n - 1)) (fun i i0 i1 => ?_)]
      · exact g1
      · unfold two
        by_cases z : i = 1
        · rw [wr_eq z, if_neg (by omega), if_pos z, if_neg (by omega)]
        · rw [wr_ne z, if_neg z, if_neg z]
    have := Gf_two hC 19 (n / 2) 2 (by omega) pw19 (by omega) g2
    rw [e, show (1 + n % 2 + hvF 19 (n / 2)).toNat = 2 + (hvF 19 (n / 2)).toNat by omega]
    exact this
/-- one crock only doubles -/
theorem Gf_one : ∀ (l : Nat) {s : Int → Int}, 1 ≤ s 0 → Gf n 1 l s → ∃ j : Nat, 1 ≤ j ∧ j ≤ l ∧ n = s 0 * pw2 j ∧ Gf n 1 j s := by
  intro l
  induction l with
  | zero => intro s _ h; rw [Gf] at h; exact h.elim
  | succ l ih =>
    intro s h1 h
    rw [Gf] at h
    obtain ⟨c, d, a1, a2, a3, a4, a5, h⟩ := h
    have c0 : c = 0 := by omega
    have d0 : d = 0 := by omega
    subst c0
    subst d0
    rcases h with h | ⟨h, e, e0, e1, g⟩
    · exact ⟨1, by omega, by omega, by show n = s 0 * (2 * 1); omega, by rw [Gf]; exact ⟨0, 0, by omega, by omega, by omega, a4, a5, Or.inl h⟩⟩
    · have ee : e = 0 := by omega
      subst ee
      obtain ⟨j, j1, j2, en, gj⟩ := ih (s := wr s 0 (s 0 + s 0)) (by rw [wr_at]; omega) g
      rw [wr_at] at en
      refine ⟨j + 1, by omega, by omega, ?_, ?_⟩
      · show n = s 0 * (2 * pw2 j)
        rw [← Int.mul_assoc, en, show s 0 * 2 = s 0 + s 0 by omega]
      · rw [Gf]
        exact ⟨0, 0, by omega, by omega, by omega, a4, a5, Or.inr ⟨h, 0, by omega, by omega, gj⟩⟩
theorem Gf_hv (hn : 2 ≤ n ∧ n ≤ 40) (hC : 1 ≤ C ∧ C ≤ 3) {l : Nat} (h : Gf n C l ini) : Gf n C (hvF 20 n).toNat ini := by
  by_cases c1 : C = 1
  · subst c1
    obtain ⟨j, j1, j2, en, gj⟩ := Gf_one l (s := ini) (by decide) h
    have en : n = 1 * pw2 j := en
    have j5 : j ≤ 5 := by
      rcases Nat.lt_or_ge 5 j with q | q
      · have : ∀ c : Nat, 64 ≤ pw2 (6 + c) := fun c => by
          induction c with
          | zero => decide
          | succ c ih => show 64 ≤ 2 * pw2 (6 + c); omega
        have := this (j - 6)
        rw [show 6 + (j - 6) = j by omega] at this
        omega
      · exact q
    have : (hvF 20 n).toNat = j := by
      rcases (show j = 1 ∨ j = 2 ∨ j = 3 ∨ j = 4 ∨ j = 5 by omega) with rfl | rfl | rfl | rfl | rfl <;> (rw [en]; decide +kernel)
    rw [this]
    exact gj
  · exact Gf_hv2 hn ⟨by omega, hC.2⟩
end FW
/-- what few answers -/
def FvA (n C r : Int) : Prop := (n = 1 ∧ r = 0) ∨ (2 ≤ n ∧ ((∃ l : Nat, r = (l : Int) ∧ Gf n C l ini ∧ ∀ j, j < l → ¬ Gf n C j ini) ∨ (r = -1 ∧ ∀ l, ¬ Gf n C l ini)))
theorem Fv_uq {n C a b : Int} (ha : FvA n C a) (hb : FvA n C b) : a = b := by
  rcases ha with ⟨x, y⟩ | ⟨x, ⟨l, e, g, no⟩ | ⟨e, no⟩⟩
  · rcases hb with ⟨x', y'⟩ | ⟨x', _⟩ <;> omega
  · rcases hb with ⟨x', y'⟩ | ⟨x', ⟨l', e', g', no'⟩ | ⟨e', no'⟩⟩
    · omega
    · rcases Nat.lt_trichotomy l l' with q | q | q
      · exact absurd g (no' l q)
      · omega
      · exact absurd g' (no l' q)
    · exact absurd g (no' l)
  · rcases hb with ⟨x', y'⟩ | ⟨x', ⟨l', e', g', no'⟩ | ⟨e', no'⟩⟩
    · omega
    · exact absurd g' (no l')
    · omega
section SH
variable {t : Int} {n C : Int}
theorem h_standsF {d : Nat} {Q : Int → jM → Prop} {σ : jM} {v : Int} (hC : 1 ≤ C ∧ C ≤ 3) (hv : inR v) (h2 : σ 287 2 = C) (hs : ∀ i, 0 ≤ i → i < C → 0 ≤ σ 289 i ∧ σ 289 i ≤ 100) (k1 : (∃ i, 0 ≤ i ∧ i < C ∧ σ 289 i = v) → Q 1 σ) (k0 : (¬ ∃ i, 0 ≤ i ∧ i < C ∧ σ 289 i = v) → Q 0 σ) : Ct mX4_stands d 0 t [rv 287, iv v] σ Q := by
  refine c_X4_stands ?_
  have loop : ∀ (c : Nat) (i : Int), 0 ≤ i → i + c = C → (∀ x, 0 ≤ x → x < i → σ 289 x ≠ v) → Jt mX4_stands d 0 t Q 2 [rv 287, iv v, iv i] [] σ := by
    intro c
    induction c with
    | zero =>
      intro i i0 hi no
      refine b_X4_stands_2 ⟨rng (by omega) (by omega), ?_⟩
      rw [h2]
      exact ⟨rng (by omega) (by omega), fun _ => k0 (fun ⟨x, a, b, e⟩ => no x a (by omega) e), fun z => absurd z (by omega)⟩
    | succ c ih =>
      intro i i0 hi no
      have si := hs i i0 (by omega)
      refine b_X4_stands_2 ⟨rng (by omega) (by omega), ?_⟩
      rw [h2]
      refine ⟨rng (by omega) (by omega), fun z => absurd z (by omega), fun _ => ⟨by omega, rng (by omega) (by omega), hv, fun z => ih (i + 1) (by omega) (by omega) (fun x x0 x1 => ?_), fun z => k1 ⟨i, i0, by omega, z⟩⟩⟩
      by_cases e : x = i
      · rw [e]; exact z
      · exact no x x0 (by omega)
  exact loop C.toNat 0 (by omega) (by omega) (fun x x0 x1 => absurd x1 (by omega))
theorem h_reachF (hn : 2 ≤ n ∧ n ≤ 40) (hC : 1 ≤ C ∧ C ≤ 3) : ∀ (l : Nat) {d : Nat} {Q : Int → jM → Prop} {σ : jM}, l ≤ 20 → σ 287 2 = C → σ 287 3 = n → (∀ i, 0 ≤ i → i < C → 0 ≤ σ 289 i ∧ σ 289 i ≤ 40) → (Gf n C l (σ 289) → Q 1 σ) → (¬ Gf n C l (σ 289) → Q 0 σ) → Ct mX4_reachable (d + 2 * l + 1) 0 t [rv 287, iv (l : Int)] σ Q := by
  intro l
  induction l with
  | zero =>
    intro d Q σ hl h2 h3 hs k1 k0
    refine c_X4_reachable ?_
    have loop : ∀ (c : Nat) (i m : Int), 0 ≤ i → i + c = C → 0 ≤ m → m ≤ 40 → Jt mX4_reachable (d + 2 * 0 + 1) 0 t Q 4 [rv 287, iv ((0 : Nat) : Int), iv m, iv i, uv, uv] [] σ := by
      intro c
      induction c with
      | zero =>
        intro i m i0 hi m0 m1
        refine b_X4_reachable_4 ⟨rng (by omega) (by omega), ?_⟩
        rw [h2]
        exact ⟨rng (by omega) (by omega), fun _ => ⟨in0, fun _ => k0 (fun g => by rw [Gf] at g; exact g), fun z => absurd z (by omega)⟩, fun z => absurd z (by omega)⟩
      | succ c ih =>
        intro i m i0 hi m0 m1
        have si := hs i i0 (by omega)
        refine b_X4_reachable_4 ⟨rng (by omega) (by omega), ?_⟩
        rw [h2]
        exact ⟨rng (by omega) (by omega), fun z => absurd z (by omega), fun _ => ⟨by omega, rng (by omega) (by omega), rng (by omega) (by omega), ih (i + 1) _ (by omega) (by omega) (by omega) (by omega)⟩⟩
    exact loop C.toNat 0 0 (by omega) (by omega) (by omega) (by omega)
  | succ l ih =>
    intro d Q σ hl h2 h3 hs k1 k0
    refine c_X4_reachable ?_
    -- one placing after the other
    have place : ∀ (v : Int) (Q' : Int → jM → Prop), 1 ≤ v → v ≤ 40 → ((∃ e, 0 ≤ e ∧ e < C ∧ Gf n C l (wr (σ 289) e v)) → Q' 1 σ) → ((¬ ∃ e, 0 ≤ e ∧ e < C ∧ Gf n C l (wr (σ 289) e v)) → Q' 0 σ) → Ct mX4_reachableWith (d + 2 * l + 2) 0 t [rv 287, iv v, iv (((l + 1 : Nat) : Int) - 1)] σ Q' := by
      intro v Q' v0 v1 y1 y0
      refine c_X4_reachableWith ?_
      rw [h2]
      have loop : ∀ (c : Nat) (i : Int), i + 1 = c → i < C → (∀ x, i < x → x < C → ¬ Gf n C l (wr (σ 289) x v)) → Jt mX4_reachableWith (d + 2 * l + 2) 0 t Q' 7 [rv 287, iv v, iv (((l + 1 : Nat) : Int) - 1), iv i, uv, uv] [] σ := by
        intro c
        induction c with
        | zero =>
          intro i hi iC no
          exact b_X4_reachableWith_7 ⟨rng (by omega) (by omega), fun _ => y0 (fun ⟨e, e0, e1, g⟩ => no e (by omega) e1 g), fun z => absurd z (by omega)⟩
        | succ c ihc =>
          intro i hi iC no
          have si := hs i (by omega) iC
          refine b_X4_reachableWith_7 ⟨rng (by omega) (by omega), fun z => absurd z (by omega), fun _ => ⟨by omega, by omega, fun σ3 e3 => ?_⟩⟩
          have r3 : σ3 289 = wr (σ 289) i v := by
            rw [e3]
            funext j
            by_cases q : j = i
            · rw [up_eq rfl q, wr_eq q]
            · rw [up_ne (Or.inr q), wr_ne q]
          rw [show ((l + 1 : Nat) : Int) - 1 = (l : Int) by omega]
          have back : ∀ σ6, σ6 = up σ3 289 i (σ 289 i) → σ6 = σ := fun σ6 e6 => by
            rw [e6, e3]
            funext a j
            unfold up
            split
            · rename_i q; rw [q.1, q.2]
            · rfl
          refine ih (d := d) (σ := σ3) (by omega) (by rw [e3, up_row (by decide)]; exact h2) (by rw [e3, up_row (by decide)]; exact h3) (fun j j0 j1 => ?_) (fun g => ⟨by omega, fun σ6 e6 => ⟨⟨by decide, by decide⟩, fun _ => ⟨Or.inr rfl, ?_⟩, fun q => absurd q (by decide)⟩⟩) (fun g => ⟨by omega, fun σ6 e6 => ⟨in0, fun q => absurd rfl q, fun _ => ⟨rng (by omega) (by omega), fun z => ?_, fun z => ⟨Or.inl rfl, ?_⟩⟩⟩⟩)
          · rw [r3]
            by_cases q : j = i
            · rw [wr_eq q]; omega
            · rw [wr_ne q]; exact hs j j0 j1
          · rw [back σ6 e6]
            rw [r3] at g
            exact y1 ⟨i, by omega, iC, g⟩
          · rw [back σ6 e6]
            rw [r3] at g
            have := ihc (i + -1) (by omega) (by omega) (fun x x0 x1 => by
              by_cases q : x = i
              · rw [q]; exact g
              · exact no x (by omega) x1)
            rw [show ((l + 1 : Nat) : Int) - 1 = (l : Int) by omega] at this
            exact this
          · rw [back σ6 e6]
            rw [r3] at g
            refine y0 (fun ⟨e, e0, e1, ge⟩ => g (Gf_dom hC l (fun j j0 j1 q => ?_) ge))
            by_cases je : j = e
            · rw [wr_eq je]; exact ⟨i, by omega, iC, wr_at⟩
            · rw [wr_ne je] at q ⊢
              by_cases ji : j = i
              · rw [ji] at q; exact absurd z q
              · exact ⟨j, j0, j1, wr_ne ji⟩
      exact loop C.toNat (C - 1) (by omega) (by omega) (fun x x0 x1 => by omega)
    -- the pairs
    have inner : ∀ (m a : Int), 0 ≤ a → a < C → ((∀ b, a ≤ b → b < C → σ 289 a ≠ 0 → σ 289 b ≠ 0 → ¬ (σ 289 a + σ 289 b = n ∨ (σ 289 a + σ 289 b < n ∧ 1 ≤ l ∧ (¬ ∃ i, 0 ≤ i ∧ i < C ∧ σ 289 i = σ 289 a + σ 289 b) ∧ ∃ e, 0 ≤ e ∧ e < C ∧ Gf n C l (wr (σ 289) e (σ 289 a + σ 289 b))))) → Jt mX4_reachable (d + 2 * (l + 1) + 1) 0 t Q 48 [rv 287, iv ((l + 1 : Nat) : Int), iv m, iv (a + 1), uv, uv] [] σ) → ∀ (c : Nat) (b : Int), a ≤ b → b + c = C → (∀ b', a ≤ b' → b' < b → σ 289 a ≠ 0 → σ 289 b' ≠ 0 → ¬ (σ 289 a + σ 289 b' = n ∨ (σ 289 a + σ 289 b' < n ∧ 1 ≤ l ∧ (¬ ∃ i, 0 ≤ i ∧ i < C ∧ σ 289 i = σ 289 a + σ 289 b') ∧ ∃ e, 0 ≤ e ∧ e < C ∧ Gf n C l (wr (σ 289) e (σ 289 a + σ 289 b'))))) → Jt mX4_reachable (d + 2 * (l + 1) + 1) 0 t Q 59 [rv 287, iv ((l + 1 : Nat) : Int), iv m, iv a, iv b, uv] [] σ := by
      intro m a a0 aC nx c
      have sa := hs a a0 aC
      induction c with
      | zero =>
        intro b ab hb no
        refine b_X4_reachable_59 ⟨rng (by omega) (by omega), ?_⟩
        rw [h2]
        exact ⟨rng (by omega) (by omega), fun _ => nx (fun b' x y => no b' x (by omega)), fun z => absurd z (by omega)⟩
      | succ c ihc =>
        intro b ab hb no
        have sb := hs b (by omega) (by omega)
        have next : (σ 289 a ≠ 0 → σ 289 b ≠ 0 → ¬ (σ 289 a + σ 289 b = n ∨ (σ 289 a + σ 289 b < n ∧ 1 ≤ l ∧ (¬ ∃ i, 0 ≤ i ∧ i < C ∧ σ 289 i = σ 289 a + σ 289 b) ∧ ∃ e, 0 ≤ e ∧ e < C ∧ Gf n C l (wr (σ 289) e (σ 289 a + σ 289 b))))) → Jt mX4_reachable (d + 2 * (l + 1) + 1) 0 t Q 59 [rv 287, iv ((l + 1 : Nat) : Int), iv m, iv a, iv (b + 1), uv] [] σ := fun h => ihc (b + 1) (by omega) (by omega) (fun b' x y => by
          by_cases q : b' = b
          · rw [q]; exact h
          · exact no b' x (by omega))
        refine b_X4_reachable_59 ⟨rng (by omega) (by omega), ?_⟩
        rw [h2, h3]
        refine ⟨rng (by omega) (by omega), fun z => absurd z (by omega), fun _ => ⟨by omega, by omega, by omega, rng (by omega) (by omega), fun z => next (fun q => absurd z q), fun za => ⟨by omega, rng (by omega) (by omega), fun z => next (fun _ q => absurd z q), fun zb => ⟨rng (by omega) (by omega), rng (by omega) (by omega), fun le => ⟨rng (by omega) (by omega), rng (by omega) (by omega), fun e => k1 ?_, fun e => ⟨rng (by omega) (by omega), fun z => next (fun _ _ q => by rcases q with q | ⟨_, q, _⟩ <;> omega), fun z => ?_⟩⟩, fun gt => next (fun _ _ q => by rcases q with q | ⟨q, _⟩ <;> omega)⟩⟩⟩⟩
        · rw [Gf]
          exact ⟨a, b, a0, ab, by omega, za, zb, Or.inl e⟩
        · refine h_standsF hC (rng (by omega) (by omega)) h2 (fun i i0 i1 => by have := hs i i0 i1; omega) (fun st => ⟨⟨by decide, by decide⟩, fun _ => next (fun _ _ q => by
            rcases q with q | ⟨_, _, q, _⟩
            · exact e q
            · exact q st), fun q => absurd q (by decide)⟩) (fun st => ⟨in0, fun q => absurd rfl q, fun _ => place (σ 289 a + σ 289 b) _ (by omega) (by omega) (fun g => ⟨⟨by decide, by decide⟩, fun q => absurd q (by decide), fun _ => k1 ?_⟩) (fun g => ⟨in0, fun _ => next (fun _ _ q => by
            rcases q with q | ⟨_, _, _, q⟩
            · exact e q
            · exact g q), fun q => absurd rfl q⟩)⟩)
          rw [Gf]
          exact ⟨a, b, a0, ab, by omega, za, zb, Or.inr ⟨by omega, g⟩⟩
    have outer : ∀ (m : Int) (c : Nat) (a : Int), 0 ≤ a → a + c = C → (∀ a' b', 0 ≤ a' → a' < a → a' ≤ b' → b' < C → σ 289 a' ≠ 0 → σ 289 b' ≠ 0 → ¬ (σ 289 a' + σ 289 b' = n ∨ (σ 289 a' + σ 289 b' < n ∧ 1 ≤ l ∧ (¬ ∃ i, 0 ≤ i ∧ i < C ∧ σ 289 i = σ 289 a' + σ 289 b') ∧ ∃ e, 0 ≤ e ∧ e < C ∧ Gf n C l (wr (σ 289) e (σ 289 a' + σ 289 b'))))) → Jt mX4_reachable (d + 2 * (l + 1) + 1) 0 t Q 48 [rv 287, iv ((l + 1 : Nat) : Int), iv m, iv a, uv, uv] [] σ := by
      intro m c
      induction c with
      | zero =>
        intro a a0 ha no
        refine b_X4_reachable_48 ⟨rng (by omega) (by omega), ?_⟩
        rw [h2]
        refine ⟨rng (by omega) (by omega), fun _ => k0 (fun g => ?_), fun z => absurd z (by omega)⟩
        obtain ⟨x, y, x0, xy, yC, zx, zy, g⟩ := Gf_good hC g
        exact no x y x0 (by omega) xy yC zx zy g
      | succ c ihc =>
        intro a a0 ha no
        refine b_X4_reachable_48 ⟨rng (by omega) (by omega), ?_⟩
        rw [h2]
        refine ⟨rng (by omega) (by omega), fun z => absurd z (by omega), fun _ => inner m a a0 (by omega) (fun no' => ihc (a + 1) (by omega) (by omega) (fun a' b' x y => ?_)) (C - a).toNat a (Int.le_refl _) (by omega) (fun b' x y => absurd y (by omega))⟩
        by_cases q : a' = a
        · rw [q]; exact no' b'
        · exact no a' b' x (by omega)
    have loop : ∀ (c : Nat) (i m : Int), 0 ≤ i → i + c = C → 0 ≤ m → m ≤ 40 → (∀ x, 0 ≤ x → x < i → σ 289 x ≤ m) → Jt mX4_reachable (d + 2 * (l + 1) + 1) 0 t Q 4 [rv 287, iv ((l + 1 : Nat) : Int), iv m, iv i, uv, uv] [] σ := by
      intro c
      induction c with
      | zero =>
        intro i m i0 hi m0 m1 hm
        refine b_X4_reachable_4 ⟨rng (by omega) (by omega), ?_⟩
        rw [h2, h3]
        have sh : i_shl m ((l + 1 : Nat) : Int) = m * pw2 (l + 1) := by
          have := shl_v ⟨m.toNat, by omega⟩ ⟨l + 1, by omega⟩
          simp only at this
          rw [show ((m.toNat : Nat) : Int) = m by omega] at this
          exact this
        have pl := pw2_le ⟨l + 1, by omega⟩
        have pp := pw2_pos (l + 1)
        simp only at pl
        have c1 : m * pw2 (l + 1) ≤ m * 8388608 := Int.mul_le_mul_of_nonneg_left pl (by omega)
        have c2 : 0 ≤ m * pw2 (l + 1) := Int.mul_nonneg (by omega) (by omega)
        rw [sh]
        exact ⟨rng (by omega) (by omega), fun _ => ⟨rng (by omega) (by omega), fun z => absurd z (by omega), fun _ => ⟨rng (by omega) (by omega), rng (by omega) (by omega), fun _ => outer m C.toNat 0 (by omega) (by omega) (fun a' b' x y => absurd y (by omega)), fun z => k0 (fun g => by have := Gf_grow (l + 1) m0 (fun x x0 x1 => hm x x0 (by omega)) g; omega)⟩⟩, fun z => absurd z (by omega)⟩
      | succ c ihc =>
        intro i m i0 hi m0 m1 hm
        have si := hs i i0 (by omega)
        refine b_X4_reachable_4 ⟨rng (by omega) (by omega), ?_⟩
        rw [h2]
        refine ⟨rng (by omega) (by omega), fun z => absurd z (by omega), fun _ => ⟨by omega, rng (by omega) (by omega), rng (by omega) (by omega), ihc (i + 1) _ (by omega) (by omega) (by omega) (by omega) (fun x x0 x1 => ?_)⟩⟩
        by_cases q : x = i
        · rw [q]; omega
        · have := hm x x0 (by omega); omega
    exact loop C.toNat 0 0 (by omega) (by omega) (by omega) (by omega) (fun x x0 x1 => absurd x1 (by omega))
end SH
