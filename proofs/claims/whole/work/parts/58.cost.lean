/-! ===== what a chain costs ===== -/
def minO (p : Int → Int) : Nat → Int → Int
  | 0, _ => 1000000
  | c + 1, v => min (p v) (minO p c (v + 1))
theorem minO_congr {p q : Int → Int} : ∀ (c : Nat) (v : Int), (∀ x, v ≤ x → x < v + c → p x = q x) → minO p c v = minO q c v
  | 0, _, _ => rfl
  | c + 1, v, h => by rw [minO, minO, h v (by omega) (by omega), minO_congr c (v + 1) (fun x a b => h x (by omega) (by omega))]
theorem minO_le {p : Int → Int} : ∀ (c : Nat) (v : Int), minO p c v ≤ 1000000
  | 0, _ => Int.le_refl _
  | c + 1, v => by have := minO_le (p := p) c (v + 1); rw [minO]; omega
theorem minO_last {p : Int → Int} : ∀ (c : Nat) (v : Int), minO p (c + 1) v = min (minO p c v) (p (v + c))
  | 0, v => by
    show min (p v) 1000000 = min 1000000 (p (v + ((0 : Nat) : Int)))
    rw [show v + ((0 : Nat) : Int) = v by omega]
    omega
  | c + 1, v => by
    have ih := minO_last (p := p) c (v + 1)
    rw [minO, ih, minO, show v + ((c + 1 : Nat) : Int) = v + 1 + (c : Int) by omega]
    omega
theorem minO_cut {p : Int → Int} {m : Nat} : ∀ (c : Nat) (v : Int), (∀ x, v + c ≤ x → x < v + c + m → 1000000 ≤ p x) → minO p (c + m) v = minO p c v
  | 0, v, h => by
    induction m with
    | zero => rfl
    | succ m ih =>
      have ih := ih (fun x a b => h x a (by omega))
      rw [Nat.zero_add] at ih
      rw [Nat.zero_add, minO_last, ih]
      have := h (v + m) (by omega) (by omega)
      rw [minO]
      omega
  | c + 1, v, h => by rw [show c + 1 + m = (c + m) + 1 by omega, minO, minO, minO_cut c (v + 1) (fun x a b => h x (by omega) (by omega))]
theorem minO_lb {p : Int → Int} {B : Int} (hB : B ≤ 1000000) : ∀ (c : Nat) (v : Int), (∀ x, v ≤ x → x < v + c → B ≤ p x) → B ≤ minO p c v
  | 0, _, _ => hB
  | c + 1, v, h => by
    have a := h v (by omega) (by omega)
    have b := minO_lb hB c (v + 1) (fun x x0 x1 => h x (by omega) (by omega))
    rw [minO]
    omega
def dblB (f : Int → Int) (k : Nat) (v : Int) : Bool := exB (fun i => decide (f i + f i = v)) (k + 1)
def srrB (f : Int → Int) (k : Nat) (v : Int) : Bool := exB (fun i => exB (fun j => decide (f i + f j = v)) i.toNat) (k + 1)
theorem dblB_iff {f : Int → Int} {k : Nat} {v : Int} : dblB f k v = true ↔ ∃ i, 0 ≤ i ∧ i ≤ (k : Int) ∧ f i + f i = v := by
  unfold dblB
  rw [exB_iff]
  constructor
  · rintro ⟨i, a, b, e⟩; exact ⟨i, a, by omega, of_decide_eq_true e⟩
  · rintro ⟨i, a, b, e⟩; exact ⟨i, a, by omega, decide_eq_true e⟩
theorem srrB_iff {f : Int → Int} {k : Nat} {v : Int} : srrB f k v = true ↔ ∃ i j, 0 ≤ j ∧ j < i ∧ i ≤ (k : Int) ∧ f i + f j = v := by
  unfold srrB
  rw [exB_iff]
  constructor
  · rintro ⟨i, a, b, e⟩
    obtain ⟨j, c, g, e'⟩ := exB_iff.mp e
    exact ⟨i, j, c, by omega, by omega, of_decide_eq_true e'⟩
  · rintro ⟨i, j, c, g, b, e⟩
    exact ⟨i, by omega, by omega, exB_iff.mpr ⟨j, c, by omega, decide_eq_true e⟩⟩
/-- what the step to v costs -/
def prC (tw jo : Int) (f : Int → Int) (k : Nat) (v : Int) : Int := if dblB f k v then (if srrB f k v then min tw jo else tw) else if srrB f k v then jo else 1000000
/-- the least that is still to be paid -/
def mc (n tw jo : Int) : Nat → (Int → Int) → Nat → Int
  | 0, f, k => if f k = n then 0 else 1000000
  | F + 1, f, k => if f k = n then 0 else minO (fun v => prC tw jo f k v + mc n tw jo F (wr f ((k : Int) + 1) v) (k + 1)) (n - f k).toNat (f k + 1)
/-- how many doublings it takes at least -/
def stF (n : Int) : Nat → Int → Int
  | 0, _ => 0
  | F + 1, v => if n ≤ v then 0 else 1 + stF n F (v * 2)
theorem stF_ok {n : Int} : ∀ (F : Nat) (v : Int), n ≤ v * pw2 F → 0 ≤ stF n F v ∧ stF n F v ≤ F ∧ n ≤ v * pw2 (stF n F v).toNat ∧ ∀ j : Nat, (j : Int) < stF n F v → v * pw2 j < n
  | 0, v, h => by
    rw [stF]
    exact ⟨by omega, by omega, h, fun j hj => by omega⟩
  | F + 1, v, h => by
    rw [stF]
    split
    · refine ⟨by omega, by omega, ?_, fun j hj => by omega⟩
      show n ≤ v * 1
      omega
    · rename_i hv
      have e : v * pw2 (F + 1) = v * 2 * pw2 F := by
        show v * (2 * pw2 F) = _
        rw [Int.mul_assoc]
      obtain ⟨a, b, c, d⟩ := stF_ok F (v * 2) (by rw [← e]; exact h)
      refine ⟨by omega, by omega, ?_, fun j hj => ?_⟩
      · rw [show (1 + stF n F (v * 2)).toNat = (stF n F (v * 2)).toNat + 1 by omega]
        show n ≤ v * (2 * pw2 (stF n F (v * 2)).toNat)
        rw [← Int.mul_assoc]
        exact c
      · cases j with
        | zero => show v * 1 < n; omega
        | succ j =>
          have := d j (by omega)
          show v * (2 * pw2 j) < n
          rw [← Int.mul_assoc]
          exact this
def DPb (n : Int) (f : Int → Int) (k : Nat) (d : Int) : Bool := exB (fun i => decide (f i * pw2 d.toNat = n)) (k + 1)
theorem DPb_iff {n : Int} {f : Int → Int} {k : Nat} {d : Int} : DPb n f k d = true ↔ ∃ i, 0 ≤ i ∧ i ≤ (k : Int) ∧ f i * pw2 d.toNat = n := by
  unfold DPb
  rw [exB_iff]
  constructor
  · rintro ⟨i, a, b, e⟩; exact ⟨i, a, by omega, of_decide_eq_true e⟩
  · rintro ⟨i, a, b, e⟩; exact ⟨i, a, by omega, decide_eq_true e⟩
def dlF (n : Int) (f : Int → Int) (k : Nat) : Int := lowF (DPb n f k) 7 0
theorem lowF_no {p : Int → Bool} : ∀ (k : Nat) (i : Int), 0 ≤ i → lowF p k i = -1 → ∀ j, i ≤ j → j < i + k → p j = false
  | 0, i, _, _, j, a, b => absurd b (by omega)
  | k + 1, i, h0, h, j, a, b => by
    rw [lowF] at h
    by_cases e : p i = true
    · rw [if_pos e] at h; omega
    · rw [if_neg e] at h
      by_cases q : j = i
      · rw [q]; simpa using e
      · exact lowF_no k (i + 1) (by omega) h j (by omega) (by omega)
theorem lowF_min {p : Int → Bool} : ∀ (k : Nat) (i : Int) {j : Int}, i ≤ j → j < i + k → p j = true → lowF p k i ≤ j ∧ lowF p k i ≠ -1 ∨ i < 0
  | 0, i, j, a, b, _ => absurd b (by omega)
  | k + 1, i, j, a, b, h => by
    rw [lowF]
    by_cases e : p i = true
    · rw [if_pos e]; omega
    · rw [if_neg e]
      have : j ≠ i := fun q => e (by rw [← q]; exact h)
      rcases lowF_min k (i + 1) (j := j) (by omega) (by omega) h with q | q
      · exact Or.inl q
      · omega
/-- what the class reckons with -/
def LBf (n tw jo : Int) (f : Int → Int) (k : Nat) : Int := if stF n 6 (f k) = 0 ∨ jo ≤ tw then stF n 6 (f k) * min tw jo else if dlF n f k = -1 then (stF n 6 (f k) - 1) * tw + jo else min (dlF n f k * tw) ((stF n 6 (f k) - 1) * tw + jo)
section PC
variable {n tw jo : Int}
theorem prC_lb {f : Int → Int} {k : Nat} {v : Int} (ht : 1 ≤ tw ∧ tw ≤ 9) (hj : 1 ≤ jo ∧ jo ≤ 9) : min tw jo ≤ prC tw jo f k v := by
  unfold prC
  split <;> split <;> omega
theorem prC_no {f : Int → Int} {k : Nat} {v : Int} (h : ¬ SumP f ((k : Int) + 1) v) : prC tw jo f k v = 1000000 := by
  unfold prC
  rw [if_neg, if_neg]
  · intro e
    obtain ⟨i, j, a, b, c, q⟩ := srrB_iff.mp e
    exact h ⟨i, j, a, by omega, by omega, q⟩
  · intro e
    obtain ⟨i, a, b, q⟩ := dblB_iff.mp e
    exact h ⟨i, i, a, by omega, by omega, q⟩
theorem mc_in (ht : 1 ≤ tw ∧ tw ≤ 9) (hj : 1 ≤ jo ∧ jo ≤ 9) : ∀ (F : Nat) (f : Int → Int) (k : Nat), 0 ≤ mc n tw jo F f k ∧ mc n tw jo F f k ≤ 1000000
  | 0, f, k => by rw [mc]; split <;> omega
  | F + 1, f, k => by
    rw [mc]
    split
    · omega
    · refine ⟨minO_lb (by omega) _ _ (fun x _ _ => ?_), minO_le _ _⟩
      show 0 ≤ prC tw jo f k x + mc n tw jo F (wr f ((k : Int) + 1) x) (k + 1)
      have a := prC_lb (f := f) (k := k) (v := x) ht hj
      have b := (mc_in ht hj F (wr f ((k : Int) + 1) x) (k + 1)).1
      omega
theorem pw64 {v : Int} (hv : 1 ≤ v) (hn : n ≤ 40) : n ≤ v * pw2 6 := by
  show n ≤ v * 64
  omega
theorem st_le {u v : Int} (hu : 1 ≤ u) (hv : 1 ≤ v) (hn : n ≤ 40) (h : v ≤ 2 * u) : stF n 6 u ≤ 1 + stF n 6 v := by
  obtain ⟨a, b, c, d⟩ := stF_ok 6 u (pw64 hu hn)
  obtain ⟨a', b', c', d'⟩ := stF_ok 6 v (pw64 hv hn)
  rcases Int.lt_or_le (1 + stF n 6 v) (stF n 6 u) with q | q
  · have := d (stF n 6 v + 1).toNat (by omega)
    rw [show (stF n 6 v + 1).toNat = (stF n 6 v).toNat + 1 by omega] at this
    have this : u * (2 * pw2 (stF n 6 v).toNat) < n := this
    have p := pw2_pos (stF n 6 v).toNat
    have m : v * pw2 (stF n 6 v).toNat ≤ 2 * u * pw2 (stF n 6 v).toNat := Int.mul_le_mul_of_nonneg_right h (by omega)
    have e : u * (2 * pw2 (stF n 6 v).toNat) = 2 * u * pw2 (stF n 6 v).toNat := by rw [← Int.mul_assoc, Int.mul_comm u 2]
    omega
  · exact q
theorem st_0 {v : Int} (hv : 1 ≤ v) (hn : n ≤ 40) : stF n 6 v = 0 ↔ n ≤ v := by
  obtain ⟨a, b, c, d⟩ := stF_ok 6 v (pw64 hv hn)
  constructor
  · intro e
    rw [e] at c
    have c : n ≤ v * 1 := c
    omega
  · intro h
    rcases Int.lt_or_eq_of_le a with q | q
    · have := d 0 (by omega)
      have this : v * 1 < n := this
      omega
    · exact q.symm
theorem dl_st {f : Int → Int} {k : Nat} {d : Int} (p : Pre f k) (hn : n ≤ 40) (hd : 0 ≤ d) (h : DPb n f k d = true) : stF n 6 (f k) ≤ d := by
  obtain ⟨i, a, b, e⟩ := DPb_iff.mp h
  have fk := Pre_pos p (i := (k : Int)) (by omega) (by omega)
  obtain ⟨x, y, z, w⟩ := stF_ok 6 (f k) (pw64 (show 1 ≤ f k by omega) hn)
  rcases Int.lt_or_le d (stF n 6 (f k)) with q | q
  · have := w d.toNat (by omega)
    have le := Pre_leq p a b (by omega)
    have pp := pw2_pos d.toNat
    have m : f i * pw2 d.toNat ≤ f k * pw2 d.toNat := Int.mul_le_mul_of_nonneg_right le (by omega)
    omega
  · exact q
theorem dlF_le7 {f : Int → Int} {k : Nat} {d : Int} (p : Pre f k) (hn : n ≤ 40) (h : DPb n f k d = true) : d < 7 := by
  obtain ⟨i, a, b, e⟩ := DPb_iff.mp h
  have fi := Pre_pos p a b
  rcases Int.lt_or_le d 7 with q | q
  · exact q
  · have : ∀ c : Nat, 64 ≤ pw2 (6 + c) := fun c => by
      induction c with
      | zero => decide
      | succ c ih => show 64 ≤ 2 * pw2 (6 + c); omega
    have h64 := this (d.toNat - 6)
    rw [show 6 + (d.toNat - 6) = d.toNat by omega] at h64
    have m : 1 * pw2 d.toNat ≤ f i * pw2 d.toNat := Int.mul_le_mul_of_nonneg_right (by omega) (by omega)
    omega
theorem dlF_min {f : Int → Int} {k : Nat} {d : Int} (p : Pre f k) (hn : n ≤ 40) (hd : 0 ≤ d) (h : DPb n f k d = true) : dlF n f k ≠ -1 ∧ dlF n f k ≤ d := by
  have := lowF_min (p := DPb n f k) 7 0 (j := d) hd (by have := dlF_le7 p hn h; omega) h
  unfold dlF
  omega
theorem dlF_in {f : Int → Int} {k : Nat} : dlF n f k = -1 ∨ (0 ≤ dlF n f k ∧ dlF n f k < 7 ∧ DPb n f k (dlF n f k) = true) := by
  unfold dlF
  rcases lowF_in (p := DPb n f k) 7 0 with h | ⟨h1, h2, h3⟩
  · exact Or.inl h
  · exact Or.inr ⟨h1, by omega, h3⟩
theorem mul_mono {a b c : Int} (h : a ≤ b) (hc : 0 ≤ c) : a * c ≤ b * c := Int.mul_le_mul_of_nonneg_right h hc
theorem LB_step {f : Int → Int} {k : Nat} {v : Int} (ht : 1 ≤ tw ∧ tw ≤ 9) (hj : 1 ≤ jo ∧ jo ≤ 9) (hn : n ≤ 40) (p : Pre f k) (hv : f k < v) (hvn : v ≤ n) (hs : SumP f ((k : Int) + 1) v) : LBf n tw jo f k ≤ prC tw jo f k v + LBf n tw jo (wr f ((k : Int) + 1) v) (k + 1) := by
  have fk := Pre_pos p (i := (k : Int)) (by omega) (by omega)
  have pw := Pre_wr (by omega) p hv hs
  have v2 : v ≤ 2 * f k := by
    obtain ⟨a, b, b0, ba, ak, e⟩ := hs
    have x1 := Pre_leq p (i := a) (j := (k : Int)) (by omega) (by omega) (by omega)
    have x2 := Pre_leq p (i := b) (j := (k : Int)) (by omega) (by omega) (by omega)
    omega
  have fw' : wr f ((k : Int) + 1) v ((k + 1 : Nat) : Int) = v := wr_eq (by omega)
  have hs1 := st_le (n := n) (show 1 ≤ f k by omega) (show 1 ≤ v by omega) hn v2
  have s0 := (stF_ok 6 (f k) (pw64 (n := n) (show 1 ≤ f k by omega) hn))
  have s0' := (stF_ok 6 v (pw64 (n := n) (show 1 ≤ v by omega) hn))
  have z' := st_0 (n := n) (show 1 ≤ v by omega) hn
  have pl := prC_lb (tw := tw) (jo := jo) (f := f) (k := k) (v := v) ht hj
  unfold LBf
  rw [fw']
  by_cases hjt : jo ≤ tw
  · rw [if_pos (Or.inr hjt), if_pos (Or.inr hjt)]
    have m := mul_mono (c := min tw jo) hs1 (by omega)
    rw [Int.add_mul, Int.one_mul] at m
    omega
  · by_cases hz : stF n 6 (f k) = 0
    · rw [if_pos (Or.inl hz), hz, Int.zero_mul]
      have : 0 ≤ (if stF n 6 v = 0 ∨ jo ≤ tw then stF n 6 v * min tw jo else if dlF n (wr f ((k : Int) + 1) v) (k + 1) = -1 then (stF n 6 v - 1) * tw + jo else min (dlF n (wr f ((k : Int) + 1) v) (k + 1) * tw) ((stF n 6 v - 1) * tw + jo)) := by
        have a : 0 ≤ stF n 6 v * min tw jo := Int.mul_nonneg s0'.1 (by omega)
        split
        · exact a
        · rename_i q
          have b : 0 ≤ (stF n 6 v - 1) * tw := Int.mul_nonneg (by omega) (by omega)
          split
          · omega
          · rename_i r
            have c : 0 ≤ dlF n (wr f ((k : Int) + 1) v) (k + 1) * tw := Int.mul_nonneg (by have := dlF_in (n := n) (f := wr f ((k : Int) + 1) v) (k := k + 1); omega) (by omega)
            omega
      omega
    · rw [if_neg (by omega)]
      -- what the class reckons with is no more than this
      have ub : (if dlF n f k = -1 then (stF n 6 (f k) - 1) * tw + jo else min (dlF n f k * tw) ((stF n 6 (f k) - 1) * tw + jo)) ≤ (stF n 6 (f k) - 1) * tw + jo := by split <;> omega
      have m1 := mul_mono (c := tw) (show stF n 6 (f k) - 1 ≤ stF n 6 v by omega) (by omega)
      by_cases hd : dblB f k v = true
      · -- a doubling
        have pt : tw ≤ prC tw jo f k v := by
          unfold prC
          rw [if_pos hd]
          split <;> omega
        obtain ⟨i, i0, i1, ei⟩ := dblB_iff.mp hd
        by_cases hz' : stF n 6 v = 0
        · rw [if_pos (Or.inl hz'), hz', Int.zero_mul]
          have vn : v = n := by have := z'.mp hz'; omega
          have dp : DPb n f k 1 = true := DPb_iff.mpr ⟨i, i0, i1, by show f i * (2 * 1) = n; omega⟩
          have := dlF_min p hn (by omega) dp
          rw [if_neg this.1]
          have := mul_mono (c := tw) this.2 (by omega)
          omega
        · rw [if_neg (show ¬ (stF n 6 v = 0 ∨ jo ≤ tw) by omega)]
          rcases dlF_in (n := n) (f := wr f ((k : Int) + 1) v) (k := k + 1) with e | ⟨e0, e1, e2⟩
          · rw [if_pos e]
            have : (stF n 6 v - 1) * tw = stF n 6 v * tw - tw := by rw [Int.sub_mul, Int.one_mul]
            omega
          · rw [if_neg (show ¬ dlF n (wr f ((k : Int) + 1) v) (k + 1) = -1 by omega)]
            have dd : dlF n f k ≠ -1 ∧ dlF n f k ≤ dlF n (wr f ((k : Int) + 1) v) (k + 1) + 1 := by
              obtain ⟨q, q0, q1, eq⟩ := DPb_iff.mp e2
              by_cases ek : q = (k : Int) + 1
              · rw [wr_eq ek] at eq
                refine dlF_min p hn (by omega) (DPb_iff.mpr ⟨i, i0, i1, ?_⟩)
                rw [show (dlF n (wr f ((k : Int) + 1) v) (k + 1) + 1).toNat = (dlF n (wr f ((k : Int) + 1) v) (k + 1)).toNat + 1 by omega]
                show f i * (2 * pw2 _) = n
                rw [← Int.mul_assoc, show f i * 2 = v by omega]
                exact eq
              · rw [wr_ne ek] at eq
                have := dlF_min p hn e0 (DPb_iff.mpr ⟨q, q0, by omega, eq⟩)
                omega
            rw [if_neg dd.1]
            have a1 := mul_mono (c := tw) dd.2 (by omega)
            rw [Int.add_mul, Int.one_mul] at a1
            have : (stF n 6 v - 1) * tw = stF n 6 v * tw - tw := by rw [Int.sub_mul, Int.one_mul]
            omega
      · -- another joining
        have pt : jo ≤ prC tw jo f k v := by
          unfold prC
          rw [if_neg hd]
          split <;> omega
        have lb' : stF n 6 v * tw ≤ (if stF n 6 v = 0 ∨ jo ≤ tw then stF n 6 v * min tw jo else if dlF n (wr f ((k : Int) + 1) v) (k + 1) = -1 then (stF n 6 v - 1) * tw + jo else min (dlF n (wr f ((k : Int) + 1) v) (k + 1) * tw) ((stF n 6 v - 1) * tw + jo)) := by
          have : (stF n 6 v - 1) * tw = stF n 6 v * tw - tw := by rw [Int.sub_mul, Int.one_mul]
          split
          · rw [show min tw jo = tw by omega]; omega
          · split
            · omega
            · rename_i r
              rcases dlF_in (n := n) (f := wr f ((k : Int) + 1) v) (k := k + 1) with e | ⟨e0, e1, e2⟩
              · exact absurd e r
              · have := dl_st pw hn e0 e2
                rw [show ((k : Int) + 1) = ((k + 1 : Nat) : Int) by omega] at this
                rw [show wr f ((k + 1 : Nat) : Int) v ((k + 1 : Nat) : Int) = v from wr_at] at this
                rw [show ((k + 1 : Nat) : Int) = (k : Int) + 1 by omega] at this
                have := mul_mono (c := tw) this (by omega)
                omega
        omega
theorem LB_mc (ht : 1 ≤ tw ∧ tw ≤ 9) (hj : 1 ≤ jo ∧ jo ≤ 9) (hn : n ≤ 40) : ∀ (F : Nat) {f : Int → Int} {k : Nat}, Pre f k → f k ≤ n → LBf n tw jo f k ≤ mc n tw jo F f k := by
  have bd : ∀ {f : Int → Int} {k : Nat}, Pre f k → LBf n tw jo f k ≤ 1000000 := fun {f k} p => by
    have fk := Pre_pos p (i := (k : Int)) (by omega) (by omega)
    have s0 := (stF_ok 6 (f k) (pw64 (n := n) (show 1 ≤ f k by omega) hn))
    unfold LBf
    have a := mul_mono (c := min tw jo) s0.2.1 (by omega)
    have b := mul_mono (c := tw) (show stF n 6 (f k) - 1 ≤ 6 by omega) (by omega)
    split
    · omega
    · split <;> omega
  have zero : ∀ {f : Int → Int} {k : Nat}, Pre f k → f k = n → LBf n tw jo f k = 0 := fun {f k} p e => by
    have fk := Pre_pos p (i := (k : Int)) (by omega) (by omega)
    have := (st_0 (n := n) (show 1 ≤ f k by omega) hn).mpr (by omega)
    unfold LBf
    rw [if_pos (Or.inl this), this, Int.zero_mul]
  intro F
  induction F with
  | zero =>
    intro f k p h
    rw [mc]
    split
    · rename_i e; rw [zero p e]; exact Int.le_refl _
    · exact bd p
  | succ F ih =>
    intro f k p h
    rw [mc]
    split
    · rename_i e; rw [zero p e]; exact Int.le_refl _
    · refine minO_lb (bd p) _ _ (fun v v0 v1 => ?_)
      show LBf n tw jo f k ≤ prC tw jo f k v + mc n tw jo F (wr f ((k : Int) + 1) v) (k + 1)
      by_cases hs : SumP f ((k : Int) + 1) v
      · have a := LB_step (n := n) ht hj hn p (show f k < v by omega) (by omega) hs
        have b := ih (f := wr f ((k : Int) + 1) v) (k := k + 1) (Pre_wr (by omega) p (show f k < v by omega) hs) (show wr f ((k : Int) + 1) v ((k + 1 : Nat) : Int) ≤ n by rw [wr_eq (by omega)]; omega)
        omega
      · rw [prC_no hs]
        have := bd p
        have := (mc_in (n := n) ht hj F (wr f ((k : Int) + 1) v) (k + 1)).1
        omega
/-- the reference's own bound -/
theorem L0_mc (ht : 1 ≤ tw ∧ tw ≤ 9) (hj : 1 ≤ jo ∧ jo ≤ 9) (hn : n ≤ 40) : ∀ (F : Nat) {f : Int → Int} {k : Nat}, Pre f k → f k ≤ n → stF n 6 (f k) * min tw jo ≤ mc n tw jo F f k := by
  have bd : ∀ {f : Int → Int} {k : Nat}, Pre f k → stF n 6 (f k) * min tw jo ≤ 1000000 := fun {f k} p => by
    have fk := Pre_pos p (i := (k : Int)) (by omega) (by omega)
    have s0 := (stF_ok 6 (f k) (pw64 (n := n) (show 1 ≤ f k by omega) hn))
    have a := mul_mono (c := min tw jo) s0.2.1 (by omega)
    omega
  have zero : ∀ {f : Int → Int} {k : Nat}, Pre f k → f k = n → stF n 6 (f k) * min tw jo = 0 := fun {f k} p e => by
    have fk := Pre_pos p (i := (k : Int)) (by omega) (by omega)
    rw [(st_0 (n := n) (show 1 ≤ f k by omega) hn).mpr (by omega), Int.zero_mul]
  intro F
  induction F with
  | zero =>
    intro f k p h
    rw [mc]
    split
    · rename_i e; rw [zero p e]; exact Int.le_refl _
    · exact bd p
  | succ F ih =>
    intro f k p h
    rw [mc]
    split
    · rename_i e; rw [zero p e]; exact Int.le_refl _
    · refine minO_lb (bd p) _ _ (fun v v0 v1 => ?_)
      show stF n 6 (f k) * min tw jo ≤ prC tw jo f k v + mc n tw jo F (wr f ((k : Int) + 1) v) (k + 1)
      have pl := prC_lb (tw := tw) (jo := jo) (f := f) (k := k) (v := v) ht hj
      by_cases hs : SumP f ((k : Int) + 1) v
      · have b := ih (f := wr f ((k : Int) + 1) v) (k := k + 1) (Pre_wr (by omega) p (show f k < v by omega) hs) (show wr f ((k : Int) + 1) v ((k + 1 : Nat) : Int) ≤ n by rw [wr_eq (by omega)]; omega)
        rw [show wr f ((k : Int) + 1) v ((k + 1 : Nat) : Int) = v from wr_eq (by omega)] at b
        have fk := Pre_pos p (i := (k : Int)) (by omega) (by omega)
        have v2 : v ≤ 2 * f k := by
          obtain ⟨a, b, b0, ba, ak, e⟩ := hs
          have x1 := Pre_leq p (i := a) (j := (k : Int)) (by omega) (by omega) (by omega)
          have x2 := Pre_leq p (i := b) (j := (k : Int)) (by omega) (by omega) (by omega)
          omega
        have hs1 := st_le (n := n) (show 1 ≤ f k by omega) (show 1 ≤ v by omega) hn v2
        have m := mul_mono (c := min tw jo) hs1 (by omega)
        rw [Int.add_mul, Int.one_mul] at m
        omega
      · rw [prC_no hs]
        have := bd p
        have := (mc_in (n := n) ht hj F (wr f ((k : Int) + 1) v) (k + 1)).1
        omega
/-- there is a way: one more each time -/
theorem mc_ub (ht : 1 ≤ tw ∧ tw ≤ 9) (hj : 1 ≤ jo ∧ jo ≤ 9) : ∀ (F : Nat) {f : Int → Int} {k : Nat}, Pre f k → f k ≤ n → n - f k ≤ F → mc n tw jo F f k ≤ (n - f k) * (tw + jo) := by
  intro F
  induction F with
  | zero =>
    intro f k p h hF
    rw [mc, if_pos (by omega)]
    exact Int.mul_nonneg (by omega) (by omega)
  | succ F ih =>
    intro f k p h hF
    rw [mc]
    split
    · exact Int.mul_nonneg (by omega) (by omega)
    · rename_i hne
      obtain ⟨c, hc⟩ : ∃ c, (n - f k).toNat = c + 1 := ⟨(n - f k).toNat - 1, by omega⟩
      rw [hc, minO]
      have hs : SumP f ((k : Int) + 1) (f k + 1) := ⟨k, 0, by omega, by omega, by omega, by rw [p.1]⟩
      have b := ih (f := wr f ((k : Int) + 1) (f k + 1)) (k := k + 1) (Pre_wr (by omega) p (show f k < f k + 1 by omega) hs) (show wr f ((k : Int) + 1) (f k + 1) ((k + 1 : Nat) : Int) ≤ n by rw [wr_eq (by omega)]; omega) (by rw [wr_eq (by omega)]; omega)
      rw [show wr f ((k : Int) + 1) (f k + 1) ((k + 1 : Nat) : Int) = f k + 1 from wr_eq (by omega)] at b
      have pu : prC tw jo f k (f k + 1) ≤ tw + jo := by
        unfold prC
        by_cases hd : dblB f k (f k + 1) = true
        · rw [if_pos hd]; split <;> omega
        · rw [if_neg hd, if_pos]
          · omega
          · obtain ⟨i, j, a, b, c, e⟩ := hs
            by_cases ij : i = j
            · subst ij
              exact absurd (dblB_iff.mpr ⟨i, a, by omega, e⟩) hd
            · exact srrB_iff.mpr ⟨i, j, a, by omega, by omega, e⟩
      have e : (n - f k) * (tw + jo) = (n - (f k + 1)) * (tw + jo) + (tw + jo) := by
        rw [show n - f k = n - (f k + 1) + 1 by omega, Int.add_mul, Int.one_mul]
      omega
end PC
