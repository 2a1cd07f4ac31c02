/-! ===== code of the class, put together ===== -/
def agA (a b : Int) (f g : Int → Int) : Prop := ∀ i, a ≤ i → i < b → g i = f i
/-- the code from a to b puts f on a stack of at most K numbers -/
def GC (cf : Int → Int) (a b K : Int) (f : DT) : Prop := ∀ cf', agA a b cf cf' → ∀ to, b ≤ to → ∀ r c, RV r → (0 ≤ c ∧ c < 8) → (LV (f r c) ∧ ∀ s : List Int, (s.length : Int) ≤ K → ∃ n, cruns r c cf' to n a s b (f r c :: s))
def B01 (f : DT) : Prop := ∀ r c, f r c = 0 ∨ f r c = 1
theorem cruns_tr {r : Int → Int} {c : Int} {cf : Int → Int} {to : Int} : ∀ (n m : Nat) {i j k : Int} {s s1 s2 : List Int}, cruns r c cf to n i s j s1 → cruns r c cf to m j s1 k s2 → cruns r c cf to (n + m) i s k s2
  | 0, m, i, j, k, s, s1, s2, h, g => by
    obtain ⟨e1, e2⟩ := h
    subst e1; subst e2
    rw [Nat.zero_add]
    exact g
  | n + 1, m, i, j, k, s, s1, s2, h, g => by
    obtain ⟨i1, z1, st, h2⟩ := h
    rw [show n + 1 + m = (n + m) + 1 by omega]
    exact ⟨i1, z1, st, cruns_tr n m h2 g⟩
theorem cruns_1 {r : Int → Int} {c : Int} {cf : Int → Int} {to i j : Int} {s s1 : List Int} (h : cstep r c cf to i s j s1) : cruns r c cf to 1 i s j s1 := ⟨j, s1, h, rfl, rfl⟩
theorem agA_l {a b e : Int} {f g : Int → Int} (h : agA a e f g) (hb : b ≤ e) : agA a b f g := fun i x y => h i x (by omega)
theorem agA_r {a b e : Int} {f g : Int → Int} (h : agA a e f g) (hb : a ≤ b) : agA b e f g := fun i x y => h i (by omega) y
theorem agA_tr {a e : Int} {f g k : Int → Int} (h : agA a e f g) (h2 : agA a e g k) : agA a e f k := fun i x y => (h2 i x y).trans (h i x y)
theorem GC_ag {cf cg : Int → Int} {a b K : Int} {f : DT} (h : GC cf a b K f) (g : agA a b cf cg) : GC cg a b K f := fun cf' ag => h cf' (agA_tr g ag)
theorem GC_K {cf : Int → Int} {a b K K' : Int} {f : DT} (h : GC cf a b K f) (g : K' ≤ K) : GC cf a b K' f := fun cf' ag to hto r c v hc => ⟨(h cf' ag to hto r c v hc).1, fun s hs => (h cf' ag to hto r c v hc).2 s (by omega)⟩
theorem GC_push {cf : Int → Int} {a K x : Int} (a0 : 0 ≤ a) (hK : K ≤ 63) (x0 : 0 ≤ x ∧ x ≤ 9999) (e : cf a = 32 * x) : GC cf a (a + 1) K (fun _ _ => x) := fun cf' ag to hto r c v hc =>
  ⟨show LV x from ⟨by omega, by omega⟩, fun s hs => ⟨1, cruns_1 ⟨a0, by omega, 0, x, by rw [ag a (by omega) (by omega), e]; omega, by omega, by omega, by omega, by omega, Or.inl ⟨by omega, by omega, rfl, by rw [if_pos rfl]⟩⟩⟩⟩
theorem GC_name {cf : Int → Int} {a K op : Int} (a0 : 0 ≤ a) (hK : K ≤ 63) (o0 : 1 ≤ op ∧ op ≤ 7) (e : cf a = op) : GC cf a (a + 1) K (fun r c => nmV r c op) := fun cf' ag to hto r c v hc =>
  ⟨nmV_LV v hc, fun s hs => ⟨1, cruns_1 ⟨a0, by omega, op, 0, by rw [ag a (by omega) (by omega), e]; omega, by omega, by omega, by omega, by omega, Or.inl ⟨by omega, by omega, rfl, by rw [if_neg (by omega)]⟩⟩⟩⟩
theorem GC_one {cf : Int → Int} {a b K op : Int} {f : DT} (a0 : 0 ≤ a) (ab : a ≤ b) (o0 : 10 ≤ op ∧ op ≤ 13) (e : cf b = op) (h : GC cf a b K f) (hb : op = 13 → B01 f) : GC cf a (b + 1) K (fun r c => cop1 r op (f r c)) := fun cf' ag to hto r c v hc => by
  obtain ⟨l1, r1⟩ := h cf' (agA_l ag (by omega)) to (by omega) r c v hc
  refine ⟨cop1_LV v l1 (fun z => hb z r c) o0, fun s hs => ?_⟩
  obtain ⟨n, g⟩ := r1 s hs
  refine ⟨n + 1, cruns_tr n 1 g (cruns_1 ⟨by omega, by omega, op, 0, by rw [ag b (by omega) (by omega), e]; omega, by omega, by omega, by omega, by omega, ?_⟩)⟩
  exact Or.inr (Or.inr (Or.inr (Or.inl ⟨by omega, by omega, f r c, s, rfl, fun z => hb z r c, rfl, rfl⟩)))
theorem GC_two {cf : Int → Int} {a b e K op : Int} {f g : DT} (a0 : 0 ≤ a) (ab : a ≤ b) (be : b ≤ e) (o0 : 14 ≤ op ∧ op ≤ 25) (ee : cf e = op) (h : GC cf a b K f) (h2 : GC cf b e (K + 1) g) (hb : 24 ≤ op → B01 f ∧ B01 g) : GC cf a (e + 1) K (fun r c => cop2 op (f r c) (g r c)) := fun cf' ag to hto r c v hc => by
  obtain ⟨l1, r1⟩ := h cf' (agA_l ag (by omega)) to (by omega) r c v hc
  obtain ⟨l2, r2⟩ := h2 cf' (agA_l (agA_r ag ab) (by omega)) to (by omega) r c v hc
  refine ⟨cop2_LV l1 l2 (fun z => ⟨(hb z).2 r c, (hb z).1 r c⟩), fun s hs => ?_⟩
  obtain ⟨n, g1⟩ := r1 s hs
  obtain ⟨m, g2⟩ := r2 (f r c :: s) (by simp; omega)
  refine ⟨n + m + 1, cruns_tr (n + m) 1 (cruns_tr n m g1 g2) (cruns_1 ⟨by omega, by omega, op, 0, by rw [ag e (by omega) (by omega), ee]; omega, by omega, by omega, by omega, by omega, ?_⟩)⟩
  exact Or.inr (Or.inr (Or.inr (Or.inr ⟨by omega, g r c, f r c, s, rfl, fun z => ⟨(hb z).2 r c, (hb z).1 r c⟩, rfl, rfl⟩)))
theorem GC_if {cf : Int → Int} {a u j e K : Int} {b f g : DT} (a0 : 0 ≤ a) (au : a ≤ u) (uj : u + 1 ≤ j) (je : j + 1 ≤ e) (he : e ≤ 300) (h9 : cf u = 32 * (j + 1) + 9) (h8 : cf j = 32 * e + 8) (h : GC cf a u K b) (h1 : GC cf (u + 1) j K f) (h2 : GC cf (j + 1) e K g) : GC cf a e K (fun r c => if b r c = 0 then g r c else f r c) := fun cf' ag to hto r c v hc => by
  obtain ⟨l0, r0⟩ := h cf' (agA_l ag (by omega)) to (by omega) r c v hc
  obtain ⟨l1, r1⟩ := h1 cf' (agA_l (agA_r ag (by omega)) (by omega)) to (by omega) r c v hc
  obtain ⟨l2, r2⟩ := h2 cf' (agA_r ag (by omega)) to hto r c v hc
  refine ⟨by show LV (if b r c = 0 then g r c else f r c); split <;> assumption, fun s hs => ?_⟩
  obtain ⟨n, g0⟩ := r0 s hs
  obtain ⟨n1, g1⟩ := r1 s hs
  obtain ⟨n2, g2⟩ := r2 s hs
  show ∃ n, cruns r c cf' to n a s e ((if b r c = 0 then g r c else f r c) :: s)
  by_cases z : b r c = 0
  · rw [if_pos z]
    refine ⟨n + 1 + n2, cruns_tr (n + 1) n2 (cruns_tr n 1 g0 (cruns_1 ⟨by omega, by omega, 9, j + 1, by rw [ag u (by omega) (by omega), h9], by omega, by omega, by omega, by omega, ?_⟩)) g2⟩
    exact Or.inr (Or.inr (Or.inl ⟨rfl, b r c, s, rfl, rfl, by rw [if_pos z]; omega⟩))
  · rw [if_neg z]
    refine ⟨n + 1 + n1 + 1, cruns_tr (n + 1 + n1) 1 (cruns_tr (n + 1) n1 (cruns_tr n 1 g0 (cruns_1 ⟨by omega, by omega, 9, j + 1, by rw [ag u (by omega) (by omega), h9], by omega, by omega, by omega, by omega, ?_⟩)) g1) (cruns_1 ⟨by omega, by omega, 8, e, by rw [ag j (by omega) (by omega), h8], by omega, by omega, by omega, by omega, ?_⟩)⟩
    · exact Or.inr (Or.inr (Or.inl ⟨rfl, b r c, s, rfl, rfl, by rw [if_neg z]⟩))
    · exact Or.inr (Or.inl ⟨rfl, by omega, rfl⟩)
theorem cop2_B01 {op : Int} {f g : DT} (o0 : 18 ≤ op ∧ op ≤ 25) (hb : 24 ≤ op → B01 f ∧ B01 g) : B01 (fun r c => cop2 op (f r c) (g r c)) := fun r c => by
  show cop2 op (f r c) (g r c) = 0 ∨ cop2 op (f r c) (g r c) = 1
  unfold cop2
  rw [if_neg (by omega), if_neg (by omega), if_neg (by omega), if_neg (by omega)]
  repeat' split
  all_goals first | exact b01_2 | exact Or.inl rfl | exact Or.inr rfl | exact (hb (by omega)).2 r c
