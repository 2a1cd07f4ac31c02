/-! ===== code of the reference, put together ===== -/
/-- the code from a to b puts f on the values (k false) or on the truths (k true) -/
def GX (k : Bool) (mf mg : Int → Int) (a b : Int) (f : DT) : Prop := ∀ mf' mg', agA a b mf mf' → agA a b mg mg' → ∀ to, b ≤ to → ∀ r c, RV r → (0 ≤ c ∧ c < 8) → (LV (f r c) ∧ ∀ s u : List Int, (s.length : Int) ≤ a → (u.length : Int) ≤ a → ∃ n, mruns r c mf' mg' to n a s u b (if k then s else f r c :: s) (if k then f r c :: u else u))
theorem mruns_tr {r : Int → Int} {c : Int} {mf mg : Int → Int} {to : Int} : ∀ (n m : Nat) {i j e : Int} {s s1 s2 u u1 u2 : List Int}, mruns r c mf mg to n i s u j s1 u1 → mruns r c mf mg to m j s1 u1 e s2 u2 → mruns r c mf mg to (n + m) i s u e s2 u2
  | 0, m, i, j, e, s, s1, s2, u, u1, u2, h, g => by
    obtain ⟨e1, e2, e3⟩ := h
    subst e1; subst e2; subst e3
    rw [Nat.zero_add]
    exact g
  | n + 1, m, i, j, e, s, s1, s2, u, u1, u2, h, g => by
    obtain ⟨z1, y1, st, h2⟩ := h
    rw [show n + 1 + m = (n + m) + 1 by omega]
    exact ⟨z1, y1, st, mruns_tr n m h2 g⟩
theorem mruns_1 {r : Int → Int} {c : Int} {mf mg : Int → Int} {to i : Int} {s s1 u u1 : List Int} (h : mstep r c mf mg to i s u s1 u1) : mruns r c mf mg to 1 i s u (i + 1) s1 u1 := ⟨s1, u1, h, rfl, rfl, rfl⟩
theorem GX_ag {k : Bool} {mf mg mf1 mg1 : Int → Int} {a b : Int} {f : DT} (h : GX k mf mg a b f) (g1 : agA a b mf mf1) (g2 : agA a b mg mg1) : GX k mf1 mg1 a b f := fun mf' mg' x y => h mf' mg' (agA_tr g1 x) (agA_tr g2 y)
theorem GX_num {mf mg : Int → Int} {a x : Int} (a0 : 0 ≤ a) (x0 : 0 ≤ x ∧ x ≤ 9999) (e : mf a = 0) (e2 : mg a = x) : GX false mf mg a (a + 1) (fun _ _ => x) := fun mf' mg' g1 g2 to hto r c v hc =>
  ⟨show LV x from ⟨by omega, by omega⟩, fun s u hs hu => ⟨1, mruns_1 ⟨a0, by omega, hs, hu, Or.inl ⟨by rw [g1 a (by omega) (by omega), e], by rw [g2 a (by omega) (by omega), e2]; exact ⟨by omega, by omega⟩, by rw [g2 a (by omega) (by omega), e2]; rfl, rfl⟩⟩⟩⟩
theorem GX_name {mf mg : Int → Int} {a x : Int} (a0 : 0 ≤ a) (x0 : 0 ≤ x ∧ x ≤ 6) (e : mf a = 1) (e2 : mg a = x) : GX false mf mg a (a + 1) (fun r c => nmV r c (x + 1)) := fun mf' mg' g1 g2 to hto r c v hc =>
  ⟨nmV_LV v hc, fun s u hs hu => ⟨1, mruns_1 ⟨a0, by omega, hs, hu, Or.inr (Or.inl ⟨by rw [g1 a (by omega) (by omega), e], by rw [g2 a (by omega) (by omega), e2]; omega, by rw [g2 a (by omega) (by omega), e2]; omega, by rw [g2 a (by omega) (by omega), e2]; rfl, rfl⟩)⟩⟩⟩
theorem GX_one {mf mg : Int → Int} {a b op : Int} {f : DT} (a0 : 0 ≤ a) (ab : a < b) (o0 : op = 2 ∨ op = 4 ∨ op = 5) (e : mf b = op) (h : GX false mf mg a b f) : GX false mf mg a (b + 1) (fun r c => mop1 r op (f r c)) := fun mf' mg' g1 g2 to hto r c v hc => by
  obtain ⟨l1, r1⟩ := h mf' mg' (agA_l g1 (by omega)) (agA_l g2 (by omega)) to (by omega) r c v hc
  refine ⟨mop1_LV v l1, fun s u hs hu => ?_⟩
  obtain ⟨n, g⟩ := r1 s u hs hu
  have em : mf' b = op := by rw [g1 b (by omega) (by omega), e]
  refine ⟨n + 1, mruns_tr n 1 g (mruns_1 ⟨by omega, by omega, by simp; omega, by simp; omega, Or.inr (Or.inr (Or.inr (Or.inl ⟨by rw [em]; exact o0, f r c, s, rfl, by rw [em]; rfl, rfl⟩)))⟩)⟩
theorem GX_two {mf mg : Int → Int} {a b e op : Int} {f g : DT} (a0 : 0 ≤ a) (ab : a < b) (be : b < e) (o0 : 6 ≤ op ∧ op ≤ 9) (ee : mf e = op) (h : GX false mf mg a b f) (h2 : GX false mf mg b e g) : GX false mf mg a (e + 1) (fun r c => mop2 op (f r c) (g r c)) := fun mf' mg' g1 g2 to hto r c v hc => by
  obtain ⟨l1, r1⟩ := h mf' mg' (agA_l g1 (by omega)) (agA_l g2 (by omega)) to (by omega) r c v hc
  obtain ⟨l2, r2⟩ := h2 mf' mg' (agA_l (agA_r g1 (by omega)) (by omega)) (agA_l (agA_r g2 (by omega)) (by omega)) to (by omega) r c v hc
  refine ⟨mop2_LV l1, fun s u hs hu => ?_⟩
  obtain ⟨n, k1⟩ := r1 s u hs hu
  obtain ⟨m, k2⟩ := r2 (f r c :: s) u (by simp; omega) (by omega)
  have em : mf' e = op := by rw [g1 e (by omega) (by omega), ee]
  refine ⟨n + m + 1, mruns_tr (n + m) 1 (mruns_tr n m k1 k2) (mruns_1 ⟨by omega, by omega, by simp; omega, by simp; omega, Or.inr (Or.inr (Or.inr (Or.inr (Or.inl ⟨by omega, by omega, f r c, g r c, s, rfl, by rw [em]; rfl, rfl⟩))))⟩)⟩
theorem GX_cmp {mf mg : Int → Int} {a b e op : Int} {f g : DT} (a0 : 0 ≤ a) (ab : a < b) (be : b < e) (o0 : 10 ≤ op ∧ op ≤ 15) (ee : mf e = op) (h : GX false mf mg a b f) (h2 : GX false mf mg b e g) : GX true mf mg a (e + 1) (fun r c => mcmp op (f r c) (g r c)) := fun mf' mg' g1 g2 to hto r c v hc => by
  obtain ⟨l1, r1⟩ := h mf' mg' (agA_l g1 (by omega)) (agA_l g2 (by omega)) to (by omega) r c v hc
  obtain ⟨l2, r2⟩ := h2 mf' mg' (agA_l (agA_r g1 (by omega)) (by omega)) (agA_l (agA_r g2 (by omega)) (by omega)) to (by omega) r c v hc
  refine ⟨?_, fun s u hs hu => ?_⟩
  · rcases mcmp_01 (op := op) (x := f r c) (y := g r c) with z | z
    · exact show LV (mcmp op (f r c) (g r c)) by rw [z]; exact ⟨by decide, by decide⟩
    · exact show LV (mcmp op (f r c) (g r c)) by rw [z]; exact ⟨by decide, by decide⟩
  obtain ⟨n, k1⟩ := r1 s u hs hu
  obtain ⟨m, k2⟩ := r2 (f r c :: s) u (by simp; omega) (by omega)
  have em : mf' e = op := by rw [g1 e (by omega) (by omega), ee]
  refine ⟨n + m + 1, mruns_tr (n + m) 1 (mruns_tr n m k1 k2) (mruns_1 ⟨by omega, by omega, by simp; omega, by simp; omega, Or.inr (Or.inr (Or.inr (Or.inr (Or.inr (Or.inl ⟨by omega, by omega, f r c, g r c, s, rfl, rfl, by rw [em]; rfl⟩)))))⟩)⟩
theorem GX_not {mf mg : Int → Int} {a b : Int} {f : DT} (a0 : 0 ≤ a) (ab : a < b) (e : mf b = 20) (hb : B01 f) (h : GX true mf mg a b f) : GX true mf mg a (b + 1) (fun r c => 1 - f r c) := fun mf' mg' g1 g2 to hto r c v hc => by
  obtain ⟨l1, r1⟩ := h mf' mg' (agA_l g1 (by omega)) (agA_l g2 (by omega)) to (by omega) r c v hc
  refine ⟨?_, fun s u hs hu => ?_⟩
  · rcases hb r c with z | z
    · exact show LV (1 - f r c) by rw [z]; exact ⟨by decide, by decide⟩
    · exact show LV (1 - f r c) by rw [z]; exact ⟨by decide, by decide⟩
  obtain ⟨n, g⟩ := r1 s u hs hu
  have em : mf' b = 20 := by rw [g1 b (by omega) (by omega), e]
  refine ⟨n + 1, mruns_tr n 1 g (mruns_1 ⟨by omega, by omega, by simp; omega, by simp; omega, Or.inr (Or.inr (Or.inr (Or.inr (Or.inr (Or.inr (Or.inl ⟨em, f r c, u, rfl, rfl, rfl⟩))))))⟩)⟩
theorem mjoin_01 {op x y : Int} (hy : y = 0 ∨ y = 1) : mjoin op x y = 0 ∨ mjoin op x y = 1 := by
  unfold mjoin
  split
  · split
    · exact Or.inl rfl
    · exact hy
  · split
    · exact hy
    · exact Or.inr rfl
theorem GX_and {mf mg : Int → Int} {a b e op : Int} {f g : DT} (a0 : 0 ≤ a) (ab : a < b) (be : b < e) (o0 : op = 21 ∨ op = 22) (ee : mf e = op) (hg : B01 g) (h : GX true mf mg a b f) (h2 : GX true mf mg b e g) : GX true mf mg a (e + 1) (fun r c => mjoin op (f r c) (g r c)) := fun mf' mg' g1 g2 to hto r c v hc => by
  obtain ⟨l1, r1⟩ := h mf' mg' (agA_l g1 (by omega)) (agA_l g2 (by omega)) to (by omega) r c v hc
  obtain ⟨l2, r2⟩ := h2 mf' mg' (agA_l (agA_r g1 (by omega)) (by omega)) (agA_l (agA_r g2 (by omega)) (by omega)) to (by omega) r c v hc
  refine ⟨?_, fun s u hs hu => ?_⟩
  · rcases mjoin_01 (op := op) (x := f r c) (hg r c) with z | z
    · exact show LV (mjoin op (f r c) (g r c)) by rw [z]; exact ⟨by decide, by decide⟩
    · exact show LV (mjoin op (f r c) (g r c)) by rw [z]; exact ⟨by decide, by decide⟩
  obtain ⟨n, k1⟩ := r1 s u hs hu
  obtain ⟨m, k2⟩ := r2 s (f r c :: u) (by omega) (by simp; omega)
  have em : mf' e = op := by rw [g1 e (by omega) (by omega), ee]
  refine ⟨n + m + 1, mruns_tr (n + m) 1 (mruns_tr n m k1 k2) (mruns_1 ⟨by omega, by omega, by simp; omega, by simp; omega, Or.inr (Or.inr (Or.inr (Or.inr (Or.inr (Or.inr (Or.inr ⟨by omega, f r c, g r c, u, rfl, rfl, by rw [em]; rfl⟩))))))⟩)⟩
theorem GX_sel {mf mg : Int → Int} {a b e z : Int} {p f g : DT} (a0 : 0 ≤ a) (ab : a < b) (be : b < e) (ez : e < z) (ee : mf z = 3) (h : GX true mf mg a b p) (h1 : GX false mf mg b e f) (h2 : GX false mf mg e z g) : GX false mf mg a (z + 1) (fun r c => if p r c = 0 then g r c else f r c) := fun mf' mg' g1 g2 to hto r c v hc => by
  obtain ⟨l0, r0⟩ := h mf' mg' (agA_l g1 (by omega)) (agA_l g2 (by omega)) to (by omega) r c v hc
  obtain ⟨l1, r1⟩ := h1 mf' mg' (agA_l (agA_r g1 (by omega)) (by omega)) (agA_l (agA_r g2 (by omega)) (by omega)) to (by omega) r c v hc
  obtain ⟨l2, r2⟩ := h2 mf' mg' (agA_l (agA_r g1 (by omega)) (by omega)) (agA_l (agA_r g2 (by omega)) (by omega)) to (by omega) r c v hc
  refine ⟨by show LV (if p r c = 0 then g r c else f r c); split <;> assumption, fun s u hs hu => ?_⟩
  obtain ⟨n0, k0⟩ := r0 s u hs hu
  obtain ⟨n1, k1⟩ := r1 s (p r c :: u) (by omega) (by simp; omega)
  obtain ⟨n2, k2⟩ := r2 (f r c :: s) (p r c :: u) (by simp; omega) (by simp; omega)
  have em : mf' z = 3 := by rw [g1 z (by omega) (by omega), ee]
  refine ⟨n0 + n1 + n2 + 1, mruns_tr (n0 + n1 + n2) 1 (mruns_tr (n0 + n1) n2 (mruns_tr n0 n1 k0 k1) k2) (mruns_1 ⟨by omega, by omega, by simp; omega, by simp; omega, Or.inr (Or.inr (Or.inl ⟨em, g r c, f r c, s, p r c, u, rfl, rfl, rfl, rfl⟩))⟩)⟩
/-- what waits (the top first) being put behind the code gives f -/
def PM (k : Bool) (mf mg : Int → Int) (a w : Int) : List Int → DT → Prop
  | [], f => GX k mf mg a w f
  | x :: E, f => ∀ mf' mg', agA a w mf mf' → agA a w mg mg' → mf' w = x → PM k mf' mg' a (w + 1) E f
theorem PM_ag {k : Bool} {mf mg mf1 mg1 : Int → Int} {a w : Int} {f : DT} : ∀ (E : List Int), PM k mf mg a w E f → agA a w mf mf1 → agA a w mg mg1 → PM k mf1 mg1 a w E f
  | [], h, g1, g2 => GX_ag h g1 g2
  | _ :: _, h, g1, g2 => fun mf' mg' x1 x2 e => h mf' mg' (agA_tr g1 x1) (agA_tr g2 x2) e
/-- a part behind another: what waits of it, and then op, gives h -/
theorem PM_lift {k k' : Bool} {op a b : Int} {g h : DT} (hab : a ≤ b) : ∀ (E : List Int) (w : Int) (mf mg : Int → Int), b < w → (∀ mf' mg' e, w ≤ e → agA a b mf mf' → agA a b mg mg' → GX k mf' mg' b e g → mf' e = op → GX k' mf' mg' a (e + 1) h) → PM k mf mg b w E g → PM k' mf mg a w (E ++ [op]) h
  | [], w, mf, mg, hw, step, p => fun mf' mg' x1 x2 e => step mf' mg' w (by omega) (agA_l x1 (by omega)) (agA_l x2 (by omega)) (GX_ag p (agA_r x1 hab) (agA_r x2 hab)) e
  | x :: E, w, mf, mg, hw, step, p => fun mf' mg' x1 x2 e => by
    refine PM_lift hab E (w + 1) mf' mg' (by omega) (fun mf2 mg2 e2 he y1 y2 g2 => ?_) (p mf' mg' (agA_r x1 hab) (agA_r x2 hab) e)
    exact step mf2 mg2 e2 (by omega) (agA_tr (agA_l x1 (by omega)) y1) (agA_tr (agA_l x2 (by omega)) y2) g2
def apU : List Int → DT → DT
  | [], f => f
  | x :: U, f => apU U (fun r c => mop1 r x (f r c))
