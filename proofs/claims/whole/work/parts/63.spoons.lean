/-! ===== spoons: what can be come by ===== -/
def Der (S : Int → Prop) (x : Int) : Prop := ∃ a b, S a ∧ S b ∧ (x = a + b ∨ x = a - b)
def Ad (S : Int → Prop) (v : Int) : Int → Prop := fun x => S x ∨ x = v
def Rb (n : Int) (B : Int → Prop) : Nat → (Int → Prop) → Prop
  | 0, _ => False
  | R + 1, S => (Der S n ∧ ¬ S n ∧ ¬ B n) ∨ ∃ v, 1 ≤ v ∧ v ≤ 80 ∧ ¬ S v ∧ ¬ B v ∧ Der S v ∧ Rb n B R (Ad S v)
def PS (f : Int → Int) (k : Int) : Int → Prop := fun x => ∃ i, 0 ≤ i ∧ i ≤ k ∧ f i = x
def noB : Int → Prop := fun _ => False
section SP
variable {n : Int} {B : Int → Prop}
theorem Der_mono {S T : Int → Prop} {x : Int} (h : ∀ y, S y → T y) (d : Der S x) : Der T x := by
  obtain ⟨a, b, ha, hb, e⟩ := d
  exact ⟨a, b, h a ha, h b hb, e⟩
theorem Ad_comm {S : Int → Prop} {u v : Int} : Ad (Ad S u) v = Ad (Ad S v) u := by
  funext x
  apply propext
  unfold Ad
  constructor
  · rintro ((h | h) | h)
    · exact Or.inl (Or.inl h)
    · exact Or.inr h
    · exact Or.inl (Or.inr h)
  · rintro ((h | h) | h)
    · exact Or.inl (Or.inl h)
    · exact Or.inr h
    · exact Or.inl (Or.inr h)
theorem Rb_succ : ∀ (R : Nat) {S : Int → Prop}, Rb n B R S → Rb n B (R + 1) S
  | 0, _, h => by rw [Rb] at h; exact h.elim
  | R + 1, S, h => by
    rw [Rb] at h ⊢
    rcases h with h | ⟨v, a, b, c, d, e, g⟩
    · exact Or.inl h
    · exact Or.inr ⟨v, a, b, c, d, e, Rb_succ R g⟩
theorem Rb_le {R R' : Nat} {S : Int → Prop} (h : R ≤ R') (r : Rb n B R S) : Rb n B R' S := by
  induction R' with
  | zero => rw [Nat.le_zero.mp h] at r; exact r
  | succ R' ih =>
    rcases Nat.lt_or_eq_of_le h with q | q
    · exact Rb_succ _ (ih (by omega))
    · rw [← q]; exact r
theorem Rb_B : ∀ (R : Nat) {S : Int → Prop} {v : Int}, S v → Rb n B R S → Rb n (Ad B v) R S
  | 0, _, _, _, h => h
  | R + 1, S, v, hv, h => by
    rw [Rb] at h ⊢
    rcases h with ⟨a, b, c⟩ | ⟨u, a, b, c, d, e, g⟩
    · exact Or.inl ⟨a, b, fun q => q.elim c (fun q => b (by rw [q]; exact hv))⟩
    · exact Or.inr ⟨u, a, b, c, fun q => q.elim d (fun q => c (by rw [q]; exact hv)), e, Rb_B R (Or.inl hv) g⟩
theorem Rb_sub {C : Int → Prop} (hc : ∀ x, B x → C x) : ∀ (R : Nat) {S : Int → Prop}, Rb n C R S → Rb n B R S
  | 0, _, h => h
  | R + 1, S, h => by
    rw [Rb] at h ⊢
    rcases h with ⟨a, b, c⟩ | ⟨u, a, b, c, d, e, g⟩
    · exact Or.inl ⟨a, b, fun q => c (hc _ q)⟩
    · exact Or.inr ⟨u, a, b, c, fun q => d (hc _ q), e, Rb_sub hc R g⟩
/-- either v is left out, or it comes first -/
theorem Rb_ex : ∀ (R : Nat) {S : Int → Prop} {v : Int}, ¬ S v → Der S v → v ≠ n → Rb n B (R + 1) S → (Rb n (Ad B v) (R + 1) S ∨ Rb n (Ad B v) R (Ad S v))
  | R, S, v, hS, hD, hn, h => by
    rw [Rb] at h
    rcases h with ⟨a, b, c⟩ | ⟨u, a, b, c, d, e, g⟩
    · left
      rw [Rb]
      exact Or.inl ⟨a, b, fun q => q.elim c (fun q => hn q.symm)⟩
    · by_cases uv : u = v
      · subst uv
        right
        exact Rb_B R (Or.inr rfl) g
      · cases R with
        | zero => rw [Rb] at g; exact g.elim
        | succ R =>
          rcases Rb_ex R (S := Ad S u) (v := v) (fun q => q.elim hS (fun q => uv q.symm)) (Der_mono (fun y h => Or.inl h) hD) hn g with q | q
          · left
            rw [Rb]
            exact Or.inr ⟨u, a, b, c, fun w => w.elim d uv, e, q⟩
          · right
            rw [Rb]
            refine Or.inr ⟨u, a, b, fun w => w.elim c uv, fun w => w.elim d uv, Der_mono (fun y h => Or.inl h) e, ?_⟩
            rw [Ad_comm]
            exact q
theorem PS_wr {f : Int → Int} {k : Nat} {v : Int} : PS (wr f ((k : Int) + 1) v) ((k + 1 : Nat) : Int) = Ad (PS f k) v := by
  funext x
  apply propext
  unfold PS Ad
  constructor
  · rintro ⟨i, a, b, e⟩
    by_cases q : i = (k : Int) + 1
    · rw [wr_eq q] at e; exact Or.inr e.symm
    · rw [wr_ne q] at e; exact Or.inl ⟨i, a, by omega, e⟩
  · rintro (⟨i, a, b, e⟩ | e)
    · exact ⟨i, a, by omega, by rw [wr_ne (by omega)]; exact e⟩
    · exact ⟨(k : Int) + 1, by omega, by omega, by rw [wr_at]; exact e.symm⟩
theorem PS_agr {f g : Int → Int} {k : Int} (h : ∀ i, 0 ≤ i → i ≤ k → f i = g i) : PS f k = PS g k := by
  funext x
  apply propext
  unfold PS
  constructor
  · rintro ⟨i, a, b, e⟩; exact ⟨i, a, b, by rw [← h i a b]; exact e⟩
  · rintro ⟨i, a, b, e⟩; exact ⟨i, a, b, by rw [h i a b]; exact e⟩
/-- a chain of sums is one way -/
theorem Rb_chain {g : Int → Int} {J : Nat} (p : Pre g J) (e : g J = n) (h80 : n ≤ 80) : ∀ (c : Nat) (k : Nat), k + c + 1 = J → Rb n noB (c + 1) (PS g k)
  | 0, k, hk => by
    rw [Rb]
    left
    obtain ⟨a, b, b0, ba, ak, s⟩ := (p.2 (J : Int) (by omega) (by omega)).2
    refine ⟨⟨g a, g b, ⟨a, by omega, by omega, rfl⟩, ⟨b, b0, by omega, rfl⟩, Or.inl (by rw [s, e])⟩, fun ⟨i, i0, i1, ei⟩ => ?_, fun h => h⟩
    have := Pre_lt p (i := i) (j := (J : Int)) i0 (by omega) (by omega)
    omega
  | c + 1, k, hk => by
    have ih := Rb_chain p e h80 c (k + 1) (by omega)
    rw [Rb]
    right
    obtain ⟨a, b, b0, ba, ak, s⟩ := (p.2 ((k : Int) + 1) (by omega) (by omega)).2
    have lt := Pre_lt p (i := (k : Int) + 1) (j := (J : Int)) (by omega) (by omega) (by omega)
    have ps := Pre_pos p (i := (k : Int) + 1) (by omega) (by omega)
    refine ⟨g ((k : Int) + 1), by omega, by omega, fun ⟨i, i0, i1, ei⟩ => ?_, fun h => h, ⟨g a, g b, ⟨a, by omega, by omega, rfl⟩, ⟨b, b0, by omega, rfl⟩, Or.inl s.symm⟩, ?_⟩
    · have := Pre_lt p (i := i) (j := (k : Int) + 1) i0 (by omega) (by omega)
      omega
    · rw [← PS_wr, PS_agr (g := g) (fun i i0 i1 => ?_)]
      · exact ih
      · by_cases q : i = (k : Int) + 1
        · rw [wr_eq q, q]
        · rw [wr_ne q]
end SP
/-- the fewest further ones -/
def SpL (n : Int) (m : Nat) : Prop := (n = 1 ∧ m = 0) ∨ (n ≠ 1 ∧ 1 ≤ m ∧ m ≤ 9 ∧ Rb n noB m (PS f1 0) ∧ ∀ j, j < m → ¬ Rb n noB j (PS f1 0))
theorem SpL_ex {n : Int} (h : 1 ≤ n ∧ n ≤ 40) : ∃ m, SpL n m := by
  by_cases e : n = 1
  · exact ⟨0, Or.inl ⟨e, rfl⟩⟩
  · obtain ⟨g, h9, hL⟩ := fw_ok (n := n) (by omega)
    obtain ⟨p, ok⟩ := Lst_Pre (by omega) hL
    have J1 : 1 ≤ fw n := by
      rcases Nat.eq_zero_or_pos (fw n) with q | q
      · exfalso
        have := ok.1
        rw [q] at this
        have h0 : g 0 = n := this
        rw [p.1] at h0
        exact e h0.symm
      · exact q
    have r := Rb_chain p ok.1 (by omega) (fw n - 1) 0 (by omega)
    rw [show fw n - 1 + 1 = fw n by omega, PS_agr (g := f1) (fun i i0 i1 => by
      have : i = 0 := by omega
      subst this
      exact p.1)] at r
    have aux : ∀ (c j : Nat), j + c = fw n → (∀ i, i < j → ¬ Rb n noB i (PS f1 0)) → ∃ m, SpL n m := by
      intro c
      induction c with
      | zero =>
        intro j hj no
        have ej : j = fw n := by omega
        subst ej
        exact ⟨fw n, Or.inr ⟨e, J1, h9, r, no⟩⟩
      | succ c ih =>
        intro j hj no
        by_cases q : Rb n noB j (PS f1 0)
        · refine ⟨j, Or.inr ⟨e, ?_, by omega, q, no⟩⟩
          rcases Nat.eq_zero_or_pos j with w | w
          · subst w; rw [Rb] at q; exact q.elim
          · exact w
        · refine ih (j + 1) (by omega) (fun i hi => ?_)
          rcases Nat.lt_or_ge i j with w | w
          · exact no i w
          · rw [show i = j by omega]; exact q
    exact aux (fw n) 0 (by omega) (fun i hi => absurd hi (by omega))
theorem SpL_uq {n : Int} {a b : Nat} (ha : SpL n a) (hb : SpL n b) : a = b := by
  rcases ha with ⟨x, y⟩ | ⟨x, y, y9, z, w⟩
  · rcases hb with ⟨x', y'⟩ | ⟨x', _⟩
    · omega
    · exact absurd x x'
  · rcases hb with ⟨x', y'⟩ | ⟨x', y', y9', z', w'⟩
    · exact absurd x' x
    · rcases Nat.lt_trichotomy a b with q | q | q
      · exact absurd z (w' a q)
      · exact q
      · exact absurd z' (w b q)
noncomputable def spv (n : Int) : Nat := if h : 1 ≤ n ∧ n ≤ 40 then Classical.choose (SpL_ex h) else 0
theorem spv_ok {n : Int} (h : 1 ≤ n ∧ n ≤ 40) : SpL n (spv n) := by
  unfold spv
  rw [dif_pos h]
  exact Classical.choose_spec (SpL_ex h)
section SC
variable {t : Int}
theorem iabs_nn {x : Int} : iabs x = if x < 0 then -x else x := by
  unfold iabs
  split <;> split <;> omega
/-- the class's search -/
theorem h_reachable {n : Int} (hn : 2 ≤ n ∧ n ≤ 40) : ∀ (l : Nat) {d : Nat} {Q : Int → jM → Prop} {σ : jM} {f : Int → Int} {k : Nat}, k + l + 1 ≤ 11 → σ 290 2 = n → (∀ i, 0 ≤ i → i ≤ (k : Int) → (σ 292 i = f i ∧ 1 ≤ f i ∧ f i ≤ 80)) → ¬ PS f k n → ¬ Rb n noB l (PS f k) → (1 ≤ k → ¬ Rb n noB (l + 1) (PS f ((k : Int) - 1))) → (∀ σ', Rb n noB (l + 1) (PS f k) → (∀ x, x ≠ 292 → σ' x = σ x) → Q 1 σ') → (∀ σ', ¬ Rb n noB (l + 1) (PS f k) → (∀ x, x ≠ 292 → σ' x = σ x) → (∀ i, i ≤ (k : Int) → σ' 292 i = σ 292 i) → Q 0 σ') → Ct mX6_reachable (d + 2 * l + 1) 0 t [rv 290, iv ((k : Int) + 1), iv ((l : Int) + 1)] σ Q := by
  intro l
  induction l with
  | zero =>
    intro d Q σ f k hkl h2 hf hnS hG hH k1 k0
    have fk := hf k (by omega) (by omega)
    refine c_X6_reachable ⟨by omega, rng (by omega) (by omega), fun z => absurd (by omega) z, fun _ => ?_⟩
    rw [show (k : Int) + 1 - 1 = k by omega, fk.1]
    have loop : ∀ (c : Nat) (i : Int), 0 ≤ i → i + c = (k : Int) + 1 → (∀ x, 0 ≤ x → x < i → ¬ (n = f k + f x ∨ n = f k - f x ∨ n = f x - f k)) → Jt mX6_reachable (d + 2 * 0 + 1) 0 t Q 17 [rv 290, iv ((k : Int) + 1), iv (((0 : Nat) : Int) + 1), iv (f k), iv i, uv] [] σ := by
      intro c
      induction c with
      | zero =>
        intro i i0 hi no
        refine b_X6_reachable_17 ⟨rng (by omega) (by omega), rng (by omega) (by omega), fun _ => k0 σ (fun r => ?_) (fun _ _ => rfl) (fun _ _ => rfl), fun z => absurd z (by omega)⟩
        rw [Rb] at r
        rcases r with ⟨⟨a, b, ⟨ia, a0, a1, ea⟩, ⟨ib, b0, b1, eb⟩, e⟩, _, _⟩ | ⟨v, _, _, _, _, _, g⟩
        · by_cases qa : ia = (k : Int)
          · subst qa
            have := no ib b0 (by omega)
            omega
          · by_cases qb : ib = (k : Int)
            · subst qb
              have := no ia a0 (by omega)
              omega
            · refine hH (by omega) ?_
              rw [Rb]
              exact Or.inl ⟨⟨a, b, ⟨ia, a0, by omega, ea⟩, ⟨ib, b0, by omega, eb⟩, e⟩, fun ⟨j, j0, j1, ej⟩ => hnS ⟨j, j0, by omega, ej⟩, fun q => q⟩
        · rw [Rb] at g; exact g
      | succ c ih =>
        intro i i0 hi no
        have fi := hf i i0 (by omega)
        have yes : (n = f k + f i ∨ n = f k - f i ∨ n = f i - f k) → Q 1 σ := fun h => k1 σ (by
          rw [Rb]
          left
          refine ⟨?_, hnS, fun q => q⟩
          rcases h with h | h | h
          · exact ⟨f k, f i, ⟨k, by omega, by omega, rfl⟩, ⟨i, i0, by omega, rfl⟩, Or.inl h⟩
          · exact ⟨f k, f i, ⟨k, by omega, by omega, rfl⟩, ⟨i, i0, by omega, rfl⟩, Or.inr h⟩
          · exact ⟨f i, f k, ⟨i, i0, by omega, rfl⟩, ⟨k, by omega, by omega, rfl⟩, Or.inr h⟩) (fun _ _ => rfl)
        refine b_X6_reachable_17 ⟨rng (by omega) (by omega), rng (by omega) (by omega), fun z => absurd z (by omega), fun _ => ⟨by omega, ?_⟩⟩
        rw [fi.1, h2, iabs_nn]
        refine ⟨rng (by omega) (by omega), rng (by omega) (by omega), fun z => yes (by omega), fun z => ⟨by omega, rng (by omega) (by omega), ?_, rng (by omega) (by omega), fun y => ih (i + 1) (by omega) (by omega) (fun x x0 x1 => ?_), fun y => yes ?_⟩⟩
        · split <;> exact rng (by omega) (by omega)
        · by_cases e : x = i
          · subst e
            split at y <;> omega
          · exact no x x0 (by omega)
        · split at y <;> omega
    exact loop (k + 1) 0 (by omega) (by omega) (fun x x0 x1 => absurd x1 (by omega))
  | succ l ih =>
    intro d Q σ f k hkl h2 hf hnS hG hH k1 k0
    have fk := hf k (by omega) (by omega)
    refine c_X6_reachable ⟨by omega, rng (by omega) (by omega), fun _ => ?_, fun z => absurd z (by omega)⟩
    -- n itself is not to be had yet
    have noN : ¬ Der (PS f k) n := fun q => hG (Rb_le (R := 1) (by omega) (by rw [Rb]; exact Or.inl ⟨q, hnS, fun h => h⟩))
    -- a number that is tried
    have tryv : ∀ (v : Int) (τ : jM) (Q' : Int → jM → Prop), -200 ≤ v → v ≤ 200 → (1 ≤ v → Der (PS f k) v) → (∀ x, x ≠ 292 → τ x = σ x) → (∀ i, i ≤ (k : Int) → τ 292 i = σ 292 i) → (∀ τ', Rb n noB (l + 2) (PS f k) → (∀ x, x ≠ 292 → τ' x = σ x) → Q' 1 τ') → (∀ τ', (1 ≤ v → v ≤ 80 → ¬ PS f k v → ¬ Rb n noB (l + 1) (Ad (PS f k) v)) → (∀ x, x ≠ 292 → τ' x = σ x) → (∀ i, i ≤ (k : Int) → τ' 292 i = σ 292 i) → Q' 0 τ') → Ct mX6_reachableWith (d + 2 * l + 2) 0 t [rv 290, iv v, iv ((k : Int) + 1), iv (((l + 1 : Nat) : Int) + 1 - 1)] τ Q' := by
      intro v τ Q' v0 v1 hD ot h292 y1 y0
      refine c_X6_reachableWith ⟨rng (by omega) (by omega), fun z => y0 τ (fun q => absurd q (by omega)) ot h292, fun z => ⟨rng (by omega) (by omega), fun y => y0 τ (fun _ q => absurd q (by omega)) ot h292, fun y => ⟨rng (by omega) (by omega), fun _ => ?_, fun w => absurd w (by omega)⟩⟩⟩
      have loop : ∀ (c : Nat) (i : Int), 0 ≤ i → i + c = (k : Int) + 1 → (∀ x, 0 ≤ x → x < i → f x ≠ v) → Jt mX6_reachableWith (d + 2 * l + 2) 0 t Q' 22 [rv 290, iv v, iv ((k : Int) + 1), iv (((l + 1 : Nat) : Int) + 1 - 1), iv i] [] τ := by
        intro c
        induction c with
        | zero =>
          intro i i0 hi no
          have hnew : ¬ PS f k v := fun ⟨j, j0, j1, ej⟩ => no j j0 (by omega) ej
          have vn : v ≠ n := fun q => noN (by rw [← q]; exact hD z)
          refine b_X6_reachableWith_22 ⟨rng (by omega) (by omega), rng (by omega) (by omega), fun _ => ⟨by omega, fun σ4 e4 => ?_⟩, fun w => absurd w (by omega)⟩
          have s4 : ∀ i, 0 ≤ i → i ≤ ((k + 1 : Nat) : Int) → (σ4 292 i = wr f ((k : Int) + 1) v i ∧ 1 ≤ wr f ((k : Int) + 1) v i ∧ wr f ((k : Int) + 1) v i ≤ 80) := fun i i0 i1 => by
            by_cases q : i = (k : Int) + 1
            · rw [wr_eq q, e4, up_eq rfl q]; omega
            · rw [wr_ne q, e4, up_ne (Or.inr q), h292 i (by omega)]; exact hf i i0 (by omega)
          have up1 : ∀ R, Rb n noB R (Ad (PS f k) v) → Rb n noB (R + 1) (PS f k) := fun R r => by
            rw [Rb]
            exact Or.inr ⟨v, z, y, hnew, fun q => q, hD z, r⟩
          have := ih (d := d) (Q := fun r5 σ5 => ((r5 = 0 ∨ r5 = 1) ∧ (Q' r5 σ5))) (σ := σ4) (f := wr f ((k : Int) + 1) v) (k := k + 1) (by omega) (by rw [e4, up_row (by decide), ot 290 (by decide)]; exact h2) s4 (by rw [PS_wr]; exact fun q => q.elim hnS (fun q => vn q.symm)) (by rw [PS_wr]; exact fun r => hG (up1 _ r)) (fun _ => by
            rw [show ((k + 1 : Nat) : Int) - 1 = k by omega, PS_agr (g := f) (fun i i0 i1 => wr_ne (by omega))]
            exact hG) (fun σ5 r o5 => ⟨Or.inr rfl, y1 σ5 (by rw [PS_wr] at r; exact up1 _ r) (fun x hx => by rw [o5 x hx, e4, up_row hx]; exact ot x hx)⟩) (fun σ5 r o5 h5 => ⟨Or.inl rfl, y0 σ5 (fun _ _ _ => by rw [PS_wr] at r; exact r) (fun x hx => by rw [o5 x hx, e4, up_row hx]; exact ot x hx) (fun i hi => by rw [h5 i (by omega), e4, up_ne (Or.inr (by omega))]; exact h292 i hi)⟩)
          rw [show ((k + 1 : Nat) : Int) + 1 = (k : Int) + 1 + 1 by omega] at this
          rw [show ((l + 1 : Nat) : Int) + 1 - 1 = (l : Int) + 1 by omega]
          exact this
        | succ c ihc =>
          intro i i0 hi no
          have fi := hf i i0 (by omega)
          refine b_X6_reachableWith_22 ⟨rng (by omega) (by omega), rng (by omega) (by omega), fun w => absurd w (by omega), fun _ => ⟨by omega, ?_⟩⟩
          rw [h292 i (by omega), fi.1]
          refine ⟨rng (by omega) (by omega), rng (by omega) (by omega), fun w => ihc (i + 1) (by omega) (by omega) (fun x x0 x1 => ?_), fun w => y0 τ (fun _ _ q => absurd ⟨i, i0, by omega, w⟩ q) ot h292⟩
          by_cases e : x = i
          · rw [e]; exact w
          · exact no x x0 (by omega)
      exact loop (k + 1) 0 (by omega) (by omega) (fun x x0 x1 => absurd x1 (by omega))
    -- what was tried and failed
    have inner : ∀ (a : Int), 0 ≤ a → a ≤ (k : Int) → (∀ τ, (∀ b, 0 ≤ b → b ≤ a → ∀ v, (v = f a + f b ∨ v = f a - f b ∨ v = f b - f a) → 1 ≤ v → v ≤ 80 → ¬ PS f k v → ¬ Rb n noB (l + 1) (Ad (PS f k) v)) → (∀ x, x ≠ 292 → τ x = σ x) → (∀ i, i ≤ (k : Int) → τ 292 i = σ 292 i) → Jt mX6_reachable (d + 2 * (l + 1) + 1) 0 t Q 71 [rv 290, iv ((k : Int) + 1), iv (((l + 1 : Nat) : Int) + 1), iv (σ 292 ((k : Int) + 1 - 1)), iv (a + 1), uv] [] τ) → ∀ (c : Nat) (b : Int) (τ : jM), 0 ≤ b → b + c = a + 1 → (∀ b', 0 ≤ b' → b' < b → ∀ v, (v = f a + f b' ∨ v = f a - f b' ∨ v = f b' - f a) → 1 ≤ v → v ≤ 80 → ¬ PS f k v → ¬ Rb n noB (l + 1) (Ad (PS f k) v)) → (∀ x, x ≠ 292 → τ x = σ x) → (∀ i, i ≤ (k : Int) → τ 292 i = σ 292 i) → Jt mX6_reachable (d + 2 * (l + 1) + 1) 0 t Q 80 [rv 290, iv ((k : Int) + 1), iv (((l + 1 : Nat) : Int) + 1), iv (σ 292 ((k : Int) + 1 - 1)), iv a, iv b] [] τ := by
      intro a a0 ak nx c
      have fa := hf a a0 ak
      induction c with
      | zero =>
        intro b τ b0 hb no ot h292
        exact b_X6_reachable_80 ⟨rng (by omega) (by omega), rng (by omega) (by omega), fun _ => nx τ (fun b' h1 h2 => no b' h1 (by omega)) ot h292, fun z => absurd z (by omega)⟩
      | succ c ihc =>
        intro b τ b0 hb no ot h292
        have fb := hf b b0 (by omega)
        refine b_X6_reachable_80 ⟨rng (by omega) (by omega), rng (by omega) (by omega), fun z => absurd z (by omega), fun _ => ⟨by omega, by omega, ?_⟩⟩
        rw [h292 a (by omega), fa.1, h292 b (by omega), fb.1]
        refine tryv (f a + f b) τ _ (by omega) (by omega) (fun _ => ⟨f a, f b, ⟨a, a0, ak, rfl⟩, ⟨b, b0, by omega, rfl⟩, Or.inl rfl⟩) ot h292 (fun τ' r o' => ⟨⟨by decide, by decide⟩, fun _ => k1 τ' r o', fun q => absurd q (by decide)⟩) (fun τ' r o' h' => ⟨in0, fun q => absurd rfl q, fun _ => ⟨by omega, by omega, ?_⟩⟩)
        rw [h' a (by omega), fa.1, h' b (by omega), fb.1, iabs_nn]
        refine ⟨rng (by omega) (by omega), tryv _ τ' _ (by split <;> omega) (by split <;> omega) (fun _ => ?_) o' h' (fun τ2 r2 o2 => ⟨⟨by decide, by decide⟩, fun q => absurd q (by decide), fun _ => k1 τ2 r2 o2⟩) (fun τ2 r2 o2 h2' => ⟨in0, fun _ => ihc (b + 1) τ2 (by omega) (by omega) (fun b' h1 h2'' v hv v1 v2 vS => ?_) o2 h2', fun q => absurd rfl q⟩)⟩
        · split
          · exact ⟨f b, f a, ⟨b, b0, by omega, rfl⟩, ⟨a, a0, ak, rfl⟩, Or.inr (by omega)⟩
          · exact ⟨f a, f b, ⟨a, a0, ak, rfl⟩, ⟨b, b0, by omega, rfl⟩, Or.inr rfl⟩
        · by_cases e : b' = b
          · subst e
            rcases hv with hv | hv | hv
            · rw [hv] at v1 v2 vS ⊢
              exact r v1 v2 vS
            · rw [if_neg (by omega), ← hv] at r2
              exact r2 v1 v2 vS
            · rw [if_pos (by omega), show -(f a - f b') = v by omega] at r2
              exact r2 v1 v2 vS
          · exact no b' h1 (by omega) v hv v1 v2 vS
    have outer : ∀ (c : Nat) (a : Int) (τ : jM), 0 ≤ a → a + c = (k : Int) + 1 → (∀ a' b', 0 ≤ b' → b' ≤ a' → a' < a → ∀ v, (v = f a' + f b' ∨ v = f a' - f b' ∨ v = f b' - f a') → 1 ≤ v → v ≤ 80 → ¬ PS f k v → ¬ Rb n noB (l + 1) (Ad (PS f k) v)) → (∀ x, x ≠ 292 → τ x = σ x) → (∀ i, i ≤ (k : Int) → τ 292 i = σ 292 i) → Jt mX6_reachable (d + 2 * (l + 1) + 1) 0 t Q 71 [rv 290, iv ((k : Int) + 1), iv (((l + 1 : Nat) : Int) + 1), iv (σ 292 ((k : Int) + 1 - 1)), iv a, uv] [] τ := by
      intro c
      induction c with
      | zero =>
        intro a τ a0 ha no ot h292
        refine b_X6_reachable_71 ⟨rng (by omega) (by omega), rng (by omega) (by omega), fun _ => k0 τ (fun r => ?_) ot h292, fun z => absurd z (by omega)⟩
        rw [Rb] at r
        rcases r with ⟨q, _, _⟩ | ⟨v, v1, v2, vS, _, ⟨x, y, ⟨ix, x0, x1, ex⟩, ⟨iy, y0, y1, ey⟩, e⟩, g⟩
        · exact noN q
        · rcases Int.le_total iy ix with q | q
          · exact no ix iy y0 q (by omega) v (by omega) v1 v2 vS g
          · exact no iy ix x0 q (by omega) v (by omega) v1 v2 vS g
      | succ c ihc =>
        intro a τ a0 ha no ot h292
        refine b_X6_reachable_71 ⟨rng (by omega) (by omega), rng (by omega) (by omega), fun z => absurd z (by omega), fun _ => ?_⟩
        refine inner a a0 (by omega) (fun τ' no' ot' h' => ihc (a + 1) τ' (by omega) (by omega) (fun a' b' b0 ba aa => ?_) ot' h') (a + 1).toNat 0 τ (by omega) (by omega) (fun b' h1 h2 => absurd h2 (by omega)) ot h292
        by_cases e : a' = a
        · subst e
          exact no' b' b0 ba
        · exact no a' b' b0 ba (by omega)
    exact outer (k + 1) 0 σ (by omega) (by omega) (fun a' b' b0 ba aa => absurd aa (by omega)) (fun _ _ => rfl) (fun _ _ => rfl)
/-- what the class knows of spoons -/
def KP (σ : jM) : Prop := ∀ n, 1 ≤ n → n ≤ 40 → ((σ 291 n = 0 ∨ σ 291 n = (spv n : Int) + 1) ∧ (σ 338 n = 0 ∨ σ 338 n = (spv n : Int)))
theorem spv_9 {n : Int} (h : 1 ≤ n ∧ n ≤ 40) : spv n ≤ 9 := by
  rcases spv_ok h with ⟨_, q⟩ | ⟨_, _, q, _⟩ <;> omega
theorem h_fewestOf {d : Nat} {Q : Int → jM → Prop} {σ : jM} {n : Int} (hn : 1 ≤ n ∧ n ≤ 40) (hP : σ 291 n = 0 ∨ σ 291 n = (spv n : Int) + 1) (k : ∀ σ', (∀ x, x ≠ 290 → x ≠ 291 → x ≠ 292 → σ' x = σ x) → (∀ j, j ≠ n → σ' 291 j = σ 291 j) → σ' 291 n = (spv n : Int) + 1 → Q (spv n) σ') : Ct mX6_fewestOf (d + 30) 0 t [rv 290, iv n] σ Q := by
  have s9 := spv_9 hn
  refine c_X6_fewestOf ⟨by omega, ?_⟩
  have seek : Ct mX6_sought (d + 29) 0 t [rv 290, iv n] σ (fun r2 σ2 => (((0 : Int) ≤ n ∧ n < 41) ∧ (∀ σ4 : jM, σ4 = up σ2 291 n (1 + r2) → (((0 : Int) ≤ n ∧ n < 41) ∧ (Q ((σ4 291 n) - 1) σ4))))) := by
    have fin : ∀ σ2, (∀ x, x ≠ 290 → x ≠ 292 → σ2 x = σ x) → (((0 : Int) ≤ n ∧ n < 41) ∧ (∀ σ4 : jM, σ4 = up σ2 291 n (1 + (spv n : Int)) → (((0 : Int) ≤ n ∧ n < 41) ∧ (Q ((σ4 291 n) - 1) σ4)))) := fun σ2 o2 => by
      refine ⟨by omega, fun σ4 e4 => ⟨by omega, ?_⟩⟩
      rw [show σ4 291 n - 1 = (spv n : Int) by rw [e4, up_at]; omega]
      exact k σ4 (fun x h1 h2 h3 => by rw [e4, up_row h2]; exact o2 x h1 h3) (fun j hj => by rw [e4, up_ne (Or.inr hj), o2 291 (by decide) (by decide)]) (by rw [e4, up_at]; omega)
    refine c_X6_sought (fun σ1 e1 => ⟨by omega, fun σ3 e3 => ?_⟩)
    have o3 : ∀ x, x ≠ 290 → x ≠ 292 → σ3 x = σ x := fun x h1 h2 => by rw [e3, up_row h2, e1, up_row h1]
    have s2 : σ3 290 2 = n := by rw [e3, up_row (by decide), e1, up_at]
    have s0 : σ3 292 0 = 1 := by rw [e3, up_at]
    rcases spv_ok hn with ⟨en, em⟩ | ⟨hne, m1, m9, hR, hno⟩
    · refine b_X6_sought_14 ⟨rng (by omega) (by omega), fun _ => ?_, fun z => absurd z (by omega)⟩
      have := fin σ3 o3
      rw [em] at this
      exact this
    · have PS1 : PS f1 ((0 : Nat) : Int) = PS f1 0 := rfl
      have call : ∀ (m : Nat) (τ : jM) (Q' : Int → jM → Prop), 1 ≤ m → m ≤ spv n → (∀ x, x ≠ 292 → τ x = σ3 x) → τ 292 0 = 1 → (∀ σ', Rb n noB m (PS f1 0) → (∀ x, x ≠ 292 → σ' x = τ x) → Q' 1 σ') → (∀ σ', ¬ Rb n noB m (PS f1 0) → (∀ x, x ≠ 292 → σ' x = τ x) → σ' 292 0 = 1 → Q' 0 σ') → Ct mX6_reachable (d + 28) 0 t [rv 290, iv 1, iv (m : Int)] τ Q' := by
        intro m τ Q' hm1 hm2 ot h0 y1 y0
        obtain ⟨l, hl⟩ : ∃ l, m = l + 1 := ⟨m - 1, by omega⟩
        subst hl
        refine Ct_le (d := d + 2 * l + 1) (h_reachable (t := t) (n := n) ⟨by omega, hn.2⟩ l (d := d) (Q := Q') (σ := τ) (f := f1) (k := 0) (by omega) (by rw [ot 290 (by decide)]; exact s2) (fun i i0 i1 => ?_) (fun ⟨i, _, _, e⟩ => hne (by have e : (1 : Int) = n := e; exact e.symm)) (hno l (by omega)) (fun q => absurd q (by omega)) (fun σ' r o' => y1 σ' r o') (fun σ' r o' h' => y0 σ' r o' ?_)) (by omega)
        · have : i = 0 := by omega
          subst this
          exact ⟨h0, by decide, by decide⟩
        · rw [h' 0 (by omega)]; exact h0
      have loop : ∀ (c m : Nat) (τ : jM), 1 ≤ m → m + c = spv n → (∀ x, x ≠ 292 → τ x = σ3 x) → τ 292 0 = 1 → Jt mX6_sought (d + 29) 0 t (fun r2 σ2 => (((0 : Int) ≤ n ∧ n < 41) ∧ (∀ σ4 : jM, σ4 = up σ2 291 n (1 + r2) → (((0 : Int) ≤ n ∧ n < 41) ∧ (Q ((σ4 291 n) - 1) σ4))))) 14 [rv 290, iv n, iv (m : Int)] [] τ := by
        intro c
        induction c with
        | zero =>
          intro m τ hm hc ot h0
          have em : m = spv n := by omega
          refine b_X6_sought_14 ⟨rng (by omega) (by omega), fun z => absurd z (by omega), fun _ => ⟨rng (by omega) (by omega), fun z => absurd z (by omega), fun _ => call m τ _ hm (by omega) ot h0 (fun σ' _ o' => ⟨⟨by decide, by decide⟩, fun q => absurd q (by decide), fun _ => ?_⟩) (fun σ' r _ _ => absurd (by rw [em]; exact hR) r)⟩⟩
          rw [em]
          exact fin σ' (fun x h1 h2 => by rw [o' x h2, ot x h2]; exact o3 x h1 h2)
        | succ c ih =>
          intro m τ hm hc ot h0
          refine b_X6_sought_14 ⟨rng (by omega) (by omega), fun z => absurd z (by omega), fun _ => ⟨rng (by omega) (by omega), fun z => absurd z (by omega), fun _ => call m τ _ hm (by omega) ot h0 (fun σ' r _ => absurd r (hno m (by omega))) (fun σ' _ o' h0' => ⟨in0, fun _ => ?_, fun q => absurd rfl q⟩)⟩⟩
          have := ih (m + 1) σ' (by omega) (by omega) (fun x hx => by rw [o' x hx]; exact ot x hx) h0'
          rw [show ((m + 1 : Nat) : Int) = (m : Int) + 1 by omega] at this
          exact this
      exact loop (spv n - 1) 1 σ3 (by omega) (by omega) (fun _ _ => rfl) s0
  rcases hP with e | e
  · rw [e]
    exact ⟨in0, fun z => absurd rfl z, fun _ => seek⟩
  · rw [e]
    refine ⟨rng (by omega) (by omega), fun _ => ⟨by omega, ?_⟩, fun z => absurd z (by omega)⟩
    rw [show (spv n : Int) + 1 - 1 = spv n by omega]
    exact k σ (fun _ _ _ _ => rfl) (fun _ _ => rfl) e
end SC
