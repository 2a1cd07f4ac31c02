/-! ===== the reference's spoons ===== -/
section SR
variable {t : Int} {L : LT}
theorem Rb_subN {n : Int} {B C : Int → Prop} (hn : 1 ≤ n ∧ n ≤ 80) (hc : ∀ x, 1 ≤ x → x ≤ 80 → B x → C x) : ∀ (R : Nat) {S : Int → Prop}, Rb n C R S → Rb n B R S
  | 0, _, h => h
  | R + 1, S, h => by
    rw [Rb] at h ⊢
    rcases h with ⟨a, b, c⟩ | ⟨u, a, b, c, d, e, g⟩
    · exact Or.inl ⟨a, b, fun q => c (hc _ hn.1 hn.2 q)⟩
    · exact Or.inr ⟨u, a, b, c, fun q => d (hc _ a b q), e, Rb_subN hn hc R g⟩
theorem Rb_grow {n : Int} {B : Int → Prop} : ∀ (R : Nat) {S : Int → Prop} {m : Int}, 1 ≤ m → (∀ x, S x → 1 ≤ x ∧ x ≤ m) → Rb n B R S → n ≤ m * pw2 R
  | 0, _, _, _, _, h => by rw [Rb] at h; exact h.elim
  | R + 1, S, m, hm, hS, h => by
    have der : ∀ x, Der S x → x ≤ 2 * m := fun x ⟨a, b, ha, hb, e⟩ => by
      have := hS a ha
      have := hS b hb
      omega
    have e : m * pw2 (R + 1) = 2 * m * pw2 R := by
      show m * (2 * pw2 R) = _
      rw [← Int.mul_assoc, Int.mul_comm m 2]
    rw [Rb] at h
    rcases h with ⟨a, _, _⟩ | ⟨v, v1, _, _, _, d, g⟩
    · have := der n a
      have p := pw2_pos R
      have : 2 * m * 1 ≤ 2 * m * pw2 R := Int.mul_le_mul_of_nonneg_left p (by omega)
      omega
    · have := Rb_grow R (m := 2 * m) (by omega) (fun x hx => by
        rcases hx with hx | hx
        · have := hS x hx; omega
        · have := der v d; omega) g
      omega
/-- a row of marks with all of T marked -/
def InvT (σ τ : jM) (p : Int) (T : Int → Prop) : Prop := (∀ x, x ≠ 337 → τ x = σ x) ∧ (∀ j, (j < 81 * p + 1 ∨ 81 * p + 80 < j) → τ 337 j = σ 337 j) ∧ ∀ x, 1 ≤ x → x ≤ 80 → ((σ 337 (81 * p + x) ≠ 0 → τ 337 (81 * p + x) = σ 337 (81 * p + x)) ∧ (σ 337 (81 * p + x) = 0 → T x → τ 337 (81 * p + x) = 1) ∧ (σ 337 (81 * p + x) = 0 → ¬ T x → τ 337 (81 * p + x) = 0))
def marks (σ : jM) (p : Int) : Prop := ∀ x, 1 ≤ x → x ≤ 80 → (σ 337 (81 * p + x) = 0 ∨ σ 337 (81 * p + x) = 1 ∨ σ 337 (81 * p + x) = 2)
theorem m_spoonAt {d : Nat} {Q : Int → jM → Prop} {σ τ : jM} {p v : Int} {T : Int → Prop} (hp : 0 ≤ p ∧ p ≤ 9) (hv : inR v) (hm : marks σ p) (hi : InvT σ τ p T) (k : ∀ τ', InvT σ τ' p (Ad T v) → Q 0 τ') : Ct mX12_spoonAt (d + 1) 9 t [rv 321, iv p, iv v] τ Q := by
  obtain ⟨i1, i2, i3⟩ := hi
  refine c_X12_spoonAt (m_isIn hv ⟨by decide, by decide⟩ ⟨by decide, by decide⟩ ⟨b01_R, fun z => ?_, fun z => ?_⟩)
  · have := inB_f (b01_0.mp z)
    refine k τ ⟨i1, i2, fun x x0 x1 => ?_⟩
    obtain ⟨a, b, c⟩ := i3 x x0 x1
    exact ⟨a, fun h q => b h (q.elim id (fun q => by omega)), fun h q => c h (fun w => q (Or.inl w))⟩
  · have hv2 := inB_t (b01_1 z)
    obtain ⟨a, b, c⟩ := i3 v hv2.1 hv2.2
    have mv := hm v hv2.1 hv2.2
    refine ⟨by omega, ?_, fun y => ?_, fun y => ⟨by omega, fun σ5 e5 => ?_⟩⟩
    · by_cases h : σ 337 (81 * p + v) = 0
      · by_cases q : T v
        · rw [b h q]; exact ⟨by decide, by decide⟩
        · rw [c h q]; exact in0
      · rw [a h]; rcases mv with w | w | w <;> rw [w] <;> exact ⟨by decide, by decide⟩
    · refine k τ ⟨i1, i2, fun x x0 x1 => ?_⟩
      obtain ⟨a', b', c'⟩ := i3 x x0 x1
      refine ⟨a', fun h q => ?_, fun h q => c' h (fun w => q (Or.inl w))⟩
      rcases q with q | q
      · exact b' h q
      · subst q
        by_cases q : T x
        · exact b' h q
        · exact absurd (c' h q) y
    · have s0 : σ 337 (81 * p + v) = 0 := by
        by_cases h : σ 337 (81 * p + v) = 0
        · exact h
        · rw [a h] at y; exact absurd y h
      refine k σ5 ⟨fun x hx => by rw [e5, up_row hx]; exact i1 x hx, fun j hj => by rw [e5, up_ne (Or.inr (by omega))]; exact i2 j hj, fun x x0 x1 => ?_⟩
      obtain ⟨a', b', c'⟩ := i3 x x0 x1
      by_cases e : x = v
      · subst e
        rw [e5, up_at]
        exact ⟨fun h => absurd s0 h, fun _ _ => rfl, fun _ q => absurd (Or.inr rfl) q⟩
      · rw [e5, up_ne (Or.inr (by omega))]
        exact ⟨a', fun h q => b' h (q.resolve_right e), fun h q => c' h (fun w => q (Or.inl w))⟩
/-- what v makes with the others -/
def Dv (f : Int → Int) (k v : Int) (x : Int) : Prop := ∃ i, 0 ≤ i ∧ i ≤ k ∧ (x = v + f i ∨ x = v - f i ∨ x = f i - v)
theorem m_layNexts {d : Nat} {Q : Int → jM → Prop} {σ : jM} {f : Int → Int} {k : Nat} (hk : k ≤ 9) (hf : ∀ i, 0 ≤ i → i ≤ (k : Int) → (σ 331 i = f i ∧ 1 ≤ f i ∧ f i ≤ 80)) (hm : marks σ k) (kk : ∀ τ', InvT σ τ' k (Dv f k (f k)) → Q 0 τ') : Ct mX12_layNexts (d + 2) 9 t [rv 321, iv (k : Int)] σ Q := by
  have fk := hf k (by omega) (by omega)
  refine c_X12_layNexts ⟨by omega, ?_⟩
  rw [fk.1]
  have loop : ∀ (c : Nat) (i : Int) (τ : jM) (T : Int → Prop), 0 ≤ i → i + c = (k : Int) + 1 → InvT σ τ k T → (∀ x, T x ↔ ∃ j, 0 ≤ j ∧ j < i ∧ (x = f k + f j ∨ x = f k - f j ∨ x = f j - f k)) → Jt mX12_layNexts (d + 2) 9 t Q 9 [rv 321, iv (k : Int), iv (f k), iv i] [] τ := by
    intro c
    induction c with
    | zero =>
      intro i τ T i0 hi hI hT
      refine b_X12_layNexts_9 ⟨rng (by omega) (by omega), rng (by omega) (by omega), fun _ => kk τ ?_, fun z => absurd z (by omega)⟩
      have : T = Dv f k (f k) := by
        funext x
        apply propext
        rw [hT x]
        unfold Dv
        constructor
        · rintro ⟨j, a, b, e⟩; exact ⟨j, a, by omega, e⟩
        · rintro ⟨j, a, b, e⟩; exact ⟨j, a, by omega, e⟩
      rw [← this]
      exact hI
    | succ c ih =>
      intro i τ T i0 hi hI hT
      have fi := hf i i0 (by omega)
      have t331 : ∀ {τ' : jM} {T' : Int → Prop}, InvT σ τ' k T' → τ' 331 i = f i := fun {τ' T'} h => by rw [h.1 331 (by decide)]; exact fi.1
      refine b_X12_layNexts_9 ⟨rng (by omega) (by omega), rng (by omega) (by omega), fun z => absurd z (by omega), fun _ => ⟨by omega, ?_⟩⟩
      rw [t331 hI]
      refine m_spoonAt (d := d) (by omega) (rng (by omega) (by omega)) hm hI (fun τ1 h1 => ⟨by omega, ?_⟩)
      rw [t331 h1]
      refine m_spoonAt (d := d) (by omega) (rng (by omega) (by omega)) hm h1 (fun τ2 h2 => ⟨by omega, ?_⟩)
      rw [t331 h2]
      refine m_spoonAt (d := d) (by omega) (rng (by omega) (by omega)) hm h2 (fun τ3 h3 => ?_)
      refine ih (i + 1) τ3 _ (by omega) (by omega) h3 (fun x => ?_)
      unfold Ad
      rw [hT x]
      constructor
      · rintro (((⟨j, a, b, e⟩ | e) | e) | e)
        · exact ⟨j, a, by omega, e⟩
        · exact ⟨i, i0, by omega, Or.inl e⟩
        · exact ⟨i, i0, by omega, Or.inr (Or.inl e)⟩
        · exact ⟨i, i0, by omega, Or.inr (Or.inr e)⟩
      · rintro ⟨j, a, b, e⟩
        by_cases q : j = i
        · subst q
          rcases e with e | e | e
          · exact Or.inl (Or.inl (Or.inr e))
          · exact Or.inl (Or.inr e)
          · exact Or.inr e
        · exact Or.inl (Or.inl (Or.inl ⟨j, a, by omega, e⟩))
  refine loop (k + 1) 0 σ (fun _ => False) (by omega) (by omega) ⟨fun _ _ => rfl, fun _ _ => rfl, fun x _ _ => ⟨fun _ => rfl, fun _ q => q.elim, fun h _ => h⟩⟩ (fun x => ⟨fun q => q.elim, fun ⟨j, a, b, _⟩ => by omega⟩)
theorem m_mostOf {d : Nat} {Q : Int → jM → Prop} {σ : jM} {f : Int → Int} {k : Nat} (hk : k ≤ 9) (hf : ∀ i, 0 ≤ i → i ≤ (k : Int) → (σ 331 i = f i ∧ 1 ≤ f i ∧ f i ≤ 80)) (kk : ∀ m, 1 ≤ m → m ≤ 80 → (∀ x, PS f k x → 1 ≤ x ∧ x ≤ m) → Q m σ) : Ct mX12_mostOf d 0 t [rv 321, iv (k : Int)] σ Q := by
  refine c_X12_mostOf ?_
  have loop : ∀ (c : Nat) (i m : Int), 0 ≤ i → i + c = (k : Int) + 1 → 0 ≤ m → m ≤ 80 → (1 ≤ i → 1 ≤ m) → (∀ j, 0 ≤ j → j < i → f j ≤ m) → Jt mX12_mostOf d 0 t Q 4 [rv 321, iv (k : Int), iv m, iv i] [] σ := by
    intro c
    induction c with
    | zero =>
      intro i m i0 hi m0 m1 hm no
      refine b_X12_mostOf_4 ⟨rng (by omega) (by omega), rng (by omega) (by omega), fun _ => kk m (hm (by omega)) m1 (fun x ⟨j, a, b, e⟩ => ?_), fun z => absurd z (by omega)⟩
      have := no j a (by omega)
      have := hf j a b
      omega
    | succ c ih =>
      intro i m i0 hi m0 m1 hm no
      have fi := hf i i0 (by omega)
      refine b_X12_mostOf_4 ⟨rng (by omega) (by omega), rng (by omega) (by omega), fun z => absurd z (by omega), fun _ => ⟨by omega, ?_⟩⟩
      rw [fi.1]
      refine ⟨rng (by omega) (by omega), rng (by omega) (by omega), fun z => ih (i + 1) m (by omega) (by omega) m0 m1 (fun _ => by omega) (fun j a b => ?_), fun z => ⟨by omega, ih (i + 1) (f i) (by omega) (by omega) (by omega) (by omega) (fun _ => by omega) (fun j a b => ?_)⟩⟩
      · by_cases e : j = i
        · rw [e]; exact z
        · exact no j a (by omega)
      · by_cases e : j = i
        · rw [e]; exact Int.le_refl _
        · have := no j a (by omega); omega
  exact loop (k + 1) 0 0 (by omega) (by omega) (by omega) (by omega) (fun q => absurd q (by omega)) (fun j a b => absurd b (by omega))
theorem m_nextSpoon {d : Nat} {Q : Int → jM → Prop} {σ : jM} {p : Int} (hp : 0 ≤ p ∧ p ≤ 9) (hm : marks σ p) (kk : ∀ r, ((1 ≤ r ∧ r ≤ 80 ∧ σ 337 (81 * p + r) = 1) ∨ (r = 81 ∧ ∀ x, 1 ≤ x → x ≤ 80 → σ 337 (81 * p + x) ≠ 1)) → Q r σ) : Ct mX12_nextSpoon d 0 t [rv 321, iv p] σ Q := by
  refine c_X12_nextSpoon ?_
  have loop : ∀ (c : Nat) (v : Int), 1 ≤ v → v + c = 81 → (∀ x, 1 ≤ x → x < v → σ 337 (81 * p + x) ≠ 1) → Jt mX12_nextSpoon d 0 t Q 2 [rv 321, iv p, iv v] [] σ := by
    intro c
    induction c with
    | zero =>
      intro v v0 hv no
      exact b_X12_nextSpoon_2 ⟨rng (by omega) (by omega), fun _ => kk v (Or.inr ⟨by omega, fun x x0 x1 => no x x0 (by omega)⟩), fun z => absurd z (by omega)⟩
    | succ c ih =>
      intro v v0 hv no
      refine b_X12_nextSpoon_2 ⟨rng (by omega) (by omega), fun z => absurd z (by omega), fun _ => ⟨by omega, ?_, fun z => kk v (Or.inl ⟨v0, by omega, z⟩), fun z => ih (v + 1) (by omega) (by omega) (fun x x0 x1 => ?_)⟩⟩
      · rcases hm v v0 (by omega) with w | w | w <;> rw [w] <;> exact ⟨by decide, by decide⟩
      · by_cases e : x = v
        · rw [e]; exact z
        · exact no x x0 (by omega)
  exact loop 80 1 (by omega) (by omega) (fun x x0 x1 => absurd x1 (by omega))
/-- what the marks of a level say -/
def MKS (σ : jM) (f : Int → Int) (k : Int) : Prop := marks σ k ∧ ∀ x, 1 ≤ x → x ≤ 80 → ((PS f k x → σ 337 (81 * k + x) = 2) ∧ (σ 337 (81 * k + x) = 0 → ¬ Der (PS f k) x) ∧ (σ 337 (81 * k + x) = 1 → Der (PS f k) x))
def Bm (σ : jM) (k : Int) : Int → Prop := fun v => σ 337 (81 * k + v) = 2
def cnt2 (σ : jM) (k : Int) : Int := sumO (fun v => if σ 337 (81 * k + v) = 2 then 0 else 1) 80 1
theorem cnt2_up {σ : jM} {k r : Int} (hr : 1 ≤ r ∧ r ≤ 80) (h : σ 337 (81 * k + r) = 1) {σ' : jM} (e : ∀ x, 1 ≤ x → x ≤ 80 → σ' 337 (81 * k + x) = if x = r then 2 else σ 337 (81 * k + x)) : cnt2 σ k = cnt2 σ' k + 1 := by
  unfold cnt2
  rw [sumO_congr (q := fun v => (if σ' 337 (81 * k + v) = 2 then 0 else 1) + (if v = r then 1 else 0)) 80 1 (fun x x0 x1 => ?_), sumO_add, sumO_pt, if_pos (by omega)]
  rw [e x x0 (by omega)]
  by_cases q : x = r
  · subst q
    rw [if_pos rfl, h]
    simp
  · rw [if_neg q, if_neg q]
    omega
theorem m_spn {d : Nat} {Q : Int → jM → Prop} {σ0 : jM} {n : Int} {many : Nat} (hn : 2 ≤ n ∧ n ≤ 40) (hm : many ≤ 9) : ∀ (R : Nat) {k : Nat} {f : Int → Int}, k + R + 1 = many → ∀ (M : Nat) (σ : jM), MKS σ f k → cnt2 σ k ≤ M → (∀ i, 0 ≤ i → i ≤ (k : Int) → (σ 331 i = f i ∧ 1 ≤ f i ∧ f i ≤ 80)) → ¬ PS f k n → (∀ x, x ≠ 331 → x ≠ 337 → σ x = σ0 x) → (∀ σ', Rb n (Bm σ k) (R + 1) (PS f k) → (∀ x, x ≠ 331 → x ≠ 337 → σ' x = σ0 x) → Q 1 σ') → (∀ σ', ¬ Rb n (Bm σ k) (R + 1) (PS f k) → (∀ j, j < 81 * (k : Int) → σ' 337 j = σ 337 j) → (∀ i, i < (k : Int) → σ' 331 i = σ 331 i) → (∀ x, x ≠ 331 → x ≠ 337 → σ' x = σ0 x) → Jt mX12_isSpooned (d + 3) 0 t Q 44 [rv 321, iv n, iv (many : Int), iv ((k : Int) + -1), uv, uv] [] σ') → Jt mX12_isSpooned (d + 3) 0 t Q 44 [rv 321, iv n, iv (many : Int), iv (k : Int), uv, uv] [] σ := by
  intro R
  -- what n's own mark says
  have one : ∀ {k : Nat} {f : Int → Int} {σ : jM}, MKS σ f k → ¬ PS f k n → σ 337 (81 * (k : Int) + n) ≠ 1 → ¬ (Der (PS f k) n ∧ ¬ PS f k n ∧ ¬ Bm σ k n) := fun {k f σ} hk hS h1 ⟨a, b, c⟩ => by
    obtain ⟨m1, m2⟩ := hk
    obtain ⟨x1, x2, x3⟩ := m2 n (by omega) (by omega)
    rcases m1 n (by omega) (by omega) with w | w | w
    · exact x2 w a
    · exact h1 w
    · exact c w
  have nR : ∀ {k : Nat} {f : Int → Int} {σ : jM}, MKS σ f k → inR (σ 337 (81 * (k : Int) + n)) := fun {k f σ} hk => by rcases hk.1 n (by omega) (by omega) with w | w | w <;> rw [w] <;> exact ⟨by decide, by decide⟩
  induction R with
  | zero =>
    intro k f hkR M σ hk hM hf hS of ks kf
    refine b_X12_isSpooned_44 ⟨rng (by omega) (by omega), fun z => absurd z (by omega), fun _ => ⟨by omega, nR hk, fun z => ⟨rng (by omega) (by omega), fun _ => ⟨fun q => absurd rfl q, fun _ => kf σ (fun r => ?_) (fun _ _ => rfl) (fun _ _ => rfl) of⟩, fun y => absurd y (by omega)⟩, fun z => ks σ ?_ of⟩⟩
    · rw [Rb] at r
      rcases r with r | ⟨_, _, _, _, _, _, g⟩
      · exact one hk hS z r
      · rw [Rb] at g; exact g
    · rw [Rb]
      exact Or.inl ⟨(hk.2 n (by omega) (by omega)).2.2 z, hS, fun q => by unfold Bm at q; omega⟩
  | succ R ih =>
    intro k f hkR M
    induction M using Nat.strongRecOn with
    | ind M ihM =>
      intro σ hk hM hf hS of ks kf
      have no1 : σ 337 (81 * (k : Int) + n) ≠ 1 → ∀ R', Rb n (Bm σ k) (R' + 1) (PS f k) → ∃ v, 1 ≤ v ∧ v ≤ 80 ∧ ¬ PS f k v ∧ ¬ Bm σ k v ∧ Der (PS f k) v ∧ Rb n (Bm σ k) R' (Ad (PS f k) v) := fun h1 R' r => by
        rw [Rb] at r
        exact r.resolve_left (one hk hS h1)
      refine b_X12_isSpooned_44 ⟨rng (by omega) (by omega), fun z => absurd z (by omega), fun _ => ⟨by omega, nR hk, fun z => ⟨rng (by omega) (by omega), fun y => absurd y (by omega), fun y => ?_⟩, fun z => ks σ ?_ of⟩⟩
      · refine m_mostOf (by omega) hf (fun m m0 m1 hm' => ?_)
        have sh : i_shl m ((many : Int) - (k : Int)) = m * pw2 (R + 2) := by
          have := shl_v ⟨m.toNat, by omega⟩ ⟨R + 2, by omega⟩
          simp only at this
          rw [show ((m.toNat : Nat) : Int) = m by omega] at this
          rw [show (many : Int) - (k : Int) = ((R + 2 : Nat) : Int) by omega]
          exact this
        have pl := pw2_le ⟨R + 2, by omega⟩
        have pp := pw2_pos (R + 2)
        simp only at pl
        have c1 : m * pw2 (R + 2) ≤ m * 8388608 := Int.mul_le_mul_of_nonneg_left pl (by omega)
        have c2 : 0 ≤ m * pw2 (R + 2) := Int.mul_nonneg (by omega) (by omega)
        rw [sh]
        refine ⟨rng (by omega) (by omega), rng (by omega) (by omega), fun w => ?_, fun w => ⟨fun q => absurd rfl q, fun _ => kf σ (fun r => ?_) (fun _ _ => rfl) (fun _ _ => rfl) of⟩⟩
        · refine m_nextSpoon (by omega) hk.1 (fun r hr => ?_)
          rcases hr with ⟨r0, r1, hr1⟩ | ⟨er, hno⟩
          · refine ⟨rng (by omega) (by omega), fun _ => ⟨by omega, fun σ12 e12 => ?_⟩, fun q => absurd q (by omega)⟩
            -- r is tried
            have rD := (hk.2 r r0 r1).2.2 hr1
            have rS : ¬ PS f k r := fun q => by have := (hk.2 r r0 r1).1 q; omega
            have rn : r ≠ n := fun q => z (by rw [← q]; exact hr1)
            have m12 : ∀ x, 1 ≤ x → x ≤ 80 → σ12 337 (81 * (k : Int) + x) = if x = r then 2 else σ 337 (81 * (k : Int) + x) := fun x x0 x1 => by
              by_cases q : x = r
              · rw [if_pos q, e12, up_eq rfl (by omega)]
              · rw [if_neg q, e12, up_ne (Or.inr (by omega))]
            -- the row is copied
            have copy : ∀ (c : Nat) (w' : Int) (τ : jM), 0 ≤ w' → w' + c = 81 → (∀ x, x ≠ 337 → τ x = σ12 x) → (∀ j, j < 81 * ((k : Int) + 1) → τ 337 j = σ12 337 j) → (∀ x, 0 ≤ x → x < w' → τ 337 (81 * ((k : Int) + 1) + x) = σ12 337 (81 * (k : Int) + x)) → Jt mX12_isSpooned (d + 3) 0 t Q 126 [rv 321, iv n, iv (many : Int), iv (k : Int), iv r, iv w'] [] τ := by
              intro c
              induction c with
              | zero =>
                intro w' τ w0 hw ot lo cp
                refine b_X12_isSpooned_126 ⟨rng (by omega) (by omega), fun _ => ⟨by omega, fun σ3 e3 => ?_⟩, fun q => absurd q (by omega)⟩
                have c3 : ∀ x, 1 ≤ x → x ≤ 80 → σ3 337 (81 * ((k : Int) + 1) + x) = if x = r then 2 else σ 337 (81 * (k : Int) + x) := fun x x0 x1 => by rw [e3, up_row (by decide), cp x (by omega) (by omega)]; exact m12 x x0 x1
                have h3f : ∀ i, 0 ≤ i → i ≤ ((k + 1 : Nat) : Int) → (σ3 331 i = wr f ((k : Int) + 1) r i ∧ 1 ≤ wr f ((k : Int) + 1) r i ∧ wr f ((k : Int) + 1) r i ≤ 80) := fun i i0 i1 => by
                  by_cases q : i = (k : Int) + 1
                  · rw [wr_eq q, e3, up_eq rfl q]; omega
                  · rw [wr_ne q, e3, up_ne (Or.inr q), ot 331 (by decide), e12, up_row (by decide)]; exact hf i i0 (by omega)
                have mk3 : marks σ3 ((k + 1 : Nat) : Int) := fun x x0 x1 => by
                  rw [show ((k + 1 : Nat) : Int) = (k : Int) + 1 by omega, c3 x x0 x1]
                  split
                  · exact Or.inr (Or.inr rfl)
                  · exact hk.1 x x0 x1
                have fw' : wr f ((k : Int) + 1) r ((k + 1 : Nat) : Int) = r := wr_eq (by omega)
                have ln := m_layNexts (t := t) (d := d) (Q := fun r4 σ4 => Jt mX12_isSpooned (d + 3) 0 t Q 44 [rv 321, iv n, iv (many : Int), iv ((k : Int) + 1), uv, uv] [] σ4) (σ := σ3) (f := wr f ((k : Int) + 1) r) (k := k + 1) (by omega) h3f mk3 (fun σ4 h4 => ?_)
                · rw [show ((k + 1 : Nat) : Int) = (k : Int) + 1 by omega] at ln
                  exact ln
                · rw [fw'] at h4
                  obtain ⟨g1, g2, g3⟩ := h4
                  rw [show ((k + 1 : Nat) : Int) = (k : Int) + 1 by omega] at g2 g3
                  -- the marks of the next level
                  have mk4 : MKS σ4 (wr f ((k : Int) + 1) r) ((k + 1 : Nat) : Int) := by
                    have key : ∀ x, 1 ≤ x → x ≤ 80 → ((σ4 337 (81 * ((k : Int) + 1) + x) = 0 ∨ σ4 337 (81 * ((k : Int) + 1) + x) = 1 ∨ σ4 337 (81 * ((k : Int) + 1) + x) = 2) ∧ (Ad (PS f k) r x → σ4 337 (81 * ((k : Int) + 1) + x) = 2) ∧ (σ4 337 (81 * ((k : Int) + 1) + x) = 0 → ¬ Der (Ad (PS f k) r) x) ∧ (σ4 337 (81 * ((k : Int) + 1) + x) = 1 → Der (Ad (PS f k) r) x)) := fun x x0 x1 => by
                      obtain ⟨a, b, c⟩ := g3 x x0 x1
                      have cx := c3 x x0 x1
                      rw [cx] at a b c
                      obtain ⟨y1, y2, y3⟩ := hk.2 x x0 x1
                      have dv : Dv (wr f ((k : Int) + 1) r) ((k + 1 : Nat) : Int) r x → Der (Ad (PS f k) r) x := fun ⟨i, i0, i1, e⟩ => by
                        have hi : Ad (PS f k) r (wr f ((k : Int) + 1) r i) := by
                          rw [← PS_wr]; exact ⟨i, i0, i1, rfl⟩
                        rcases e with e | e | e
                        · exact ⟨r, _, Or.inr rfl, hi, Or.inl e⟩
                        · exact ⟨r, _, Or.inr rfl, hi, Or.inr e⟩
                        · exact ⟨_, r, hi, Or.inr rfl, Or.inr e⟩
                      by_cases xr : x = r
                      · rw [if_pos xr] at a
                        have e2 := a (by decide)
                        exact ⟨Or.inr (Or.inr e2), fun _ => e2, fun q => by omega, fun q => by omega⟩
                      · rw [if_neg xr] at a b c
                        by_cases z0 : σ 337 (81 * (k : Int) + x) = 0
                        · by_cases dx : Dv (wr f ((k : Int) + 1) r) ((k + 1 : Nat) : Int) r x
                          · have e1 := b z0 (by rw [show (k : Int) + 1 = ((k + 1 : Nat) : Int) by omega]; exact dx)
                            exact ⟨Or.inr (Or.inl e1), fun q => by
                              rcases q with q | q
                              · have := y1 q; omega
                              · exact absurd q xr, fun q => by omega, fun _ => dv dx⟩
                          · have e0 := c z0 (by rw [show (k : Int) + 1 = ((k + 1 : Nat) : Int) by omega]; exact dx)
                            refine ⟨Or.inl e0, fun q => by
                              rcases q with q | q
                              · have := y1 q; omega
                              · exact absurd q xr, fun _ ⟨u, v, hu, hv, e⟩ => ?_, fun q => by omega⟩
                            have inD : ∀ v, Ad (PS f k) r v → (x = r + v ∨ x = r - v ∨ x = v - r) → False := fun v hv e => dx (by
                              rw [← PS_wr] at hv
                              obtain ⟨i, i0, i1, ei⟩ := hv
                              exact ⟨i, i0, i1, by rw [ei]; exact e⟩)
                            rcases hu with hu | hu
                            · rcases hv with hv | hv
                              · exact y2 z0 ⟨u, v, hu, hv, e⟩
                              · subst hv
                                exact inD u (Or.inl hu) (by omega)
                            · subst hu
                              exact inD v hv (by omega)
                        · have e1 := a z0
                          rw [e1]
                          exact ⟨hk.1 x x0 x1, fun q => by
                            rcases q with q | q
                            · exact y1 q
                            · exact absurd q xr, fun q => absurd q z0, fun q => Der_mono (fun y h => Or.inl h) (y3 q)⟩
                    refine ⟨fun x x0 x1 => by rw [show ((k + 1 : Nat) : Int) = (k : Int) + 1 by omega]; exact (key x x0 x1).1, fun x x0 x1 => ?_⟩
                    rw [PS_wr, show ((k + 1 : Nat) : Int) = (k : Int) + 1 by omega]
                    exact (key x x0 x1).2
                  -- its own bars are r and the old ones
                  have B4 : ∀ x, 1 ≤ x → x ≤ 80 → (Bm σ4 ((k + 1 : Nat) : Int) x ↔ Ad (Bm σ k) r x) := fun x x0 x1 => by
                    obtain ⟨a, b, c⟩ := g3 x x0 x1
                    have cx := c3 x x0 x1
                    rw [cx] at a b c
                    unfold Bm Ad
                    rw [show ((k + 1 : Nat) : Int) = (k : Int) + 1 by omega]
                    by_cases xr : x = r
                    · rw [if_pos xr] at a
                      exact ⟨fun _ => Or.inr xr, fun _ => a (by decide)⟩
                    · rw [if_neg xr] at a b c
                      by_cases z0 : σ 337 (81 * (k : Int) + x) = 0
                      · constructor
                        · intro q
                          by_cases dx : Dv (wr f ((k : Int) + 1) r) ((k : Int) + 1) r x
                          · have := b z0 dx; omega
                          · have := c z0 dx; omega
                        · rintro (q | q)
                          · omega
                          · exact absurd q xr
                      · rw [a z0]
                        exact ⟨fun q => Or.inl q, fun q => q.resolve_right xr⟩
                  have Bc : ∀ R' S, Rb n (Bm σ4 ((k + 1 : Nat) : Int)) R' S ↔ Rb n (Ad (Bm σ k) r) R' S := fun R' S => ⟨Rb_subN (by omega) (fun x x0 x1 q => (B4 x x0 x1).mpr q) R', Rb_subN (by omega) (fun x x0 x1 q => (B4 x x0 x1).mp q) R'⟩
                  have o4 : ∀ x, x ≠ 331 → x ≠ 337 → σ4 x = σ0 x := fun x h1 h2 => by rw [g1 x h2, e3, up_row h1, ot x h2, e12, up_row h2]; exact of x h1 h2
                  have r4lo : ∀ j, j < 81 * ((k : Int) + 1) → σ4 337 j = σ12 337 j := fun j hj => by rw [g2 j (by omega), e3, up_row (by decide)]; exact lo j hj
                  have c80 : cnt2 σ4 ((k + 1 : Nat) : Int) ≤ ((80 : Nat) : Int) := by
                    have := (sumO_bd (p := fun v => if σ4 337 (81 * ((k + 1 : Nat) : Int) + v) = 2 then (0 : Int) else 1) (B := 1) (fun x => by split <;> omega) (by decide) 80 1).2
                    unfold cnt2
                    omega
                  have fin := ih (k := k + 1) (f := wr f ((k : Int) + 1) r) (by omega) 80 σ4 mk4 c80 (fun i i0 i1 => by rw [g1 331 (by decide)]; exact h3f i i0 i1) (by rw [PS_wr]; exact fun q => q.elim hS (fun q => rn q.symm)) o4 (fun σ' rr o' => ks σ' ?_ o') (fun σ' rr lo' li' o' => ?_)
                  · rw [show ((k + 1 : Nat) : Int) = (k : Int) + 1 by omega] at fin
                    exact fin
                  · rw [PS_wr, Bc] at rr
                    rw [Rb]
                    exact Or.inr ⟨r, r0, r1, rS, fun q => by unfold Bm at q; omega, rD, Rb_sub (fun x q => Or.inl q) _ rr⟩
                  · rw [PS_wr, Bc] at rr
                    rw [show ((k + 1 : Nat) : Int) + -1 = (k : Int) by omega]
                    have row : ∀ j, j < 81 * ((k : Int) + 1) → σ' 337 j = σ12 337 j := fun j hj => by rw [lo' j (by omega)]; exact r4lo j hj
                    have m' : ∀ x, 1 ≤ x → x ≤ 80 → σ' 337 (81 * (k : Int) + x) = if x = r then 2 else σ 337 (81 * (k : Int) + x) := fun x x0 x1 => by rw [row _ (by omega)]; exact m12 x x0 x1
                    have cn := cnt2_up (k := (k : Int)) ⟨r0, r1⟩ hr1 m'
                    have cp0 : 0 ≤ cnt2 σ' (k : Int) := (sumO_bd (p := fun v => if σ' 337 (81 * (k : Int) + v) = 2 then (0 : Int) else 1) (B := 1) (fun x => by split <;> omega) (by decide) 80 1).1
                    have mkp : MKS σ' f k := ⟨fun x x0 x1 => by
                      rw [m' x x0 x1]
                      split
                      · exact Or.inr (Or.inr rfl)
                      · exact hk.1 x x0 x1, fun x x0 x1 => by
                      rw [m' x x0 x1]
                      split
                      · exact ⟨fun _ => rfl, fun q => by omega, fun q => by omega⟩
                      · exact hk.2 x x0 x1⟩
                    have Bp : ∀ x, 1 ≤ x → x ≤ 80 → (Bm σ' (k : Int) x ↔ Ad (Bm σ k) r x) := fun x x0 x1 => by
                      unfold Bm Ad
                      rw [m' x x0 x1]
                      split
                      · rename_i q; exact ⟨fun _ => Or.inr q, fun _ => rfl⟩
                      · rename_i q; exact ⟨fun w => Or.inl w, fun w => w.resolve_right q⟩
                    have Bpc : ∀ R' S, Rb n (Bm σ' (k : Int)) R' S ↔ Rb n (Ad (Bm σ k) r) R' S := fun R' S => ⟨Rb_subN (by omega) (fun x x0 x1 q => (Bp x x0 x1).mpr q) R', Rb_subN (by omega) (fun x x0 x1 q => (Bp x x0 x1).mp q) R'⟩
                    have key : Rb n (Bm σ' (k : Int)) (R + 1 + 1) (PS f k) ↔ Rb n (Bm σ k) (R + 1 + 1) (PS f k) := by
                      rw [Bpc]
                      constructor
                      · exact Rb_sub (fun x q => Or.inl q) _
                      · intro q
                        exact (Rb_ex (R + 1) rS rD rn q).resolve_right rr
                    have l331 : ∀ i, i < (k : Int) + 1 → σ' 331 i = σ 331 i := fun i hi => by rw [li' i (by omega), g1 331 (by decide), e3, up_ne (Or.inr (by omega)), ot 331 (by decide), e12, up_row (by decide)]
                    refine ihM (M - 1) (by omega) σ' mkp (by omega) (fun i i0 i1 => by rw [l331 i (by omega)]; exact hf i i0 i1) hS o' (fun σ2 q => ks σ2 (key.mp q)) (fun σ2 q lo2 li2 => kf σ2 (fun w => q (key.mpr w)) (fun j hj => by rw [lo2 j hj, row j (by omega), e12, up_ne (Or.inr (by omega))]) (fun i hi => by rw [li2 i hi]; exact l331 i (by omega)))
              | succ c ihc =>
                intro w' τ w0 hw ot lo cp
                refine b_X12_isSpooned_126 ⟨rng (by omega) (by omega), fun q => absurd q (by omega), fun _ => ⟨by omega, by omega, fun σ6 e6 => ?_⟩⟩
                rw [lo _ (by omega)] at e6
                refine ihc (w' + 1) σ6 (by omega) (by omega) (fun x hx => by rw [e6, up_row hx]; exact ot x hx) (fun j hj => by rw [e6, up_ne (Or.inr (by omega))]; exact lo j hj) (fun x x0 x1 => ?_)
                by_cases q : x = w'
                · rw [e6, q, up_at]
                · rw [e6, up_ne (Or.inr (by omega))]; exact cp x x0 (by omega)
            exact copy 81 0 σ12 (by omega) (by omega) (fun _ _ => rfl) (fun _ _ => rfl) (fun x x0 x1 => absurd x1 (by omega))
          · refine ⟨rng (by omega) (by omega), fun q => absurd er q, fun _ => kf σ (fun rr => ?_) (fun _ _ => rfl) (fun _ _ => rfl) of⟩
            obtain ⟨v, v0, v1, vS, vB, vD, _⟩ := no1 z (R + 1) rr
            rcases hk.1 v v0 v1 with q | q | q
            · exact (hk.2 v v0 v1).2.1 q vD
            · exact hno v v0 v1 q
            · exact vB q
        · have : n ≤ m * pw2 (R + 2) := Rb_grow (R + 1 + 1) m0 hm' r
          omega
      · rw [Rb]
        exact Or.inl ⟨(hk.2 n (by omega) (by omega)).2.2 z, hS, fun q => by unfold Bm at q; omega⟩
theorem m_isSpooned {d : Nat} {Q : Int → jM → Prop} {σ : jM} {n : Int} {many : Nat} (hn : 2 ≤ n ∧ n ≤ 40) (hm : 1 ≤ many ∧ many ≤ 9) (k1 : ∀ σ', Rb n noB many (PS f1 0) → (∀ x, x ≠ 331 → x ≠ 337 → σ' x = σ x) → Q 1 σ') (k0 : ∀ σ', ¬ Rb n noB many (PS f1 0) → (∀ x, x ≠ 331 → x ≠ 337 → σ' x = σ x) → Q 0 σ') : Ct mX12_isSpooned (d + 3) 0 t [rv 321, iv n, iv (many : Int)] σ Q := by
  refine c_X12_isSpooned ?_
  have loop : ∀ (c : Nat) (v : Int) (τ : jM), 0 ≤ v → v + c = 81 → (∀ x, x ≠ 337 → τ x = σ x) → (∀ x, 0 ≤ x → x < v → τ 337 x = if x = 1 then 2 else 0) → Jt mX12_isSpooned (d + 3) 0 t Q 2 [rv 321, iv n, iv (many : Int), iv v, uv, uv] [] τ := by
    intro c
    induction c with
    | zero =>
      intro v τ v0 hv ot h
      refine b_X12_isSpooned_2 ⟨rng (by omega) (by omega), fun _ => ⟨by omega, fun σ3 e3 => ?_⟩, fun z => absurd z (by omega)⟩
      have r3 : ∀ x, 1 ≤ x → x ≤ 80 → σ3 337 (81 * ((0 : Nat) : Int) + x) = if x = 1 then 2 else 0 := fun x x0 x1 => by rw [e3, up_row (by decide), show 81 * ((0 : Nat) : Int) + x = x by omega]; exact h x (by omega) (by omega)
      have PS1 : ∀ x, PS f1 ((0 : Nat) : Int) x ↔ x = 1 := fun x => ⟨fun ⟨i, _, _, e⟩ => by have e : (1 : Int) = x := e; exact e.symm, fun e => ⟨0, by omega, by omega, by rw [e]; rfl⟩⟩
      have D1 : ∀ x, Der (PS f1 ((0 : Nat) : Int)) x ↔ (x = 2 ∨ x = 0) := fun x => by
        constructor
        · rintro ⟨a, b, ha, hb, e⟩
          have := (PS1 a).mp ha
          have := (PS1 b).mp hb
          omega
        · rintro (e | e)
          · exact ⟨1, 1, (PS1 1).mpr rfl, (PS1 1).mpr rfl, Or.inl (by omega)⟩
          · exact ⟨1, 1, (PS1 1).mpr rfl, (PS1 1).mpr rfl, Or.inr (by omega)⟩
      have mk3 : marks σ3 ((0 : Nat) : Int) := fun x x0 x1 => by
        rw [r3 x x0 x1]
        split
        · exact Or.inr (Or.inr rfl)
        · exact Or.inl rfl
      refine m_layNexts (d := d) (f := f1) (k := 0) (by omega) (fun i i0 i1 => ?_) mk3 (fun σ4 h4 => ?_)
      · have : i = 0 := by omega
        subst this
        rw [e3, up_at]
        exact ⟨rfl, by decide, by decide⟩
      · obtain ⟨g1, g2, g3⟩ := h4
        have dv : ∀ x, Dv f1 ((0 : Nat) : Int) (f1 ((0 : Nat) : Int)) x ↔ (x = 2 ∨ x = 0) := fun x => by
          constructor
          · rintro ⟨i, _, _, e⟩
            have e : x = 1 + 1 ∨ x = 1 - 1 ∨ x = 1 - 1 := e
            omega
          · intro e
            refine ⟨0, by omega, by omega, ?_⟩
            show x = 1 + 1 ∨ x = 1 - 1 ∨ x = 1 - 1
            omega
        have r4 : ∀ x, 1 ≤ x → x ≤ 80 → σ4 337 (81 * ((0 : Nat) : Int) + x) = if x = 1 then 2 else if x = 2 then 1 else 0 := fun x x0 x1 => by
          obtain ⟨a, b, c⟩ := g3 x x0 x1
          rw [r3 x x0 x1] at a b c
          by_cases q : x = 1
          · rw [if_pos q] at a
            rw [if_pos q]; exact a (by decide)
          · rw [if_neg q] at b c
            rw [if_neg q]
            by_cases q2 : x = 2
            · rw [if_pos q2]; exact b rfl ((dv x).mpr (Or.inl q2))
            · rw [if_neg q2]; exact c rfl (fun w => by have := (dv x).mp w; omega)
        have o4 : ∀ x, x ≠ 331 → x ≠ 337 → σ4 x = σ x := fun x h1 h2 => by rw [g1 x h2, e3, up_row h1]; exact ot x h2
        have mks : MKS σ4 f1 ((0 : Nat) : Int) := ⟨fun x x0 x1 => (by rw [r4 x x0 x1]; split <;> (try split) <;> omega), fun x x0 x1 => by
          rw [r4 x x0 x1, PS1, D1]
          refine ⟨fun q => by rw [if_pos q], fun q w => ?_, fun q => ?_⟩
          · rcases w with w | w
            · rw [w] at q; simp at q
            · omega
          · by_cases q1 : x = 1
            · rw [if_pos q1] at q; omega
            · rw [if_neg q1] at q
              by_cases q2 : x = 2
              · exact Or.inl q2
              · rw [if_neg q2] at q; omega⟩
        have Bc : ∀ R', Rb n (Bm σ4 ((0 : Nat) : Int)) R' (PS f1 ((0 : Nat) : Int)) ↔ Rb n noB R' (PS f1 0) := fun R' => by
          constructor
          · exact Rb_subN (by omega) (fun x _ _ q => q.elim) R'
          · intro q
            have q2 : Rb n (Ad noB 1) R' (PS f1 ((0 : Nat) : Int)) := Rb_B R' ((PS1 1).mpr rfl) q
            refine Rb_subN (by omega) (fun x x0 x1 w => ?_) R' q2
            unfold Bm at w
            rw [r4 x x0 x1] at w
            right
            by_cases q1 : x = 1
            · exact q1
            · rw [if_neg q1] at w
              split at w <;> omega
        have c80 : cnt2 σ4 ((0 : Nat) : Int) ≤ ((80 : Nat) : Int) := by
          have := (sumO_bd (p := fun v => if σ4 337 (81 * ((0 : Nat) : Int) + v) = 2 then (0 : Int) else 1) (B := 1) (fun x => by split <;> omega) (by decide) 80 1).2
          unfold cnt2
          omega
        obtain ⟨R, hR⟩ : ∃ R, many = R + 1 := ⟨many - 1, by omega⟩
        subst hR
        have := m_spn (t := t) (d := d) (Q := Q) (σ0 := σ) (n := n) (many := R + 1) hn (by omega) R (k := 0) (f := f1) (by omega) 80 σ4 mks c80 (fun i i0 i1 => by
          have : i = 0 := by omega
          subst this
          rw [g1 331 (by decide), e3, up_at]
          exact ⟨rfl, by decide, by decide⟩) (fun q => by have := (PS1 n).mp q; omega) o4 (fun σ' r o' => k1 σ' ((Bc _).mp r) o') (fun σ' r _ _ o' => b_X12_isSpooned_44 ⟨⟨by decide, by decide⟩, fun _ => k0 σ' (fun q => r ((Bc _).mpr q)) o', fun z => absurd z (by decide)⟩)
        exact this
    | succ c ih =>
      intro v τ v0 hv ot h
      have nx : ∀ (b : Int) (σ7 : jM), b = (if v = 1 then 2 else 0) → σ7 = up τ 337 v b → Jt mX12_isSpooned (d + 3) 0 t Q 2 [rv 321, iv n, iv (many : Int), iv (v + 1), uv, uv] [] σ7 := fun b σ7 hb e7 => by
        refine ih (v + 1) σ7 (by omega) (by omega) (fun x hx => by rw [e7, up_row hx]; exact ot x hx) (fun x x0 x1 => ?_)
        by_cases q : x = v
        · rw [e7, up_eq rfl q, hb, q]
        · rw [e7, up_ne (Or.inr q)]; exact h x x0 (by omega)
      refine b_X12_isSpooned_2 ⟨rng (by omega) (by omega), fun z => absurd z (by omega), fun _ => ⟨rng (by omega) (by omega), fun z => ⟨by omega, fun σ7 e7 => nx 0 σ7 (by rw [if_neg z]) e7⟩, fun z => ⟨by omega, fun σ7 e7 => nx 2 σ7 (by rw [if_pos z]) e7⟩⟩⟩
  exact loop 81 0 σ (by omega) (by omega) (fun _ _ => rfl) (fun x x0 x1 => absurd x1 (by omega))
theorem m_spoons {d : Nat} {Q : Int → jM → Prop} {σ : jM} {n : Int} (hn : 1 ≤ n ∧ n ≤ 40) (hP : σ 338 n = 0 ∨ σ 338 n = (spv n : Int)) (k : ∀ σ', (∀ x, x ≠ 331 → x ≠ 337 → x ≠ 338 → σ' x = σ x) → (∀ j, σ' 338 j = σ 338 j ∨ (j = n ∧ σ' 338 j = (spv n : Int))) → Q (spv n) σ') : Ct mX12_spoons (d + 4) 0 t [rv 321, iv n] σ Q := by
  have s9 := spv_9 hn
  refine c_X12_spoons (m_isIn (rng (by omega) (by omega)) ⟨by decide, by decide⟩ ⟨by decide, by decide⟩ ⟨b01_R, fun _ => ⟨rng (by omega) (by omega), fun ne => ⟨by omega, ?_⟩, fun e => ?_⟩, fun u => (by have := inB_f (b01_0.mp u); omega)⟩)
  · rcases spv_ok hn with ⟨en, em⟩ | ⟨hne, m1, m9, hR, hno⟩
    · exact absurd en ne
    · have fin : ∀ (τ σ3 : jM), (∀ x, x ≠ 331 → x ≠ 337 → τ x = σ x) → σ3 = up τ 338 n (spv n : Int) → Q (spv n) σ3 := fun τ σ3 ot e3 => k σ3 (fun x h1 h2 h3 => by rw [e3, up_row h3]; exact ot x h1 h2) (fun j => by
        by_cases q : j = n
        · exact Or.inr ⟨q, by rw [e3, up_eq rfl q]⟩
        · left; rw [e3, up_ne (Or.inr q), ot 338 (by decide) (by decide)])
      have loop : ∀ (c m : Nat) (τ : jM), σ 338 n = 0 → 1 ≤ m → m + c = spv n → (∀ x, x ≠ 331 → x ≠ 337 → τ x = σ x) → Jt mX12_spoons (d + 4) 0 t Q 39 [rv 321, iv n, iv (m : Int)] [] τ := by
        intro c
        induction c with
        | zero =>
          intro m τ h0 hm hc ot
          have em : m = spv n := by omega
          refine b_X12_spoons_39 ⟨by omega, ?_⟩
          rw [ot 338 (by decide) (by decide), h0]
          refine ⟨in0, fun q => absurd rfl q, fun _ => m_isSpooned (d := d) ⟨by omega, hn.2⟩ (by omega) (fun σ' _ o' => ⟨⟨by decide, by decide⟩, fun _ => ⟨by omega, fun σ7 e7 => ?_⟩, fun q => absurd q (by decide)⟩) (fun σ' r _ => absurd (by rw [em]; exact hR) r)⟩
          rw [em] at e7 ⊢
          exact fin σ' σ7 (fun x h1 h2 => by rw [o' x h1 h2]; exact ot x h1 h2) e7
        | succ c ih =>
          intro m τ h0 hm hc ot
          refine b_X12_spoons_39 ⟨by omega, ?_⟩
          rw [ot 338 (by decide) (by decide), h0]
          refine ⟨in0, fun q => absurd rfl q, fun _ => m_isSpooned (d := d) ⟨by omega, hn.2⟩ (by omega) (fun σ' r _ => absurd r (hno m (by omega))) (fun σ' _ o' => ⟨in0, fun q => absurd rfl q, fun _ => ?_⟩)⟩
          have := ih (m + 1) σ' h0 (by omega) (by omega) (fun x h1 h2 => by rw [o' x h1 h2]; exact ot x h1 h2)
          rw [show ((m + 1 : Nat) : Int) = (m : Int) + 1 by omega] at this
          exact this
      rcases hP with e | e
      · rw [e]
        exact ⟨in0, fun q => absurd rfl q, fun _ => loop (spv n - 1) 1 σ e (by omega) (by omega) (fun _ _ _ => rfl)⟩
      · rw [e]
        refine ⟨rng (by omega) (by omega), fun _ => ⟨by omega, b_X12_spoons_39 ⟨by omega, ?_⟩⟩, fun q => absurd q (by omega)⟩
        rw [e]
        exact ⟨rng (by omega) (by omega), fun _ => ⟨by omega, fun σ3 e3 => fin σ σ3 (fun _ _ _ => rfl) e3⟩, fun q => absurd q (by omega)⟩
  · rcases spv_ok hn with ⟨en, em⟩ | ⟨hne, _⟩
    · have := k σ (fun _ _ _ _ => rfl) (fun j => Or.inl rfl)
      rw [em] at this
      exact this
    · exact absurd e hne
theorem a_spoons {n : Int} {σ : jM} (d : Nat) (I : I0 L σ) (hK : K1 σ) (hR : KR σ) (hP : KP σ) (hn : inR n) {Q : Int → jM → Prop} (k : ∀ r σ1, inR r → (∀ (d2 : Nat) Q2, (∀ r' σ2, r' = r → I0 L σ2 → K1 σ2 → KR σ2 → KP σ2 → σ2 288 = σ 288 → Q2 r' σ2) → Ct mX12_spoons (d2 + 11) 0 t [rv 321, iv n] σ1 Q2) → Q r σ1) : Ct mX11_spoons (d + 40) 0 t [rv 1, iv n] σ Q := by
  have bad : (n < 1 ∨ 40 < n) → Q (-1) σ := fun hb => k _ σ ⟨by decide, by decide⟩ (fun d2 Q2 k2 => c_X12_spoons (m_isIn hn ⟨by decide, by decide⟩ ⟨by decide, by decide⟩ ⟨b01_R, fun z => (by have := inB_t (b01_1 z); omega), fun _ => k2 _ _ rfl I hK hR hP rfl⟩))
  refine c_X11_spoons ⟨hn, fun z => bad (by omega), fun z => ⟨hn, fun y => ?_, fun y => bad (by omega)⟩⟩
  have s9 := spv_9 ⟨z, y⟩
  refine h_fewestOf (d := d + 9) ⟨z, y⟩ (hP n z y).1 (fun σ1 o1 j1 n1 => k _ σ1 (rng (by omega) (by omega)) (fun d2 Q2 k2 => ?_))
  refine m_spoons (d := d2 + 7) ⟨z, y⟩ (by rw [o1 338 (by decide) (by decide) (by decide)]; exact (hP n z y).2) (fun σ2 o2 j2 => ?_)
  refine k2 _ σ2 rfl (I0_fr I (fun x hx => by rw [o2 x (by omega) (by omega) (by omega), o1 x (by omega) (by omega) (by omega)])) (K1_same hK (fun x x0 x1 => by rw [o2 x (by omega) (by omega) (by omega), o1 x (by omega) (by omega) (by omega)])) (KR_same hR (by rw [o2 332 (by omega) (by omega) (by omega), o1 332 (by omega) (by omega) (by omega)])) (fun q q0 q1 => ⟨?_, ?_⟩) (by rw [o2 288 (by omega) (by omega) (by omega), o1 288 (by omega) (by omega) (by omega)])
  · rw [o2 291 (by decide) (by decide) (by decide)]
    by_cases e : q = n
    · subst e; exact Or.inr n1
    · rw [j1 q e]; exact (hP q q0 q1).1
  · rcases j2 q with e | ⟨e, e2⟩
    · rw [e, o1 338 (by decide) (by decide) (by decide)]; exact (hP q q0 q1).2
    · rw [e2, e]; exact Or.inr rfl
end SR
