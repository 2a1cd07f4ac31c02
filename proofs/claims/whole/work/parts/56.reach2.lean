/-! ===== reach, reached alike ===== -/
noncomputable def Eb (j : Nat) (v : Int) : Bool := decide ((j : Int) + 1 ≤ v ∧ v ≤ pw2 j ∧ fw v ≤ j)
def nthF (p : Int → Bool) : Nat → Int → Int → Int
  | 0, _, _ => -1
  | c + 1, v, i => if p v then (if i = 0 then v else nthF p c (v + 1) (i - 1)) else nthF p c (v + 1) i
theorem nthF_skip {p : Int → Bool} : ∀ (j c : Nat) (v i : Int), (∀ x, v ≤ x → x < v + j → p x = false) → nthF p (j + c) v i = nthF p c (v + j) i
  | 0, c, v, i, _ => by rw [Nat.zero_add, show v + ((0 : Nat) : Int) = v by omega]
  | j + 1, c, v, i, h => by
    rw [show j + 1 + c = (j + c) + 1 by omega, nthF, h v (by omega) (by omega)]
    show nthF p (j + c) (v + 1) i = _
    rw [nthF_skip j c (v + 1) i (fun x a b => h x (by omega) (by omega)), show v + 1 + (j : Int) = v + ((j + 1 : Nat) : Int) by omega]
theorem nthF_none {p : Int → Bool} : ∀ (c : Nat) (v i : Int), (∀ x, v ≤ x → x < v + c → p x = false) → nthF p c v i = -1
  | 0, _, _, _ => rfl
  | c + 1, v, i, h => by
    rw [nthF, h v (by omega) (by omega)]
    exact nthF_none c (v + 1) i (fun x a b => h x (by omega) (by omega))
theorem nthF_cut {p : Int → Bool} {m : Nat} : ∀ (c : Nat) (v i : Int), (∀ x, v + c ≤ x → p x = false) → nthF p (c + m) v i = nthF p c v i
  | 0, v, i, h => by
    rw [Nat.zero_add]
    exact nthF_none m v i (fun x a _ => h x (by omega))
  | c + 1, v, i, h => by
    rw [show c + 1 + m = (c + m) + 1 by omega, nthF, nthF, nthF_cut c (v + 1) i (fun x a => h x (by omega)), nthF_cut c (v + 1) (i - 1) (fun x a => h x (by omega))]
theorem nthF_in {p : Int → Bool} : ∀ (c : Nat) (v i : Int), nthF p c v i = -1 ∨ (v ≤ nthF p c v i ∧ nthF p c v i < v + c)
  | 0, _, _ => Or.inl rfl
  | c + 1, v, i => by
    rw [nthF]
    split
    · split
      · right; omega
      · rcases nthF_in (p := p) c (v + 1) (i - 1) with h | h
        · exact Or.inl h
        · right; omega
    · rcases nthF_in (p := p) c (v + 1) i with h | h
      · exact Or.inl h
      · right; omega
theorem sumO_cut {p : Int → Int} {m : Nat} : ∀ (c : Nat) (v : Int), (∀ x, v + c ≤ x → p x = 0) → sumO p (c + m) v = sumO p c v
  | 0, v, h => by
    rw [Nat.zero_add]
    exact sumO_zero m v (fun x a _ => h x (by omega))
  | c + 1, v, h => by
    rw [show c + 1 + m = (c + m) + 1 by omega, sumO, sumO, sumO_cut c (v + 1) (fun x a => h x (by omega))]
theorem Eb_lo {j : Nat} {v : Int} (h : v < (j : Int) + 1) : Eb j v = false := by unfold Eb; simp; omega
theorem Eb_hi {j : Nat} {v : Int} (h : pw2 j < v) : Eb j v = false := by unfold Eb; simp; omega
theorem pw2_6 : ∀ f : Fin 7, pw2 f.val ≤ 64 ∧ (f.val : Int) + 1 ≤ pw2 f.val := by decide +kernel
section RE
variable {t : Int} {L : LT} {σ : jM}
theorem h_isReached {d : Nat} {j : Nat} {v : Int} {Q : Int → jM → Prop} (hj : j ≤ 6) (hv : (j : Int) + 1 ≤ v ∧ v ≤ pw2 j) (hK : K1 σ) (k : ∀ σ', K1 σ' → offC σ σ' → Q (b01 (Eb j v)) σ') : Ct mX11_isReached (d + 30) 0 t [rv 1, iv v, iv (j : Int)] σ Q := by
  have := pw2_6 ⟨j, by omega⟩
  simp only at this
  refine c_X11_isReached (q_jn (d := d) ⟨by omega, by omega⟩ hK (fun g σ1 _ hr K' o' => ?_))
  have h9 := hr.1
  refine ⟨rng (by omega) (by omega), rng (by omega) (by omega), fun z => ?_, fun z => ?_⟩
  · have e : Eb j v = false := by unfold Eb; simp; omega
    have := k σ1 K' o'
    rw [e] at this
    exact this
  · have e : Eb j v = true := by unfold Eb; simp; omega
    have := k σ1 K' o'
    rw [e] at this
    exact this
theorem frL {σ2 σ1 : jM} (I : I0 L σ) (K : K1 σ1) (o1 : offC σ σ1) (R : KR σ) (o2 : ∀ x, x ≠ 331 → x ≠ 339 → σ2 x = σ1 x) {r : Int} : SameN L σ r r σ2 :=
  ⟨rfl, I0_fr I (fun x hx => by rw [o2 x (by omega) (by omega), o1 x (by omega)]), K1_same K (fun x x0 x1 => o2 x (by omega) (by omega)), KR_same R (by rw [o2 332 (by omega) (by omega), o1 332 (by omega)]), fun x hx => by rw [o2 x (by omega) (by omega), o1 x (by omega)]⟩
theorem mk_339 {j : Nat} {σ2 : jM} (hj : j ≤ 6) (bo : bitsOk σ2) (h : ∀ v, 0 ≤ v → v ≤ 64 → (σ2 339 v = 1 ↔ Ends j v)) {v : Int} (v0 : 0 ≤ v) (v1 : v ≤ 64) : σ2 339 v = b01 (Eb j v) := by
  have e := (h v v0 v1).trans (Ends_iff hj ⟨v0, v1⟩)
  rcases bo v v0 v1 with q | q
  · have : Eb j v = false := by
      cases w : Eb j v with
      | false => rfl
      | true =>
        have := e.mpr (of_decide_eq_true w)
        omega
    rw [this, q]; rfl
  · have : Eb j v = true := decide_eq_true (e.mp q)
    rw [this, q]; rfl
theorem a_reach {p : Int} (d : Nat) (I : I0 L σ) (hK : K1 σ) (hR : KR σ) (hp : inR p) {Q : Int → jM → Prop} (k : ∀ r σ1, inR r → (∀ (d2 : Nat) Q2, (∀ r' σ2, SameN L σ r r' σ2 → Q2 r' σ2) → Ct mX12_reach (d2 + 11) 0 t [rv 321, iv p] σ1 Q2) → Q r σ1) : Ct mX11_reach (d + 40) 0 t [rv 1, iv p] σ Q := by
  have bad : (p < 0 ∨ 6 < p) → Q (-1) σ := fun hb => k _ σ ⟨by decide, by decide⟩ (fun d2 Q2 k2 => c_X12_reach (m_isIn hp in0 ⟨by decide, by decide⟩ ⟨b01_R, fun z => by have := inB_t (b01_1 z); omega, fun _ => k2 _ _ (SameN_of I hK offC_rf hR offR_rf)⟩))
  refine c_X11_reach ⟨hp, fun z => bad (by omega), fun z => ⟨hp, fun y => ?_, fun y => bad (by omega)⟩⟩
  obtain ⟨j, ej⟩ : ∃ j : Nat, p = (j : Int) := ⟨p.toNat, by omega⟩
  subst ej
  have sh : i_shl 1 (j : Int) = pw2 j := shl1 ⟨j, by omega⟩
  have pb := pw2_6 ⟨j, by omega⟩
  simp only at pb
  have tot := sumO_bd (p := fun v => b01 (Eb j v)) (B := 1) (fun x => by rcases b01_2 (b := Eb j x) with q | q <;> simp only [q] <;> omega) (by decide)
  have loop : ∀ (c : Nat) (v acc : Int) (τ : jM), (j : Int) + 1 ≤ v → v + c = pw2 j + 1 → K1 τ → offC σ τ → (∀ τ', K1 τ' → offC σ τ' → Q (acc + sumO (fun v => b01 (Eb j v)) c v) τ') → Jt mX11_reach (d + 40) 0 t Q 18 [rv 1, iv (j : Int), iv acc, iv v] [] τ := by
    intro c
    induction c with
    | zero =>
      intro v acc τ v0 hv Kτ oτ kk
      refine b_X11_reach_18 ⟨rng (by omega) (by omega), ?_⟩
      rw [sh]
      refine ⟨rng (by omega) (by omega), fun _ => ?_, fun u => absurd u (by omega)⟩
      have := kk τ Kτ oτ
      rw [sumO, Int.add_zero] at this
      exact this
    | succ c ih =>
      intro v acc τ v0 hv Kτ oτ kk
      refine b_X11_reach_18 ⟨rng (by omega) (by omega), ?_⟩
      rw [sh]
      refine ⟨rng (by omega) (by omega), fun u => absurd u (by omega), fun _ => h_isReached (d := d + 9) (by omega) ⟨v0, by omega⟩ Kτ (fun σ3 K3 o3 => ⟨b01_R, fun u => ?_, fun u => ?_⟩)⟩
      · refine ih (v + 1) acc σ3 (by omega) (by omega) K3 (offC_tr oτ o3) (fun τ' K' o' => ?_)
        have := kk τ' K' o'
        rw [sumO, u, Int.zero_add] at this
        exact this
      · refine ih (v + 1) (acc + 1) σ3 (by omega) (by omega) K3 (offC_tr oτ o3) (fun τ' K' o' => ?_)
        have := kk τ' K' o'
        rw [sumO, show b01 (Eb j v) = 1 from b01_2.resolve_left u, ← Int.add_assoc] at this
        exact this
  have eqs : sumO (fun v => b01 (Eb j v)) 65 0 = sumO (fun v => b01 (Eb j v)) (pw2 j - j).toNat ((j : Int) + 1) := by
    have a : sumO (fun v => b01 (Eb j v)) ((j + 1) + ((pw2 j - j).toNat + (64 - pw2 j).toNat)) 0 = sumO (fun v => b01 (Eb j v)) ((pw2 j - j).toNat + (64 - pw2 j).toNat) (0 + ((j + 1 : Nat) : Int)) := sumO_skip _ _ _ (fun x _ x1 => by rw [Eb_lo (by omega)]; rfl)
    rw [show (j + 1) + ((pw2 j - j).toNat + (64 - pw2 j).toNat) = 65 by omega] at a
    rw [a, sumO_cut _ _ (fun x hx => by rw [Eb_hi (by omega)]; rfl), show (0 : Int) + ((j + 1 : Nat) : Int) = (j : Int) + 1 by omega]
  have tb := tot (pw2 j - j).toNat ((j : Int) + 1)
  refine loop (pw2 j - j).toNat ((j : Int) + 1) 0 σ (by omega) (by omega) hK offC_rf (fun σ1 K1' o1 => k _ σ1 (rng (by omega) (by omega)) (fun d2 Q2 k2 => ?_))
  refine c_X12_reach (m_isIn hp in0 ⟨by decide, by decide⟩ ⟨b01_R, fun _ => ?_, fun u => by have := inB_f (b01_0.mp u); omega⟩)
  refine m_layReached (d := d2 + 9) (by omega) (fun σ2 o2 bo h => ?_)
  have loop2 : ∀ (c : Nat) (v acc : Int), 0 ≤ v → v + c = 65 → Q2 (acc + sumO (fun v => b01 (Eb j v)) c v) σ2 → Jt mX12_reach (d2 + 11) 0 t Q2 21 [rv 321, iv (j : Int), iv acc, iv v] [] σ2 := by
    intro c
    induction c with
    | zero =>
      intro v acc v0 hv kk
      rw [sumO, Int.add_zero] at kk
      exact b_X12_reach_21 ⟨rng (by omega) (by omega), fun _ => kk, fun u => absurd u (by omega)⟩
    | succ c ih =>
      intro v acc v0 hv kk
      have e := mk_339 (by omega) bo h v0 (show v ≤ 64 by omega)
      rw [sumO] at kk
      refine b_X12_reach_21 ⟨rng (by omega) (by omega), fun u => absurd u (by omega), fun _ => ⟨by omega, ?_⟩⟩
      rw [e]
      refine ⟨b01_R, fun u => ih (v + 1) (acc + 0) (by omega) (by omega) ?_, fun u => ih (v + 1) (acc + 1) (by omega) (by omega) ?_⟩
      · rw [u] at kk
        rw [Int.add_assoc]; exact kk
      · rw [show b01 (Eb j v) = 1 from b01_2.resolve_left u] at kk
        rw [Int.add_assoc]; exact kk
  refine loop2 65 0 0 (by omega) (by omega) ?_
  rw [eqs]
  exact k2 _ _ (frL I K1' o1 hR o2)
theorem a_reached {p i : Int} (d : Nat) (I : I0 L σ) (hK : K1 σ) (hR : KR σ) (hp : inR p) (hi : inR i) {Q : Int → jM → Prop} (k : ∀ r σ1, inR r → (∀ (d2 : Nat) Q2, (∀ r' σ2, SameN L σ r r' σ2 → Q2 r' σ2) → Ct mX12_reached (d2 + 11) 0 t [rv 321, iv p, iv i] σ1 Q2) → Q r σ1) : Ct mX11_reached (d + 40) 0 t [rv 1, iv p, iv i] σ Q := by
  have bad : (p < 0 ∨ 6 < p ∨ i < 0) → Q (-1) σ := fun hb => k _ σ ⟨by decide, by decide⟩ (fun d2 Q2 k2 => by
    have fin := k2 (-1) σ (SameN_of I hK offC_rf hR offR_rf)
    exact c_X12_reached (m_isIn hp in0 ⟨by decide, by decide⟩ ⟨b01_R, fun _ => fin, fun z => ⟨hi, fun y => by have := inB_t (b01_1 z); omega, fun _ => fin⟩⟩))
  refine c_X11_reached ⟨hp, fun z => bad (by omega), fun z => ⟨hp, fun y => bad (by omega), fun y => ⟨hi, fun x => ?_, fun x => bad (by omega)⟩⟩⟩
  obtain ⟨j, ej⟩ : ∃ j : Nat, p = (j : Int) := ⟨p.toNat, by omega⟩
  subst ej
  have sh : i_shl 1 (j : Int) = pw2 j := shl1 ⟨j, by omega⟩
  have pb := pw2_6 ⟨j, by omega⟩
  simp only at pb
  have hi2 := hi.2
  have loop : ∀ (c : Nat) (v lft : Int) (τ : jM), (j : Int) + 1 ≤ v → v + c = pw2 j + 1 → 0 ≤ lft → lft ≤ i → K1 τ → offC σ τ → (∀ τ', K1 τ' → offC σ τ' → Q (nthF (Eb j) c v lft) τ') → Jt mX11_reached (d + 40) 0 t Q 23 [rv 1, iv (j : Int), iv i, iv lft, iv v] [] τ := by
    intro c
    induction c with
    | zero =>
      intro v lft τ v0 hv l0 l1 Kτ oτ kk
      refine b_X11_reached_23 ⟨rng (by omega) (by omega), ?_⟩
      rw [sh]
      exact ⟨rng (by omega) (by omega), fun _ => kk τ Kτ oτ, fun u => absurd u (by omega)⟩
    | succ c ih =>
      intro v lft τ v0 hv l0 l1 Kτ oτ kk
      refine b_X11_reached_23 ⟨rng (by omega) (by omega), ?_⟩
      rw [sh]
      rw [nthF] at kk
      refine ⟨rng (by omega) (by omega), fun u => absurd u (by omega), fun _ => h_isReached (d := d + 9) (by omega) ⟨v0, by omega⟩ Kτ (fun σ3 K3 o3 => ⟨b01_R, fun u => ⟨rng (by omega) (by omega), fun w => ?_, fun w => ?_⟩, fun u => ?_⟩)⟩
      · refine ih (v + 1) (lft + -1) σ3 (by omega) (by omega) (by omega) (by omega) K3 (offC_tr oτ o3) (fun τ' K' o' => ?_)
        have := kk τ' K' o'
        rw [if_pos (b01_1 u), if_neg w] at this
        exact this
      · have := kk σ3 K3 (offC_tr oτ o3)
        rw [if_pos (b01_1 u), if_pos w] at this
        exact this
      · refine ih (v + 1) lft σ3 (by omega) (by omega) l0 l1 K3 (offC_tr oτ o3) (fun τ' K' o' => ?_)
        have := kk τ' K' o'
        rw [b01_0.mp u] at this
        exact this
  have eqs : nthF (Eb j) 65 0 i = nthF (Eb j) (pw2 j - j).toNat ((j : Int) + 1) i := by
    have a : nthF (Eb j) ((j + 1) + ((pw2 j - j).toNat + (64 - pw2 j).toNat)) 0 i = nthF (Eb j) ((pw2 j - j).toNat + (64 - pw2 j).toNat) (0 + ((j + 1 : Nat) : Int)) i := nthF_skip _ _ _ _ (fun x _ x1 => Eb_lo (by omega))
    rw [show (j + 1) + ((pw2 j - j).toNat + (64 - pw2 j).toNat) = 65 by omega] at a
    rw [a, nthF_cut _ _ _ (fun x hx => Eb_hi (by omega)), show (0 : Int) + ((j + 1 : Nat) : Int) = (j : Int) + 1 by omega]
  have ni := nthF_in (p := Eb j) (pw2 j - j).toNat ((j : Int) + 1) i
  refine loop (pw2 j - j).toNat ((j : Int) + 1) i σ (by omega) (by omega) x (by omega) hK offC_rf (fun σ1 K1' o1 => k _ σ1 (rng (by omega) (by omega)) (fun d2 Q2 k2 => ?_))
  refine c_X12_reached (m_isIn hp in0 ⟨by decide, by decide⟩ ⟨b01_R, fun u => (by have := inB_f (b01_0.mp u); omega), fun _ => ⟨hi, fun _ => ?_, fun u => absurd u (by omega)⟩⟩)
  refine m_layReached (d := d2 + 9) (by omega) (fun σ2 o2 bo h => ?_)
  have loop2 : ∀ (c : Nat) (v ah : Int), 0 ≤ v → v + c = 65 → 0 ≤ ah → ah ≤ v → ah ≤ i → Q2 (nthF (Eb j) c v (i - ah)) σ2 → Jt mX12_reached (d2 + 11) 0 t Q2 26 [rv 321, iv (j : Int), iv i, iv ah, iv v] [] σ2 := by
    intro c
    induction c with
    | zero =>
      intro v ah v0 hv a0 a1 a2 kk
      exact b_X12_reached_26 ⟨rng (by omega) (by omega), fun _ => kk, fun u => absurd u (by omega)⟩
    | succ c ih =>
      intro v ah v0 hv a0 a1 a2 kk
      have e := mk_339 (by omega) bo h v0 (show v ≤ 64 by omega)
      rw [nthF] at kk
      refine b_X12_reached_26 ⟨rng (by omega) (by omega), fun u => absurd u (by omega), fun _ => ⟨by omega, ?_⟩⟩
      rw [e]
      refine ⟨b01_R, fun u => ⟨rng (by omega) (by omega), hi, fun w => ?_, fun w => ?_⟩, fun u => ?_⟩
      · rw [if_pos (b01_1 u), if_neg (by omega)] at kk
        exact ih (v + 1) (ah + 1) (by omega) (by omega) (by omega) (by omega) (by omega) (by rw [show i - (ah + 1) = i - ah - 1 by omega]; exact kk)
      · rw [if_pos (b01_1 u), if_pos (by omega)] at kk
        exact kk
      · rw [b01_0.mp u] at kk
        exact ih (v + 1) ah (by omega) (by omega) a0 (by omega) a2 kk
  refine loop2 65 0 0 (by omega) (by omega) (by omega) (by omega) (by omega) ?_
  rw [Int.sub_zero, eqs]
  exact k2 _ _ (frL I K1' o1 hR o2)
end RE
