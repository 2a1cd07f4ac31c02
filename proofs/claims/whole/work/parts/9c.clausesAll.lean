/-! ===== both sides read a clause alike: all cases ===== -/
section AN
variable {T : Int → Int} {n t b p m : Int} {S F G : Int → Int} {D : LD}
theorem bdM_0 {Q : Int → jM → Prop} {σ : jM} {kind : Int} (ri : RI T n b σ p m S F G D) (h : bdM b Q σ kind (plT T n p)) : Q kind σ := h σ FrR_rf ri.1.2.2.1
theorem PO_D {l : Int} {f : DT} (po : PO m S F G D) (ag : AG f) : ∀ i g, (i = 0 ∨ i = 1) → upD D l f i = some g → AG g := by
  intro i g hi h
  unfold upD at h
  by_cases e : i = l
  · rw [if_pos e] at h
    cases h
    exact ag
  · rw [if_neg e] at h
    exact po.2.2 i g hi h
theorem jc_none (h0 : ob (GG t) t 8) (ht : 293 ≤ t) (tp : TP T n) (p0 : 0 ≤ p ∧ p ≤ n) (po : PO m S F G D) (hk : ¬ (100 ≤ kT T n p ∧ kT T n p ≤ 106)) : JC T n t b p m S F G D :=
  Or.inr ⟨1, plT T n p, pb tp p0 (by omega), fun d Q σ hd ci g => cc_main (by omega) h0 ht tp ci po.1 (fun _ => g) (fun z => absurd z (by omega)) (fun z => absurd z hk) (fun l hl z => absurd z (by omega)) (fun z => absurd z (by omega)) (fun s lo hi oc => absurd (ord_sr oc).2.2 (by omega)), fun d Q σ ri g => mm_main tp ri po.1 (fun _ => bdM_0 ri g) (fun z => absurd z (by omega)) (fun z => absurd z hk) (fun l hl z => absurd z (by omega)) (fun z => absurd z (by omega))⟩
theorem jc_twice (h0 : ob (GG t) t 8) (ht : 293 ≤ t) (tp : TP T n) (p0 : 0 ≤ p ∧ p ≤ n) (po : PO m S F G D) (hk : 100 ≤ kT T n p ∧ kT T n p ≤ 101) (hD : D (kT T n p - 100) ≠ none) : JC T n t b p m S F G D :=
  Or.inr ⟨4, plT T n p, pb tp p0 (by omega), fun d Q σ hd ci g => cc_main (by omega) h0 ht tp ci po.1 (fun z => absurd z (by omega)) (fun _ _ => g) (fun _ z => absurd (z hk.2) hD) (fun l hl z y => absurd (by rw [show kT T n p - 100 = l by omega]; exact y) hD) (fun z => absurd z (by omega)) (fun s lo hi oc => absurd (ord_sr oc).2.2 (by omega)), fun d Q σ ri g => mm_main tp ri po.1 (fun z => absurd z (by omega)) (fun _ _ => bdM_0 ri g) (fun _ z => absurd (z hk.2) hD) (fun l hl z y => absurd (by rw [show kT T n p - 100 = l by omega]; exact y) hD) (fun z => absurd z (by omega))⟩
theorem jc_many (h0 : ob (GG t) t 8) (ht : 293 ≤ t) (tp : TP T n) (p0 : 0 ≤ p ∧ p ≤ n) (po : PO m S F G D) (hk : 100 ≤ kT T n p ∧ kT T n p ≤ 106) (hD : kT T n p ≤ 101 → D (kT T n p - 100) = none) (hm : m = 24) : JC T n t b p m S F G D :=
  Or.inr ⟨6, plT T n p, pb tp p0 (by omega), fun d Q σ hd ci g => cc_main (by omega) h0 ht tp ci po.1 (fun z => absurd hk z) (fun z y => absurd (hD z.2) y) (fun _ _ _ => g) (fun l hl _ _ z => absurd z (by omega)) (fun _ z => absurd z (by omega)) (fun s lo hi _ z => absurd z (by omega)), fun d Q σ ri g => mm_main tp ri po.1 (fun z => absurd hk z) (fun z y => absurd (hD z.2) y) (fun _ _ _ => bdM_0 ri g) (fun l hl _ _ z => absurd z (by omega)) (fun _ z => absurd z (by omega))⟩
theorem jc_law {l : Int} (h0 : ob (GG t) t 8) (ht : 293 ≤ t) (tp : TP T n) (p0 : 0 ≤ p ∧ p ≤ n) (po : PO m S F G D) (hl : l = 0 ∨ l = 1) (hk : kT T n p = 100 + l) (hD : D l = none) (hm : m < 24) : JC T n t b p m S F G D := by
  have nz := n_zero (q := p) (by omega) tp p0
  have m0 : 0 ≤ m ∧ m < 24 := ⟨po.1.1, hm⟩
  rcases sum_all (b := b) h0 ht tp hl ⟨nz.1, nz.2.2⟩ with ⟨q, f, hq, hN, ⟨_, ag⟩, cg, rg⟩ | ⟨kind, pl, hkd, cb, rb⟩
  · by_cases k59 : kT T n q = 59
    · have nq := n_zero (q := q) (by omega) tp ⟨by omega, hq.2⟩
      refine Or.inl ⟨nxT T n q, l, 0, 0, upD D l f, ⟨by omega, nq.2.2⟩, PO_add po hm ⟨by omega, fun z => absurd z (by omega), fun z => absurd z (by omega)⟩ (PO_D po ag), fun d Q σ hd ci g => ?_, fun d Q σ ri g => ?_⟩
      · exact cc_law (by omega) h0 ht tp ci m0 hl hk hD (fun σ3 c3 f3 k3 => c_law (by omega) h0 ht tp hl (by omega) c3 m0 cg (by omega) k59 (fun σ' c' f' k' => g σ' c' (FrC_tr f3 f') (kpC_tr k3 k')))
      · exact mm_law tp ri m0 hl hk hD (rc_law tp ri m0 hl hD rg hq hN (fun _ => g) (fun z => absurd k59 z))
    · refine Or.inr ⟨1, plT T n q, pb tp ⟨by omega, hq.2⟩ (by omega), fun d Q σ hd ci g => ?_, fun d Q σ ri g => ?_⟩
      · exact cc_law (by omega) h0 ht tp ci m0 hl hk hD (fun σ3 c3 f3 k3 => c_law_B2 (by omega) h0 ht tp hl (by omega) c3 cg k59 (bd_r g f3))
      · exact mm_law tp ri m0 hl hk hD (rc_law tp ri m0 hl hD rg hq hN (fun z => absurd z k59) (fun _ => g))
  · refine Or.inr ⟨kind, pl, hkd, fun d Q σ hd ci g => ?_, fun d Q σ ri g => ?_⟩
    · exact cc_law (by omega) h0 ht tp ci m0 hl hk hD (fun σ3 c3 f3 k3 => c_law_B1 h0 ht hl (by omega) c3 cb (bd_r g f3))
    · exact mm_law tp ri m0 hl hk hD (rc_lawB1 tp ri m0 hl rb hkd.1 g)

theorem jc_ord (h0 : ob (GG t) t 8) (ht : 293 ≤ t) (tp : TP T n) (p0 : 0 ≤ p ∧ p ≤ n) (po : PO m S F G D) (hk : 103 ≤ kT T n p ∧ kT T n p ≤ 106) (hm : m < 24) : JC T n t b p m S F G D := by
  obtain ⟨s, lo, hi, oc, hlo, hhi, ok⟩ := ord_ex hk
  have m0 : 0 ≤ m ∧ m < 24 := ⟨po.1.1, hm⟩
  have nz := n_zero (q := p) (by omega) tp p0
  have q1 : 0 ≤ nxT T n p ∧ nxT T n p ≤ n := ⟨nz.1, nz.2.2⟩
  have a2 := (nx_in tp q1).1
  have q2 : 0 ≤ nxT T n (nxT T n p) ∧ nxT T n (nxT T n p) ≤ n := by omega
  have a3 := (nx_in tp q2).1
  by_cases k1 : kT T n (nxT T n p) = 1
  · by_cases k2 : lo ≤ nmT T n (nxT T n p) ∧ nmT T n (nxT T n p) ≤ hi
    · by_cases k3 : kT T n (nxT T n (nxT T n p)) = 59
      · exact Or.inl ⟨nxT T n (nxT T n (nxT T n p)), s, nmT T n (nxT T n p), 0, D, by omega, PO_add po hm (ok _ _ k2.1 k2.2) po.2.2, fun d Q σ hd ci g => cc_ord (by omega) h0 ht tp ci m0 oc hlo hhi (fun _ _ _ _ => g) (fun z => absurd k1 z) (fun _ z => absurd z (by omega)) (fun _ _ _ z => absurd k3 z), fun d Q σ ri g => mm_ord tp ri m0 oc (fun _ _ _ _ => g) (fun z => absurd k1 z) (fun _ z => absurd z (by omega)) (fun _ _ _ z => absurd k3 z)⟩
      · exact Or.inr ⟨1, plT T n (nxT T n (nxT T n p)), pb tp q2 (by omega), fun d Q σ hd ci g => cc_ord (by omega) h0 ht tp ci m0 oc hlo hhi (fun _ _ _ z => absurd z k3) (fun z => absurd k1 z) (fun _ z => absurd z (by omega)) (fun _ _ _ _ => g), fun d Q σ ri g => mm_ord tp ri m0 oc (fun _ _ _ z => absurd z k3) (fun z => absurd k1 z) (fun _ z => absurd z (by omega)) (fun _ _ _ _ => g)⟩
    · exact Or.inr ⟨2, plT T n (nxT T n p), pb tp q1 (by omega), fun d Q σ hd ci g => cc_ord (by omega) h0 ht tp ci m0 oc hlo hhi (fun _ z y => absurd ⟨z, y⟩ k2) (fun z => absurd k1 z) (fun _ _ => g) (fun _ z y => absurd ⟨z, y⟩ k2), fun d Q σ ri g => mm_ord tp ri m0 oc (fun _ z y => absurd ⟨z, y⟩ k2) (fun z => absurd k1 z) (fun _ _ => g) (fun _ z y => absurd ⟨z, y⟩ k2)⟩
  · exact Or.inr ⟨1, plT T n (nxT T n p), pb tp q1 (by omega), fun d Q σ hd ci g => cc_ord (by omega) h0 ht tp ci m0 oc hlo hhi (fun z => absurd z k1) (fun _ => g) (fun z => absurd z k1) (fun z => absurd z k1), fun d Q σ ri g => mm_ord tp ri m0 oc (fun z => absurd z k1) (fun _ => g) (fun z => absurd z k1) (fun z => absurd z k1)⟩

theorem jc_join (h0 : ob (GG t) t 8) (ht : 293 ≤ t) (tp : TP T n) (p0 : 0 ≤ p ∧ p ≤ n) (po : PO m S F G D) (hk : kT T n p = 102) (hm : m < 24) : JC T n t b p m S F G D := by
  have m0 : 0 ≤ m ∧ m < 24 := ⟨po.1.1, hm⟩
  have nz := n_zero (q := p) (by omega) tp p0
  have q1 : 0 ≤ nxT T n p ∧ nxT T n p ≤ n := ⟨nz.1, nz.2.2⟩
  have a2 := (nx_in tp q1).1
  have q2 : 0 ≤ nxT T n (nxT T n p) ∧ nxT T n (nxT T n p) ≤ n := by omega
  have a3 := (nx_in tp q2).1
  have q3 : 0 ≤ nxT T n (nxT T n (nxT T n p)) ∧ nxT T n (nxT T n (nxT T n p)) ≤ n := by omega
  have a4 := (nx_in tp q3).1
  have q4 : 0 ≤ nxT T n (nxT T n (nxT T n (nxT T n p))) ∧ nxT T n (nxT T n (nxT T n (nxT T n p))) ≤ n := by omega
  have a5 := (nx_in tp q4).1
  have nn1 := nm_in tp q1
  have nn3 := nm_in tp q3
  by_cases k1 : kT T n (nxT T n p) = 1
  · by_cases k2 : nmT T n (nxT T n p) ≤ 7
    · by_cases k3 : kT T n (nxT T n (nxT T n p)) = 119
      · by_cases k4 : kT T n (nxT T n (nxT T n (nxT T n p))) = 1
        · by_cases k5 : nmT T n (nxT T n (nxT T n (nxT T n p))) ≤ 7
          · by_cases k6 : kT T n (nxT T n (nxT T n (nxT T n (nxT T n p)))) = 59
            · exact Or.inl ⟨nxT T n (nxT T n (nxT T n (nxT T n (nxT T n p)))), 2, nmT T n (nxT T n p), nmT T n (nxT T n (nxT T n (nxT T n p))), D, by omega, PO_add po hm ⟨by omega, fun _ => ⟨by omega, by rw [if_neg (by omega), if_neg (by omega)]; omega, fun z => absurd z (by omega)⟩, fun _ => by omega⟩ po.2.2, fun d Q σ hd ci g => cc_join (by omega) h0 ht tp ci m0 hk (fun _ _ _ _ _ _ => g) (fun z => absurd k1 z) (fun _ z => absurd z (by omega)) (fun _ _ z => absurd k3 z) (fun _ _ _ z => absurd k4 z) (fun _ _ _ _ z => absurd z (by omega)) (fun _ _ _ _ _ z => absurd k6 z), fun d Q σ ri g => mm_join tp ri m0 hk (fun _ _ _ _ _ _ => g) (fun z => absurd k1 z) (fun _ z => absurd z (by omega)) (fun _ _ z => absurd k3 z) (fun _ _ _ z => absurd k4 z) (fun _ _ _ _ z => absurd z (by omega)) (fun _ _ _ _ _ z => absurd k6 z)⟩
            · exact Or.inr ⟨1, plT T n (nxT T n (nxT T n (nxT T n (nxT T n p)))), pb tp q4 (by omega), fun d Q σ hd ci g => cc_join (by omega) h0 ht tp ci m0 hk (fun _ _ _ _ _ z => absurd z k6) (fun z => absurd k1 z) (fun _ z => absurd z (by omega)) (fun _ _ z => absurd k3 z) (fun _ _ _ z => absurd k4 z) (fun _ _ _ _ z => absurd z (by omega)) (fun _ _ _ _ _ _ => g), fun d Q σ ri g => mm_join tp ri m0 hk (fun _ _ _ _ _ z => absurd z k6) (fun z => absurd k1 z) (fun _ z => absurd z (by omega)) (fun _ _ z => absurd k3 z) (fun _ _ _ z => absurd k4 z) (fun _ _ _ _ z => absurd z (by omega)) (fun _ _ _ _ _ _ => g)⟩
          · exact Or.inr ⟨2, plT T n (nxT T n (nxT T n (nxT T n p))), pb tp q3 (by omega), fun d Q σ hd ci g => cc_join (by omega) h0 ht tp ci m0 hk (fun _ _ _ _ z => absurd z k5) (fun z => absurd k1 z) (fun _ z => absurd z (by omega)) (fun _ _ z => absurd k3 z) (fun _ _ _ z => absurd k4 z) (fun _ _ _ _ _ => g) (fun _ _ _ _ z => absurd z k5), fun d Q σ ri g => mm_join tp ri m0 hk (fun _ _ _ _ z => absurd z k5) (fun z => absurd k1 z) (fun _ z => absurd z (by omega)) (fun _ _ z => absurd k3 z) (fun _ _ _ z => absurd k4 z) (fun _ _ _ _ _ => g) (fun _ _ _ _ z => absurd z k5)⟩
        · exact Or.inr ⟨1, plT T n (nxT T n (nxT T n (nxT T n p))), pb tp q3 (by omega), fun d Q σ hd ci g => cc_join (by omega) h0 ht tp ci m0 hk (fun _ _ _ z => absurd z k4) (fun z => absurd k1 z) (fun _ z => absurd z (by omega)) (fun _ _ z => absurd k3 z) (fun _ _ _ _ => g) (fun _ _ _ z => absurd z k4) (fun _ _ _ z => absurd z k4), fun d Q σ ri g => mm_join tp ri m0 hk (fun _ _ _ z => absurd z k4) (fun z => absurd k1 z) (fun _ z => absurd z (by omega)) (fun _ _ z => absurd k3 z) (fun _ _ _ _ => g) (fun _ _ _ z => absurd z k4) (fun _ _ _ z => absurd z k4)⟩
      · exact Or.inr ⟨1, plT T n (nxT T n (nxT T n p)), pb tp q2 (by omega), fun d Q σ hd ci g => cc_join (by omega) h0 ht tp ci m0 hk (fun _ _ z => absurd z k3) (fun z => absurd k1 z) (fun _ z => absurd z (by omega)) (fun _ _ _ => g) (fun _ _ z => absurd z k3) (fun _ _ z => absurd z k3) (fun _ _ z => absurd z k3), fun d Q σ ri g => mm_join tp ri m0 hk (fun _ _ z => absurd z k3) (fun z => absurd k1 z) (fun _ z => absurd z (by omega)) (fun _ _ _ => g) (fun _ _ z => absurd z k3) (fun _ _ z => absurd z k3) (fun _ _ z => absurd z k3)⟩
    · exact Or.inr ⟨2, plT T n (nxT T n p), pb tp q1 (by omega), fun d Q σ hd ci g => cc_join (by omega) h0 ht tp ci m0 hk (fun _ z => absurd z k2) (fun z => absurd k1 z) (fun _ _ => g) (fun _ z => absurd z k2) (fun _ z => absurd z k2) (fun _ z => absurd z k2) (fun _ z => absurd z k2), fun d Q σ ri g => mm_join tp ri m0 hk (fun _ z => absurd z k2) (fun z => absurd k1 z) (fun _ _ => g) (fun _ z => absurd z k2) (fun _ z => absurd z k2) (fun _ z => absurd z k2) (fun _ z => absurd z k2)⟩
  · exact Or.inr ⟨1, plT T n (nxT T n p), pb tp q1 (by omega), fun d Q σ hd ci g => cc_join (by omega) h0 ht tp ci m0 hk (fun z => absurd z k1) (fun _ => g) (fun z => absurd z k1) (fun z => absurd z k1) (fun z => absurd z k1) (fun z => absurd z k1) (fun z => absurd z k1), fun d Q σ ri g => mm_join tp ri m0 hk (fun z => absurd z k1) (fun _ => g) (fun z => absurd z k1) (fun z => absurd z k1) (fun z => absurd z k1) (fun z => absurd z k1) (fun z => absurd z k1)⟩
theorem jc_all (h0 : ob (GG t) t 8) (ht : 293 ≤ t) (tp : TP T n) (p0 : 0 ≤ p ∧ p ≤ n) (po : PO m S F G D) : JC T n t b p m S F G D := by
  by_cases hk : 100 ≤ kT T n p ∧ kT T n p ≤ 106
  · by_cases h2 : kT T n p ≤ 101 ∧ D (kT T n p - 100) ≠ none
    · exact jc_twice h0 ht tp p0 po ⟨hk.1, h2.1⟩ h2.2
    · have hD : kT T n p ≤ 101 → D (kT T n p - 100) = none := fun z => by
        cases e : D (kT T n p - 100) with
        | none => rfl
        | some f => exact absurd ⟨z, by rw [e]; exact fun y => by cases y⟩ h2
      have p1 := po.1
      by_cases hm : m = 24
      · exact jc_many h0 ht tp p0 po hk hD hm
      · by_cases k1 : kT T n p ≤ 101
        · exact jc_law (l := kT T n p - 100) h0 ht tp p0 po (by omega) (by omega) (hD k1) (by omega)
        · by_cases k2 : kT T n p = 102
          · exact jc_join h0 ht tp p0 po k2 (by omega)
          · exact jc_ord h0 ht tp p0 po (by omega) (by omega)
  · exact jc_none h0 ht tp p0 po hk
end AN
