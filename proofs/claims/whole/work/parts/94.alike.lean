/-! ===== both sides read a sum alike ===== -/
/-- a law sees the first twenty numbers alone -/
def AG (f : DT) : Prop := ∀ r s c, agr r s → (0 ≤ c ∧ c < 8) → f r c = f s c
theorem AG_con {x : Int} : AG (fun _ _ => x) := fun _ _ _ _ _ => rfl
theorem cntF_congr {p q : Int → Bool} : ∀ (k : Nat) (i : Int), (∀ j, i ≤ j → j < i + k → p j = q j) → cntF p k i = cntF q k i
  | 0, _, _ => rfl
  | k + 1, i, h => by
    rw [cntF, cntF, h i (by omega) (by omega), cntF_congr k (i + 1) (fun j h1 h2 => h j (by omega) (by omega))]
theorem AG_nam {op : Int} : AG (fun r c => nmV r c op) := fun r s c h hc => by
  have e4 := h (4 + c) (by omega) (by omega) (by omega)
  have e12 := h (12 + c) (by omega) (by omega) (by omega)
  have e0 := h 0 (by omega) (by omega) (by omega)
  have e2 := h 2 (by omega) (by omega) (by omega)
  have ec : cntR r = cntR s := by
    unfold cntR
    refine cntF_congr 8 0 (fun j j0 j1 => ?_)
    have ej := h (4 + j) (by omega) (by omega) (by omega)
    unfold fullB
    rw [ej]
  show nmV r c op = nmV s c op
  unfold nmV
  rw [e0, e4, e12, ec, e2]
theorem AG_un {op : Int} {f : DT} (hf : AG f) : AG (fun r x => cop1 r op (f r x)) := fun r s c h hc => by
  show cop1 r op (f r c) = cop1 s op (f s c)
  rw [hf r s c h hc]
  unfold cop1
  by_cases z : 0 ≤ f s c ∧ f s c < 8
  · rw [h (4 + f s c) (by omega) (by omega) (by omega)]
  · rw [if_neg z, if_neg z]
theorem AG_two {op : Int} {f g : DT} (hf : AG f) (hg : AG g) : AG (fun r x => cop2 op (f r x) (g r x)) := fun r s c h hc => by
  show cop2 op (f r c) (g r c) = cop2 op (f s c) (g s c)
  rw [hf r s c h hc, hg r s c h hc]
theorem AG_if {b f g : DT} (hb : AG b) (hf : AG f) (hg : AG g) : AG (fun r x => if b r x = 0 then g r x else f r x) := fun r s c h hc => by
  show (if b r c = 0 then g r c else f r c) = (if b s c = 0 then g s c else f s c)
  rw [hb r s c h hc, hf r s c h hc, hg r s c h hc]
def Jmo (T : Int → Int) (n t l : Int) (m : jT) (D : Nat) (K o p : Int) (N : Int → Prop) (B : DT → Prop) (G : Int → DT → Prop) (X : Int → Int → Prop) : Prop := (∃ (q : Int) (f : DT), (p < q ∧ q ≤ n) ∧ N (kT T n q) ∧ (B f ∧ AG f) ∧ CGd T n t l m D [rv 271, iv o] p q K f ∧ G q f) ∨ (∃ kind pl : Int, ((1 ≤ kind ∧ kind ≤ 6) ∧ 0 ≤ pl ∧ pl ≤ n) ∧ CBd T n t l m D [rv 271, iv o] p kind pl ∧ X kind pl)
def Ljo (T : Int → Int) (n t l : Int) (m : jT) (D : Nat) (Ls : Int → List jV) (K q : Int) (N : Int → Prop) (B : DT → Prop) (G : Int → (DT → DT) → Prop) (X : Int → Int → Prop) : Prop := (∃ (q' : Int) (F : DT → DT), (q ≤ q' ∧ q' ≤ n) ∧ N (kT T n q') ∧ (∀ f, (B f → B (F f)) ∧ (AG f → AG (F f))) ∧ LGd T n t l m D Ls q q' K B F ∧ G q' F) ∨ (∃ kind pl : Int, ((1 ≤ kind ∧ kind ≤ 6) ∧ 0 ≤ pl ∧ pl ≤ n) ∧ LBd T n t l m D Ls q K B kind pl ∧ X kind pl)
theorem pb {T : Int → Int} {n q kind : Int} (tp : TP T n) (q0 : 0 ≤ q ∧ q ≤ n) (h : 1 ≤ kind ∧ kind ≤ 6) : (1 ≤ kind ∧ kind ≤ 6) ∧ 0 ≤ plT T n q ∧ plT T n q ≤ n := by
  have a := pl_in tp q0
  exact ⟨h, by omega, a.2⟩
section AL
variable {T : Int → Int} {n t b l : Int}
theorem CGd_w {m : jT} {D D2 : Nat} {As : List jV} {p q K K2 : Int} {f : DT} (h : CGd T n t l m D As p q K f) (hD : D ≤ D2) (hK : K2 ≤ K) : CGd T n t l m D2 As p q K2 f := fun D' Q σ c h1 s k => h D' Q σ c (by omega) s (fun σ' c' s' l1 l2 g gc => k σ' c' s' l1 l2 g (GC_K gc hK))
theorem CBd_w {m : jT} {D D2 : Nat} {As : List jV} {p kind pl : Int} (h : CBd T n t l m D As p kind pl) (hD : D ≤ D2) : CBd T n t l m D2 As p kind pl := fun D' Q σ c h1 s k => h D' Q σ c (by omega) s k
theorem LGd_w {m : jT} {D D2 : Nat} {Ls : Int → List jV} {q q' K : Int} {B : DT → Prop} {F : DT → DT} (h : LGd T n t l m D Ls q q' K B F) (hD : D ≤ D2) : LGd T n t l m D2 Ls q q' K B F := fun D' Q σ c0 c v2 f h1 => h D' Q σ c0 c v2 f (by omega)
theorem LBd_w {m : jT} {D D2 : Nat} {Ls : Int → List jV} {q K kind pl : Int} {B : DT → Prop} (h : LBd T n t l m D Ls q K B kind pl) (hD : D ≤ D2) : LBd T n t l m D2 Ls q K B kind pl := fun D' Q σ c0 c v2 f h1 => h D' Q σ c0 c v2 f (by omega)
def M1 (T : Int → Int) (n t b l o p : Int) : Prop := Jmo T n t l mX3_readOne (359 - 44 * o).toNat (23 + 5 * o) o p (fun _ => True) allD (fun q f => RG1 T n t b l p q o f) (fun kind pl => RB1 T n t b l p o kind pl)
def M2 (T : Int → Int) (n t b l o p : Int) : Prop := Jmo T n t l mX3_readProduct (365 - 44 * o).toNat (22 + 5 * o) o p N2 allD (fun q f => RGm T n t b l false 6 6 5 p q o f) (fun kind pl => RBm T n t b l false 6 5 p o kind pl)
def M3 (T : Int → Int) (n t b l o p : Int) : Prop := Jmo T n t l mX3_readSum (371 - 44 * o).toNat (21 + 5 * o) o p N3 allD (fun q f => RGm T n t b l false 5 5 4 p q o f) (fun kind pl => RBm T n t b l false 5 4 p o kind pl)
def M4 (T : Int → Int) (n t b l o p : Int) : Prop := Jmo T n t l mX3_readAsk (377 - 44 * o).toNat (20 + 5 * o) o p N3 B01 (fun q f => RGm T n t b l true 4 3 2 p q o f) (fun kind pl => RBm T n t b l true 4 2 p o kind pl)
def M5 (T : Int → Int) (n t b l o p : Int) : Prop := Jmo T n t l mX3_readBoth (383 - 44 * o).toNat (19 + 5 * o) o p N5 B01 (fun q f => RGm T n t b l true 2 2 1 p q o f) (fun kind pl => RBm T n t b l true 2 1 p o kind pl)
def M6 (T : Int → Int) (n t b l o p : Int) : Prop := Jmo T n t l mX3_readEither (389 - 44 * o).toNat (18 + 5 * o) o p N6 B01 (fun q f => RGm T n t b l true 1 1 0 p q o f) (fun kind pl => RBm T n t b l true 1 0 p o kind pl)
theorem n_zero {q : Int} (h : kT T n q ≠ 0) (tp : TP T n) (q0 : 0 ≤ q ∧ q ≤ n) : (0 ≤ nxT T n q ∧ q < nxT T n q ∧ nxT T n q ≤ n) := by
  have a := nx_in tp q0
  have := a.2 h
  omega
theorem loop2 {o : Int} (h0 : ob (GG t) t 8) (ht : 293 ≤ t) (tp : TP T n) (ho : 0 ≤ o ∧ o ≤ 8) (p : Int) (ih : ∀ p', p < p' → 0 ≤ p' → p' ≤ n → M1 T n t b l o p') : ∀ (k : Nat) (q : Int), 0 ≤ q → p ≤ q → q ≤ n → n - q < k → Ljo T n t l mX3_readProduct (365 - 44 * o).toNat (fun v => [rv 271, iv o, iv v, uv]) (22 + 5 * o) q N2 allD (fun q' F => RLg T n t b l false 6 5 allD q q' o F) (fun kind pl => RLb T n t b l false 6 5 allD q o kind pl)
  | 0, q, _, _, _, h => absurd h (by omega)
  | k + 1, q, q0, pq, qn, h => by
    by_cases hk : kT T n q = 42 ∨ kT T n q = 47
    · have nz := n_zero (q := q) (by omega) tp ⟨q0, qn⟩
      rcases ih (nxT T n q) (by omega) nz.1 nz.2.2 with ⟨q2, g, hq, _, ⟨_, ag⟩, cg, rg⟩ | ⟨kind, pl, hkd, cb, rb⟩
      · have cg2 := CGd_w (D2 := (359 - 44 * o).toNat) (K2 := 22 + 5 * o + 1) cg (by omega) (by omega)
        rcases loop2 h0 ht tp ho p ih k q2 (by omega) (by omega) hq.2 (by omega) with ⟨q', F, hq', hN, hB, lg, rl⟩ | ⟨kind, pl, hkd, lb, rl⟩
        · exact Or.inl ⟨q', _, ⟨by omega, hq'.2⟩, hN, fun f => ⟨fun _ => trivial, fun af => (hB _).2 (AG_two af ag)⟩, LGd_w (l_prod_step h0 ht tp ⟨q0, qn⟩ hk cg2 lg) (by omega), r_step tp (by omega) (ok_mul hk) (r_of1 rg ho.2) trivial (by omega) rl⟩
        · exact Or.inr ⟨kind, pl, hkd, LBd_w (l_prod_later h0 ht tp ⟨q0, qn⟩ hk cg2 lb) (by omega), r_later tp (by omega) (ok_mul hk) (r_of1 rg ho.2) trivial (by omega) rl⟩
      · exact Or.inr ⟨kind, pl, hkd, LBd_w (l_prod_bad ht tp hk cb) (by omega), r_bad tp (by omega) (ok_mul hk) (r_of1B rb)⟩
    · exact Or.inl ⟨q, fun f => f, ⟨Int.le_refl _, qn⟩, ⟨fun e => hk (Or.inl e), fun e => hk (Or.inr e)⟩, fun _ => ⟨fun x => x, fun x => x⟩, LGd_w (l_prod_stop tp (fun e => hk (Or.inl e)) (fun e => hk (Or.inr e))) (by omega), r_stop⟩
theorem loop3 {o : Int} (h0 : ob (GG t) t 8) (ht : 293 ≤ t) (tp : TP T n) (ho : 0 ≤ o ∧ o ≤ 8) (p : Int) (ih : ∀ p', p < p' → 0 ≤ p' → p' ≤ n → M2 T n t b l o p') : ∀ (k : Nat) (q : Int), 0 ≤ q → p ≤ q → q ≤ n → n - q < k → N2 (kT T n q) → Ljo T n t l mX3_readSum (371 - 44 * o).toNat (fun v => [rv 271, iv o, iv v, uv]) (21 + 5 * o) q N3 allD (fun q' F => RLg T n t b l false 5 4 allD q q' o F) (fun kind pl => RLb T n t b l false 5 4 allD q o kind pl)
  | 0, q, _, _, _, h, _ => absurd h (by omega)
  | k + 1, q, q0, pq, qn, h, hN2 => by
    by_cases hk : kT T n q = 43 ∨ kT T n q = 45
    · have nz := n_zero (q := q) (by omega) tp ⟨q0, qn⟩
      rcases ih (nxT T n q) (by omega) nz.1 nz.2.2 with ⟨q2, g, hq, hN, ⟨_, ag⟩, cg, rg⟩ | ⟨kind, pl, hkd, cb, rb⟩
      · have cg2 := CGd_w (D2 := (365 - 44 * o).toNat) (K2 := 21 + 5 * o + 1) cg (by omega) (by omega)
        rcases loop3 h0 ht tp ho p ih k q2 (by omega) (by omega) hq.2 (by omega) hN with ⟨q', F, hq', hN', hB, lg, rl⟩ | ⟨kind, pl, hkd, lb, rl⟩
        · exact Or.inl ⟨q', _, ⟨by omega, hq'.2⟩, hN', fun f => ⟨fun _ => trivial, fun af => (hB _).2 (AG_two af ag)⟩, LGd_w (l_sum_step h0 ht tp ⟨q0, qn⟩ hk cg2 lg) (by omega), r_step tp (by omega) (ok_add hk) rg trivial (by omega) rl⟩
        · exact Or.inr ⟨kind, pl, hkd, LBd_w (l_sum_later h0 ht tp ⟨q0, qn⟩ hk cg2 lb) (by omega), r_later tp (by omega) (ok_add hk) rg trivial (by omega) rl⟩
      · exact Or.inr ⟨kind, pl, hkd, LBd_w (l_sum_bad ht tp hk cb) (by omega), r_bad tp (by omega) (ok_add hk) rb⟩
    · exact Or.inl ⟨q, fun f => f, ⟨Int.le_refl _, qn⟩, ⟨hN2, fun e => hk (Or.inl e), fun e => hk (Or.inr e)⟩, fun _ => ⟨fun x => x, fun x => x⟩, LGd_w (l_sum_stop tp (fun e => hk (Or.inl e)) (fun e => hk (Or.inr e))) (by omega), r_stop⟩
theorem loop5 {o : Int} (h0 : ob (GG t) t 8) (ht : 293 ≤ t) (tp : TP T n) (ho : 0 ≤ o ∧ o ≤ 8) (p : Int) (ih : ∀ p', p < p' → 0 ≤ p' → p' ≤ n → M4 T n t b l o p') : ∀ (k : Nat) (q : Int), 0 ≤ q → p ≤ q → q ≤ n → n - q < k → N3 (kT T n q) → Ljo T n t l mX3_readBoth (383 - 44 * o).toNat (fun v => [rv 271, iv o, iv v]) (19 + 5 * o) q N5 B01 (fun q' F => RLg T n t b l true 2 1 B01 q q' o F) (fun kind pl => RLb T n t b l true 2 1 B01 q o kind pl)
  | 0, q, _, _, _, h, _ => absurd h (by omega)
  | k + 1, q, q0, pq, qn, h, hN3 => by
    by_cases hk : kT T n q = 119
    · have nz := n_zero (q := q) (by omega) tp ⟨q0, qn⟩
      rcases ih (nxT T n q) (by omega) nz.1 nz.2.2 with ⟨q2, g, hq, hN, ⟨bg, ag⟩, cg, rg⟩ | ⟨kind, pl, hkd, cb, rb⟩
      · have cg2 := CGd_w (D2 := (377 - 44 * o).toNat) (K2 := 19 + 5 * o + 1) cg (by omega) (by omega)
        rcases loop5 h0 ht tp ho p ih k q2 (by omega) (by omega) hq.2 (by omega) hN with ⟨q', F, hq', hN', hB, lg, rl⟩ | ⟨kind, pl, hkd, lb, rl⟩
        · exact Or.inl ⟨q', _, ⟨by omega, hq'.2⟩, hN', fun f => ⟨fun bf => (hB _).1 (cop2_B01 (by omega) (fun _ => ⟨bf, bg⟩)), fun af => (hB _).2 (AG_two af ag)⟩, LGd_w (l_both_step h0 ht tp ⟨q0, qn⟩ hk cg2 bg lg) (by omega), r_step tp (by omega) (ok_and hk) rg bg (by omega) rl⟩
        · exact Or.inr ⟨kind, pl, hkd, LBd_w (l_both_later h0 ht tp ⟨q0, qn⟩ hk cg2 bg lb) (by omega), r_later tp (by omega) (ok_and hk) rg bg (by omega) rl⟩
      · exact Or.inr ⟨kind, pl, hkd, LBd_w (l_both_bad ht tp hk cb) (by omega), r_bad tp (by omega) (ok_and hk) rb⟩
    · exact Or.inl ⟨q, fun f => f, ⟨Int.le_refl _, qn⟩, ⟨hN3, hk⟩, fun _ => ⟨fun x => x, fun x => x⟩, LGd_w (l_both_stop tp hk) (by omega), r_stop⟩
theorem loop6 {o : Int} (h0 : ob (GG t) t 8) (ht : 293 ≤ t) (tp : TP T n) (ho : 0 ≤ o ∧ o ≤ 8) (p : Int) (ih : ∀ p', p < p' → 0 ≤ p' → p' ≤ n → M5 T n t b l o p') : ∀ (k : Nat) (q : Int), 0 ≤ q → p ≤ q → q ≤ n → n - q < k → N5 (kT T n q) → Ljo T n t l mX3_readEither (389 - 44 * o).toNat (fun v => [rv 271, iv o, iv v]) (18 + 5 * o) q N6 B01 (fun q' F => RLg T n t b l true 1 0 B01 q q' o F) (fun kind pl => RLb T n t b l true 1 0 B01 q o kind pl)
  | 0, q, _, _, _, h, _ => absurd h (by omega)
  | k + 1, q, q0, pq, qn, h, hN5 => by
    by_cases hk : kT T n q = 120
    · have nz := n_zero (q := q) (by omega) tp ⟨q0, qn⟩
      rcases ih (nxT T n q) (by omega) nz.1 nz.2.2 with ⟨q2, g, hq, hN, ⟨bg, ag⟩, cg, rg⟩ | ⟨kind, pl, hkd, cb, rb⟩
      · have cg2 := CGd_w (D2 := (383 - 44 * o).toNat) (K2 := 18 + 5 * o + 1) cg (by omega) (by omega)
        rcases loop6 h0 ht tp ho p ih k q2 (by omega) (by omega) hq.2 (by omega) hN with ⟨q', F, hq', hN', hB, lg, rl⟩ | ⟨kind, pl, hkd, lb, rl⟩
        · exact Or.inl ⟨q', _, ⟨by omega, hq'.2⟩, hN', fun f => ⟨fun bf => (hB _).1 (cop2_B01 (by omega) (fun _ => ⟨bf, bg⟩)), fun af => (hB _).2 (AG_two af ag)⟩, LGd_w (l_either_step h0 ht tp ⟨q0, qn⟩ hk cg2 bg lg) (by omega), r_step tp (by omega) (ok_or hk) rg bg (by omega) rl⟩
        · exact Or.inr ⟨kind, pl, hkd, LBd_w (l_either_later h0 ht tp ⟨q0, qn⟩ hk cg2 bg lb) (by omega), r_later tp (by omega) (ok_or hk) rg bg (by omega) rl⟩
      · exact Or.inr ⟨kind, pl, hkd, LBd_w (l_either_bad ht tp hk cb) (by omega), r_bad tp (by omega) (ok_or hk) rb⟩
    · exact Or.inl ⟨q, fun f => f, ⟨Int.le_refl _, qn⟩, ⟨hN5, hk⟩, fun _ => ⟨fun x => x, fun x => x⟩, LGd_w (l_either_stop tp hk) (by omega), r_stop⟩
theorem m2_of {o p : Int} (h0 : ob (GG t) t 8) (ht : 293 ≤ t) (tp : TP T n) (ho : 0 ≤ o ∧ o ≤ 8) (p0 : 0 ≤ p ∧ p ≤ n) (ih : ∀ p', p < p' → 0 ≤ p' → p' ≤ n → M1 T n t b l o p') (h1 : M1 T n t b l o p) : M2 T n t b l o p := by
  rcases h1 with ⟨q, f, hq, _, ⟨_, ag⟩, cg, rg⟩ | ⟨kind, pl, hkd, cb, rb⟩
  · have cg2 := CGd_w (D2 := (359 - 44 * o).toNat) (K2 := 22 + 5 * o) cg (by omega) (by omega)
    rcases loop2 h0 ht tp ho p ih (n - q + 1).toNat q (by omega) (by omega) hq.2 (by omega) with ⟨q', F, hq', hN, hB, lg, rl⟩ | ⟨kind, pl, hkd, lb, rl⟩
    · exact Or.inl ⟨q', F f, ⟨by omega, hq'.2⟩, hN, ⟨trivial, (hB f).2 ag⟩, CGd_w (c_prod p0 cg2 lg) (by omega) (Int.le_refl _), r_first (r_of1 rg ho.2) trivial rl (by omega) (by omega) (by omega)⟩
    · exact Or.inr ⟨kind, pl, hkd, CBd_w (c_prodL p0 cg2 lb) (by omega), r_firstL (r_of1 rg ho.2) trivial rl (by omega) (by omega) (by omega)⟩
  · exact Or.inr ⟨kind, pl, hkd, CBd_w (c_prodB cb) (by omega), r_firstB (r_of1B rb) (by omega) (by omega)⟩
theorem m3_of {o p : Int} (h0 : ob (GG t) t 8) (ht : 293 ≤ t) (tp : TP T n) (ho : 0 ≤ o ∧ o ≤ 8) (p0 : 0 ≤ p ∧ p ≤ n) (ih : ∀ p', p < p' → 0 ≤ p' → p' ≤ n → M2 T n t b l o p') (h1 : M2 T n t b l o p) : M3 T n t b l o p := by
  rcases h1 with ⟨q, f, hq, hN2, ⟨_, ag⟩, cg, rg⟩ | ⟨kind, pl, hkd, cb, rb⟩
  · have cg2 := CGd_w (D2 := (365 - 44 * o).toNat) (K2 := 21 + 5 * o) cg (by omega) (by omega)
    rcases loop3 h0 ht tp ho p ih (n - q + 1).toNat q (by omega) (by omega) hq.2 (by omega) hN2 with ⟨q', F, hq', hN, hB, lg, rl⟩ | ⟨kind, pl, hkd, lb, rl⟩
    · exact Or.inl ⟨q', F f, ⟨by omega, hq'.2⟩, hN, ⟨trivial, (hB f).2 ag⟩, CGd_w (c_sum p0 cg2 lg) (by omega) (Int.le_refl _), r_first rg trivial rl (by omega) (by omega) (by omega)⟩
    · exact Or.inr ⟨kind, pl, hkd, CBd_w (c_sumL p0 cg2 lb) (by omega), r_firstL rg trivial rl (by omega) (by omega) (by omega)⟩
  · exact Or.inr ⟨kind, pl, hkd, CBd_w (c_sumB cb) (by omega), r_firstB rb (by omega) (by omega)⟩
theorem m5_of {o p : Int} (h0 : ob (GG t) t 8) (ht : 293 ≤ t) (tp : TP T n) (ho : 0 ≤ o ∧ o ≤ 8) (p0 : 0 ≤ p ∧ p ≤ n) (ih : ∀ p', p < p' → 0 ≤ p' → p' ≤ n → M4 T n t b l o p') (h1 : M4 T n t b l o p) : M5 T n t b l o p := by
  rcases h1 with ⟨q, f, hq, hN2, ⟨bf, ag⟩, cg, rg⟩ | ⟨kind, pl, hkd, cb, rb⟩
  · have cg2 := CGd_w (D2 := (377 - 44 * o).toNat) (K2 := 19 + 5 * o) cg (by omega) (by omega)
    rcases loop5 h0 ht tp ho p ih (n - q + 1).toNat q (by omega) (by omega) hq.2 (by omega) hN2 with ⟨q', F, hq', hN, hB, lg, rl⟩ | ⟨kind, pl, hkd, lb, rl⟩
    · exact Or.inl ⟨q', F f, ⟨by omega, hq'.2⟩, hN, ⟨(hB f).1 bf, (hB f).2 ag⟩, CGd_w (c_both p0 cg2 bf lg) (by omega) (Int.le_refl _), r_first rg bf rl (by omega) (by omega) (by omega)⟩
    · exact Or.inr ⟨kind, pl, hkd, CBd_w (c_bothL p0 cg2 bf lb) (by omega), r_firstL rg bf rl (by omega) (by omega) (by omega)⟩
  · exact Or.inr ⟨kind, pl, hkd, CBd_w (c_bothB cb) (by omega), r_firstB rb (by omega) (by omega)⟩
theorem m6_of {o p : Int} (h0 : ob (GG t) t 8) (ht : 293 ≤ t) (tp : TP T n) (ho : 0 ≤ o ∧ o ≤ 8) (p0 : 0 ≤ p ∧ p ≤ n) (ih : ∀ p', p < p' → 0 ≤ p' → p' ≤ n → M5 T n t b l o p') (h1 : M5 T n t b l o p) : M6 T n t b l o p := by
  rcases h1 with ⟨q, f, hq, hN2, ⟨bf, ag⟩, cg, rg⟩ | ⟨kind, pl, hkd, cb, rb⟩
  · have cg2 := CGd_w (D2 := (383 - 44 * o).toNat) (K2 := 18 + 5 * o) cg (by omega) (by omega)
    rcases loop6 h0 ht tp ho p ih (n - q + 1).toNat q (by omega) (by omega) hq.2 (by omega) hN2 with ⟨q', F, hq', hN, hB, lg, rl⟩ | ⟨kind, pl, hkd, lb, rl⟩
    · exact Or.inl ⟨q', F f, ⟨by omega, hq'.2⟩, hN, ⟨(hB f).1 bf, (hB f).2 ag⟩, CGd_w (c_either p0 cg2 bf lg) (by omega) (Int.le_refl _), r_first rg bf rl (by omega) (by omega) (by omega)⟩
    · exact Or.inr ⟨kind, pl, hkd, CBd_w (c_eitherL p0 cg2 bf lb) (by omega), r_firstL rg bf rl (by omega) (by omega) (by omega)⟩
  · exact Or.inr ⟨kind, pl, hkd, CBd_w (c_eitherB cb) (by omega), r_firstB rb (by omega) (by omega)⟩
theorem m4_of {o p : Int} (h0 : ob (GG t) t 8) (ht : 293 ≤ t) (tp : TP T n) (ll : l = 0 ∨ l = 1) (ho : 0 ≤ o ∧ o ≤ 8) (p0 : 0 ≤ p ∧ p ≤ n) (ih3 : ∀ p', p < p' → 0 ≤ p' → p' ≤ n → M3 T n t b l o p') (ih4 : o < 8 → ∀ p', p < p' → 0 ≤ p' → p' ≤ n → M4 T n t b l (o + 1) p') (h3 : M3 T n t b l o p) : M4 T n t b l o p := by
  by_cases hk : kT T n p = 121
  · have nz := n_zero (q := p) (by omega) tp p0
    by_cases h8 : o = 8
    · exact Or.inr ⟨3, plT T n p, pb tp (by omega) (by omega), CBd_w (c_notD ht tp hk h8) (by omega), r_notD tp ll hk h8⟩
    · rcases ih4 (by omega) (nxT T n p) nz.2.1 nz.1 nz.2.2 with ⟨q, f, hq, hN, ⟨bf, ag⟩, cg, rg⟩ | ⟨kind, pl, hkd, cb, rb⟩
      · have cg2 := CGd_w (D2 := (377 - 44 * (o + 1)).toNat) (K2 := 20 + 5 * o) cg (by omega) (by omega)
        refine Or.inl ⟨q, _, ⟨by omega, hq.2⟩, hN, ⟨?_, AG_un ag⟩, CGd_w (c_not h0 ht tp p0 hk (by omega) cg2 bf) (by omega) (Int.le_refl _), r_not tp ll hk (by omega) rg bf⟩
        intro r x
        show cop1 r 13 (f r x) = 0 ∨ cop1 r 13 (f r x) = 1
        rw [c1_13]
        have := bf r x
        omega
      · exact Or.inr ⟨kind, pl, hkd, CBd_w (c_notB ht tp hk (by omega) cb) (by omega), r_notB tp ll hk (by omega) rb⟩
  · rcases h3 with ⟨q1, f, hq1, hN1, ⟨_, ag1⟩, cg1, rg1⟩ | ⟨kind, pl, hkd, cb, rb⟩
    · have cg1' := CGd_w (D2 := (371 - 44 * o).toNat) (K2 := 20 + 5 * o) cg1 (by omega) (by omega)
      by_cases hr : relC (kT T n q1) = -1
      · exact Or.inr ⟨1, plT T n q1, pb tp (by omega) (by omega), CBd_w (c_askB2 ht tp hk cg1' hr) (by omega), r_askB2 tp hk rg1 hN1 hr⟩
      · have nz := n_zero (q := q1) (rel_eq hr).2.2.1 tp ⟨by omega, hq1.2⟩
        rcases ih3 (nxT T n q1) (by omega) nz.1 nz.2.2 with ⟨q2, g, hq2, hN2, ⟨_, ag2⟩, cg2, rg2⟩ | ⟨kind, pl, hkd, cb, rb⟩
        · have cg2' := CGd_w (D2 := (371 - 44 * o).toNat) (K2 := 20 + 5 * o + 1) cg2 (by omega) (by omega)
          have ri := relC_in (k := kT T n q1)
          exact Or.inl ⟨q2, _, ⟨by omega, hq2.2⟩, hN2, ⟨cop2_B01 (by omega) (fun z => absurd z (by omega)), AG_two ag1 ag2⟩, CGd_w (c_ask h0 ht tp hk cg1' hr cg2') (by omega) (Int.le_refl _), r_ask tp hk rg1 hr rg2⟩
        · exact Or.inr ⟨kind, pl, hkd, CBd_w (c_askB3 ht tp hk cg1' hr cb) (by omega), r_askB3 tp hk rg1 hr rb⟩
    · exact Or.inr ⟨kind, pl, hkd, CBd_w (c_askB1 tp hk cb) (by omega), r_askB1 hk rb⟩
theorem m1_if {o p : Int} (h0 : ob (GG t) t 8) (ht : 293 ≤ t) (tp : TP T n) (ll : l = 0 ∨ l = 1) (ho : 0 ≤ o ∧ o < 8) (p0 : 0 ≤ p ∧ p ≤ n) (hk : kT T n p = 115) (ih3 : ∀ p', p < p' → 0 ≤ p' → p' ≤ n → M3 T n t b l (o + 1) p') (ih6 : ∀ p', p < p' → 0 ≤ p' → p' ≤ n → M6 T n t b l (o + 1) p') : M1 T n t b l o p := by
  have nz := n_zero (q := p) (by omega) tp p0
  rcases ih6 (nxT T n p) nz.2.1 nz.1 nz.2.2 with ⟨q1, c, hq1, hN1, ⟨bc, ag1⟩, cg1, rg1⟩ | ⟨kind, pl, hkd, cb, rb⟩
  · have cg1' := CGd_w (D2 := (389 - 44 * (o + 1)).toNat) (K2 := 23 + 5 * o) cg1 (by omega) (by omega)
    by_cases k1 : kT T n q1 = 116
    · have nz1 := n_zero (q := q1) (by omega) tp ⟨by omega, hq1.2⟩
      rcases ih3 (nxT T n q1) (by omega) nz1.1 nz1.2.2 with ⟨q2, f, hq2, hN2, ⟨_, ag2⟩, cg2, rg2⟩ | ⟨kind, pl, hkd, cb, rb⟩
      · have cg2' := CGd_w (D2 := (371 - 44 * (o + 1)).toNat) (K2 := 23 + 5 * o) cg2 (by omega) (by omega)
        by_cases k2 : kT T n q2 = 117
        · have nz2 := n_zero (q := q2) (by omega) tp ⟨by omega, hq2.2⟩
          rcases ih3 (nxT T n q2) (by omega) nz2.1 nz2.2.2 with ⟨q3, g, hq3, hN3, ⟨_, ag3⟩, cg3, rg3⟩ | ⟨kind, pl, hkd, cb, rb⟩
          · have cg3' := CGd_w (D2 := (371 - 44 * (o + 1)).toNat) (K2 := 23 + 5 * o) cg3 (by omega) (by omega)
            have rr := r_if tp ll ho hk rg1 hN1 k1 rg2 hN2 k2 rg3 hN3
            by_cases k3 : kT T n q3 = 118
            · have nz3 := n_zero (q := q3) (by omega) tp ⟨by omega, hq3.2⟩
              exact Or.inl ⟨nxT T n q3, _, ⟨by omega, nz3.2.2⟩, trivial, ⟨trivial, AG_if ag1 ag2 ag3⟩, CGd_w (c_one_if ht tp p0 hk ho (c_choice h0 ht tp cg1' k1 cg2' k2 cg3' k3)) (by omega) (Int.le_refl _), rr.1 k3⟩
            · exact Or.inr ⟨1, plT T n q3, pb tp (by omega) (by omega), CBd_w (c_one_ifB ht tp hk ho (c_ch5B h0 ht tp cg1' k1 cg2' k2 cg3' k3)) (by omega), rr.2 k3⟩
          · exact Or.inr ⟨kind, pl, hkd, CBd_w (c_one_ifB ht tp hk ho (c_ch4B h0 ht tp cg1' k1 cg2' k2 cb)) (by omega), r_if4B tp ll ho hk rg1 hN1 k1 rg2 hN2 k2 rb⟩
        · exact Or.inr ⟨1, plT T n q2, pb tp (by omega) (by omega), CBd_w (c_one_ifB ht tp hk ho (c_ch3B h0 ht tp cg1' k1 cg2' k2)) (by omega), r_if3B tp ll ho hk rg1 hN1 k1 rg2 hN2 k2⟩
      · exact Or.inr ⟨kind, pl, hkd, CBd_w (c_one_ifB ht tp hk ho (c_ch2B h0 ht tp cg1' k1 cb)) (by omega), r_if2B tp ll ho hk rg1 hN1 k1 rb⟩
    · exact Or.inr ⟨1, plT T n q1, pb tp (by omega) (by omega), CBd_w (c_one_ifB ht tp hk ho (c_ch1B h0 ht tp cg1' k1)) (by omega), r_if1B tp ll ho hk rg1 hN1 k1⟩
  · exact Or.inr ⟨kind, pl, hkd, CBd_w (c_one_ifB ht tp hk ho (c_ch0B cb)) (by omega), r_if0B tp ll ho hk rb⟩
theorem m1_of {o p : Int} (h0 : ob (GG t) t 8) (ht : 293 ≤ t) (tp : TP T n) (ll : l = 0 ∨ l = 1) (ho : 0 ≤ o ∧ o ≤ 8) (p0 : 0 ≤ p ∧ p ≤ n) (ih1 : o < 8 → ∀ p', p < p' → 0 ≤ p' → p' ≤ n → M1 T n t b l (o + 1) p') (ih3 : o < 8 → ∀ p', p < p' → 0 ≤ p' → p' ≤ n → M3 T n t b l (o + 1) p') (ih6 : o < 8 → ∀ p', p < p' → 0 ≤ p' → p' ≤ n → M6 T n t b l (o + 1) p') : M1 T n t b l o p := by
  by_cases hd : kT T n p = 1
  · have nz := n_zero (q := p) (by omega) tp p0
    by_cases hm : nmT T n p ≤ 9999
    · exact Or.inl ⟨nxT T n p, _, nz.2, trivial, ⟨trivial, AG_con⟩, CGd_w (c_one_num h0 ht tp hd hm (by omega)) (by omega) (Int.le_refl _), r_one tp ll ho (Or.inl ⟨hd, hm, rfl⟩)⟩
    · exact Or.inr ⟨2, plT T n p, pb tp (by omega) (by omega), CBd_w (c_one_big h0 ht tp hd (by omega)) (by omega), r_bad1 tp ll ho (Or.inl ⟨rfl, hd, by omega⟩)⟩
  · by_cases hn : 106 ≤ kT T n p ∧ kT T n p ≤ 112
    · have nz := n_zero (q := p) (by omega) tp p0
      by_cases hf : kT T n p = (if l = 0 then 112 else 111)
      · exact Or.inr ⟨5, plT T n p, pb tp (by omega) (by omega), CBd_w (c_one_other ht tp hn ll hf) (by omega), r_bad1 tp ll ho (Or.inr (Or.inl ⟨rfl, hn, hf⟩))⟩
      · exact Or.inl ⟨nxT T n p, _, nz.2, trivial, ⟨trivial, AG_nam⟩, CGd_w (c_one_name h0 ht tp hn ll hf (by omega)) (by omega) (Int.le_refl _), r_one tp ll ho (Or.inr ⟨hn, hf, rfl⟩)⟩
    · by_cases hop : isOpen (kT T n p)
      · have hop2 := hop
        unfold isOpen at hop2
        have nz := n_zero (q := p) (by omega) tp p0
        by_cases h8 : o = 8
        · exact Or.inr ⟨3, plT T n p, pb tp (by omega) (by omega), CBd_w (c_one_deep ht tp hop h8) (by omega), r_bad1 tp ll ho (Or.inr (Or.inr (Or.inr ⟨rfl, hop, h8⟩)))⟩
        · have h8' : o < 8 := by omega
          by_cases k40 : kT T n p = 40
          · rcases ih3 h8' (nxT T n p) nz.2.1 nz.1 nz.2.2 with ⟨q, f, hq, hN, ⟨_, ag⟩, cg, rg⟩ | ⟨kind, pl, hkd, cb, rb⟩
            · have cg2 := CGd_w (D2 := (371 - 44 * (o + 1)).toNat) (K2 := 23 + 5 * o) cg (by omega) (by omega)
              have cc := c_one_par ht tp p0 k40 ⟨ho.1, h8'⟩ cg2
              have rr := r_par tp ll ⟨ho.1, h8'⟩ k40 rg hN
              by_cases k41 : kT T n q = 41
              · have nz2 := n_zero (q := q) (by omega) tp ⟨by omega, hq.2⟩
                exact Or.inl ⟨nxT T n q, f, ⟨by omega, nz2.2.2⟩, trivial, ⟨trivial, ag⟩, CGd_w (cc.1 k41) (by omega) (Int.le_refl _), rr.1 k41⟩
              · exact Or.inr ⟨1, plT T n q, pb tp (by omega) (by omega), CBd_w (cc.2 k41) (by omega), rr.2 k41⟩
            · exact Or.inr ⟨kind, pl, hkd, CBd_w (c_one_parB ht tp k40 ⟨ho.1, h8'⟩ cb) (by omega), r_parB tp ll ⟨ho.1, h8'⟩ k40 rb⟩
          · by_cases k115 : kT T n p = 115
            · exact m1_if h0 ht tp ll ⟨ho.1, h8'⟩ p0 k115 (ih3 h8') (ih6 h8')
            · have ku : kT T n p = 45 ∨ kT T n p = 113 ∨ kT T n p = 114 := by omega
              rcases ih1 h8' (nxT T n p) nz.2.1 nz.1 nz.2.2 with ⟨q, f, hq, _, ⟨_, ag⟩, cg, rg⟩ | ⟨kind, pl, hkd, cb, rb⟩
              · have cg2 := CGd_w (D2 := (359 - 44 * (o + 1)).toNat) (K2 := 23 + 5 * o) cg (by omega) (by omega)
                exact Or.inl ⟨q, _, ⟨by omega, hq.2⟩, trivial, ⟨trivial, AG_un ag⟩, CGd_w (c_one_un h0 ht tp p0 ku ⟨ho.1, h8'⟩ cg2) (by omega) (Int.le_refl _), r_un tp ll ⟨ho.1, h8'⟩ ku rg⟩
              · exact Or.inr ⟨kind, pl, hkd, CBd_w (c_one_unB ht tp ku ⟨ho.1, h8'⟩ cb) (by omega), r_unB tp ll ⟨ho.1, h8'⟩ ku rb⟩
      · exact Or.inr ⟨1, plT T n p, pb tp (by omega) (by omega), CBd_w (c_one_none ht tp hd hn hop) (by omega), r_bad1 tp ll ho (Or.inr (Or.inr (Or.inl ⟨rfl, hd, hn, hop⟩)))⟩
theorem m_all (h0 : ob (GG t) t 8) (ht : 293 ≤ t) (tp : TP T n) (ll : l = 0 ∨ l = 1) : ∀ (k : Nat) (p : Int), 0 ≤ p → p ≤ n → n - p < k → ∀ o, 0 ≤ o → o ≤ 8 → M1 T n t b l o p ∧ M2 T n t b l o p ∧ M3 T n t b l o p ∧ M4 T n t b l o p ∧ M5 T n t b l o p ∧ M6 T n t b l o p
  | 0, p, _, _, h => absurd h (by omega)
  | k + 1, p, p0, p1, h => fun o o0 o1 => by
    have ih := m_all h0 ht tp ll k
    have a1 : M1 T n t b l o p := m1_of h0 ht tp ll ⟨o0, o1⟩ ⟨p0, p1⟩ (fun z p' x y u => (ih p' y u (by omega) (o + 1) (by omega) (by omega)).1) (fun z p' x y u => (ih p' y u (by omega) (o + 1) (by omega) (by omega)).2.2.1) (fun z p' x y u => (ih p' y u (by omega) (o + 1) (by omega) (by omega)).2.2.2.2.2)
    have a2 : M2 T n t b l o p := m2_of h0 ht tp ⟨o0, o1⟩ ⟨p0, p1⟩ (fun p' x y u => (ih p' y u (by omega) o o0 o1).1) a1
    have a3 : M3 T n t b l o p := m3_of h0 ht tp ⟨o0, o1⟩ ⟨p0, p1⟩ (fun p' x y u => (ih p' y u (by omega) o o0 o1).2.1) a2
    have a4 : M4 T n t b l o p := m4_of h0 ht tp ll ⟨o0, o1⟩ ⟨p0, p1⟩ (fun p' x y u => (ih p' y u (by omega) o o0 o1).2.2.1) (fun z p' x y u => (ih p' y u (by omega) (o + 1) (by omega) (by omega)).2.2.2.1) a3
    have a5 : M5 T n t b l o p := m5_of h0 ht tp ⟨o0, o1⟩ ⟨p0, p1⟩ (fun p' x y u => (ih p' y u (by omega) o o0 o1).2.2.2.1) a4
    have a6 : M6 T n t b l o p := m6_of h0 ht tp ⟨o0, o1⟩ ⟨p0, p1⟩ (fun p' x y u => (ih p' y u (by omega) o o0 o1).2.2.2.2.1) a5
    exact ⟨a1, a2, a3, a4, a5, a6⟩
/-- a law's sum from p on: both sides alike -/
theorem sum_all {p : Int} (h0 : ob (GG t) t 8) (ht : 293 ≤ t) (tp : TP T n) (ll : l = 0 ∨ l = 1) (p0 : 0 ≤ p ∧ p ≤ n) : M3 T n t b l 0 p := (m_all h0 ht tp ll (n - p + 1).toNat p p0.1 p0.2 (by omega) 0 (by omega) (by omega)).2.2.1
end AL
