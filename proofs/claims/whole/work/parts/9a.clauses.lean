/-! ===== both sides read a clause alike ===== -/
def okCl (s x y : Int) : Prop := (0 ≤ s ∧ s ≤ 6) ∧ (2 ≤ s → (0 ≤ x ∧ x ≤ (if s = 5 then 60 else if s = 6 then 120 else 7) ∧ (5 ≤ s → 1 ≤ x))) ∧ (s = 2 → (0 ≤ y ∧ y ≤ 7))
def PO (m : Int) (S F G : Int → Int) (D : LD) : Prop := (0 ≤ m ∧ m ≤ 24) ∧ (∀ j, 0 ≤ j → j < m → okCl (S j) (F j) (G j)) ∧ (∀ i f, (i = 0 ∨ i = 1) → D i = some f → AG f)
theorem PO_add {m s x y : Int} {S F G : Int → Int} {D D' : LD} (h : PO m S F G D) (hm : m < 24) (ok : okCl s x y) (hD : ∀ i f, (i = 0 ∨ i = 1) → D' i = some f → AG f) : PO (m + 1) (wr S m s) (wr F m x) (wr G m y) D' := by
  refine ⟨by have := h.1; omega, fun j j0 j1 => ?_, hD⟩
  by_cases e : j = m
  · rw [e, wr_at, wr_at, wr_at]; exact ok
  · rw [wr_ne e, wr_ne e, wr_ne e]; exact h.2.1 j j0 (by omega)
theorem ord_sr {k s lo hi : Int} (h : ordC k s lo hi) : srK k = s ∧ (3 ≤ s ∧ s ≤ 6) ∧ (102 < k ∧ k ≤ 106) := by
  unfold ordC at h
  unfold srK
  rcases h with ⟨e, es, _⟩ | ⟨e, es, _⟩ | ⟨e, es, _⟩ | ⟨e, es, _⟩
  · rw [if_neg (by omega), if_neg (by omega), if_pos (by omega)]; omega
  · rw [if_neg (by omega), if_neg (by omega), if_pos (by omega)]; omega
  · rw [if_neg (by omega), if_pos e]; omega
  · rw [if_pos e]; omega
theorem ord_ex {k : Int} (h : 103 ≤ k ∧ k ≤ 106) : ∃ s lo hi, ordC k s lo hi ∧ (0 ≤ lo ∧ lo < 10000) ∧ (0 ≤ hi ∧ hi < 10000) ∧ ∀ x y, lo ≤ x → x ≤ hi → okCl s x y := by
  rcases (show k = 103 ∨ k = 104 ∨ k = 105 ∨ k = 106 by omega) with e | e | e | e
  · exact ⟨3, 0, 7, Or.inl ⟨e, rfl, rfl, rfl⟩, by omega, by omega, fun x y h1 h2 => ⟨by omega, fun _ => ⟨by omega, by rw [if_neg (by omega), if_neg (by omega)]; omega, fun z => absurd z (by omega)⟩, fun z => absurd z (by omega)⟩⟩
  · exact ⟨4, 0, 7, Or.inr (Or.inl ⟨e, rfl, rfl, rfl⟩), by omega, by omega, fun x y h1 h2 => ⟨by omega, fun _ => ⟨by omega, by rw [if_neg (by omega), if_neg (by omega)]; omega, fun z => absurd z (by omega)⟩, fun z => absurd z (by omega)⟩⟩
  · exact ⟨6, 1, 120, Or.inr (Or.inr (Or.inl ⟨e, rfl, rfl, rfl⟩)), by omega, by omega, fun x y h1 h2 => ⟨by omega, fun _ => ⟨by omega, by rw [if_neg (by omega), if_pos rfl]; omega, fun _ => by omega⟩, fun z => absurd z (by omega)⟩⟩
  · exact ⟨5, 1, 60, Or.inr (Or.inr (Or.inr ⟨e, rfl, rfl, rfl⟩)), by omega, by omega, fun x y h1 h2 => ⟨by omega, fun _ => ⟨by omega, by rw [if_pos rfl]; omega, fun _ => by omega⟩, fun z => absurd z (by omega)⟩⟩
section AM
variable {T : Int → Int} {n t b p m : Int} {S F G : Int → Int} {D : LD}
theorem bd_l {Q : Int → jM → Prop} {σ σ3 : jM} {kind pl : Int} (h : bdC t Q σ kind pl) (f : FrC t σ σ3) : bdC t (fun r σ' => (r = 0 ∨ r = 1) ∧ Q r σ') σ3 kind pl := fun σ' f' a c => ⟨Or.inl rfl, h σ' (FrC_tr f f') a c⟩
theorem bd_r {Q : Int → jM → Prop} {σ σ3 : jM} {kind pl : Int} (h : bdC t Q σ kind pl) (f : FrC t σ σ3) : bdC t Q σ3 kind pl := fun σ' f' a c => h σ' (FrC_tr f f') a c

theorem cc_join {Q : Int → jM → Prop} {σ : jM} {d : Nat} (hd : 7 ≤ d) (h0 : ob (GG t) t 8) (ht : 293 ≤ t) (tp : TP T n) (ci : CI T n t σ p m S F G D) (m0 : 0 ≤ m ∧ m < 24) (hk : kT T n p = 102)
    (good : kT T n (nxT T n p) = 1 → nmT T n (nxT T n p) ≤ 7 → kT T n (nxT T n (nxT T n p)) = 119 → kT T n (nxT T n (nxT T n (nxT T n p))) = 1 → nmT T n (nxT T n (nxT T n (nxT T n p))) ≤ 7 → kT T n (nxT T n (nxT T n (nxT T n (nxT T n p)))) = 59 → ∀ σ', CI T n t σ' (nxT T n (nxT T n (nxT T n (nxT T n (nxT T n p))))) (m + 1) (wr S m 2) (wr F m (nmT T n (nxT T n p))) (wr G m (nmT T n (nxT T n (nxT T n (nxT T n p))))) D → FrC t σ σ' → kpC σ σ' → Q 1 σ')
    (bad1 : kT T n (nxT T n p) ≠ 1 → bdC t Q σ 1 (plT T n (nxT T n p))) (bad2 : kT T n (nxT T n p) = 1 → 7 < nmT T n (nxT T n p) → bdC t Q σ 2 (plT T n (nxT T n p))) (bad3 : kT T n (nxT T n p) = 1 → nmT T n (nxT T n p) ≤ 7 → kT T n (nxT T n (nxT T n p)) ≠ 119 → bdC t Q σ 1 (plT T n (nxT T n (nxT T n p)))) (bad4 : kT T n (nxT T n p) = 1 → nmT T n (nxT T n p) ≤ 7 → kT T n (nxT T n (nxT T n p)) = 119 → kT T n (nxT T n (nxT T n (nxT T n p))) ≠ 1 → bdC t Q σ 1 (plT T n (nxT T n (nxT T n (nxT T n p))))) (bad5 : kT T n (nxT T n p) = 1 → nmT T n (nxT T n p) ≤ 7 → kT T n (nxT T n (nxT T n p)) = 119 → kT T n (nxT T n (nxT T n (nxT T n p))) = 1 → 7 < nmT T n (nxT T n (nxT T n (nxT T n p))) → bdC t Q σ 2 (plT T n (nxT T n (nxT T n (nxT T n p))))) (bad6 : kT T n (nxT T n p) = 1 → nmT T n (nxT T n p) ≤ 7 → kT T n (nxT T n (nxT T n p)) = 119 → kT T n (nxT T n (nxT T n (nxT T n p))) = 1 → nmT T n (nxT T n (nxT T n (nxT T n p))) ≤ 7 → kT T n (nxT T n (nxT T n (nxT T n (nxT T n p)))) ≠ 59 → bdC t Q σ 1 (plT T n (nxT T n (nxT T n (nxT T n (nxT T n p)))))) : Ct mX3_readClause (d + 1) 0 t [rv 271] σ Q := by
  obtain ⟨e, rfl⟩ : ∃ e, d = e + 1 := ⟨d - 1, by omega⟩
  refine cc_main (by omega) h0 ht tp ci (by omega) (fun z => absurd z (by omega)) (fun z => absurd z (by omega)) (fun _ _ z => absurd z (by omega)) (fun l hl z => absurd z (by omega)) (fun _ _ σ3 c3 f3 k3 => ?_) (fun s lo hi oc => absurd (ord_sr oc).2.2 (by omega))
  refine c_join (by omega) h0 ht tp c3 m0 (fun z1 z2 z3 z4 z5 z6 σ' c' f' k' => ⟨Or.inr rfl, good z1 z2 z3 z4 z5 z6 σ' c' (FrC_tr f3 f') (kpC_tr k3 k')⟩) (fun z1 => bd_l (bad1 z1) f3) (fun z1 z2 => bd_l (bad2 z1 z2) f3) (fun z1 z2 z3 => bd_l (bad3 z1 z2 z3) f3) (fun z1 z2 z3 z4 => bd_l (bad4 z1 z2 z3 z4) f3) (fun z1 z2 z3 z4 z5 => bd_l (bad5 z1 z2 z3 z4 z5) f3) (fun z1 z2 z3 z4 z5 z6 => bd_l (bad6 z1 z2 z3 z4 z5 z6) f3)

theorem cc_ord {Q : Int → jM → Prop} {σ : jM} {d : Nat} {s lo hi : Int} (hd : 7 ≤ d) (h0 : ob (GG t) t 8) (ht : 293 ≤ t) (tp : TP T n) (ci : CI T n t σ p m S F G D) (m0 : 0 ≤ m ∧ m < 24) (oc : ordC (kT T n p) s lo hi) (hlo : 0 ≤ lo ∧ lo < 10000) (hhi : 0 ≤ hi ∧ hi < 10000)
    (good : kT T n (nxT T n p) = 1 → lo ≤ nmT T n (nxT T n p) → nmT T n (nxT T n p) ≤ hi → kT T n (nxT T n (nxT T n p)) = 59 → ∀ σ', CI T n t σ' (nxT T n (nxT T n (nxT T n p))) (m + 1) (wr S m s) (wr F m (nmT T n (nxT T n p))) (wr G m 0) D → FrC t σ σ' → kpC σ σ' → Q 1 σ')
    (bad1 : kT T n (nxT T n p) ≠ 1 → bdC t Q σ 1 (plT T n (nxT T n p))) (bad2 : kT T n (nxT T n p) = 1 → (nmT T n (nxT T n p) < lo ∨ hi < nmT T n (nxT T n p)) → bdC t Q σ 2 (plT T n (nxT T n p))) (bad3 : kT T n (nxT T n p) = 1 → lo ≤ nmT T n (nxT T n p) → nmT T n (nxT T n p) ≤ hi → kT T n (nxT T n (nxT T n p)) ≠ 59 → bdC t Q σ 1 (plT T n (nxT T n (nxT T n p)))) : Ct mX3_readClause (d + 1) 0 t [rv 271] σ Q := by
  obtain ⟨e, rfl⟩ : ∃ e, d = e + 1 := ⟨d - 1, by omega⟩
  have ok := ord_sr oc
  refine cc_main (by omega) h0 ht tp ci (by omega) (fun z => absurd z (by omega)) (fun z => absurd z (by omega)) (fun _ _ z => absurd z (by omega)) (fun l hl z => absurd z (by omega)) (fun z => absurd z (by omega)) (fun s' lo' hi' oc' _ σ3 c3 f3 k3 => ?_)
  have e3 : s' = s ∧ lo' = lo ∧ hi' = hi := by unfold ordC at oc oc'; omega
  rw [e3.1, e3.2.1, e3.2.2]
  exact c_order (by omega) h0 ht tp hlo hhi c3 m0 (fun z1 z2 z3 z4 σ' c' f' k' => ⟨Or.inr rfl, good z1 z2 z3 z4 σ' c' (FrC_tr f3 f') (kpC_tr k3 k')⟩) (fun z1 => bd_l (bad1 z1) f3) (fun z1 z2 => bd_l (bad2 z1 z2) f3) (fun z1 z2 z3 z4 => bd_l (bad3 z1 z2 z3 z4) f3)
theorem cc_law {Q : Int → jM → Prop} {σ : jM} {d : Nat} {l : Int} (hd : 7 ≤ d) (h0 : ob (GG t) t 8) (ht : 293 ≤ t) (tp : TP T n) (ci : CI T n t σ p m S F G D) (m0 : 0 ≤ m ∧ m < 24) (hl : l = 0 ∨ l = 1) (hk : kT T n p = 100 + l) (hD : D l = none) (k : ∀ σ3, CI T n t σ3 (nxT T n p) m S F G D → FrC t σ σ3 → kpC σ σ3 → lawF d t Q (100 + l) σ3) : Ct mX3_readClause (d + 1) 0 t [rv 271] σ Q := by
  have ek : kT T n p - 100 = l := by omega
  refine cc_main (by omega) h0 ht tp ci (by omega) (fun z => absurd z (by omega)) (fun z y => absurd (by rw [ek]; exact hD) y) (fun _ _ z => absurd z (by omega)) (fun l' hl' z y _ σ3 c3 f3 k3 => ?_) (fun z => absurd z (by omega)) (fun s lo hi oc => absurd (ord_sr oc).2.2 (by omega))
  have e : l' = l := by omega
  rw [e]
  exact k σ3 c3 f3 k3

/-- a clause from p on: both sides end well at p', with one clause more, or find the same fault -/
def JC (T : Int → Int) (n t b p m : Int) (S F G : Int → Int) (D : LD) : Prop := (∃ (p' s x y : Int) (D' : LD), (p < p' ∧ p' ≤ n) ∧ PO (m + 1) (wr S m s) (wr F m x) (wr G m y) D' ∧ (∀ (d : Nat) (Q : Int → jM → Prop) (σ : jM), 371 ≤ d → CI T n t σ p m S F G D → (∀ σ', CI T n t σ' p' (m + 1) (wr S m s) (wr F m x) (wr G m y) D' → FrC t σ σ' → kpC σ σ' → Q 1 σ') → Ct mX3_readClause (d + 1) 0 t [rv 271] σ Q) ∧ (∀ (d : Nat) (Q : Int → jM → Prop) (σ : jM), RI T n b σ p m S F G D → (∀ σ', RI T n b σ' p' (m + 1) (wr S m s) (wr F m x) (wr G m y) D' → FrR b σ σ' → Q 0 σ') → Ct mX12_clause (d + 11) 0 t [rv 321] σ Q)) ∨ (∃ kind pl : Int, ((1 ≤ kind ∧ kind ≤ 6) ∧ 0 ≤ pl ∧ pl ≤ n) ∧ (∀ (d : Nat) (Q : Int → jM → Prop) (σ : jM), 371 ≤ d → CI T n t σ p m S F G D → bdC t Q σ kind pl → Ct mX3_readClause (d + 1) 0 t [rv 271] σ Q) ∧ (∀ (d : Nat) (Q : Int → jM → Prop) (σ : jM), RI T n b σ p m S F G D → bdM b Q σ kind pl → Ct mX12_clause (d + 11) 0 t [rv 321] σ Q))

theorem mm_join {Q : Int → jM → Prop} {σ : jM} {d : Nat} (tp : TP T n) (ri : RI T n b σ p m S F G D) (m0 : 0 ≤ m ∧ m < 24) (hk : kT T n p = 102)
    (good : kT T n (nxT T n p) = 1 → nmT T n (nxT T n p) ≤ 7 → kT T n (nxT T n (nxT T n p)) = 119 → kT T n (nxT T n (nxT T n (nxT T n p))) = 1 → nmT T n (nxT T n (nxT T n (nxT T n p))) ≤ 7 → kT T n (nxT T n (nxT T n (nxT T n (nxT T n p)))) = 59 → ∀ σ', RI T n b σ' (nxT T n (nxT T n (nxT T n (nxT T n (nxT T n p))))) (m + 1) (wr S m 2) (wr F m (nmT T n (nxT T n p))) (wr G m (nmT T n (nxT T n (nxT T n (nxT T n p))))) D → FrR b σ σ' → Q 0 σ')
    (bad1 : kT T n (nxT T n p) ≠ 1 → bdM b Q σ 1 (plT T n (nxT T n p))) (bad2 : kT T n (nxT T n p) = 1 → 7 < nmT T n (nxT T n p) → bdM b Q σ 2 (plT T n (nxT T n p))) (bad3 : kT T n (nxT T n p) = 1 → nmT T n (nxT T n p) ≤ 7 → kT T n (nxT T n (nxT T n p)) ≠ 119 → bdM b Q σ 1 (plT T n (nxT T n (nxT T n p)))) (bad4 : kT T n (nxT T n p) = 1 → nmT T n (nxT T n p) ≤ 7 → kT T n (nxT T n (nxT T n p)) = 119 → kT T n (nxT T n (nxT T n (nxT T n p))) ≠ 1 → bdM b Q σ 1 (plT T n (nxT T n (nxT T n (nxT T n p))))) (bad5 : kT T n (nxT T n p) = 1 → nmT T n (nxT T n p) ≤ 7 → kT T n (nxT T n (nxT T n p)) = 119 → kT T n (nxT T n (nxT T n (nxT T n p))) = 1 → 7 < nmT T n (nxT T n (nxT T n (nxT T n p))) → bdM b Q σ 2 (plT T n (nxT T n (nxT T n (nxT T n p))))) (bad6 : kT T n (nxT T n p) = 1 → nmT T n (nxT T n p) ≤ 7 → kT T n (nxT T n (nxT T n p)) = 119 → kT T n (nxT T n (nxT T n (nxT T n p))) = 1 → nmT T n (nxT T n (nxT T n (nxT T n p))) ≤ 7 → kT T n (nxT T n (nxT T n (nxT T n (nxT T n p)))) ≠ 59 → bdM b Q σ 1 (plT T n (nxT T n (nxT T n (nxT T n (nxT T n p)))))) : Ct mX12_clause (d + 11) 0 t [rv 321] σ Q := by
  refine mm_main tp ri (by omega) (fun z => absurd z (by omega)) (fun z => absurd z (by omega)) (fun _ _ z => absurd z (by omega)) (fun l hl z => absurd z (by omega)) (fun _ _ => ?_)
  have e : srK (kT T n p) = 2 := by rw [hk]; rfl
  rw [e]
  exact rc_join tp ri m0 rfl rfl rfl rfl good bad1 bad2 bad3 bad4 bad5 bad6

theorem mm_ord {Q : Int → jM → Prop} {σ : jM} {d : Nat} {s lo hi : Int} (tp : TP T n) (ri : RI T n b σ p m S F G D) (m0 : 0 ≤ m ∧ m < 24) (oc : ordC (kT T n p) s lo hi)
    (good : kT T n (nxT T n p) = 1 → lo ≤ nmT T n (nxT T n p) → nmT T n (nxT T n p) ≤ hi → kT T n (nxT T n (nxT T n p)) = 59 → ∀ σ', RI T n b σ' (nxT T n (nxT T n (nxT T n p))) (m + 1) (wr S m s) (wr F m (nmT T n (nxT T n p))) (wr G m 0) D → FrR b σ σ' → Q 0 σ')
    (bad1 : kT T n (nxT T n p) ≠ 1 → bdM b Q σ 1 (plT T n (nxT T n p))) (bad2 : kT T n (nxT T n p) = 1 → (nmT T n (nxT T n p) < lo ∨ hi < nmT T n (nxT T n p)) → bdM b Q σ 2 (plT T n (nxT T n p))) (bad3 : kT T n (nxT T n p) = 1 → lo ≤ nmT T n (nxT T n p) → nmT T n (nxT T n p) ≤ hi → kT T n (nxT T n (nxT T n p)) ≠ 59 → bdM b Q σ 1 (plT T n (nxT T n (nxT T n p)))) : Ct mX12_clause (d + 11) 0 t [rv 321] σ Q := by
  have ok := ord_sr oc
  refine mm_main tp ri (by omega) (fun z => absurd z (by omega)) (fun z => absurd z (by omega)) (fun _ _ z => absurd z (by omega)) (fun l hl z => absurd z (by omega)) (fun _ _ => ?_)
  rw [ok.1]
  exact rc_ord tp ri m0 oc good bad1 bad2 bad3
theorem mm_law {Q : Int → jM → Prop} {σ : jM} {d : Nat} {l : Int} (tp : TP T n) (ri : RI T n b σ p m S F G D) (m0 : 0 ≤ m ∧ m < 24) (hl : l = 0 ∨ l = 1) (hk : kT T n p = 100 + l) (hD : D l = none) (k : Jt mX12_clause (d + 11) 0 t Q 65 [rv 321, iv l, iv m, uv, uv] [] (up σ 321 19 (i_or (oncV D) (i_shl 1 l)))) : Ct mX12_clause (d + 11) 0 t [rv 321] σ Q := by
  have ek : kT T n p - 100 = l := by omega
  refine mm_main tp ri (by omega) (fun z => absurd z (by omega)) (fun z y => absurd (by rw [ek]; exact hD) y) (fun _ _ z => absurd z (by omega)) (fun l' hl' z y _ => ?_) (fun z => absurd z (by omega))
  have e : l' = l := by omega
  rw [e]
  exact k
end AM
