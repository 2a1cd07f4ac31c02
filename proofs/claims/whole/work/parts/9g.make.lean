/-! ===== making cells: more rules ===== -/
theorem arrV_congr {cA : ClassId} {N : Nat} {f f' : Nat → Value} (h : ∀ j, j < N → f j = f' j) : arrV cA N f = arrV cA N f' := by
  unfold arrV
  congr 1
  congr 1
  funext j
  exact h j.1 j.2
theorem jfs_congr {E : jE} {G G' σ σ' : jM} {a : Int} {ci : Nat} (h : ∀ j : Nat, j < (jft ci).length → (G' a j = G a j ∧ σ' a j = σ a j)) : jfs E G' σ' a ci = jfs E G σ a ci := by
  apply List.ext_getElem?
  intro j
  cases hj : (jft ci)[j]? with
  | none =>
    have hz : (jft ci).length ≤ j := List.getElem?_eq_none_iff.mp hj
    rw [List.getElem?_eq_none (by rw [jfs_len]; exact hz), List.getElem?_eq_none (by rw [jfs_len]; exact hz)]
  | some t2 =>
    have hlt : j < (jft ci).length := (List.getElem?_eq_some_iff.mp hj).1
    rw [jfs_at hj, jfs_at hj, (h j hlt).1, (h j hlt).2]
/-- two memories that agree on what cells there are -/
def agC (n : Nat) (G G' σ σ' : jM) : Prop := ∀ c : Int, 1 ≤ c → c ≤ (n : Int) → ∀ j : Nat, j < jsz (kd c) → (G' c j = G c j ∧ σ' c j = σ c j)
theorem HW_cong {E : jE} {n : Nat} {G G' σ σ' : jM} {H : Heap} (e : agC n G G' σ σ') (h : HW E n G σ H) : HW E n G' σ' H := by
  intro k q hq
  have hk : k < n := by have := (List.getElem?_eq_some_iff.mp hq).1; rwa [jP_len] at this
  have e1 := jP_at (E := E) (n := n) (G := G') (σ := σ') (c := (k : Int) + 1) (by omega) (by omega)
  have e2 := jP_at (E := E) (n := n) (G := G) (σ := σ) (c := (k : Int) + 1) (by omega) (by omega)
  rw [show ((k : Int) + 1).toNat - 1 = k by omega] at e1 e2
  rw [e1] at hq
  cases hq
  have h1 := h k _ e2
  have ec := e ((k : Int) + 1) (by omega) (by omega)
  unfold jsz at ec
  by_cases h0 : (kd ((k : Int) + 1)).1 = 0
  · rw [if_pos h0] at ec
    have hkd : kd ((k : Int) + 1) = (0, (kd ((k : Int) + 1)).2) := Prod.ext h0 rfl
    rw [enc_ob hkd, jfs_congr ec, ← enc_ob hkd]
    exact h1
  · rw [if_neg h0] at ec
    unfold enc at h1 ⊢
    rw [if_neg h0] at h1 ⊢
    by_cases k1 : (kd ((k : Int) + 1)).1 = 1
    · rw [if_pos k1] at h1 ⊢
      refine Eq.trans h1 ?_
      rw [vp_cell_i, vp_cell_i]
      exact congrArg some (arrV_congr (fun j hj => by rw [(ec j hj).2]))
    · rw [if_neg k1] at h1 ⊢
      by_cases k2 : (kd ((k : Int) + 1)).1 = 2
      · rw [if_pos k2] at h1 ⊢
        refine Eq.trans h1 ?_
        rw [vp_cell_l, vp_cell_l]
        exact congrArg some (arrV_congr (fun j hj => by rw [(ec j hj).2]))
      · rw [if_neg k2] at h1 ⊢
        by_cases k3 : (kd ((k : Int) + 1)).1 = 3
        · rw [if_pos k3] at h1 ⊢
          refine Eq.trans h1 ?_
          rw [vp_cell_i, vp_cell_i]
          exact congrArg some (arrV_congr (fun j hj => by rw [(ec j hj).2]))
        · rw [if_neg k3] at h1 ⊢
          refine Eq.trans h1 ?_
          rw [vp_cell_q, vp_cell_q]
          exact congrArg some (arrV_congr (fun j hj => by rw [(ec j hj).1]))
section JN
variable {m : jT} {d n0 hi : Nat} {Post : jV → jG → jM → Prop} {pc : Nat} {L S : List jV} {G : jG} {σ : jM}
theorem J_cong {G' σ' : jM} (e : agC G.2 G.1 G' σ σ') (k : J m d n0 hi Post pc L S (G', G.2) σ') : J m d n0 hi Post pc L S G σ := by
  intro E p l e0 R s mi args below meth c Q hC hR ls H locs hl hH hS h1 h2
  exact k E p l e0 R s mi args below meth c Q hC hR ls H locs hl (HW_cong e hH) hS h1 h2
theorem j_newr {t N idx : Nat} {C : String} {x : Int} (hpair : (t = 4 ∧ C = RX1) ∨ (t = 5 ∧ C = RX8)) (hx : x = (N : Int)) (hN : N ≤ 100) (hcl : Cond.classLink m.1.cls idx C ∈ TT) (hkd : kd ((G.2 : Int) + 1) = (t, N)) (hhi : G.2 + 1 ≤ hi) (hd : decode m.2.1 pc = .ok (.anewarray idx, 3))
    (k : J m d n0 hi Post (pc + 3) L (rv ((G.2 : Int) + 1) :: S) (zr G.1 ((G.2 : Int) + 1), G.2 + 1) (zr σ ((G.2 : Int) + 1))) : J m d n0 hi Post pc L (iv x :: S) G σ := by
  intro E p l e R s mi args below meth c Q hC hR ls H locs hl hH hS h1 h2
  obtain ⟨r1, r2, r3, r4⟩ := hC.2.2.2.2.2.2.2.1
  have hs0 := hC.2.2.2.2.2.2.2.2.1
  have hts := hC.2.2.2.2.1
  have hK := hC.2.2.2.2.2.1.1
  refine w_size hs0 h1 hH hS (fun hsz => ?_)
  have q0 : sl (G.2 + 1) = sl G.2 + N := by
    show sl G.2 + jsz (kd ((G.2 : Int) + 1)) = _
    rw [hkd]
    unfold jsz
    rw [if_neg (by rcases hpair with h | h <;> omega)]
  have q1 := sl_le h1
  have q3 := sl_le hhi
  obtain ⟨u1, v1⟩ := clamp32 (i := x) (by omega) (by omega)
  have hN' : (Int32.ofInt x).toNatClampNeg = N := by rw [v1]; omega
  have hao : va_AO C s := by
    rcases hpair with ⟨-, h⟩ | ⟨-, h⟩ <;> subst h
    · exact hC.2.2.2.2.2.1.2.2.1
    · exact hC.2.2.2.2.2.1.2.2.2
  refine W.anew hC.1 hC.2.1 hC.2.2.2.1 (hts _ hcl) (va_AO.use hao) rfl hd rfl u1 (by rw [hN']; omega) (by omega) (by rw [hN']; omega) fun cA kA comp f1 f2 f3 f4 => ?_
  rw [hN']
  have ecA : cA = E.2.2.2.2 t := by
    rcases hpair with ⟨ht, h⟩ | ⟨ht, h⟩ <;> subst ht <;> subst h
    · obtain ⟨kA', comp', g1, g2, g3, g4⟩ := (hK.2 3 _ rfl).2
      exact Option.some.inj (f1.symm.trans g4)
    · obtain ⟨kA', comp', g1, g2, g3, g4⟩ := (hK.2 4 _ rfl).2
      exact Option.some.inj (f1.symm.trans g4)
  generalize hH1 : H.push ({ cls := cA, slots := Array.replicate N .null, vm := .none } : Cell) = H1
  have z1 : H1.size = H.size + 1 := by rw [← hH1, Array.size_push]
  have e1 : H1[H.size]? = some (arrV cA N (fun _ => .null)) := by rw [← hH1, Array.getElem?_push_size, ← arrV_new]
  have o1 : ∀ q : Nat, q < H.size → H1[q]? = H[q]? := fun q hq => by rw [← hH1, Array.getElem?_push, if_neg (Nat.ne_of_lt hq)]
  rw [hsz] at z1 e1 o1
  have hnew : va_at E.2.2.2.1 jcl (E.1 + (G.2 + 1), enc E (zr G.1 ((G.2 : Int) + 1)) (zr σ ((G.2 : Int) + 1)) ((G.2 : Int) + 1)) H1 := by
    have hz : (fun j : Nat => va_rf (jrf E (zr G.1 ((G.2 : Int) + 1) ((G.2 : Int) + 1) j))) = (fun _ : Nat => Value.null) := by
      funext j
      rw [zr_at]
      rfl
    rcases hpair with ⟨ht, h⟩ | ⟨ht, h⟩ <;> subst ht <;> subst h
    · rw [enc_4 hkd]
      show H1[E.1 + (G.2 + 1)]? = some (vp_cell _ _)
      rw [vp_cell_q, hz, ← ecA]
      exact e1
    · rw [enc_5 hkd]
      show H1[E.1 + (G.2 + 1)]? = some (vp_cell _ _)
      rw [vp_cell_q, hz, ← ecA]
      exact e1
  have key := k E p l e R s mi args below meth c Q hC hR ls H1 locs hl (HW_grow hsz hH o1 hnew) (S_grow hS hsz z1 o1) (by show n0 ≤ G.2 + 1; omega) hhi
  have ec : conc E (rv ((G.2 : Int) + 1)) = .ref H.size := by
    rw [conc_r E (by omega), hsz]
    congr 1
  rw [List.map_cons, ec] at key
  have n1 : (zr G.1 ((G.2 : Int) + 1), G.2 + 1).2 = G.2 + 1 := rfl
  rw [n1, show G.2 + 1 - n0 = G.2 - n0 + 1 by omega, show sl (G.2 + 1) - sl n0 = sl G.2 - sl n0 + N by omega] at key
  exact key
end JN
