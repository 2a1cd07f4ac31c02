/-! ===== the constructors (printed by wip/whole/gen_init.py) ===== -/
def mix (a : Int) (g h : jM) : jM := fun c j => if c < a then g c j else h c j
theorem mix_lo {a c : Int} {g h : jM} (e : c < a) : mix a g h c = g c := by
  funext j
  unfold mix
  rw [if_pos e]
theorem mix_hi {a c : Int} {g h : jM} (e : a ≤ c) : mix a g h c = h c := by
  funext j
  unfold mix
  rw [if_neg (by omega)]
/-- what cells hold when they are made -/
def ti : jM := fun c j => if kd c = (0, 1) ∧ j = 7 then 433 else if kd c = (0, 9) ∧ j = 1 then 1 else if kd c = (0, 10) ∧ j = 7 then -1 else if c = 271 ∧ (j = 2 ∨ j = 3) then -1 else if (c = 130 ∨ c = 262) ∧ j = 0 then 1 else if kd c = (1, 2) then -1 else if c = 288 then -2 else 0
theorem zr_ag {n : Nat} {g σ : jM} {a : Int} (zg : ∀ j, g a j = 0) (zs : ∀ j, σ a j = 0) : agC n g (zr g a) σ (zr σ a) := by
  intro c _ _ j _
  by_cases e : c = a
  · rw [e, zr_at, zr_at, zg, zs]; exact ⟨rfl, rfl⟩
  · rw [zr_row e, zr_row e]; exact ⟨rfl, rfl⟩
theorem okb {g : jM} {n : Nat} {a : Int} {ci : Nat} (h : kd a = (0, ci)) (h1 : 1 ≤ a) (h2 : a ≤ (n : Int)) : ob (g, n) a ci := ⟨h, h1, h2⟩
theorem okr {g : jM} {n : Nat} {a : Int} {t N : Nat} (h : kd a = (t, N)) (h1 : 1 ≤ a) (h2 : a ≤ (n : Int)) : ar (g, n) a t N := ⟨h, h1, h2⟩
theorem jp9 {r : jV} {S : List jV} (h : r.1 = 9) : jpush r S = S := by
  unfold jpush
  rw [if_pos h]
section JO
variable {m : jT} {d n0 hi : Nat} {Post : jV → jG → jM → Prop} {pc : Nat} {L S : List jV} {g : jM} {n : Nat} {σ : jM}
theorem s_newa {t N n' : Nat} {x c : Int} {aty : ArrayType} (hpair : ((t = 1 ∧ aty = .int) ∨ (t = 2 ∧ aty = .long) ∨ (t = 3 ∧ aty = .boolean))) (hx : x = (N : Int)) (hN : N ≤ 100000) (hc : (n : Int) + 1 = c) (hn : n + 1 = n') (hkd : kd c = (t, N)) (hhi : n' ≤ hi) (hd : decode m.2.1 pc = .ok (.newarray aty, 2)) (k : J m d n0 hi Post (pc + 2) L (rv c :: S) (zr g c, n') (zr σ c)) : J m d n0 hi Post pc L (iv x :: S) (g, n) σ := by
  subst hc
  subst hn
  exact j_newa (G := (g, n)) (idx := 0) (a0 := (0, .inl fun _ => 0)) hpair hx hN hkd hhi hd k
theorem s_newr {t N idx n' : Nat} {C : String} {x c : Int} (hpair : (t = 4 ∧ C = RX1) ∨ (t = 5 ∧ C = RX8)) (hx : x = (N : Int)) (hN : N ≤ 100) (hcl : Cond.classLink m.1.cls idx C ∈ TT) (hc : (n : Int) + 1 = c) (hn : n + 1 = n') (hkd : kd c = (t, N)) (hhi : n' ≤ hi) (hd : decode m.2.1 pc = .ok (.anewarray idx, 3)) (k : J m d n0 hi Post (pc + 3) L (rv c :: S) (zr g c, n') (zr σ c)) : J m d n0 hi Post pc L (iv x :: S) (g, n) σ := by
  subst hc
  subst hn
  exact j_newr (G := (g, n)) hpair hx hN hcl hkd hhi hd k
theorem nw_X10 {idx n' : Nat} {c : Int} (hcl : Cond.classLink m.1.cls idx RX10 ∈ TT) (hc : (n : Int) + 1 = c) (hn : n + 1 = n') (hkd : kd c = (0, 10)) (hhi : n' ≤ hi) (hd : decode m.2.1 pc = .ok (.new idx, 3)) (k : J m d n0 hi Post (pc + 3) L (rv c :: S) (zr g c, n') (zr σ c)) : J m d n0 hi Post pc L S (g, n) σ := by
  subst hc
  subst hn
  exact j_new (G := (g, n)) (C := RX10) (T := TX10) (N := 10) (ci := 10) in_X10 tyX10 tyX10_ok rfl hcl (tt_in 159 (by decide +kernel) rfl) (tt_in 130 (by decide +kernel) rfl) hkd rfl (fun E j hj => by
    rcases (show j = 0 ∨ j = 1 ∨ j = 2 ∨ j = 3 ∨ j = 4 ∨ j = 5 ∨ j = 6 ∨ j = 7 ∨ j = 8 ∨ j = 9 by omega) with rfl | rfl | rfl | rfl | rfl | rfl | rfl | rfl | rfl | rfl <;> rfl) hhi hd k
theorem nw_X1 {idx n' : Nat} {c : Int} (hcl : Cond.classLink m.1.cls idx RX1 ∈ TT) (hc : (n : Int) + 1 = c) (hn : n + 1 = n') (hkd : kd c = (0, 1)) (hhi : n' ≤ hi) (hd : decode m.2.1 pc = .ok (.new idx, 3)) (k : J m d n0 hi Post (pc + 3) L (rv c :: S) (zr g c, n') (zr σ c)) : J m d n0 hi Post pc L S (g, n) σ := by
  subst hc
  subst hn
  exact j_new (G := (g, n)) (C := RX1) (T := TX1) (N := 8) (ci := 1) in_X1 tyX1 tyX1_ok rfl hcl (tt_in 165 (by decide +kernel) rfl) (tt_in 131 (by decide +kernel) rfl) hkd rfl (fun E j hj => by
    rcases (show j = 0 ∨ j = 1 ∨ j = 2 ∨ j = 3 ∨ j = 4 ∨ j = 5 ∨ j = 6 ∨ j = 7 by omega) with rfl | rfl | rfl | rfl | rfl | rfl | rfl | rfl <;> rfl) hhi hd k
theorem nw_X7 {idx n' : Nat} {c : Int} (hcl : Cond.classLink m.1.cls idx RX7 ∈ TT) (hc : (n : Int) + 1 = c) (hn : n + 1 = n') (hkd : kd c = (0, 7)) (hhi : n' ≤ hi) (hd : decode m.2.1 pc = .ok (.new idx, 3)) (k : J m d n0 hi Post (pc + 3) L (rv c :: S) (zr g c, n') (zr σ c)) : J m d n0 hi Post pc L S (g, n) σ := by
  subst hc
  subst hn
  exact j_new (G := (g, n)) (C := RX7) (T := TX7) (N := 3) (ci := 7) in_X7 tyX7 tyX7_ok rfl hcl (tt_in 208 (by decide +kernel) rfl) (tt_in 132 (by decide +kernel) rfl) hkd rfl (fun E j hj => by
    rcases (show j = 0 ∨ j = 1 ∨ j = 2 by omega) with rfl | rfl | rfl <;> rfl) hhi hd k
theorem nw_X9 {idx n' : Nat} {c : Int} (hcl : Cond.classLink m.1.cls idx RX9 ∈ TT) (hc : (n : Int) + 1 = c) (hn : n + 1 = n') (hkd : kd c = (0, 9)) (hhi : n' ≤ hi) (hd : decode m.2.1 pc = .ok (.new idx, 3)) (k : J m d n0 hi Post (pc + 3) L (rv c :: S) (zr g c, n') (zr σ c)) : J m d n0 hi Post pc L S (g, n) σ := by
  subst hc
  subst hn
  exact j_new (G := (g, n)) (C := RX9) (T := TX9) (N := 2) (ci := 9) in_X9 tyX9 tyX9_ok rfl hcl (tt_in 228 (by decide +kernel) rfl) (tt_in 133 (by decide +kernel) rfl) hkd rfl (fun E j hj => by
    rcases (show j = 0 ∨ j = 1 by omega) with rfl | rfl <;> rfl) hhi hd k
theorem nw_X3 {idx n' : Nat} {c : Int} (hcl : Cond.classLink m.1.cls idx RX3 ∈ TT) (hc : (n : Int) + 1 = c) (hn : n + 1 = n') (hkd : kd c = (0, 3)) (hhi : n' ≤ hi) (hd : decode m.2.1 pc = .ok (.new idx, 3)) (k : J m d n0 hi Post (pc + 3) L (rv c :: S) (zr g c, n') (zr σ c)) : J m d n0 hi Post pc L S (g, n) σ := by
  subst hc
  subst hn
  exact j_new (G := (g, n)) (C := RX3) (T := TX3) (N := 10) (ci := 3) in_X3 tyX3 tyX3_ok rfl hcl (tt_in 288 (by decide +kernel) rfl) (tt_in 134 (by decide +kernel) rfl) hkd rfl (fun E j hj => by
    rcases (show j = 0 ∨ j = 1 ∨ j = 2 ∨ j = 3 ∨ j = 4 ∨ j = 5 ∨ j = 6 ∨ j = 7 ∨ j = 8 ∨ j = 9 by omega) with rfl | rfl | rfl | rfl | rfl | rfl | rfl | rfl | rfl | rfl <;> rfl) hhi hd k
theorem nw_X2 {idx n' : Nat} {c : Int} (hcl : Cond.classLink m.1.cls idx RX2 ∈ TT) (hc : (n : Int) + 1 = c) (hn : n + 1 = n') (hkd : kd c = (0, 2)) (hhi : n' ≤ hi) (hd : decode m.2.1 pc = .ok (.new idx, 3)) (k : J m d n0 hi Post (pc + 3) L (rv c :: S) (zr g c, n') (zr σ c)) : J m d n0 hi Post pc L S (g, n) σ := by
  subst hc
  subst hn
  exact j_new (G := (g, n)) (C := RX2) (T := TX2) (N := 2) (ci := 2) in_X2 tyX2 tyX2_ok rfl hcl (tt_in 328 (by decide +kernel) rfl) (tt_in 135 (by decide +kernel) rfl) hkd rfl (fun E j hj => by
    rcases (show j = 0 ∨ j = 1 by omega) with rfl | rfl <;> rfl) hhi hd k
theorem nw_X0 {idx n' : Nat} {c : Int} (hcl : Cond.classLink m.1.cls idx RX0 ∈ TT) (hc : (n : Int) + 1 = c) (hn : n + 1 = n') (hkd : kd c = (0, 0)) (hhi : n' ≤ hi) (hd : decode m.2.1 pc = .ok (.new idx, 3)) (k : J m d n0 hi Post (pc + 3) L (rv c :: S) (zr g c, n') (zr σ c)) : J m d n0 hi Post pc L S (g, n) σ := by
  subst hc
  subst hn
  exact j_new (G := (g, n)) (C := RX0) (T := TX0) (N := 14) (ci := 0) in_X0 tyX0 tyX0_ok rfl hcl (tt_in 341 (by decide +kernel) rfl) (tt_in 136 (by decide +kernel) rfl) hkd rfl (fun E j hj => by
    rcases (show j = 0 ∨ j = 1 ∨ j = 2 ∨ j = 3 ∨ j = 4 ∨ j = 5 ∨ j = 6 ∨ j = 7 ∨ j = 8 ∨ j = 9 ∨ j = 10 ∨ j = 11 ∨ j = 12 ∨ j = 13 by omega) with rfl | rfl | rfl | rfl | rfl | rfl | rfl | rfl | rfl | rfl | rfl | rfl | rfl | rfl <;> rfl) hhi hd k
theorem nw_X5 {idx n' : Nat} {c : Int} (hcl : Cond.classLink m.1.cls idx RX5 ∈ TT) (hc : (n : Int) + 1 = c) (hn : n + 1 = n') (hkd : kd c = (0, 5)) (hhi : n' ≤ hi) (hd : decode m.2.1 pc = .ok (.new idx, 3)) (k : J m d n0 hi Post (pc + 3) L (rv c :: S) (zr g c, n') (zr σ c)) : J m d n0 hi Post pc L S (g, n) σ := by
  subst hc
  subst hn
  exact j_new (G := (g, n)) (C := RX5) (T := TX5) (N := 4) (ci := 5) in_X5 tyX5 tyX5_ok rfl hcl (tt_in 392 (by decide +kernel) rfl) (tt_in 137 (by decide +kernel) rfl) hkd rfl (fun E j hj => by
    rcases (show j = 0 ∨ j = 1 ∨ j = 2 ∨ j = 3 by omega) with rfl | rfl | rfl | rfl <;> rfl) hhi hd k
theorem nw_X4 {idx n' : Nat} {c : Int} (hcl : Cond.classLink m.1.cls idx RX4 ∈ TT) (hc : (n : Int) + 1 = c) (hn : n + 1 = n') (hkd : kd c = (0, 4)) (hhi : n' ≤ hi) (hd : decode m.2.1 pc = .ok (.new idx, 3)) (k : J m d n0 hi Post (pc + 3) L (rv c :: S) (zr g c, n') (zr σ c)) : J m d n0 hi Post pc L S (g, n) σ := by
  subst hc
  subst hn
  exact j_new (G := (g, n)) (C := RX4) (T := TX4) (N := 4) (ci := 4) in_X4 tyX4 tyX4_ok rfl hcl (tt_in 411 (by decide +kernel) rfl) (tt_in 138 (by decide +kernel) rfl) hkd rfl (fun E j hj => by
    rcases (show j = 0 ∨ j = 1 ∨ j = 2 ∨ j = 3 by omega) with rfl | rfl | rfl | rfl <;> rfl) hhi hd k
theorem nw_X6 {idx n' : Nat} {c : Int} (hcl : Cond.classLink m.1.cls idx RX6 ∈ TT) (hc : (n : Int) + 1 = c) (hn : n + 1 = n') (hkd : kd c = (0, 6)) (hhi : n' ≤ hi) (hd : decode m.2.1 pc = .ok (.new idx, 3)) (k : J m d n0 hi Post (pc + 3) L (rv c :: S) (zr g c, n') (zr σ c)) : J m d n0 hi Post pc L S (g, n) σ := by
  subst hc
  subst hn
  exact j_new (G := (g, n)) (C := RX6) (T := TX6) (N := 3) (ci := 6) in_X6 tyX6 tyX6_ok rfl hcl (tt_in 430 (by decide +kernel) rfl) (tt_in 139 (by decide +kernel) rfl) hkd rfl (fun E j hj => by
    rcases (show j = 0 ∨ j = 1 ∨ j = 2 by omega) with rfl | rfl | rfl <;> rfl) hhi hd k
theorem nw_X8 {idx n' : Nat} {c : Int} (hcl : Cond.classLink m.1.cls idx RX8 ∈ TT) (hc : (n : Int) + 1 = c) (hn : n + 1 = n') (hkd : kd c = (0, 8)) (hhi : n' ≤ hi) (hd : decode m.2.1 pc = .ok (.new idx, 3)) (k : J m d n0 hi Post (pc + 3) L (rv c :: S) (zr g c, n') (zr σ c)) : J m d n0 hi Post pc L S (g, n) σ := by
  subst hc
  subst hn
  exact j_new (G := (g, n)) (C := RX8) (T := TX8) (N := 8) (ci := 8) in_X8 tyX8 tyX8_ok rfl hcl (tt_in 445 (by decide +kernel) rfl) (tt_in 140 (by decide +kernel) rfl) hkd rfl (fun E j hj => by
    rcases (show j = 0 ∨ j = 1 ∨ j = 2 ∨ j = 3 ∨ j = 4 ∨ j = 5 ∨ j = 6 ∨ j = 7 by omega) with rfl | rfl | rfl | rfl | rfl | rfl | rfl | rfl <;> rfl) hhi hd k
theorem nw_X11 {idx n' : Nat} {c : Int} (hcl : Cond.classLink m.1.cls idx RX11 ∈ TT) (hc : (n : Int) + 1 = c) (hn : n + 1 = n') (hkd : kd c = (0, 11)) (hhi : n' ≤ hi) (hd : decode m.2.1 pc = .ok (.new idx, 3)) (k : J m d n0 hi Post (pc + 3) L (rv c :: S) (zr g c, n') (zr σ c)) : J m d n0 hi Post pc L S (g, n) σ := by
  subst hc
  subst hn
  exact j_new (G := (g, n)) (C := RX11) (T := TX11) (N := 10) (ci := 11) in_X11 tyX11 tyX11_ok rfl hcl (tt_in 151 (by decide +kernel) rfl) (tt_in 129 (by decide +kernel) rfl) hkd rfl (fun E j hj => by
    rcases (show j = 0 ∨ j = 1 ∨ j = 2 ∨ j = 3 ∨ j = 4 ∨ j = 5 ∨ j = 6 ∨ j = 7 ∨ j = 8 ∨ j = 9 by omega) with rfl | rfl | rfl | rfl | rfl | rfl | rfl | rfl | rfl | rfl <;> rfl) hhi hd k
theorem nw_X12 {idx n' : Nat} {c : Int} (hcl : Cond.classLink m.1.cls idx RX12 ∈ TT) (hc : (n : Int) + 1 = c) (hn : n + 1 = n') (hkd : kd c = (0, 12)) (hhi : n' ≤ hi) (hd : decode m.2.1 pc = .ok (.new idx, 3)) (k : J m d n0 hi Post (pc + 3) L (rv c :: S) (zr g c, n') (zr σ c)) : J m d n0 hi Post pc L S (g, n) σ := by
  subst hc
  subst hn
  exact j_new (G := (g, n)) (C := RX12) (T := TX12) (N := 37) (ci := 12) in_X12 tyX12 tyX12_ok rfl hcl (tt_in 1228 (by decide +kernel) rfl) (tt_in 142 (by decide +kernel) rfl) hkd rfl (fun E j hj => by
    rcases (show j = 0 ∨ j = 1 ∨ j = 2 ∨ j = 3 ∨ j = 4 ∨ j = 5 ∨ j = 6 ∨ j = 7 ∨ j = 8 ∨ j = 9 ∨ j = 10 ∨ j = 11 ∨ j = 12 ∨ j = 13 ∨ j = 14 ∨ j = 15 ∨ j = 16 ∨ j = 17 ∨ j = 18 ∨ j = 19 ∨ j = 20 ∨ j = 21 ∨ j = 22 ∨ j = 23 ∨ j = 24 ∨ j = 25 ∨ j = 26 ∨ j = 27 ∨ j = 28 ∨ j = 29 ∨ j = 30 ∨ j = 31 ∨ j = 32 ∨ j = 33 ∨ j = 34 ∨ j = 35 ∨ j = 36 by omega) with rfl | rfl | rfl | rfl | rfl | rfl | rfl | rfl | rfl | rfl | rfl | rfl | rfl | rfl | rfl | rfl | rfl | rfl | rfl | rfl | rfl | rfl | rfl | rfl | rfl | rfl | rfl | rfl | rfl | rfl | rfl | rfl | rfl | rfl | rfl | rfl | rfl <;> rfl) hhi hd k
end JO
theorem gr_1_z {a j : Int} (k0 : kd a = (0, 1)) (h : 3 ≤ j) : gr 0 a j = 0 := by
  unfold gr
  rw [k0]
  simp
  omega
theorem ti_1 {a j : Int} (k0 : kd a = (0, 1)) : ti a j = if j = 7 then 433 else 0 := by
  have h1 : a ≠ 271 := fun e => by rw [e] at k0; exact absurd k0 (by decide)
  have h2 : a ≠ 130 := fun e => by rw [e] at k0; exact absurd k0 (by decide)
  have h3 : a ≠ 262 := fun e => by rw [e] at k0; exact absurd k0 (by decide)
  have h4 : a ≠ 288 := fun e => by rw [e] at k0; exact absurd k0 (by decide)
  unfold ti
  rw [k0]
  by_cases h : j = 7
  · simp [h]
  · simp [h, h1, h2, h3, h4]
theorem gr_a {a j : Int} {t N : Nat} (k0 : kd a = (t, N)) (h : t = 1 ∨ t = 2 ∨ t = 3) : gr 0 a j = 0 := by
  unfold gr
  rw [k0]
  rcases h with rfl | rfl | rfl <;> simp
theorem ti_a {a j : Int} {t N : Nat} (k0 : kd a = (t, N)) (h : (t = 1 ∧ N = 8) ∨ t = 2) : ti a j = 0 := by
  have h1 : a ≠ 271 := fun e => by
    rw [e] at k0
    have q : (0 : Nat) = t := congrArg Prod.fst k0
    omega
  have h2 : a ≠ 130 := fun e => by
    rw [e] at k0
    have q : (1 : Nat) = t := congrArg Prod.fst k0
    have q2 : (12 : Nat) = N := congrArg Prod.snd k0
    omega
  have h3 : a ≠ 262 := fun e => by
    rw [e] at k0
    have q : (1 : Nat) = t := congrArg Prod.fst k0
    have q2 : (12 : Nat) = N := congrArg Prod.snd k0
    omega
  have h4 : a ≠ 288 := fun e => by
    rw [e] at k0
    have q : (1 : Nat) = t := congrArg Prod.fst k0
    have q2 : (164 : Nat) = N := congrArg Prod.snd k0
    omega
  unfold ti
  rw [k0]
  rcases h with ⟨rfl, rfl⟩ | rfl
  · simp [h1, h2, h3, h4]
  · simp [h1, h2, h3, h4]
set_option maxRecDepth 8000 in
theorem n_X1 {d n n' : Nat} {a : Int} {g σ : jM} {R : jV → jG → jM → Prop} (ha : (n : Int) = a) (hn' : n + 3 = n') (a1 : 1 ≤ a) (a2 : a + 3 ≤ 340) (k0 : kd a = (0, 1)) (k1 : kd (a + 1) = (1, 8)) (k2 : kd (a + 2) = (1, 8)) (k3 : kd (a + 3) = (2, 25)) (zg : ∀ j, g a j = 0) (zs : ∀ j, σ a j = 0) (k : ∀ r : jV, r.1 = 9 → R r (mix a g (gr 0), n') (mix a σ ti)) : Cn mX1_init (d + 1) 3 [rv a] (g, n) σ R := by
  subst hn'
  refine Cn_of (by decide +kernel) (Nat.le_of_ble_eq_true rfl) ?_
  refine s_aload_n (i := 0) (x := a) rfl (show decode cX1_init 0 = .ok (.aload_n 0, 1) by decide +kernel) ?_
  refine j_objI (a := a) a1 (tt_in 169 (by decide +kernel) rfl) (by omega) (Nat.le_of_ble_eq_true rfl) (show decode cX1_init 1 = .ok (.invokespecial 3, 3) by decide +kernel) ?_
  refine s_aload_n (i := 0) (x := a) rfl (show decode cX1_init 4 = .ok (.aload_n 0, 1) by decide +kernel) ?_
  refine j_bipush (n := 8) (by decide +kernel) (show decode cX1_init 5 = .ok (.bipush 8, 2) by decide +kernel) ?_
  refine s_newa (t := 1) (N := 8) (c := a + 1) (n' := n + 1) (Or.inl ⟨rfl, rfl⟩) rfl (by decide) (by omega) rfl k1 (Nat.add_le_add_left (show 1 ≤ 3 by decide) n) (show decode cX1_init 7 = .ok (.newarray .int, 2) by decide +kernel) ?_
  refine pf_X1_9 rfl rfl (show decode cX1_init 9 = .ok (.putfield 9, 3) by decide +kernel) (okb (n := n + 1) k0 a1 (by omega)) (by omega) ?_
  refine s_aload_n (i := 0) (x := a) rfl (show decode cX1_init 12 = .ok (.aload_n 0, 1) by decide +kernel) ?_
  refine j_bipush (n := 8) (by decide +kernel) (show decode cX1_init 13 = .ok (.bipush 8, 2) by decide +kernel) ?_
  refine s_newa (t := 1) (N := 8) (c := a + 2) (n' := n + 2) (Or.inl ⟨rfl, rfl⟩) rfl (by decide) (by omega) rfl k2 (Nat.add_le_add_left (show 2 ≤ 3 by decide) n) (show decode cX1_init 15 = .ok (.newarray .int, 2) by decide +kernel) ?_
  refine pf_X1_15 rfl rfl (show decode cX1_init 17 = .ok (.putfield 15, 3) by decide +kernel) (okb (n := n + 2) k0 a1 (by omega)) (by omega) ?_
  refine s_aload_n (i := 0) (x := a) rfl (show decode cX1_init 20 = .ok (.aload_n 0, 1) by decide +kernel) ?_
  refine j_bipush (n := 25) (by decide +kernel) (show decode cX1_init 21 = .ok (.bipush 25, 2) by decide +kernel) ?_
  refine s_newa (t := 2) (N := 25) (c := a + 3) (n' := n + 3) (Or.inr (Or.inl ⟨rfl, rfl⟩)) rfl (by decide) (by omega) rfl k3 (Nat.add_le_add_left (show 3 ≤ 3 by decide) n) (show decode cX1_init 23 = .ok (.newarray .long, 2) by decide +kernel) ?_
  refine pf_X1_18 rfl rfl (show decode cX1_init 25 = .ok (.putfield 18, 3) by decide +kernel) (okb (n := n + 3) k0 a1 (by omega)) (by omega) ?_
  refine s_aload_n (i := 0) (x := a) rfl (show decode cX1_init 28 = .ok (.aload_n 0, 1) by decide +kernel) ?_
  refine j_sipush (n := 433) (by decide +kernel) (show decode cX1_init 29 = .ok (.sipush 433, 3) by decide +kernel) ?_
  refine pf_X1_22 rfl (show decode cX1_init 32 = .ok (.putfield 22, 3) by decide +kernel) (okb (n := n + 3) k0 a1 (by omega)) ?_
  refine J_cong (G' := mix a g (gr 0)) (σ' := mix a σ ti) ?_ ?_
  · intro c c0 c1 j hj
    have c1 : c ≤ ((n + 3 : Nat) : Int) := c1
    have oa : ob (GG 0) a 1 := ⟨k0, a1, show a ≤ (340 : Int) by omega⟩
    rcases (show c < a ∨ c = a ∨ c = a + 1 ∨ c = a + 2 ∨ c = a + 3 by omega) with e | e | e | e | e
    · refine ⟨(congrFun (mix_lo e) _).trans ?_, (congrFun (mix_lo e) _).trans ?_⟩
      · (try dsimp only); rw [up_row (by omega), zr_row (by omega), up_row (by omega), zr_row (by omega), up_row (by omega), zr_row (by omega)]
      · (try dsimp only); rw [up_row (by omega), zr_row (by omega), zr_row (by omega), zr_row (by omega)]
    · refine ⟨(congrFun (mix_hi (by omega)) _).trans ?_, (congrFun (mix_hi (by omega)) _).trans ?_⟩
      · (try dsimp only); rw [e]
        by_cases j0 : (j : Int) = 2
        · rw [j0, up_at]; exact gr_1_2 oa
        · rw [up_ne (Or.inr j0), zr_row (by omega)]
          by_cases j1 : (j : Int) = 1
          · rw [j1, up_at]; exact gr_1_1 oa
          · rw [up_ne (Or.inr j1), zr_row (by omega)]
            by_cases j2 : (j : Int) = 0
            · rw [j2, up_at]; exact gr_1_0 oa
            · rw [up_ne (Or.inr j2), zr_row (by omega), zg]; exact gr_1_z k0 (by omega)
      · (try dsimp only); rw [e, ti_1 k0]
        by_cases j0 : (j : Int) = 7
        · rw [j0, up_at, if_pos rfl]
        · rw [up_ne (Or.inr j0), zr_row (by omega), zr_row (by omega), zr_row (by omega), zs, if_neg j0]
    · refine ⟨(congrFun (mix_hi (by omega)) _).trans ?_, (congrFun (mix_hi (by omega)) _).trans ?_⟩
      · (try dsimp only); rw [e, gr_a k1 (Or.inl rfl), up_row (by omega), zr_row (by omega), up_row (by omega), zr_row (by omega), up_row (by omega), zr_at]
      · (try dsimp only); rw [e, ti_a k1 (Or.inl ⟨rfl, rfl⟩), up_row (by omega), zr_row (by omega), zr_row (by omega), zr_at]
    · refine ⟨(congrFun (mix_hi (by omega)) _).trans ?_, (congrFun (mix_hi (by omega)) _).trans ?_⟩
      · (try dsimp only); rw [e, gr_a k2 (Or.inl rfl), up_row (by omega), zr_row (by omega), up_row (by omega), zr_at]
      · (try dsimp only); rw [e, ti_a k2 (Or.inl ⟨rfl, rfl⟩), up_row (by omega), zr_row (by omega), zr_at]
    · refine ⟨(congrFun (mix_hi (by omega)) _).trans ?_, (congrFun (mix_hi (by omega)) _).trans ?_⟩
      · (try dsimp only); rw [e, gr_a k3 (Or.inr (Or.inl rfl)), up_row (by omega), zr_at]
      · (try dsimp only); rw [e, ti_a k3 (Or.inr rfl), up_row (by omega), zr_at]
  · exact j_retA (rokV (show decode cX1_init 35 = .ok (.return_, 1) by decide +kernel) rfl) rfl (k uv rfl)
set_option maxRecDepth 8000 in
theorem n_X9_129 {d : Nat} {g σ : jM} {R : jV → jG → jM → Prop} (zg : ∀ j, g 129 j = 0) (zs : ∀ j, σ 129 j = 0) (k : ∀ r : jV, r.1 = 9 → R r (mix 129 g (gr 0), 130) (mix 129 σ ti)) : Cn mX9_init (d + 1) 1 [rv 129] (g, 129) σ R := by
  refine Cn_of (by decide +kernel) (Nat.le_of_ble_eq_true rfl) ?_
  refine J_cong (G' := zr g 129) (σ' := zr σ 129) (zr_ag zg zs) ?_
  refine s_aload_n (i := 0) (x := 129) rfl (show decode cX9_init 0 = .ok (.aload_n 0, 1) by decide +kernel) ?_
  refine j_objI (a := 129) (by decide) (tt_in 232 (by decide +kernel) rfl) (by omega) (Nat.le_of_ble_eq_true rfl) (show decode cX9_init 1 = .ok (.invokespecial 3, 3) by decide +kernel) ?_
  refine s_aload_n (i := 0) (x := 129) rfl (show decode cX9_init 4 = .ok (.aload_n 0, 1) by decide +kernel) ?_
  refine j_bipush (n := 12) (by decide +kernel) (show decode cX9_init 5 = .ok (.bipush 12, 2) by decide +kernel) ?_
  refine s_newa (t := 1) (N := 12) (c := 130) (n' := 130) (Or.inl ⟨rfl, rfl⟩) rfl (by decide) rfl rfl (by decide +kernel) (Nat.le_of_ble_eq_true rfl) (show decode cX9_init 7 = .ok (.newarray .int, 2) by decide +kernel) ?_
  refine pf_X9_11 rfl rfl (show decode cX9_init 9 = .ok (.putfield 11, 3) by decide +kernel) (okb (n := 130) rfl (by decide) (by decide)) (by decide) ?_
  refine s_aload_n (i := 0) (x := 129) rfl (show decode cX9_init 12 = .ok (.aload_n 0, 1) by decide +kernel) ?_
  refine j_iconst (show decode cX9_init 13 = .ok (.iconst 1, 1) by decide +kernel) ?_
  refine pf_X9_15 rfl (show decode cX9_init 14 = .ok (.putfield 15, 3) by decide +kernel) (okb (n := 130) rfl (by decide) (by decide)) ?_
  refine s_aload_n (i := 0) (x := 129) rfl (show decode cX9_init 17 = .ok (.aload_n 0, 1) by decide +kernel) ?_
  refine gf_X9_11 (x := 130) rfl (show decode cX9_init 18 = .ok (.getfield 11, 3) by decide +kernel) (okb (n := 130) rfl (by decide) (by decide)) rfl ?_
  refine j_iconst (show decode cX9_init 21 = .ok (.iconst 0, 1) by decide +kernel) ?_
  refine j_iconst (show decode cX9_init 22 = .ok (.iconst 1, 1) by decide +kernel) ?_
  refine j_iast (n := 12) (show decode cX9_init 23 = .ok (.iastore, 1) by decide +kernel) (okr (n := 130) rfl (by decide) (by decide)) (by decide) (by decide) ?_
  refine J_cong (G' := mix 129 g (gr 0)) (σ' := mix 129 σ ti) ?_ ?_
  · intro c c0 c1 j hj
    have c1 : c ≤ (130 : Int) := c1
    rcases (show c < 129 ∨ c = 129 ∨ c = 130 by omega) with e | e | e
    · refine ⟨(congrFun (mix_lo e) _).trans ?_, (congrFun (mix_lo e) _).trans ?_⟩
      · (try dsimp only); rw [up_row (by omega), zr_row (by omega), zr_row (by omega)]
      · (try dsimp only); rw [up_row (by omega), up_row (by omega), zr_row (by omega), zr_row (by omega)]
    · subst e; have hj : j < 2 := hj; rcases (show j = 0 ∨ j = 1 by omega) with rfl | rfl <;> exact ⟨rfl, rfl⟩
    · subst e; have hj : j < 12 := hj; rcases (show j = 0 ∨ j = 1 ∨ j = 2 ∨ j = 3 ∨ j = 4 ∨ j = 5 ∨ j = 6 ∨ j = 7 ∨ j = 8 ∨ j = 9 ∨ j = 10 ∨ j = 11 by omega) with rfl | rfl | rfl | rfl | rfl | rfl | rfl | rfl | rfl | rfl | rfl | rfl <;> exact ⟨rfl, rfl⟩
  · exact j_retA (rokV (show decode cX9_init 24 = .ok (.return_, 1) by decide +kernel) rfl) rfl (k uv rfl)
set_option maxRecDepth 8000 in
theorem n_X9_261 {d : Nat} {g σ : jM} {R : jV → jG → jM → Prop} (zg : ∀ j, g 261 j = 0) (zs : ∀ j, σ 261 j = 0) (k : ∀ r : jV, r.1 = 9 → R r (mix 261 g (gr 0), 262) (mix 261 σ ti)) : Cn mX9_init (d + 1) 1 [rv 261] (g, 261) σ R := by
  refine Cn_of (by decide +kernel) (Nat.le_of_ble_eq_true rfl) ?_
  refine J_cong (G' := zr g 261) (σ' := zr σ 261) (zr_ag zg zs) ?_
  refine s_aload_n (i := 0) (x := 261) rfl (show decode cX9_init 0 = .ok (.aload_n 0, 1) by decide +kernel) ?_
  refine j_objI (a := 261) (by decide) (tt_in 232 (by decide +kernel) rfl) (by omega) (Nat.le_of_ble_eq_true rfl) (show decode cX9_init 1 = .ok (.invokespecial 3, 3) by decide +kernel) ?_
  refine s_aload_n (i := 0) (x := 261) rfl (show decode cX9_init 4 = .ok (.aload_n 0, 1) by decide +kernel) ?_
  refine j_bipush (n := 12) (by decide +kernel) (show decode cX9_init 5 = .ok (.bipush 12, 2) by decide +kernel) ?_
  refine s_newa (t := 1) (N := 12) (c := 262) (n' := 262) (Or.inl ⟨rfl, rfl⟩) rfl (by decide) rfl rfl (by decide +kernel) (Nat.le_of_ble_eq_true rfl) (show decode cX9_init 7 = .ok (.newarray .int, 2) by decide +kernel) ?_
  refine pf_X9_11 rfl rfl (show decode cX9_init 9 = .ok (.putfield 11, 3) by decide +kernel) (okb (n := 262) rfl (by decide) (by decide)) (by decide) ?_
  refine s_aload_n (i := 0) (x := 261) rfl (show decode cX9_init 12 = .ok (.aload_n 0, 1) by decide +kernel) ?_
  refine j_iconst (show decode cX9_init 13 = .ok (.iconst 1, 1) by decide +kernel) ?_
  refine pf_X9_15 rfl (show decode cX9_init 14 = .ok (.putfield 15, 3) by decide +kernel) (okb (n := 262) rfl (by decide) (by decide)) ?_
  refine s_aload_n (i := 0) (x := 261) rfl (show decode cX9_init 17 = .ok (.aload_n 0, 1) by decide +kernel) ?_
  refine gf_X9_11 (x := 262) rfl (show decode cX9_init 18 = .ok (.getfield 11, 3) by decide +kernel) (okb (n := 262) rfl (by decide) (by decide)) rfl ?_
  refine j_iconst (show decode cX9_init 21 = .ok (.iconst 0, 1) by decide +kernel) ?_
  refine j_iconst (show decode cX9_init 22 = .ok (.iconst 1, 1) by decide +kernel) ?_
  refine j_iast (n := 12) (show decode cX9_init 23 = .ok (.iastore, 1) by decide +kernel) (okr (n := 262) rfl (by decide) (by decide)) (by decide) (by decide) ?_
  refine J_cong (G' := mix 261 g (gr 0)) (σ' := mix 261 σ ti) ?_ ?_
  · intro c c0 c1 j hj
    have c1 : c ≤ (262 : Int) := c1
    rcases (show c < 261 ∨ c = 261 ∨ c = 262 by omega) with e | e | e
    · refine ⟨(congrFun (mix_lo e) _).trans ?_, (congrFun (mix_lo e) _).trans ?_⟩
      · (try dsimp only); rw [up_row (by omega), zr_row (by omega), zr_row (by omega)]
      · (try dsimp only); rw [up_row (by omega), up_row (by omega), zr_row (by omega), zr_row (by omega)]
    · subst e; have hj : j < 2 := hj; rcases (show j = 0 ∨ j = 1 by omega) with rfl | rfl <;> exact ⟨rfl, rfl⟩
    · subst e; have hj : j < 12 := hj; rcases (show j = 0 ∨ j = 1 ∨ j = 2 ∨ j = 3 ∨ j = 4 ∨ j = 5 ∨ j = 6 ∨ j = 7 ∨ j = 8 ∨ j = 9 ∨ j = 10 ∨ j = 11 by omega) with rfl | rfl | rfl | rfl | rfl | rfl | rfl | rfl | rfl | rfl | rfl | rfl <;> exact ⟨rfl, rfl⟩
  · exact j_retA (rokV (show decode cX9_init 24 = .ok (.return_, 1) by decide +kernel) rfl) rfl (k uv rfl)
set_option maxRecDepth 8000 in
theorem n_X3_271 {d : Nat} {g σ : jM} {R : jV → jG → jM → Prop} (zg : ∀ j, g 271 j = 0) (zs : ∀ j, σ 271 j = 0) (k : ∀ r : jV, r.1 = 9 → R r (mix 271 g (gr 0), 272) (mix 271 σ ti)) : Cn mX3_init (d + 1) 1 [rv 271] (g, 271) σ R := by
  refine Cn_of (by decide +kernel) (Nat.le_of_ble_eq_true rfl) ?_
  refine J_cong (G' := zr g 271) (σ' := zr σ 271) (zr_ag zg zs) ?_
  refine s_aload_n (i := 0) (x := 271) rfl (show decode cX3_init 0 = .ok (.aload_n 0, 1) by decide +kernel) ?_
  refine j_objI (a := 271) (by decide) (tt_in 292 (by decide +kernel) rfl) (by omega) (Nat.le_of_ble_eq_true rfl) (show decode cX3_init 1 = .ok (.invokespecial 3, 3) by decide +kernel) ?_
  refine s_aload_n (i := 0) (x := 271) rfl (show decode cX3_init 4 = .ok (.aload_n 0, 1) by decide +kernel) ?_
  refine j_sipush (n := 300) (by decide +kernel) (show decode cX3_init 5 = .ok (.sipush 300, 3) by decide +kernel) ?_
  refine s_newa (t := 1) (N := 300) (c := 272) (n' := 272) (Or.inl ⟨rfl, rfl⟩) rfl (by decide) rfl rfl (by decide +kernel) (Nat.le_of_ble_eq_true rfl) (show decode cX3_init 8 = .ok (.newarray .int, 2) by decide +kernel) ?_
  refine pf_X3_11 rfl rfl (show decode cX3_init 10 = .ok (.putfield 11, 3) by decide +kernel) (okb (n := 272) rfl (by decide) (by decide)) (by decide) ?_
  refine s_aload_n (i := 0) (x := 271) rfl (show decode cX3_init 13 = .ok (.aload_n 0, 1) by decide +kernel) ?_
  refine j_iconst (show decode cX3_init 14 = .ok (.iconst (-1), 1) by decide +kernel) ?_
  refine pf_X3_15 rfl (show decode cX3_init 15 = .ok (.putfield 15, 3) by decide +kernel) (okb (n := 272) rfl (by decide) (by decide)) ?_
  refine s_aload_n (i := 0) (x := 271) rfl (show decode cX3_init 18 = .ok (.aload_n 0, 1) by decide +kernel) ?_
  refine j_iconst (show decode cX3_init 19 = .ok (.iconst (-1), 1) by decide +kernel) ?_
  refine pf_X3_19 rfl (show decode cX3_init 20 = .ok (.putfield 19, 3) by decide +kernel) (okb (n := 272) rfl (by decide) (by decide)) ?_
  refine J_cong (G' := mix 271 g (gr 0)) (σ' := mix 271 σ ti) ?_ ?_
  · intro c c0 c1 j hj
    have c1 : c ≤ (272 : Int) := c1
    rcases (show c < 271 ∨ c = 271 ∨ c = 272 by omega) with e | e | e
    · refine ⟨(congrFun (mix_lo e) _).trans ?_, (congrFun (mix_lo e) _).trans ?_⟩
      · (try dsimp only); rw [up_row (by omega), zr_row (by omega), zr_row (by omega)]
      · (try dsimp only); rw [up_row (by omega), up_row (by omega), zr_row (by omega), zr_row (by omega)]
    · subst e; have hj : j < 10 := hj; rcases (show j = 0 ∨ j = 1 ∨ j = 2 ∨ j = 3 ∨ j = 4 ∨ j = 5 ∨ j = 6 ∨ j = 7 ∨ j = 8 ∨ j = 9 by omega) with rfl | rfl | rfl | rfl | rfl | rfl | rfl | rfl | rfl | rfl <;> exact ⟨rfl, rfl⟩
    · subst e; exact ⟨rfl, rfl⟩
  · exact j_retA (rokV (show decode cX3_init 23 = .ok (.return_, 1) by decide +kernel) rfl) rfl (k uv rfl)
set_option maxRecDepth 8000 in
theorem n_X2_273 {d : Nat} {g σ : jM} {R : jV → jG → jM → Prop} (zg : ∀ j, g 273 j = 0) (zs : ∀ j, σ 273 j = 0) (k : ∀ r : jV, r.1 = 9 → R r (mix 273 g (gr 0), 274) (mix 273 σ ti)) : Cn mX2_init (d + 1) 1 [rv 273] (g, 273) σ R := by
  refine Cn_of (by decide +kernel) (Nat.le_of_ble_eq_true rfl) ?_
  refine J_cong (G' := zr g 273) (σ' := zr σ 273) (zr_ag zg zs) ?_
  refine s_aload_n (i := 0) (x := 273) rfl (show decode cX2_init 0 = .ok (.aload_n 0, 1) by decide +kernel) ?_
  refine j_objI (a := 273) (by decide) (tt_in 332 (by decide +kernel) rfl) (by omega) (Nat.le_of_ble_eq_true rfl) (show decode cX2_init 1 = .ok (.invokespecial 3, 3) by decide +kernel) ?_
  refine s_aload_n (i := 0) (x := 273) rfl (show decode cX2_init 4 = .ok (.aload_n 0, 1) by decide +kernel) ?_
  refine j_bipush (n := 64) (by decide +kernel) (show decode cX2_init 5 = .ok (.bipush 64, 2) by decide +kernel) ?_
  refine s_newa (t := 1) (N := 64) (c := 274) (n' := 274) (Or.inl ⟨rfl, rfl⟩) rfl (by decide) rfl rfl (by decide +kernel) (Nat.le_of_ble_eq_true rfl) (show decode cX2_init 7 = .ok (.newarray .int, 2) by decide +kernel) ?_
  refine pf_X2_11 rfl rfl (show decode cX2_init 9 = .ok (.putfield 11, 3) by decide +kernel) (okb (n := 274) rfl (by decide) (by decide)) (by decide) ?_
  refine J_cong (G' := mix 273 g (gr 0)) (σ' := mix 273 σ ti) ?_ ?_
  · intro c c0 c1 j hj
    have c1 : c ≤ (274 : Int) := c1
    rcases (show c < 273 ∨ c = 273 ∨ c = 274 by omega) with e | e | e
    · refine ⟨(congrFun (mix_lo e) _).trans ?_, (congrFun (mix_lo e) _).trans ?_⟩
      · (try dsimp only); rw [up_row (by omega), zr_row (by omega), zr_row (by omega)]
      · (try dsimp only); rw [zr_row (by omega), zr_row (by omega)]
    · subst e; have hj : j < 2 := hj; rcases (show j = 0 ∨ j = 1 by omega) with rfl | rfl <;> exact ⟨rfl, rfl⟩
    · subst e; exact ⟨rfl, rfl⟩
  · exact j_retA (rokV (show decode cX2_init 12 = .ok (.return_, 1) by decide +kernel) rfl) rfl (k uv rfl)
set_option maxRecDepth 8000 in
theorem n_X0_275 {d : Nat} {g σ : jM} {R : jV → jG → jM → Prop} (zg : ∀ j, g 275 j = 0) (zs : ∀ j, σ 275 j = 0) (k : ∀ r : jV, r.1 = 9 → R r (mix 275 g (gr 0), 285) (mix 275 σ ti)) : Cn mX0_init (d + 1) 10 [rv 275] (g, 275) σ R := by
  refine Cn_of (by decide +kernel) (Nat.le_of_ble_eq_true rfl) ?_
  refine J_cong (G' := zr g 275) (σ' := zr σ 275) (zr_ag zg zs) ?_
  refine s_aload_n (i := 0) (x := 275) rfl (show decode cX0_init 0 = .ok (.aload_n 0, 1) by decide +kernel) ?_
  refine j_objI (a := 275) (by decide) (tt_in 345 (by decide +kernel) rfl) (by omega) (Nat.le_of_ble_eq_true rfl) (show decode cX0_init 1 = .ok (.invokespecial 3, 3) by decide +kernel) ?_
  refine s_aload_n (i := 0) (x := 275) rfl (show decode cX0_init 4 = .ok (.aload_n 0, 1) by decide +kernel) ?_
  refine j_bipush (n := 24) (by decide +kernel) (show decode cX0_init 5 = .ok (.bipush 24, 2) by decide +kernel) ?_
  refine s_newa (t := 1) (N := 24) (c := 276) (n' := 276) (Or.inl ⟨rfl, rfl⟩) rfl (by decide) rfl rfl (by decide +kernel) (Nat.le_of_ble_eq_true rfl) (show decode cX0_init 7 = .ok (.newarray .int, 2) by decide +kernel) ?_
  refine pf_X0_11 rfl rfl (show decode cX0_init 9 = .ok (.putfield 11, 3) by decide +kernel) (okb (n := 276) rfl (by decide) (by decide)) (by decide) ?_
  refine s_aload_n (i := 0) (x := 275) rfl (show decode cX0_init 12 = .ok (.aload_n 0, 1) by decide +kernel) ?_
  refine j_bipush (n := 24) (by decide +kernel) (show decode cX0_init 13 = .ok (.bipush 24, 2) by decide +kernel) ?_
  refine s_newa (t := 2) (N := 24) (c := 277) (n' := 277) (Or.inr (Or.inl ⟨rfl, rfl⟩)) rfl (by decide) rfl rfl (by decide +kernel) (Nat.le_of_ble_eq_true rfl) (show decode cX0_init 15 = .ok (.newarray .long, 2) by decide +kernel) ?_
  refine pf_X0_15 rfl rfl (show decode cX0_init 17 = .ok (.putfield 15, 3) by decide +kernel) (okb (n := 277) rfl (by decide) (by decide)) (by decide) ?_
  refine s_aload_n (i := 0) (x := 275) rfl (show decode cX0_init 20 = .ok (.aload_n 0, 1) by decide +kernel) ?_
  refine j_bipush (n := 24) (by decide +kernel) (show decode cX0_init 21 = .ok (.bipush 24, 2) by decide +kernel) ?_
  refine s_newa (t := 2) (N := 24) (c := 278) (n' := 278) (Or.inr (Or.inl ⟨rfl, rfl⟩)) rfl (by decide) rfl rfl (by decide +kernel) (Nat.le_of_ble_eq_true rfl) (show decode cX0_init 23 = .ok (.newarray .long, 2) by decide +kernel) ?_
  refine pf_X0_19 rfl rfl (show decode cX0_init 25 = .ok (.putfield 19, 3) by decide +kernel) (okb (n := 278) rfl (by decide) (by decide)) (by decide) ?_
  refine s_aload_n (i := 0) (x := 275) rfl (show decode cX0_init 28 = .ok (.aload_n 0, 1) by decide +kernel) ?_
  refine j_bipush (n := 24) (by decide +kernel) (show decode cX0_init 29 = .ok (.bipush 24, 2) by decide +kernel) ?_
  refine s_newa (t := 2) (N := 24) (c := 279) (n' := 279) (Or.inr (Or.inl ⟨rfl, rfl⟩)) rfl (by decide) rfl rfl (by decide +kernel) (Nat.le_of_ble_eq_true rfl) (show decode cX0_init 31 = .ok (.newarray .long, 2) by decide +kernel) ?_
  refine pf_X0_22 rfl rfl (show decode cX0_init 33 = .ok (.putfield 22, 3) by decide +kernel) (okb (n := 279) rfl (by decide) (by decide)) (by decide) ?_
  refine s_aload_n (i := 0) (x := 275) rfl (show decode cX0_init 36 = .ok (.aload_n 0, 1) by decide +kernel) ?_
  refine j_iconst (show decode cX0_init 37 = .ok (.iconst 4, 1) by decide +kernel) ?_
  refine s_newa (t := 1) (N := 4) (c := 280) (n' := 280) (Or.inl ⟨rfl, rfl⟩) rfl (by decide) rfl rfl (by decide +kernel) (Nat.le_of_ble_eq_true rfl) (show decode cX0_init 38 = .ok (.newarray .int, 2) by decide +kernel) ?_
  refine pf_X0_25 rfl rfl (show decode cX0_init 40 = .ok (.putfield 25, 3) by decide +kernel) (okb (n := 280) rfl (by decide) (by decide)) (by decide) ?_
  refine s_aload_n (i := 0) (x := 275) rfl (show decode cX0_init 43 = .ok (.aload_n 0, 1) by decide +kernel) ?_
  refine j_bipush (n := 121) (by decide +kernel) (show decode cX0_init 44 = .ok (.bipush 121, 2) by decide +kernel) ?_
  refine s_newa (t := 1) (N := 121) (c := 281) (n' := 281) (Or.inl ⟨rfl, rfl⟩) rfl (by decide) rfl rfl (by decide +kernel) (Nat.le_of_ble_eq_true rfl) (show decode cX0_init 46 = .ok (.newarray .int, 2) by decide +kernel) ?_
  refine pf_X0_28 rfl rfl (show decode cX0_init 48 = .ok (.putfield 28, 3) by decide +kernel) (okb (n := 281) rfl (by decide) (by decide)) (by decide) ?_
  refine s_aload_n (i := 0) (x := 275) rfl (show decode cX0_init 51 = .ok (.aload_n 0, 1) by decide +kernel) ?_
  refine j_sipush (n := 1210) (by decide +kernel) (show decode cX0_init 52 = .ok (.sipush 1210, 3) by decide +kernel) ?_
  refine s_newa (t := 1) (N := 1210) (c := 282) (n' := 282) (Or.inl ⟨rfl, rfl⟩) rfl (by decide) rfl rfl (by decide +kernel) (Nat.le_of_ble_eq_true rfl) (show decode cX0_init 55 = .ok (.newarray .int, 2) by decide +kernel) ?_
  refine pf_X0_31 rfl rfl (show decode cX0_init 57 = .ok (.putfield 31, 3) by decide +kernel) (okb (n := 282) rfl (by decide) (by decide)) (by decide) ?_
  refine s_aload_n (i := 0) (x := 275) rfl (show decode cX0_init 60 = .ok (.aload_n 0, 1) by decide +kernel) ?_
  refine j_bipush (n := 121) (by decide +kernel) (show decode cX0_init 61 = .ok (.bipush 121, 2) by decide +kernel) ?_
  refine s_newa (t := 2) (N := 121) (c := 283) (n' := 283) (Or.inr (Or.inl ⟨rfl, rfl⟩)) rfl (by decide) rfl rfl (by decide +kernel) (Nat.le_of_ble_eq_true rfl) (show decode cX0_init 63 = .ok (.newarray .long, 2) by decide +kernel) ?_
  refine pf_X0_34 rfl rfl (show decode cX0_init 65 = .ok (.putfield 34, 3) by decide +kernel) (okb (n := 283) rfl (by decide) (by decide)) (by decide) ?_
  refine s_aload_n (i := 0) (x := 275) rfl (show decode cX0_init 68 = .ok (.aload_n 0, 1) by decide +kernel) ?_
  refine j_iconst (show decode cX0_init 69 = .ok (.iconst 4, 1) by decide +kernel) ?_
  refine s_newa (t := 1) (N := 4) (c := 284) (n' := 284) (Or.inl ⟨rfl, rfl⟩) rfl (by decide) rfl rfl (by decide +kernel) (Nat.le_of_ble_eq_true rfl) (show decode cX0_init 70 = .ok (.newarray .int, 2) by decide +kernel) ?_
  refine pf_X0_37 rfl rfl (show decode cX0_init 72 = .ok (.putfield 37, 3) by decide +kernel) (okb (n := 284) rfl (by decide) (by decide)) (by decide) ?_
  refine s_aload_n (i := 0) (x := 275) rfl (show decode cX0_init 75 = .ok (.aload_n 0, 1) by decide +kernel) ?_
  refine j_bipush (n := 24) (by decide +kernel) (show decode cX0_init 76 = .ok (.bipush 24, 2) by decide +kernel) ?_
  refine s_newa (t := 1) (N := 24) (c := 285) (n' := 285) (Or.inl ⟨rfl, rfl⟩) rfl (by decide) rfl rfl (by decide +kernel) (Nat.le_of_ble_eq_true rfl) (show decode cX0_init 78 = .ok (.newarray .int, 2) by decide +kernel) ?_
  refine pf_X0_40 rfl rfl (show decode cX0_init 80 = .ok (.putfield 40, 3) by decide +kernel) (okb (n := 285) rfl (by decide) (by decide)) (by decide) ?_
  refine J_cong (G' := mix 275 g (gr 0)) (σ' := mix 275 σ ti) ?_ ?_
  · intro c c0 c1 j hj
    have c1 : c ≤ (285 : Int) := c1
    rcases (show c < 275 ∨ c = 275 ∨ c = 276 ∨ c = 277 ∨ c = 278 ∨ c = 279 ∨ c = 280 ∨ c = 281 ∨ c = 282 ∨ c = 283 ∨ c = 284 ∨ c = 285 by omega) with e | e | e | e | e | e | e | e | e | e | e | e
    · refine ⟨(congrFun (mix_lo e) _).trans ?_, (congrFun (mix_lo e) _).trans ?_⟩
      · (try dsimp only); rw [up_row (by omega), zr_row (by omega), up_row (by omega), zr_row (by omega), up_row (by omega), zr_row (by omega), up_row (by omega), zr_row (by omega), up_row (by omega), zr_row (by omega), up_row (by omega), zr_row (by omega), up_row (by omega), zr_row (by omega), up_row (by omega), zr_row (by omega), up_row (by omega), zr_row (by omega), up_row (by omega), zr_row (by omega), zr_row (by omega)]
      · (try dsimp only); rw [zr_row (by omega), zr_row (by omega), zr_row (by omega), zr_row (by omega), zr_row (by omega), zr_row (by omega), zr_row (by omega), zr_row (by omega), zr_row (by omega), zr_row (by omega), zr_row (by omega)]
    · subst e; have hj : j < 14 := hj; rcases (show j = 0 ∨ j = 1 ∨ j = 2 ∨ j = 3 ∨ j = 4 ∨ j = 5 ∨ j = 6 ∨ j = 7 ∨ j = 8 ∨ j = 9 ∨ j = 10 ∨ j = 11 ∨ j = 12 ∨ j = 13 by omega) with rfl | rfl | rfl | rfl | rfl | rfl | rfl | rfl | rfl | rfl | rfl | rfl | rfl | rfl <;> exact ⟨rfl, rfl⟩
    · subst e; exact ⟨rfl, rfl⟩
    · subst e; exact ⟨rfl, rfl⟩
    · subst e; exact ⟨rfl, rfl⟩
    · subst e; exact ⟨rfl, rfl⟩
    · subst e; exact ⟨rfl, rfl⟩
    · subst e; exact ⟨rfl, rfl⟩
    · subst e; exact ⟨rfl, rfl⟩
    · subst e; exact ⟨rfl, rfl⟩
    · subst e; exact ⟨rfl, rfl⟩
    · subst e; exact ⟨rfl, rfl⟩
  · exact j_retA (rokV (show decode cX0_init 83 = .ok (.return_, 1) by decide +kernel) rfl) rfl (k uv rfl)
set_option maxRecDepth 8000 in
theorem n_X5_286 {d : Nat} {g σ : jM} {R : jV → jG → jM → Prop} (zg : ∀ j, g 286 j = 0) (zs : ∀ j, σ 286 j = 0) (k : ∀ r : jV, r.1 = 9 → R r (mix 286 g (gr 0), 286) (mix 286 σ ti)) : Cn mX5_init (d + 1) 0 [rv 286] (g, 286) σ R := by
  refine Cn_of (by decide +kernel) (Nat.le_of_ble_eq_true rfl) ?_
  refine J_cong (G' := zr g 286) (σ' := zr σ 286) (zr_ag zg zs) ?_
  refine s_aload_n (i := 0) (x := 286) rfl (show decode cX5_init 0 = .ok (.aload_n 0, 1) by decide +kernel) ?_
  refine j_objI (a := 286) (by decide) (tt_in 396 (by decide +kernel) rfl) (by omega) (Nat.le_of_ble_eq_true rfl) (show decode cX5_init 1 = .ok (.invokespecial 3, 3) by decide +kernel) ?_
  refine J_cong (G' := mix 286 g (gr 0)) (σ' := mix 286 σ ti) ?_ ?_
  · intro c c0 c1 j hj
    have c1 : c ≤ (286 : Int) := c1
    rcases (show c < 286 ∨ c = 286 by omega) with e | e
    · refine ⟨(congrFun (mix_lo e) _).trans ?_, (congrFun (mix_lo e) _).trans ?_⟩
      · (try dsimp only); rw [zr_row (by omega)]
      · (try dsimp only); rw [zr_row (by omega)]
    · subst e; have hj : j < 4 := hj; rcases (show j = 0 ∨ j = 1 ∨ j = 2 ∨ j = 3 by omega) with rfl | rfl | rfl | rfl <;> exact ⟨rfl, rfl⟩
  · exact j_retA (rokV (show decode cX5_init 4 = .ok (.return_, 1) by decide +kernel) rfl) rfl (k uv rfl)
set_option maxRecDepth 8000 in
theorem n_X6_290 {d : Nat} {g σ : jM} {R : jV → jG → jM → Prop} (zg : ∀ j, g 290 j = 0) (zs : ∀ j, σ 290 j = 0) (k : ∀ r : jV, r.1 = 9 → R r (mix 290 g (gr 0), 292) (mix 290 σ ti)) : Cn mX6_init (d + 1) 2 [rv 290] (g, 290) σ R := by
  refine Cn_of (by decide +kernel) (Nat.le_of_ble_eq_true rfl) ?_
  refine J_cong (G' := zr g 290) (σ' := zr σ 290) (zr_ag zg zs) ?_
  refine s_aload_n (i := 0) (x := 290) rfl (show decode cX6_init 0 = .ok (.aload_n 0, 1) by decide +kernel) ?_
  refine j_objI (a := 290) (by decide) (tt_in 434 (by decide +kernel) rfl) (by omega) (Nat.le_of_ble_eq_true rfl) (show decode cX6_init 1 = .ok (.invokespecial 1, 3) by decide +kernel) ?_
  refine s_aload_n (i := 0) (x := 290) rfl (show decode cX6_init 4 = .ok (.aload_n 0, 1) by decide +kernel) ?_
  refine j_bipush (n := 41) (by decide +kernel) (show decode cX6_init 5 = .ok (.bipush 41, 2) by decide +kernel) ?_
  refine s_newa (t := 1) (N := 41) (c := 291) (n' := 291) (Or.inl ⟨rfl, rfl⟩) rfl (by decide) rfl rfl (by decide +kernel) (Nat.le_of_ble_eq_true rfl) (show decode cX6_init 7 = .ok (.newarray .int, 2) by decide +kernel) ?_
  refine pf_X6_9 rfl rfl (show decode cX6_init 9 = .ok (.putfield 9, 3) by decide +kernel) (okb (n := 291) rfl (by decide) (by decide)) (by decide) ?_
  refine s_aload_n (i := 0) (x := 290) rfl (show decode cX6_init 12 = .ok (.aload_n 0, 1) by decide +kernel) ?_
  refine j_bipush (n := 12) (by decide +kernel) (show decode cX6_init 13 = .ok (.bipush 12, 2) by decide +kernel) ?_
  refine s_newa (t := 1) (N := 12) (c := 292) (n' := 292) (Or.inl ⟨rfl, rfl⟩) rfl (by decide) rfl rfl (by decide +kernel) (Nat.le_of_ble_eq_true rfl) (show decode cX6_init 15 = .ok (.newarray .int, 2) by decide +kernel) ?_
  refine pf_X6_13 rfl rfl (show decode cX6_init 17 = .ok (.putfield 13, 3) by decide +kernel) (okb (n := 292) rfl (by decide) (by decide)) (by decide) ?_
  refine J_cong (G' := mix 290 g (gr 0)) (σ' := mix 290 σ ti) ?_ ?_
  · intro c c0 c1 j hj
    have c1 : c ≤ (292 : Int) := c1
    rcases (show c < 290 ∨ c = 290 ∨ c = 291 ∨ c = 292 by omega) with e | e | e | e
    · refine ⟨(congrFun (mix_lo e) _).trans ?_, (congrFun (mix_lo e) _).trans ?_⟩
      · (try dsimp only); rw [up_row (by omega), zr_row (by omega), up_row (by omega), zr_row (by omega), zr_row (by omega)]
      · (try dsimp only); rw [zr_row (by omega), zr_row (by omega), zr_row (by omega)]
    · subst e; have hj : j < 3 := hj; rcases (show j = 0 ∨ j = 1 ∨ j = 2 by omega) with rfl | rfl | rfl <;> exact ⟨rfl, rfl⟩
    · subst e; exact ⟨rfl, rfl⟩
    · subst e; exact ⟨rfl, rfl⟩
  · exact j_retA (rokV (show decode cX6_init 20 = .ok (.return_, 1) by decide +kernel) rfl) rfl (k uv rfl)
set_option maxRecDepth 8000 in
theorem n_X8_293 {d : Nat} {g σ : jM} {R : jV → jG → jM → Prop} (zg : ∀ j, g 293 j = 0) (zs : ∀ j, σ 293 j = 0) (k : ∀ r : jV, r.1 = 9 → R r (mix 293 g (gr 0), 299) (mix 293 σ ti)) : Cn mX8_init (d + 1) 6 [rv 293] (g, 293) σ R := by
  refine Cn_of (by decide +kernel) (Nat.le_of_ble_eq_true rfl) ?_
  refine J_cong (G' := zr g 293) (σ' := zr σ 293) (zr_ag zg zs) ?_
  refine s_aload_n (i := 0) (x := 293) rfl (show decode cX8_init 0 = .ok (.aload_n 0, 1) by decide +kernel) ?_
  refine j_objI (a := 293) (by decide) (tt_in 449 (by decide +kernel) rfl) (by omega) (Nat.le_of_ble_eq_true rfl) (show decode cX8_init 1 = .ok (.invokespecial 3, 3) by decide +kernel) ?_
  refine s_aload_n (i := 0) (x := 293) rfl (show decode cX8_init 4 = .ok (.aload_n 0, 1) by decide +kernel) ?_
  refine j_bipush (n := 24) (by decide +kernel) (show decode cX8_init 5 = .ok (.bipush 24, 2) by decide +kernel) ?_
  refine s_newa (t := 1) (N := 24) (c := 294) (n' := 294) (Or.inl ⟨rfl, rfl⟩) rfl (by decide) rfl rfl (by decide +kernel) (Nat.le_of_ble_eq_true rfl) (show decode cX8_init 7 = .ok (.newarray .int, 2) by decide +kernel) ?_
  refine pf_X8_11 rfl rfl (show decode cX8_init 9 = .ok (.putfield 11, 3) by decide +kernel) (okb (n := 294) rfl (by decide) (by decide)) (by decide) ?_
  refine s_aload_n (i := 0) (x := 293) rfl (show decode cX8_init 12 = .ok (.aload_n 0, 1) by decide +kernel) ?_
  refine j_bipush (n := 24) (by decide +kernel) (show decode cX8_init 13 = .ok (.bipush 24, 2) by decide +kernel) ?_
  refine s_newa (t := 1) (N := 24) (c := 295) (n' := 295) (Or.inl ⟨rfl, rfl⟩) rfl (by decide) rfl rfl (by decide +kernel) (Nat.le_of_ble_eq_true rfl) (show decode cX8_init 15 = .ok (.newarray .int, 2) by decide +kernel) ?_
  refine pf_X8_15 rfl rfl (show decode cX8_init 17 = .ok (.putfield 15, 3) by decide +kernel) (okb (n := 295) rfl (by decide) (by decide)) (by decide) ?_
  refine s_aload_n (i := 0) (x := 293) rfl (show decode cX8_init 20 = .ok (.aload_n 0, 1) by decide +kernel) ?_
  refine j_bipush (n := 24) (by decide +kernel) (show decode cX8_init 21 = .ok (.bipush 24, 2) by decide +kernel) ?_
  refine s_newa (t := 1) (N := 24) (c := 296) (n' := 296) (Or.inl ⟨rfl, rfl⟩) rfl (by decide) rfl rfl (by decide +kernel) (Nat.le_of_ble_eq_true rfl) (show decode cX8_init 23 = .ok (.newarray .int, 2) by decide +kernel) ?_
  refine pf_X8_18 rfl rfl (show decode cX8_init 25 = .ok (.putfield 18, 3) by decide +kernel) (okb (n := 296) rfl (by decide) (by decide)) (by decide) ?_
  refine s_aload_n (i := 0) (x := 293) rfl (show decode cX8_init 28 = .ok (.aload_n 0, 1) by decide +kernel) ?_
  refine j_sipush (n := 300) (by decide +kernel) (show decode cX8_init 29 = .ok (.sipush 300, 3) by decide +kernel) ?_
  refine s_newa (t := 1) (N := 300) (c := 297) (n' := 297) (Or.inl ⟨rfl, rfl⟩) rfl (by decide) rfl rfl (by decide +kernel) (Nat.le_of_ble_eq_true rfl) (show decode cX8_init 32 = .ok (.newarray .int, 2) by decide +kernel) ?_
  refine pf_X8_21 rfl rfl (show decode cX8_init 34 = .ok (.putfield 21, 3) by decide +kernel) (okb (n := 297) rfl (by decide) (by decide)) (by decide) ?_
  refine s_aload_n (i := 0) (x := 293) rfl (show decode cX8_init 37 = .ok (.aload_n 0, 1) by decide +kernel) ?_
  refine j_iconst (show decode cX8_init 38 = .ok (.iconst 2, 1) by decide +kernel) ?_
  refine s_newa (t := 1) (N := 2) (c := 298) (n' := 298) (Or.inl ⟨rfl, rfl⟩) rfl (by decide) rfl rfl (by decide +kernel) (Nat.le_of_ble_eq_true rfl) (show decode cX8_init 39 = .ok (.newarray .int, 2) by decide +kernel) ?_
  refine j_dup (show (2 : Nat) ≠ 1 by decide) (show decode cX8_init 41 = .ok (.dup, 1) by decide +kernel) ?_
  refine j_iconst (show decode cX8_init 42 = .ok (.iconst 0, 1) by decide +kernel) ?_
  refine j_iconst (show decode cX8_init 43 = .ok (.iconst (-1), 1) by decide +kernel) ?_
  refine j_iast (n := 2) (show decode cX8_init 44 = .ok (.iastore, 1) by decide +kernel) (okr (n := 298) rfl (by decide) (by decide)) (by decide) (by decide) ?_
  refine j_dup (show (2 : Nat) ≠ 1 by decide) (show decode cX8_init 45 = .ok (.dup, 1) by decide +kernel) ?_
  refine j_iconst (show decode cX8_init 46 = .ok (.iconst 1, 1) by decide +kernel) ?_
  refine j_iconst (show decode cX8_init 47 = .ok (.iconst (-1), 1) by decide +kernel) ?_
  refine j_iast (n := 2) (show decode cX8_init 48 = .ok (.iastore, 1) by decide +kernel) (okr (n := 298) rfl (by decide) (by decide)) (by decide) (by decide) ?_
  refine pf_X8_24 rfl rfl (show decode cX8_init 49 = .ok (.putfield 24, 3) by decide +kernel) (okb (n := 298) rfl (by decide) (by decide)) (by decide) ?_
  refine s_aload_n (i := 0) (x := 293) rfl (show decode cX8_init 52 = .ok (.aload_n 0, 1) by decide +kernel) ?_
  refine j_iconst (show decode cX8_init 53 = .ok (.iconst 2, 1) by decide +kernel) ?_
  refine s_newa (t := 1) (N := 2) (c := 299) (n' := 299) (Or.inl ⟨rfl, rfl⟩) rfl (by decide) rfl rfl (by decide +kernel) (Nat.le_of_ble_eq_true rfl) (show decode cX8_init 54 = .ok (.newarray .int, 2) by decide +kernel) ?_
  refine j_dup (show (2 : Nat) ≠ 1 by decide) (show decode cX8_init 56 = .ok (.dup, 1) by decide +kernel) ?_
  refine j_iconst (show decode cX8_init 57 = .ok (.iconst 0, 1) by decide +kernel) ?_
  refine j_iconst (show decode cX8_init 58 = .ok (.iconst (-1), 1) by decide +kernel) ?_
  refine j_iast (n := 2) (show decode cX8_init 59 = .ok (.iastore, 1) by decide +kernel) (okr (n := 299) rfl (by decide) (by decide)) (by decide) (by decide) ?_
  refine j_dup (show (2 : Nat) ≠ 1 by decide) (show decode cX8_init 60 = .ok (.dup, 1) by decide +kernel) ?_
  refine j_iconst (show decode cX8_init 61 = .ok (.iconst 1, 1) by decide +kernel) ?_
  refine j_iconst (show decode cX8_init 62 = .ok (.iconst (-1), 1) by decide +kernel) ?_
  refine j_iast (n := 2) (show decode cX8_init 63 = .ok (.iastore, 1) by decide +kernel) (okr (n := 299) rfl (by decide) (by decide)) (by decide) (by decide) ?_
  refine pf_X8_27 rfl rfl (show decode cX8_init 64 = .ok (.putfield 27, 3) by decide +kernel) (okb (n := 299) rfl (by decide) (by decide)) (by decide) ?_
  refine J_cong (G' := mix 293 g (gr 0)) (σ' := mix 293 σ ti) ?_ ?_
  · intro c c0 c1 j hj
    have c1 : c ≤ (299 : Int) := c1
    rcases (show c < 293 ∨ c = 293 ∨ c = 294 ∨ c = 295 ∨ c = 296 ∨ c = 297 ∨ c = 298 ∨ c = 299 by omega) with e | e | e | e | e | e | e | e
    · refine ⟨(congrFun (mix_lo e) _).trans ?_, (congrFun (mix_lo e) _).trans ?_⟩
      · (try dsimp only); rw [up_row (by omega), zr_row (by omega), up_row (by omega), zr_row (by omega), up_row (by omega), zr_row (by omega), up_row (by omega), zr_row (by omega), up_row (by omega), zr_row (by omega), up_row (by omega), zr_row (by omega), zr_row (by omega)]
      · (try dsimp only); rw [up_row (by omega), up_row (by omega), zr_row (by omega), up_row (by omega), up_row (by omega), zr_row (by omega), zr_row (by omega), zr_row (by omega), zr_row (by omega), zr_row (by omega), zr_row (by omega)]
    · subst e; have hj : j < 8 := hj; rcases (show j = 0 ∨ j = 1 ∨ j = 2 ∨ j = 3 ∨ j = 4 ∨ j = 5 ∨ j = 6 ∨ j = 7 by omega) with rfl | rfl | rfl | rfl | rfl | rfl | rfl | rfl <;> exact ⟨rfl, rfl⟩
    · subst e; exact ⟨rfl, rfl⟩
    · subst e; exact ⟨rfl, rfl⟩
    · subst e; exact ⟨rfl, rfl⟩
    · subst e; exact ⟨rfl, rfl⟩
    · subst e; have hj : j < 2 := hj; rcases (show j = 0 ∨ j = 1 by omega) with rfl | rfl <;> exact ⟨rfl, rfl⟩
    · subst e; have hj : j < 2 := hj; rcases (show j = 0 ∨ j = 1 by omega) with rfl | rfl <;> exact ⟨rfl, rfl⟩
  · exact j_retA (rokV (show decode cX8_init 67 = .ok (.return_, 1) by decide +kernel) rfl) rfl (k uv rfl)
set_option maxRecDepth 8000 in
theorem n_X8_300 {d : Nat} {g σ : jM} {R : jV → jG → jM → Prop} (zg : ∀ j, g 300 j = 0) (zs : ∀ j, σ 300 j = 0) (k : ∀ r : jV, r.1 = 9 → R r (mix 300 g (gr 0), 306) (mix 300 σ ti)) : Cn mX8_init (d + 1) 6 [rv 300] (g, 300) σ R := by
  refine Cn_of (by decide +kernel) (Nat.le_of_ble_eq_true rfl) ?_
  refine J_cong (G' := zr g 300) (σ' := zr σ 300) (zr_ag zg zs) ?_
  refine s_aload_n (i := 0) (x := 300) rfl (show decode cX8_init 0 = .ok (.aload_n 0, 1) by decide +kernel) ?_
  refine j_objI (a := 300) (by decide) (tt_in 449 (by decide +kernel) rfl) (by omega) (Nat.le_of_ble_eq_true rfl) (show decode cX8_init 1 = .ok (.invokespecial 3, 3) by decide +kernel) ?_
  refine s_aload_n (i := 0) (x := 300) rfl (show decode cX8_init 4 = .ok (.aload_n 0, 1) by decide +kernel) ?_
  refine j_bipush (n := 24) (by decide +kernel) (show decode cX8_init 5 = .ok (.bipush 24, 2) by decide +kernel) ?_
  refine s_newa (t := 1) (N := 24) (c := 301) (n' := 301) (Or.inl ⟨rfl, rfl⟩) rfl (by decide) rfl rfl (by decide +kernel) (Nat.le_of_ble_eq_true rfl) (show decode cX8_init 7 = .ok (.newarray .int, 2) by decide +kernel) ?_
  refine pf_X8_11 rfl rfl (show decode cX8_init 9 = .ok (.putfield 11, 3) by decide +kernel) (okb (n := 301) rfl (by decide) (by decide)) (by decide) ?_
  refine s_aload_n (i := 0) (x := 300) rfl (show decode cX8_init 12 = .ok (.aload_n 0, 1) by decide +kernel) ?_
  refine j_bipush (n := 24) (by decide +kernel) (show decode cX8_init 13 = .ok (.bipush 24, 2) by decide +kernel) ?_
  refine s_newa (t := 1) (N := 24) (c := 302) (n' := 302) (Or.inl ⟨rfl, rfl⟩) rfl (by decide) rfl rfl (by decide +kernel) (Nat.le_of_ble_eq_true rfl) (show decode cX8_init 15 = .ok (.newarray .int, 2) by decide +kernel) ?_
  refine pf_X8_15 rfl rfl (show decode cX8_init 17 = .ok (.putfield 15, 3) by decide +kernel) (okb (n := 302) rfl (by decide) (by decide)) (by decide) ?_
  refine s_aload_n (i := 0) (x := 300) rfl (show decode cX8_init 20 = .ok (.aload_n 0, 1) by decide +kernel) ?_
  refine j_bipush (n := 24) (by decide +kernel) (show decode cX8_init 21 = .ok (.bipush 24, 2) by decide +kernel) ?_
  refine s_newa (t := 1) (N := 24) (c := 303) (n' := 303) (Or.inl ⟨rfl, rfl⟩) rfl (by decide) rfl rfl (by decide +kernel) (Nat.le_of_ble_eq_true rfl) (show decode cX8_init 23 = .ok (.newarray .int, 2) by decide +kernel) ?_
  refine pf_X8_18 rfl rfl (show decode cX8_init 25 = .ok (.putfield 18, 3) by decide +kernel) (okb (n := 303) rfl (by decide) (by decide)) (by decide) ?_
  refine s_aload_n (i := 0) (x := 300) rfl (show decode cX8_init 28 = .ok (.aload_n 0, 1) by decide +kernel) ?_
  refine j_sipush (n := 300) (by decide +kernel) (show decode cX8_init 29 = .ok (.sipush 300, 3) by decide +kernel) ?_
  refine s_newa (t := 1) (N := 300) (c := 304) (n' := 304) (Or.inl ⟨rfl, rfl⟩) rfl (by decide) rfl rfl (by decide +kernel) (Nat.le_of_ble_eq_true rfl) (show decode cX8_init 32 = .ok (.newarray .int, 2) by decide +kernel) ?_
  refine pf_X8_21 rfl rfl (show decode cX8_init 34 = .ok (.putfield 21, 3) by decide +kernel) (okb (n := 304) rfl (by decide) (by decide)) (by decide) ?_
  refine s_aload_n (i := 0) (x := 300) rfl (show decode cX8_init 37 = .ok (.aload_n 0, 1) by decide +kernel) ?_
  refine j_iconst (show decode cX8_init 38 = .ok (.iconst 2, 1) by decide +kernel) ?_
  refine s_newa (t := 1) (N := 2) (c := 305) (n' := 305) (Or.inl ⟨rfl, rfl⟩) rfl (by decide) rfl rfl (by decide +kernel) (Nat.le_of_ble_eq_true rfl) (show decode cX8_init 39 = .ok (.newarray .int, 2) by decide +kernel) ?_
  refine j_dup (show (2 : Nat) ≠ 1 by decide) (show decode cX8_init 41 = .ok (.dup, 1) by decide +kernel) ?_
  refine j_iconst (show decode cX8_init 42 = .ok (.iconst 0, 1) by decide +kernel) ?_
  refine j_iconst (show decode cX8_init 43 = .ok (.iconst (-1), 1) by decide +kernel) ?_
  refine j_iast (n := 2) (show decode cX8_init 44 = .ok (.iastore, 1) by decide +kernel) (okr (n := 305) rfl (by decide) (by decide)) (by decide) (by decide) ?_
  refine j_dup (show (2 : Nat) ≠ 1 by decide) (show decode cX8_init 45 = .ok (.dup, 1) by decide +kernel) ?_
  refine j_iconst (show decode cX8_init 46 = .ok (.iconst 1, 1) by decide +kernel) ?_
  refine j_iconst (show decode cX8_init 47 = .ok (.iconst (-1), 1) by decide +kernel) ?_
  refine j_iast (n := 2) (show decode cX8_init 48 = .ok (.iastore, 1) by decide +kernel) (okr (n := 305) rfl (by decide) (by decide)) (by decide) (by decide) ?_
  refine pf_X8_24 rfl rfl (show decode cX8_init 49 = .ok (.putfield 24, 3) by decide +kernel) (okb (n := 305) rfl (by decide) (by decide)) (by decide) ?_
  refine s_aload_n (i := 0) (x := 300) rfl (show decode cX8_init 52 = .ok (.aload_n 0, 1) by decide +kernel) ?_
  refine j_iconst (show decode cX8_init 53 = .ok (.iconst 2, 1) by decide +kernel) ?_
  refine s_newa (t := 1) (N := 2) (c := 306) (n' := 306) (Or.inl ⟨rfl, rfl⟩) rfl (by decide) rfl rfl (by decide +kernel) (Nat.le_of_ble_eq_true rfl) (show decode cX8_init 54 = .ok (.newarray .int, 2) by decide +kernel) ?_
  refine j_dup (show (2 : Nat) ≠ 1 by decide) (show decode cX8_init 56 = .ok (.dup, 1) by decide +kernel) ?_
  refine j_iconst (show decode cX8_init 57 = .ok (.iconst 0, 1) by decide +kernel) ?_
  refine j_iconst (show decode cX8_init 58 = .ok (.iconst (-1), 1) by decide +kernel) ?_
  refine j_iast (n := 2) (show decode cX8_init 59 = .ok (.iastore, 1) by decide +kernel) (okr (n := 306) rfl (by decide) (by decide)) (by decide) (by decide) ?_
  refine j_dup (show (2 : Nat) ≠ 1 by decide) (show decode cX8_init 60 = .ok (.dup, 1) by decide +kernel) ?_
  refine j_iconst (show decode cX8_init 61 = .ok (.iconst 1, 1) by decide +kernel) ?_
  refine j_iconst (show decode cX8_init 62 = .ok (.iconst (-1), 1) by decide +kernel) ?_
  refine j_iast (n := 2) (show decode cX8_init 63 = .ok (.iastore, 1) by decide +kernel) (okr (n := 306) rfl (by decide) (by decide)) (by decide) (by decide) ?_
  refine pf_X8_27 rfl rfl (show decode cX8_init 64 = .ok (.putfield 27, 3) by decide +kernel) (okb (n := 306) rfl (by decide) (by decide)) (by decide) ?_
  refine J_cong (G' := mix 300 g (gr 0)) (σ' := mix 300 σ ti) ?_ ?_
  · intro c c0 c1 j hj
    have c1 : c ≤ (306 : Int) := c1
    rcases (show c < 300 ∨ c = 300 ∨ c = 301 ∨ c = 302 ∨ c = 303 ∨ c = 304 ∨ c = 305 ∨ c = 306 by omega) with e | e | e | e | e | e | e | e
    · refine ⟨(congrFun (mix_lo e) _).trans ?_, (congrFun (mix_lo e) _).trans ?_⟩
      · (try dsimp only); rw [up_row (by omega), zr_row (by omega), up_row (by omega), zr_row (by omega), up_row (by omega), zr_row (by omega), up_row (by omega), zr_row (by omega), up_row (by omega), zr_row (by omega), up_row (by omega), zr_row (by omega), zr_row (by omega)]
      · (try dsimp only); rw [up_row (by omega), up_row (by omega), zr_row (by omega), up_row (by omega), up_row (by omega), zr_row (by omega), zr_row (by omega), zr_row (by omega), zr_row (by omega), zr_row (by omega), zr_row (by omega)]
    · subst e; have hj : j < 8 := hj; rcases (show j = 0 ∨ j = 1 ∨ j = 2 ∨ j = 3 ∨ j = 4 ∨ j = 5 ∨ j = 6 ∨ j = 7 by omega) with rfl | rfl | rfl | rfl | rfl | rfl | rfl | rfl <;> exact ⟨rfl, rfl⟩
    · subst e; exact ⟨rfl, rfl⟩
    · subst e; exact ⟨rfl, rfl⟩
    · subst e; exact ⟨rfl, rfl⟩
    · subst e; exact ⟨rfl, rfl⟩
    · subst e; have hj : j < 2 := hj; rcases (show j = 0 ∨ j = 1 by omega) with rfl | rfl <;> exact ⟨rfl, rfl⟩
    · subst e; have hj : j < 2 := hj; rcases (show j = 0 ∨ j = 1 by omega) with rfl | rfl <;> exact ⟨rfl, rfl⟩
  · exact j_retA (rokV (show decode cX8_init 67 = .ok (.return_, 1) by decide +kernel) rfl) rfl (k uv rfl)
set_option maxRecDepth 8000 in
theorem n_X8_307 {d : Nat} {g σ : jM} {R : jV → jG → jM → Prop} (zg : ∀ j, g 307 j = 0) (zs : ∀ j, σ 307 j = 0) (k : ∀ r : jV, r.1 = 9 → R r (mix 307 g (gr 0), 313) (mix 307 σ ti)) : Cn mX8_init (d + 1) 6 [rv 307] (g, 307) σ R := by
  refine Cn_of (by decide +kernel) (Nat.le_of_ble_eq_true rfl) ?_
  refine J_cong (G' := zr g 307) (σ' := zr σ 307) (zr_ag zg zs) ?_
  refine s_aload_n (i := 0) (x := 307) rfl (show decode cX8_init 0 = .ok (.aload_n 0, 1) by decide +kernel) ?_
  refine j_objI (a := 307) (by decide) (tt_in 449 (by decide +kernel) rfl) (by omega) (Nat.le_of_ble_eq_true rfl) (show decode cX8_init 1 = .ok (.invokespecial 3, 3) by decide +kernel) ?_
  refine s_aload_n (i := 0) (x := 307) rfl (show decode cX8_init 4 = .ok (.aload_n 0, 1) by decide +kernel) ?_
  refine j_bipush (n := 24) (by decide +kernel) (show decode cX8_init 5 = .ok (.bipush 24, 2) by decide +kernel) ?_
  refine s_newa (t := 1) (N := 24) (c := 308) (n' := 308) (Or.inl ⟨rfl, rfl⟩) rfl (by decide) rfl rfl (by decide +kernel) (Nat.le_of_ble_eq_true rfl) (show decode cX8_init 7 = .ok (.newarray .int, 2) by decide +kernel) ?_
  refine pf_X8_11 rfl rfl (show decode cX8_init 9 = .ok (.putfield 11, 3) by decide +kernel) (okb (n := 308) rfl (by decide) (by decide)) (by decide) ?_
  refine s_aload_n (i := 0) (x := 307) rfl (show decode cX8_init 12 = .ok (.aload_n 0, 1) by decide +kernel) ?_
  refine j_bipush (n := 24) (by decide +kernel) (show decode cX8_init 13 = .ok (.bipush 24, 2) by decide +kernel) ?_
  refine s_newa (t := 1) (N := 24) (c := 309) (n' := 309) (Or.inl ⟨rfl, rfl⟩) rfl (by decide) rfl rfl (by decide +kernel) (Nat.le_of_ble_eq_true rfl) (show decode cX8_init 15 = .ok (.newarray .int, 2) by decide +kernel) ?_
  refine pf_X8_15 rfl rfl (show decode cX8_init 17 = .ok (.putfield 15, 3) by decide +kernel) (okb (n := 309) rfl (by decide) (by decide)) (by decide) ?_
  refine s_aload_n (i := 0) (x := 307) rfl (show decode cX8_init 20 = .ok (.aload_n 0, 1) by decide +kernel) ?_
  refine j_bipush (n := 24) (by decide +kernel) (show decode cX8_init 21 = .ok (.bipush 24, 2) by decide +kernel) ?_
  refine s_newa (t := 1) (N := 24) (c := 310) (n' := 310) (Or.inl ⟨rfl, rfl⟩) rfl (by decide) rfl rfl (by decide +kernel) (Nat.le_of_ble_eq_true rfl) (show decode cX8_init 23 = .ok (.newarray .int, 2) by decide +kernel) ?_
  refine pf_X8_18 rfl rfl (show decode cX8_init 25 = .ok (.putfield 18, 3) by decide +kernel) (okb (n := 310) rfl (by decide) (by decide)) (by decide) ?_
  refine s_aload_n (i := 0) (x := 307) rfl (show decode cX8_init 28 = .ok (.aload_n 0, 1) by decide +kernel) ?_
  refine j_sipush (n := 300) (by decide +kernel) (show decode cX8_init 29 = .ok (.sipush 300, 3) by decide +kernel) ?_
  refine s_newa (t := 1) (N := 300) (c := 311) (n' := 311) (Or.inl ⟨rfl, rfl⟩) rfl (by decide) rfl rfl (by decide +kernel) (Nat.le_of_ble_eq_true rfl) (show decode cX8_init 32 = .ok (.newarray .int, 2) by decide +kernel) ?_
  refine pf_X8_21 rfl rfl (show decode cX8_init 34 = .ok (.putfield 21, 3) by decide +kernel) (okb (n := 311) rfl (by decide) (by decide)) (by decide) ?_
  refine s_aload_n (i := 0) (x := 307) rfl (show decode cX8_init 37 = .ok (.aload_n 0, 1) by decide +kernel) ?_
  refine j_iconst (show decode cX8_init 38 = .ok (.iconst 2, 1) by decide +kernel) ?_
  refine s_newa (t := 1) (N := 2) (c := 312) (n' := 312) (Or.inl ⟨rfl, rfl⟩) rfl (by decide) rfl rfl (by decide +kernel) (Nat.le_of_ble_eq_true rfl) (show decode cX8_init 39 = .ok (.newarray .int, 2) by decide +kernel) ?_
  refine j_dup (show (2 : Nat) ≠ 1 by decide) (show decode cX8_init 41 = .ok (.dup, 1) by decide +kernel) ?_
  refine j_iconst (show decode cX8_init 42 = .ok (.iconst 0, 1) by decide +kernel) ?_
  refine j_iconst (show decode cX8_init 43 = .ok (.iconst (-1), 1) by decide +kernel) ?_
  refine j_iast (n := 2) (show decode cX8_init 44 = .ok (.iastore, 1) by decide +kernel) (okr (n := 312) rfl (by decide) (by decide)) (by decide) (by decide) ?_
  refine j_dup (show (2 : Nat) ≠ 1 by decide) (show decode cX8_init 45 = .ok (.dup, 1) by decide +kernel) ?_
  refine j_iconst (show decode cX8_init 46 = .ok (.iconst 1, 1) by decide +kernel) ?_
  refine j_iconst (show decode cX8_init 47 = .ok (.iconst (-1), 1) by decide +kernel) ?_
  refine j_iast (n := 2) (show decode cX8_init 48 = .ok (.iastore, 1) by decide +kernel) (okr (n := 312) rfl (by decide) (by decide)) (by decide) (by decide) ?_
  refine pf_X8_24 rfl rfl (show decode cX8_init 49 = .ok (.putfield 24, 3) by decide +kernel) (okb (n := 312) rfl (by decide) (by decide)) (by decide) ?_
  refine s_aload_n (i := 0) (x := 307) rfl (show decode cX8_init 52 = .ok (.aload_n 0, 1) by decide +kernel) ?_
  refine j_iconst (show decode cX8_init 53 = .ok (.iconst 2, 1) by decide +kernel) ?_
  refine s_newa (t := 1) (N := 2) (c := 313) (n' := 313) (Or.inl ⟨rfl, rfl⟩) rfl (by decide) rfl rfl (by decide +kernel) (Nat.le_of_ble_eq_true rfl) (show decode cX8_init 54 = .ok (.newarray .int, 2) by decide +kernel) ?_
  refine j_dup (show (2 : Nat) ≠ 1 by decide) (show decode cX8_init 56 = .ok (.dup, 1) by decide +kernel) ?_
  refine j_iconst (show decode cX8_init 57 = .ok (.iconst 0, 1) by decide +kernel) ?_
  refine j_iconst (show decode cX8_init 58 = .ok (.iconst (-1), 1) by decide +kernel) ?_
  refine j_iast (n := 2) (show decode cX8_init 59 = .ok (.iastore, 1) by decide +kernel) (okr (n := 313) rfl (by decide) (by decide)) (by decide) (by decide) ?_
  refine j_dup (show (2 : Nat) ≠ 1 by decide) (show decode cX8_init 60 = .ok (.dup, 1) by decide +kernel) ?_
  refine j_iconst (show decode cX8_init 61 = .ok (.iconst 1, 1) by decide +kernel) ?_
  refine j_iconst (show decode cX8_init 62 = .ok (.iconst (-1), 1) by decide +kernel) ?_
  refine j_iast (n := 2) (show decode cX8_init 63 = .ok (.iastore, 1) by decide +kernel) (okr (n := 313) rfl (by decide) (by decide)) (by decide) (by decide) ?_
  refine pf_X8_27 rfl rfl (show decode cX8_init 64 = .ok (.putfield 27, 3) by decide +kernel) (okb (n := 313) rfl (by decide) (by decide)) (by decide) ?_
  refine J_cong (G' := mix 307 g (gr 0)) (σ' := mix 307 σ ti) ?_ ?_
  · intro c c0 c1 j hj
    have c1 : c ≤ (313 : Int) := c1
    rcases (show c < 307 ∨ c = 307 ∨ c = 308 ∨ c = 309 ∨ c = 310 ∨ c = 311 ∨ c = 312 ∨ c = 313 by omega) with e | e | e | e | e | e | e | e
    · refine ⟨(congrFun (mix_lo e) _).trans ?_, (congrFun (mix_lo e) _).trans ?_⟩
      · (try dsimp only); rw [up_row (by omega), zr_row (by omega), up_row (by omega), zr_row (by omega), up_row (by omega), zr_row (by omega), up_row (by omega), zr_row (by omega), up_row (by omega), zr_row (by omega), up_row (by omega), zr_row (by omega), zr_row (by omega)]
      · (try dsimp only); rw [up_row (by omega), up_row (by omega), zr_row (by omega), up_row (by omega), up_row (by omega), zr_row (by omega), zr_row (by omega), zr_row (by omega), zr_row (by omega), zr_row (by omega), zr_row (by omega)]
    · subst e; have hj : j < 8 := hj; rcases (show j = 0 ∨ j = 1 ∨ j = 2 ∨ j = 3 ∨ j = 4 ∨ j = 5 ∨ j = 6 ∨ j = 7 by omega) with rfl | rfl | rfl | rfl | rfl | rfl | rfl | rfl <;> exact ⟨rfl, rfl⟩
    · subst e; exact ⟨rfl, rfl⟩
    · subst e; exact ⟨rfl, rfl⟩
    · subst e; exact ⟨rfl, rfl⟩
    · subst e; exact ⟨rfl, rfl⟩
    · subst e; have hj : j < 2 := hj; rcases (show j = 0 ∨ j = 1 by omega) with rfl | rfl <;> exact ⟨rfl, rfl⟩
    · subst e; have hj : j < 2 := hj; rcases (show j = 0 ∨ j = 1 by omega) with rfl | rfl <;> exact ⟨rfl, rfl⟩
  · exact j_retA (rokV (show decode cX8_init 67 = .ok (.return_, 1) by decide +kernel) rfl) rfl (k uv rfl)
set_option maxRecDepth 8000 in
theorem n_X8_314 {d : Nat} {g σ : jM} {R : jV → jG → jM → Prop} (zg : ∀ j, g 314 j = 0) (zs : ∀ j, σ 314 j = 0) (k : ∀ r : jV, r.1 = 9 → R r (mix 314 g (gr 0), 320) (mix 314 σ ti)) : Cn mX8_init (d + 1) 6 [rv 314] (g, 314) σ R := by
  refine Cn_of (by decide +kernel) (Nat.le_of_ble_eq_true rfl) ?_
  refine J_cong (G' := zr g 314) (σ' := zr σ 314) (zr_ag zg zs) ?_
  refine s_aload_n (i := 0) (x := 314) rfl (show decode cX8_init 0 = .ok (.aload_n 0, 1) by decide +kernel) ?_
  refine j_objI (a := 314) (by decide) (tt_in 449 (by decide +kernel) rfl) (by omega) (Nat.le_of_ble_eq_true rfl) (show decode cX8_init 1 = .ok (.invokespecial 3, 3) by decide +kernel) ?_
  refine s_aload_n (i := 0) (x := 314) rfl (show decode cX8_init 4 = .ok (.aload_n 0, 1) by decide +kernel) ?_
  refine j_bipush (n := 24) (by decide +kernel) (show decode cX8_init 5 = .ok (.bipush 24, 2) by decide +kernel) ?_
  refine s_newa (t := 1) (N := 24) (c := 315) (n' := 315) (Or.inl ⟨rfl, rfl⟩) rfl (by decide) rfl rfl (by decide +kernel) (Nat.le_of_ble_eq_true rfl) (show decode cX8_init 7 = .ok (.newarray .int, 2) by decide +kernel) ?_
  refine pf_X8_11 rfl rfl (show decode cX8_init 9 = .ok (.putfield 11, 3) by decide +kernel) (okb (n := 315) rfl (by decide) (by decide)) (by decide) ?_
  refine s_aload_n (i := 0) (x := 314) rfl (show decode cX8_init 12 = .ok (.aload_n 0, 1) by decide +kernel) ?_
  refine j_bipush (n := 24) (by decide +kernel) (show decode cX8_init 13 = .ok (.bipush 24, 2) by decide +kernel) ?_
  refine s_newa (t := 1) (N := 24) (c := 316) (n' := 316) (Or.inl ⟨rfl, rfl⟩) rfl (by decide) rfl rfl (by decide +kernel) (Nat.le_of_ble_eq_true rfl) (show decode cX8_init 15 = .ok (.newarray .int, 2) by decide +kernel) ?_
  refine pf_X8_15 rfl rfl (show decode cX8_init 17 = .ok (.putfield 15, 3) by decide +kernel) (okb (n := 316) rfl (by decide) (by decide)) (by decide) ?_
  refine s_aload_n (i := 0) (x := 314) rfl (show decode cX8_init 20 = .ok (.aload_n 0, 1) by decide +kernel) ?_
  refine j_bipush (n := 24) (by decide +kernel) (show decode cX8_init 21 = .ok (.bipush 24, 2) by decide +kernel) ?_
  refine s_newa (t := 1) (N := 24) (c := 317) (n' := 317) (Or.inl ⟨rfl, rfl⟩) rfl (by decide) rfl rfl (by decide +kernel) (Nat.le_of_ble_eq_true rfl) (show decode cX8_init 23 = .ok (.newarray .int, 2) by decide +kernel) ?_
  refine pf_X8_18 rfl rfl (show decode cX8_init 25 = .ok (.putfield 18, 3) by decide +kernel) (okb (n := 317) rfl (by decide) (by decide)) (by decide) ?_
  refine s_aload_n (i := 0) (x := 314) rfl (show decode cX8_init 28 = .ok (.aload_n 0, 1) by decide +kernel) ?_
  refine j_sipush (n := 300) (by decide +kernel) (show decode cX8_init 29 = .ok (.sipush 300, 3) by decide +kernel) ?_
  refine s_newa (t := 1) (N := 300) (c := 318) (n' := 318) (Or.inl ⟨rfl, rfl⟩) rfl (by decide) rfl rfl (by decide +kernel) (Nat.le_of_ble_eq_true rfl) (show decode cX8_init 32 = .ok (.newarray .int, 2) by decide +kernel) ?_
  refine pf_X8_21 rfl rfl (show decode cX8_init 34 = .ok (.putfield 21, 3) by decide +kernel) (okb (n := 318) rfl (by decide) (by decide)) (by decide) ?_
  refine s_aload_n (i := 0) (x := 314) rfl (show decode cX8_init 37 = .ok (.aload_n 0, 1) by decide +kernel) ?_
  refine j_iconst (show decode cX8_init 38 = .ok (.iconst 2, 1) by decide +kernel) ?_
  refine s_newa (t := 1) (N := 2) (c := 319) (n' := 319) (Or.inl ⟨rfl, rfl⟩) rfl (by decide) rfl rfl (by decide +kernel) (Nat.le_of_ble_eq_true rfl) (show decode cX8_init 39 = .ok (.newarray .int, 2) by decide +kernel) ?_
  refine j_dup (show (2 : Nat) ≠ 1 by decide) (show decode cX8_init 41 = .ok (.dup, 1) by decide +kernel) ?_
  refine j_iconst (show decode cX8_init 42 = .ok (.iconst 0, 1) by decide +kernel) ?_
  refine j_iconst (show decode cX8_init 43 = .ok (.iconst (-1), 1) by decide +kernel) ?_
  refine j_iast (n := 2) (show decode cX8_init 44 = .ok (.iastore, 1) by decide +kernel) (okr (n := 319) rfl (by decide) (by decide)) (by decide) (by decide) ?_
  refine j_dup (show (2 : Nat) ≠ 1 by decide) (show decode cX8_init 45 = .ok (.dup, 1) by decide +kernel) ?_
  refine j_iconst (show decode cX8_init 46 = .ok (.iconst 1, 1) by decide +kernel) ?_
  refine j_iconst (show decode cX8_init 47 = .ok (.iconst (-1), 1) by decide +kernel) ?_
  refine j_iast (n := 2) (show decode cX8_init 48 = .ok (.iastore, 1) by decide +kernel) (okr (n := 319) rfl (by decide) (by decide)) (by decide) (by decide) ?_
  refine pf_X8_24 rfl rfl (show decode cX8_init 49 = .ok (.putfield 24, 3) by decide +kernel) (okb (n := 319) rfl (by decide) (by decide)) (by decide) ?_
  refine s_aload_n (i := 0) (x := 314) rfl (show decode cX8_init 52 = .ok (.aload_n 0, 1) by decide +kernel) ?_
  refine j_iconst (show decode cX8_init 53 = .ok (.iconst 2, 1) by decide +kernel) ?_
  refine s_newa (t := 1) (N := 2) (c := 320) (n' := 320) (Or.inl ⟨rfl, rfl⟩) rfl (by decide) rfl rfl (by decide +kernel) (Nat.le_of_ble_eq_true rfl) (show decode cX8_init 54 = .ok (.newarray .int, 2) by decide +kernel) ?_
  refine j_dup (show (2 : Nat) ≠ 1 by decide) (show decode cX8_init 56 = .ok (.dup, 1) by decide +kernel) ?_
  refine j_iconst (show decode cX8_init 57 = .ok (.iconst 0, 1) by decide +kernel) ?_
  refine j_iconst (show decode cX8_init 58 = .ok (.iconst (-1), 1) by decide +kernel) ?_
  refine j_iast (n := 2) (show decode cX8_init 59 = .ok (.iastore, 1) by decide +kernel) (okr (n := 320) rfl (by decide) (by decide)) (by decide) (by decide) ?_
  refine j_dup (show (2 : Nat) ≠ 1 by decide) (show decode cX8_init 60 = .ok (.dup, 1) by decide +kernel) ?_
  refine j_iconst (show decode cX8_init 61 = .ok (.iconst 1, 1) by decide +kernel) ?_
  refine j_iconst (show decode cX8_init 62 = .ok (.iconst (-1), 1) by decide +kernel) ?_
  refine j_iast (n := 2) (show decode cX8_init 63 = .ok (.iastore, 1) by decide +kernel) (okr (n := 320) rfl (by decide) (by decide)) (by decide) (by decide) ?_
  refine pf_X8_27 rfl rfl (show decode cX8_init 64 = .ok (.putfield 27, 3) by decide +kernel) (okb (n := 320) rfl (by decide) (by decide)) (by decide) ?_
  refine J_cong (G' := mix 314 g (gr 0)) (σ' := mix 314 σ ti) ?_ ?_
  · intro c c0 c1 j hj
    have c1 : c ≤ (320 : Int) := c1
    rcases (show c < 314 ∨ c = 314 ∨ c = 315 ∨ c = 316 ∨ c = 317 ∨ c = 318 ∨ c = 319 ∨ c = 320 by omega) with e | e | e | e | e | e | e | e
    · refine ⟨(congrFun (mix_lo e) _).trans ?_, (congrFun (mix_lo e) _).trans ?_⟩
      · (try dsimp only); rw [up_row (by omega), zr_row (by omega), up_row (by omega), zr_row (by omega), up_row (by omega), zr_row (by omega), up_row (by omega), zr_row (by omega), up_row (by omega), zr_row (by omega), up_row (by omega), zr_row (by omega), zr_row (by omega)]
      · (try dsimp only); rw [up_row (by omega), up_row (by omega), zr_row (by omega), up_row (by omega), up_row (by omega), zr_row (by omega), zr_row (by omega), zr_row (by omega), zr_row (by omega), zr_row (by omega), zr_row (by omega)]
    · subst e; have hj : j < 8 := hj; rcases (show j = 0 ∨ j = 1 ∨ j = 2 ∨ j = 3 ∨ j = 4 ∨ j = 5 ∨ j = 6 ∨ j = 7 by omega) with rfl | rfl | rfl | rfl | rfl | rfl | rfl | rfl <;> exact ⟨rfl, rfl⟩
    · subst e; exact ⟨rfl, rfl⟩
    · subst e; exact ⟨rfl, rfl⟩
    · subst e; exact ⟨rfl, rfl⟩
    · subst e; exact ⟨rfl, rfl⟩
    · subst e; have hj : j < 2 := hj; rcases (show j = 0 ∨ j = 1 by omega) with rfl | rfl <;> exact ⟨rfl, rfl⟩
    · subst e; have hj : j < 2 := hj; rcases (show j = 0 ∨ j = 1 by omega) with rfl | rfl <;> exact ⟨rfl, rfl⟩
  · exact j_retA (rokV (show decode cX8_init 67 = .ok (.return_, 1) by decide +kernel) rfl) rfl (k uv rfl)
