/-! ===== the law: its calls (printed by wip/whole/gen_cases.py) ===== -/
section LC
variable {Sc : Nat × (Nat → Int32)}
set_option maxRecDepth 8000 in
theorem lw_spoons {t i : Int} {σ : jM} {L : LT} (hL : Sc.1 ≤ 3072) (hi : 0 ≤ i ∧ i + 6 ≤ (Sc.1 : Int)) (v : IVL L σ) (k : ∀ t' σ' L', IVL L' σ' → JS Sc mL 401 0 340 PL 18 [(3, 0), rv 1, rv 321, iv (i + 6)] [] (GG t') σ') : JS Sc mL 401 0 340 PL 909 [(3, 0), rv 1, rv 321, iv i] [] (GG t) σ := by
  refine y_aload_n (i := 1) (v := rv 1) rfl (Or.inl rfl) (show decode code 909 = .ok (.aload_n 1, 1) by decide +kernel) ?_
  refine y_aload_n (i := 0) (v := (3, 0)) rfl (Or.inr (Or.inl rfl)) (show decode code 910 = .ok (.aload_n 0, 1) by decide +kernel) ?_
  refine y_iload_n (i := 3) (x := i) rfl (show decode code 911 = .ok (.iload_n 3, 1) by decide +kernel) ?_
  refine y_iconst (show decode code 912 = .ok (.iconst 1, 1) by decide +kernel) ?_
  refine y_iadd (show decode code 913 = .ok (.iadd, 1) by decide +kernel) ?_
  refine y_sald (show decode code 914 = .ok (.iaload, 1) by decide +kernel) hL (by omega) ?_
  refine y_ctV (m' := mX11_spoons) (t := t) (ci := 11) (tag := 0) (a := 1) (As := [iv (sv Sc (i + 1))]) (F := fun r σ1 => (inR r) ∧ ∀ (d2 : Nat) (Q2 : Int → jM → Prop), (∀ r' σ2, r' = r → I0 L σ2 → K1 σ2 → KR σ2 → KP σ2 → σ2 288 = σ 288 → Q2 r' σ2) → Ct mX12_spoons (d2 + 11) 0 t [rv 321, iv (sv Sc (i + 1))] σ1 Q2) (cw_L_116 rfl) (show decode code 915 = .ok (.invokevirtual 116, 3) by decide +kernel) rfl (Nat.le_of_ble_eq_true rfl) (by decide) okl_1 rfl rfl (Nat.le_refl _) (a_spoons 360 v.1 v.2.1 v.2.2.1 v.2.2.2.2 sv_R (fun r σ1 c h => ⟨c, h⟩)) (fun r σ1 hh => ?_)
  refine y_aload_n (i := 2) (v := rv 321) rfl (Or.inl rfl) (show decode code 918 = .ok (.aload_n 2, 1) by decide +kernel) ?_
  refine y_aload_n (i := 0) (v := (3, 0)) rfl (Or.inr (Or.inl rfl)) (show decode code 919 = .ok (.aload_n 0, 1) by decide +kernel) ?_
  refine y_iload_n (i := 3) (x := i) rfl (show decode code 920 = .ok (.iload_n 3, 1) by decide +kernel) ?_
  refine y_iconst (show decode code 921 = .ok (.iconst 1, 1) by decide +kernel) ?_
  refine y_iadd (show decode code 922 = .ok (.iadd, 1) by decide +kernel) ?_
  refine y_sald (show decode code 923 = .ok (.iaload, 1) by decide +kernel) hL (by omega) ?_
  refine y_ctV (m' := mX12_spoons) (t := t) (ci := 12) (tag := 0) (a := 321) (As := [iv (sv Sc (i + 1))]) (F := fun r' σ2 => r' = r ∧ inR r ∧ IVL L σ2) (cw_L_119 rfl) (show decode code 924 = .ok (.invokevirtual 119, 3) by decide +kernel) rfl (Nat.le_of_ble_eq_true rfl) (by decide) okl_321 rfl rfl (Nat.le_refl _) (hh.2 389 _ (fun r' σ2 e1 e2 e3 e4 e5 e6 => ⟨e1, hh.1, e2, e3, e4, KS_row v.2.2.2.1 e6, e5⟩)) (fun r' σ2 hs => ?_)
  obtain ⟨e, hr, v2⟩ := hs
  subst e
  refine y_icmp_eq (tgt := 1404) hr hr (show decode code 927 = .ok (.if_icmp .eq 477, 3) by decide +kernel) (by decide) (fun _ => ?_) (fun z => absurd rfl z)
  exact lw_1404 (k t σ2 L v2)
set_option maxRecDepth 8000 in
theorem lw_both {t i : Int} {σ : jM} {L : LT} (hL : Sc.1 ≤ 3072) (hi : 0 ≤ i ∧ i + 6 ≤ (Sc.1 : Int)) (v : IVL L σ) (k : ∀ t' σ' L', IVL L' σ' → JS Sc mL 401 0 340 PL 18 [(3, 0), rv 1, rv 321, iv (i + 6)] [] (GG t') σ') : JS Sc mL 401 0 340 PL 932 [(3, 0), rv 1, rv 321, iv i] [] (GG t) σ := by
  refine y_aload_n (i := 1) (v := rv 1) rfl (Or.inl rfl) (show decode code 932 = .ok (.aload_n 1, 1) by decide +kernel) ?_
  refine y_aload_n (i := 0) (v := (3, 0)) rfl (Or.inr (Or.inl rfl)) (show decode code 933 = .ok (.aload_n 0, 1) by decide +kernel) ?_
  refine y_iload_n (i := 3) (x := i) rfl (show decode code 934 = .ok (.iload_n 3, 1) by decide +kernel) ?_
  refine y_iconst (show decode code 935 = .ok (.iconst 1, 1) by decide +kernel) ?_
  refine y_iadd (show decode code 936 = .ok (.iadd, 1) by decide +kernel) ?_
  refine y_sald (show decode code 937 = .ok (.iaload, 1) by decide +kernel) hL (by omega) ?_
  refine y_aload_n (i := 0) (v := (3, 0)) rfl (Or.inr (Or.inl rfl)) (show decode code 938 = .ok (.aload_n 0, 1) by decide +kernel) ?_
  refine y_iload_n (i := 3) (x := i) rfl (show decode code 939 = .ok (.iload_n 3, 1) by decide +kernel) ?_
  refine y_iconst (show decode code 940 = .ok (.iconst 2, 1) by decide +kernel) ?_
  refine y_iadd (show decode code 941 = .ok (.iadd, 1) by decide +kernel) ?_
  refine y_sald (show decode code 942 = .ok (.iaload, 1) by decide +kernel) hL (by omega) ?_
  refine y_ctV (m' := mX11_both) (t := t) (ci := 11) (tag := 0) (a := 1) (As := [iv (sv Sc (i + 1)), iv (sv Sc (i + 2))]) (F := fun r σ1 => (inR r) ∧ ∀ (d2 : Nat) (Q2 : Int → jM → Prop), (∀ r' σ2, SameN L σ r r' σ2 → Q2 r' σ2) → Ct mX12_both (d2 + 11) 0 t [rv 321, iv (sv Sc (i + 1)), iv (sv Sc (i + 2))] σ1 Q2) (cw_L_120 rfl) (show decode code 943 = .ok (.invokevirtual 120, 3) by decide +kernel) rfl (Nat.le_of_ble_eq_true rfl) (by decide) okl_1 rfl rfl (Nat.le_refl _) (a_both 360 v.1 v.2.1 v.2.2.1 sv_R sv_R (fun r σ1 c h => ⟨c, h⟩)) (fun r σ1 hh => ?_)
  refine y_aload_n (i := 2) (v := rv 321) rfl (Or.inl rfl) (show decode code 946 = .ok (.aload_n 2, 1) by decide +kernel) ?_
  refine y_aload_n (i := 0) (v := (3, 0)) rfl (Or.inr (Or.inl rfl)) (show decode code 947 = .ok (.aload_n 0, 1) by decide +kernel) ?_
  refine y_iload_n (i := 3) (x := i) rfl (show decode code 948 = .ok (.iload_n 3, 1) by decide +kernel) ?_
  refine y_iconst (show decode code 949 = .ok (.iconst 1, 1) by decide +kernel) ?_
  refine y_iadd (show decode code 950 = .ok (.iadd, 1) by decide +kernel) ?_
  refine y_sald (show decode code 951 = .ok (.iaload, 1) by decide +kernel) hL (by omega) ?_
  refine y_aload_n (i := 0) (v := (3, 0)) rfl (Or.inr (Or.inl rfl)) (show decode code 952 = .ok (.aload_n 0, 1) by decide +kernel) ?_
  refine y_iload_n (i := 3) (x := i) rfl (show decode code 953 = .ok (.iload_n 3, 1) by decide +kernel) ?_
  refine y_iconst (show decode code 954 = .ok (.iconst 2, 1) by decide +kernel) ?_
  refine y_iadd (show decode code 955 = .ok (.iadd, 1) by decide +kernel) ?_
  refine y_sald (show decode code 956 = .ok (.iaload, 1) by decide +kernel) hL (by omega) ?_
  refine y_ctV (m' := mX12_both) (t := t) (ci := 12) (tag := 0) (a := 321) (As := [iv (sv Sc (i + 1)), iv (sv Sc (i + 2))]) (F := fun r' σ2 => r' = r ∧ inR r ∧ IVL L σ2) (cw_L_123 rfl) (show decode code 957 = .ok (.invokevirtual 123, 3) by decide +kernel) rfl (Nat.le_of_ble_eq_true rfl) (by decide) okl_321 rfl rfl (Nat.le_refl _) (hh.2 389 _ (fun r' σ2 h => ⟨h.1, hh.1, iv_sameN v h⟩)) (fun r' σ2 hs => ?_)
  obtain ⟨e, hr, v2⟩ := hs
  subst e
  refine y_icmp_eq (tgt := 1404) hr hr (show decode code 960 = .ok (.if_icmp .eq 444, 3) by decide +kernel) (by decide) (fun _ => ?_) (fun z => absurd rfl z)
  exact lw_1404 (k t σ2 L v2)
set_option maxRecDepth 8000 in
theorem lw_order {t i : Int} {σ : jM} {L : LT} (hL : Sc.1 ≤ 3072) (hi : 0 ≤ i ∧ i + 6 ≤ (Sc.1 : Int)) (v : IVL L σ) (k : ∀ t' σ' L', IVL L' σ' → JS Sc mL 401 0 340 PL 18 [(3, 0), rv 1, rv 321, iv (i + 6)] [] (GG t') σ') : JS Sc mL 401 0 340 PL 965 [(3, 0), rv 1, rv 321, iv i] [] (GG t) σ := by
  refine y_aload_n (i := 1) (v := rv 1) rfl (Or.inl rfl) (show decode code 965 = .ok (.aload_n 1, 1) by decide +kernel) ?_
  refine y_aload_n (i := 0) (v := (3, 0)) rfl (Or.inr (Or.inl rfl)) (show decode code 966 = .ok (.aload_n 0, 1) by decide +kernel) ?_
  refine y_iload_n (i := 3) (x := i) rfl (show decode code 967 = .ok (.iload_n 3, 1) by decide +kernel) ?_
  refine y_iconst (show decode code 968 = .ok (.iconst 1, 1) by decide +kernel) ?_
  refine y_iadd (show decode code 969 = .ok (.iadd, 1) by decide +kernel) ?_
  refine y_sald (show decode code 970 = .ok (.iaload, 1) by decide +kernel) hL (by omega) ?_
  refine y_ctV (m' := mX11_order) (t := t) (ci := 11) (tag := 0) (a := 1) (As := [iv (sv Sc (i + 1))]) (F := fun r σ1 => (True) ∧ ∀ (d2 : Nat) (Q2 : Int → jM → Prop), (∀ r' σ2, Same L σ r r' σ2 → Q2 r' σ2) → Ct mX12_order (d2 + 11) 0 t [rv 321, iv (sv Sc (i + 1))] σ1 Q2) (cw_L_124 rfl) (show decode code 971 = .ok (.invokevirtual 124, 3) by decide +kernel) rfl (Nat.le_of_ble_eq_true rfl) (by decide) okl_1 rfl rfl (Nat.le_refl _) (a_order 389 v.1  sv_R (fun r σ1 h => ⟨trivial, h⟩)) (fun r σ1 hh => ?_)
  refine y_aload_n (i := 2) (v := rv 321) rfl (Or.inl rfl) (show decode code 974 = .ok (.aload_n 2, 1) by decide +kernel) ?_
  refine y_aload_n (i := 0) (v := (3, 0)) rfl (Or.inr (Or.inl rfl)) (show decode code 975 = .ok (.aload_n 0, 1) by decide +kernel) ?_
  refine y_iload_n (i := 3) (x := i) rfl (show decode code 976 = .ok (.iload_n 3, 1) by decide +kernel) ?_
  refine y_iconst (show decode code 977 = .ok (.iconst 1, 1) by decide +kernel) ?_
  refine y_iadd (show decode code 978 = .ok (.iadd, 1) by decide +kernel) ?_
  refine y_sald (show decode code 979 = .ok (.iaload, 1) by decide +kernel) hL (by omega) ?_
  refine y_ctV (m' := mX12_order) (t := t) (ci := 12) (tag := 0) (a := 321) (As := [iv (sv Sc (i + 1))]) (F := fun r' σ2 => r' = r ∧ inR r ∧ IVL L σ2) (cw_L_127 rfl) (show decode code 980 = .ok (.invokevirtual 127, 3) by decide +kernel) rfl (Nat.le_of_ble_eq_true rfl) (by decide) okl_321 rfl rfl (Nat.le_refl _) (hh.2 389 _ (fun r' σ2 h => ⟨h.1, h.2.1, iv_same v h⟩)) (fun r' σ2 hs => ?_)
  obtain ⟨e, hr, v2⟩ := hs
  subst e
  refine y_icmp_eq (tgt := 1404) hr hr (show decode code 983 = .ok (.if_icmp .eq 421, 3) by decide +kernel) (by decide) (fun _ => ?_) (fun z => absurd rfl z)
  exact lw_1404 (k t σ2 L v2)
set_option maxRecDepth 8000 in
theorem lw_made {t i : Int} {σ : jM} {L : LT} (hL : Sc.1 ≤ 3072) (hi : 0 ≤ i ∧ i + 6 ≤ (Sc.1 : Int)) (v : IVL L σ) (k : ∀ t' σ' L', IVL L' σ' → JS Sc mL 401 0 340 PL 18 [(3, 0), rv 1, rv 321, iv (i + 6)] [] (GG t') σ') : JS Sc mL 401 0 340 PL 988 [(3, 0), rv 1, rv 321, iv i] [] (GG t) σ := by
  refine y_aload_n (i := 1) (v := rv 1) rfl (Or.inl rfl) (show decode code 988 = .ok (.aload_n 1, 1) by decide +kernel) ?_
  refine y_aload_n (i := 0) (v := (3, 0)) rfl (Or.inr (Or.inl rfl)) (show decode code 989 = .ok (.aload_n 0, 1) by decide +kernel) ?_
  refine y_iload_n (i := 3) (x := i) rfl (show decode code 990 = .ok (.iload_n 3, 1) by decide +kernel) ?_
  refine y_iconst (show decode code 991 = .ok (.iconst 1, 1) by decide +kernel) ?_
  refine y_iadd (show decode code 992 = .ok (.iadd, 1) by decide +kernel) ?_
  refine y_sald (show decode code 993 = .ok (.iaload, 1) by decide +kernel) hL (by omega) ?_
  refine y_ctV (m' := mX11_made) (t := t) (ci := 11) (tag := 0) (a := 1) (As := [iv (sv Sc (i + 1))]) (F := fun r σ1 => (inR r) ∧ ∀ (d2 : Nat) (Q2 : Int → jM → Prop), (∀ r' σ2, SameN L σ r r' σ2 → Q2 r' σ2) → Ct mX12_made (d2 + 11) 0 t [rv 321, iv (sv Sc (i + 1))] σ1 Q2) (cw_L_128 rfl) (show decode code 994 = .ok (.invokevirtual 128, 3) by decide +kernel) rfl (Nat.le_of_ble_eq_true rfl) (by decide) okl_1 rfl rfl (Nat.le_refl _) (a_made 360 v.1 v.2.1 v.2.2.1 sv_R (fun r σ1 c h => ⟨c, h⟩)) (fun r σ1 hh => ?_)
  refine y_aload_n (i := 2) (v := rv 321) rfl (Or.inl rfl) (show decode code 997 = .ok (.aload_n 2, 1) by decide +kernel) ?_
  refine y_aload_n (i := 0) (v := (3, 0)) rfl (Or.inr (Or.inl rfl)) (show decode code 998 = .ok (.aload_n 0, 1) by decide +kernel) ?_
  refine y_iload_n (i := 3) (x := i) rfl (show decode code 999 = .ok (.iload_n 3, 1) by decide +kernel) ?_
  refine y_iconst (show decode code 1000 = .ok (.iconst 1, 1) by decide +kernel) ?_
  refine y_iadd (show decode code 1001 = .ok (.iadd, 1) by decide +kernel) ?_
  refine y_sald (show decode code 1002 = .ok (.iaload, 1) by decide +kernel) hL (by omega) ?_
  refine y_ctV (m' := mX12_made) (t := t) (ci := 12) (tag := 0) (a := 321) (As := [iv (sv Sc (i + 1))]) (F := fun r' σ2 => r' = r ∧ inR r ∧ IVL L σ2) (cw_L_131 rfl) (show decode code 1003 = .ok (.invokevirtual 131, 3) by decide +kernel) rfl (Nat.le_of_ble_eq_true rfl) (by decide) okl_321 rfl rfl (Nat.le_refl _) (hh.2 389 _ (fun r' σ2 h => ⟨h.1, hh.1, iv_sameN v h⟩)) (fun r' σ2 hs => ?_)
  obtain ⟨e, hr, v2⟩ := hs
  subst e
  refine y_icmp_eq (tgt := 1404) hr hr (show decode code 1006 = .ok (.if_icmp .eq 398, 3) by decide +kernel) (by decide) (fun _ => ?_) (fun z => absurd rfl z)
  exact lw_1404 (k t σ2 L v2)
set_option maxRecDepth 8000 in
theorem lw_reach {t i : Int} {σ : jM} {L : LT} (hL : Sc.1 ≤ 3072) (hi : 0 ≤ i ∧ i + 6 ≤ (Sc.1 : Int)) (v : IVL L σ) (k : ∀ t' σ' L', IVL L' σ' → JS Sc mL 401 0 340 PL 18 [(3, 0), rv 1, rv 321, iv (i + 6)] [] (GG t') σ') : JS Sc mL 401 0 340 PL 1011 [(3, 0), rv 1, rv 321, iv i] [] (GG t) σ := by
  refine y_aload_n (i := 1) (v := rv 1) rfl (Or.inl rfl) (show decode code 1011 = .ok (.aload_n 1, 1) by decide +kernel) ?_
  refine y_aload_n (i := 0) (v := (3, 0)) rfl (Or.inr (Or.inl rfl)) (show decode code 1012 = .ok (.aload_n 0, 1) by decide +kernel) ?_
  refine y_iload_n (i := 3) (x := i) rfl (show decode code 1013 = .ok (.iload_n 3, 1) by decide +kernel) ?_
  refine y_iconst (show decode code 1014 = .ok (.iconst 1, 1) by decide +kernel) ?_
  refine y_iadd (show decode code 1015 = .ok (.iadd, 1) by decide +kernel) ?_
  refine y_sald (show decode code 1016 = .ok (.iaload, 1) by decide +kernel) hL (by omega) ?_
  refine y_ctV (m' := mX11_reach) (t := t) (ci := 11) (tag := 0) (a := 1) (As := [iv (sv Sc (i + 1))]) (F := fun r σ1 => (inR r) ∧ ∀ (d2 : Nat) (Q2 : Int → jM → Prop), (∀ r' σ2, SameN L σ r r' σ2 → Q2 r' σ2) → Ct mX12_reach (d2 + 11) 0 t [rv 321, iv (sv Sc (i + 1))] σ1 Q2) (cw_L_132 rfl) (show decode code 1017 = .ok (.invokevirtual 132, 3) by decide +kernel) rfl (Nat.le_of_ble_eq_true rfl) (by decide) okl_1 rfl rfl (Nat.le_refl _) (a_reach 360 v.1 v.2.1 v.2.2.1 sv_R (fun r σ1 c h => ⟨c, h⟩)) (fun r σ1 hh => ?_)
  refine y_aload_n (i := 2) (v := rv 321) rfl (Or.inl rfl) (show decode code 1020 = .ok (.aload_n 2, 1) by decide +kernel) ?_
  refine y_aload_n (i := 0) (v := (3, 0)) rfl (Or.inr (Or.inl rfl)) (show decode code 1021 = .ok (.aload_n 0, 1) by decide +kernel) ?_
  refine y_iload_n (i := 3) (x := i) rfl (show decode code 1022 = .ok (.iload_n 3, 1) by decide +kernel) ?_
  refine y_iconst (show decode code 1023 = .ok (.iconst 1, 1) by decide +kernel) ?_
  refine y_iadd (show decode code 1024 = .ok (.iadd, 1) by decide +kernel) ?_
  refine y_sald (show decode code 1025 = .ok (.iaload, 1) by decide +kernel) hL (by omega) ?_
  refine y_ctV (m' := mX12_reach) (t := t) (ci := 12) (tag := 0) (a := 321) (As := [iv (sv Sc (i + 1))]) (F := fun r' σ2 => r' = r ∧ inR r ∧ IVL L σ2) (cw_L_135 rfl) (show decode code 1026 = .ok (.invokevirtual 135, 3) by decide +kernel) rfl (Nat.le_of_ble_eq_true rfl) (by decide) okl_321 rfl rfl (Nat.le_refl _) (hh.2 389 _ (fun r' σ2 h => ⟨h.1, hh.1, iv_sameN v h⟩)) (fun r' σ2 hs => ?_)
  obtain ⟨e, hr, v2⟩ := hs
  subst e
  refine y_icmp_eq (tgt := 1404) hr hr (show decode code 1029 = .ok (.if_icmp .eq 375, 3) by decide +kernel) (by decide) (fun _ => ?_) (fun z => absurd rfl z)
  exact lw_1404 (k t σ2 L v2)
set_option maxRecDepth 8000 in
theorem lw_reached {t i : Int} {σ : jM} {L : LT} (hL : Sc.1 ≤ 3072) (hi : 0 ≤ i ∧ i + 6 ≤ (Sc.1 : Int)) (v : IVL L σ) (k : ∀ t' σ' L', IVL L' σ' → JS Sc mL 401 0 340 PL 18 [(3, 0), rv 1, rv 321, iv (i + 6)] [] (GG t') σ') : JS Sc mL 401 0 340 PL 1034 [(3, 0), rv 1, rv 321, iv i] [] (GG t) σ := by
  refine y_aload_n (i := 1) (v := rv 1) rfl (Or.inl rfl) (show decode code 1034 = .ok (.aload_n 1, 1) by decide +kernel) ?_
  refine y_aload_n (i := 0) (v := (3, 0)) rfl (Or.inr (Or.inl rfl)) (show decode code 1035 = .ok (.aload_n 0, 1) by decide +kernel) ?_
  refine y_iload_n (i := 3) (x := i) rfl (show decode code 1036 = .ok (.iload_n 3, 1) by decide +kernel) ?_
  refine y_iconst (show decode code 1037 = .ok (.iconst 1, 1) by decide +kernel) ?_
  refine y_iadd (show decode code 1038 = .ok (.iadd, 1) by decide +kernel) ?_
  refine y_sald (show decode code 1039 = .ok (.iaload, 1) by decide +kernel) hL (by omega) ?_
  refine y_aload_n (i := 0) (v := (3, 0)) rfl (Or.inr (Or.inl rfl)) (show decode code 1040 = .ok (.aload_n 0, 1) by decide +kernel) ?_
  refine y_iload_n (i := 3) (x := i) rfl (show decode code 1041 = .ok (.iload_n 3, 1) by decide +kernel) ?_
  refine y_iconst (show decode code 1042 = .ok (.iconst 2, 1) by decide +kernel) ?_
  refine y_iadd (show decode code 1043 = .ok (.iadd, 1) by decide +kernel) ?_
  refine y_sald (show decode code 1044 = .ok (.iaload, 1) by decide +kernel) hL (by omega) ?_
  refine y_ctV (m' := mX11_reached) (t := t) (ci := 11) (tag := 0) (a := 1) (As := [iv (sv Sc (i + 1)), iv (sv Sc (i + 2))]) (F := fun r σ1 => (inR r) ∧ ∀ (d2 : Nat) (Q2 : Int → jM → Prop), (∀ r' σ2, SameN L σ r r' σ2 → Q2 r' σ2) → Ct mX12_reached (d2 + 11) 0 t [rv 321, iv (sv Sc (i + 1)), iv (sv Sc (i + 2))] σ1 Q2) (cw_L_136 rfl) (show decode code 1045 = .ok (.invokevirtual 136, 3) by decide +kernel) rfl (Nat.le_of_ble_eq_true rfl) (by decide) okl_1 rfl rfl (Nat.le_refl _) (a_reached 360 v.1 v.2.1 v.2.2.1 sv_R sv_R (fun r σ1 c h => ⟨c, h⟩)) (fun r σ1 hh => ?_)
  refine y_aload_n (i := 2) (v := rv 321) rfl (Or.inl rfl) (show decode code 1048 = .ok (.aload_n 2, 1) by decide +kernel) ?_
  refine y_aload_n (i := 0) (v := (3, 0)) rfl (Or.inr (Or.inl rfl)) (show decode code 1049 = .ok (.aload_n 0, 1) by decide +kernel) ?_
  refine y_iload_n (i := 3) (x := i) rfl (show decode code 1050 = .ok (.iload_n 3, 1) by decide +kernel) ?_
  refine y_iconst (show decode code 1051 = .ok (.iconst 1, 1) by decide +kernel) ?_
  refine y_iadd (show decode code 1052 = .ok (.iadd, 1) by decide +kernel) ?_
  refine y_sald (show decode code 1053 = .ok (.iaload, 1) by decide +kernel) hL (by omega) ?_
  refine y_aload_n (i := 0) (v := (3, 0)) rfl (Or.inr (Or.inl rfl)) (show decode code 1054 = .ok (.aload_n 0, 1) by decide +kernel) ?_
  refine y_iload_n (i := 3) (x := i) rfl (show decode code 1055 = .ok (.iload_n 3, 1) by decide +kernel) ?_
  refine y_iconst (show decode code 1056 = .ok (.iconst 2, 1) by decide +kernel) ?_
  refine y_iadd (show decode code 1057 = .ok (.iadd, 1) by decide +kernel) ?_
  refine y_sald (show decode code 1058 = .ok (.iaload, 1) by decide +kernel) hL (by omega) ?_
  refine y_ctV (m' := mX12_reached) (t := t) (ci := 12) (tag := 0) (a := 321) (As := [iv (sv Sc (i + 1)), iv (sv Sc (i + 2))]) (F := fun r' σ2 => r' = r ∧ inR r ∧ IVL L σ2) (cw_L_139 rfl) (show decode code 1059 = .ok (.invokevirtual 139, 3) by decide +kernel) rfl (Nat.le_of_ble_eq_true rfl) (by decide) okl_321 rfl rfl (Nat.le_refl _) (hh.2 389 _ (fun r' σ2 h => ⟨h.1, hh.1, iv_sameN v h⟩)) (fun r' σ2 hs => ?_)
  obtain ⟨e, hr, v2⟩ := hs
  subst e
  refine y_icmp_eq (tgt := 1404) hr hr (show decode code 1062 = .ok (.if_icmp .eq 342, 3) by decide +kernel) (by decide) (fun _ => ?_) (fun z => absurd rfl z)
  exact lw_1404 (k t σ2 L v2)
set_option maxRecDepth 8000 in
theorem lw_first {t i : Int} {σ : jM} {L : LT} (hL : Sc.1 ≤ 3072) (hi : 0 ≤ i ∧ i + 6 ≤ (Sc.1 : Int)) (v : IVL L σ) (k : ∀ t' σ' L', IVL L' σ' → JS Sc mL 401 0 340 PL 18 [(3, 0), rv 1, rv 321, iv (i + 6)] [] (GG t') σ') : JS Sc mL 401 0 340 PL 1067 [(3, 0), rv 1, rv 321, iv i] [] (GG t) σ := by
  refine y_aload_n (i := 1) (v := rv 1) rfl (Or.inl rfl) (show decode code 1067 = .ok (.aload_n 1, 1) by decide +kernel) ?_
  refine y_aload_n (i := 0) (v := (3, 0)) rfl (Or.inr (Or.inl rfl)) (show decode code 1068 = .ok (.aload_n 0, 1) by decide +kernel) ?_
  refine y_iload_n (i := 3) (x := i) rfl (show decode code 1069 = .ok (.iload_n 3, 1) by decide +kernel) ?_
  refine y_iconst (show decode code 1070 = .ok (.iconst 1, 1) by decide +kernel) ?_
  refine y_iadd (show decode code 1071 = .ok (.iadd, 1) by decide +kernel) ?_
  refine y_sald (show decode code 1072 = .ok (.iaload, 1) by decide +kernel) hL (by omega) ?_
  refine y_ctV (m' := mX11_first) (t := t) (ci := 11) (tag := 0) (a := 1) (As := [iv (sv Sc (i + 1))]) (F := fun r σ1 => (inR r) ∧ ∀ (d2 : Nat) (Q2 : Int → jM → Prop), (∀ r' σ2, SameN L σ r r' σ2 → Q2 r' σ2) → Ct mX12_first (d2 + 11) 0 t [rv 321, iv (sv Sc (i + 1))] σ1 Q2) (cw_L_140 rfl) (show decode code 1073 = .ok (.invokevirtual 140, 3) by decide +kernel) rfl (Nat.le_of_ble_eq_true rfl) (by decide) okl_1 rfl rfl (Nat.le_refl _) (a_first 360 v.1 v.2.1 v.2.2.1 sv_R (fun r σ1 c h => ⟨c, h⟩)) (fun r σ1 hh => ?_)
  refine y_aload_n (i := 2) (v := rv 321) rfl (Or.inl rfl) (show decode code 1076 = .ok (.aload_n 2, 1) by decide +kernel) ?_
  refine y_aload_n (i := 0) (v := (3, 0)) rfl (Or.inr (Or.inl rfl)) (show decode code 1077 = .ok (.aload_n 0, 1) by decide +kernel) ?_
  refine y_iload_n (i := 3) (x := i) rfl (show decode code 1078 = .ok (.iload_n 3, 1) by decide +kernel) ?_
  refine y_iconst (show decode code 1079 = .ok (.iconst 1, 1) by decide +kernel) ?_
  refine y_iadd (show decode code 1080 = .ok (.iadd, 1) by decide +kernel) ?_
  refine y_sald (show decode code 1081 = .ok (.iaload, 1) by decide +kernel) hL (by omega) ?_
  refine y_ctV (m' := mX12_first) (t := t) (ci := 12) (tag := 0) (a := 321) (As := [iv (sv Sc (i + 1))]) (F := fun r' σ2 => r' = r ∧ inR r ∧ IVL L σ2) (cw_L_143 rfl) (show decode code 1082 = .ok (.invokevirtual 143, 3) by decide +kernel) rfl (Nat.le_of_ble_eq_true rfl) (by decide) okl_321 rfl rfl (Nat.le_refl _) (hh.2 389 _ (fun r' σ2 h => ⟨h.1, hh.1, iv_sameN v h⟩)) (fun r' σ2 hs => ?_)
  obtain ⟨e, hr, v2⟩ := hs
  subst e
  refine y_icmp_eq (tgt := 1404) hr hr (show decode code 1085 = .ok (.if_icmp .eq 319, 3) by decide +kernel) (by decide) (fun _ => ?_) (fun z => absurd rfl z)
  exact lw_1404 (k t σ2 L v2)
set_option maxRecDepth 8000 in
theorem lw_tell {t i : Int} {σ : jM} {L : LT} (hL : Sc.1 ≤ 3072) (hi : 0 ≤ i ∧ i + 6 ≤ (Sc.1 : Int)) (v : IVL L σ) (k : ∀ t' σ' L', IVL L' σ' → JS Sc mL 401 0 340 PL 18 [(3, 0), rv 1, rv 321, iv (i + 6)] [] (GG t') σ') : JS Sc mL 401 0 340 PL 1090 [(3, 0), rv 1, rv 321, iv i] [] (GG t) σ := by
  refine y_aload_n (i := 1) (v := rv 1) rfl (Or.inl rfl) (show decode code 1090 = .ok (.aload_n 1, 1) by decide +kernel) ?_
  refine y_aload_n (i := 0) (v := (3, 0)) rfl (Or.inr (Or.inl rfl)) (show decode code 1091 = .ok (.aload_n 0, 1) by decide +kernel) ?_
  refine y_iload_n (i := 3) (x := i) rfl (show decode code 1092 = .ok (.iload_n 3, 1) by decide +kernel) ?_
  refine y_iconst (show decode code 1093 = .ok (.iconst 1, 1) by decide +kernel) ?_
  refine y_iadd (show decode code 1094 = .ok (.iadd, 1) by decide +kernel) ?_
  refine y_sald (show decode code 1095 = .ok (.iaload, 1) by decide +kernel) hL (by omega) ?_
  refine y_ctV (m' := mX11_tell) (t := t) (ci := 11) (tag := 0) (a := 1) (As := [iv (sv Sc (i + 1))]) (F := fun r σ1 => (True) ∧ ∀ (d2 : Nat) (Q2 : Int → jM → Prop), (∀ r' σ2, Same L σ r r' σ2 → Q2 r' σ2) → Ct mX12_tell (d2 + 11) 0 t [rv 321, iv (sv Sc (i + 1))] σ1 Q2) (cw_L_144 rfl) (show decode code 1096 = .ok (.invokevirtual 144, 3) by decide +kernel) rfl (Nat.le_of_ble_eq_true rfl) (by decide) okl_1 rfl rfl (Nat.le_refl _) (a_tell 389 v.1  sv_R (fun r σ1 h => ⟨trivial, h⟩)) (fun r σ1 hh => ?_)
  refine y_aload_n (i := 2) (v := rv 321) rfl (Or.inl rfl) (show decode code 1099 = .ok (.aload_n 2, 1) by decide +kernel) ?_
  refine y_aload_n (i := 0) (v := (3, 0)) rfl (Or.inr (Or.inl rfl)) (show decode code 1100 = .ok (.aload_n 0, 1) by decide +kernel) ?_
  refine y_iload_n (i := 3) (x := i) rfl (show decode code 1101 = .ok (.iload_n 3, 1) by decide +kernel) ?_
  refine y_iconst (show decode code 1102 = .ok (.iconst 1, 1) by decide +kernel) ?_
  refine y_iadd (show decode code 1103 = .ok (.iadd, 1) by decide +kernel) ?_
  refine y_sald (show decode code 1104 = .ok (.iaload, 1) by decide +kernel) hL (by omega) ?_
  refine y_ctV (m' := mX12_tell) (t := t) (ci := 12) (tag := 0) (a := 321) (As := [iv (sv Sc (i + 1))]) (F := fun r' σ2 => r' = r ∧ inR r ∧ IVL L σ2) (cw_L_147 rfl) (show decode code 1105 = .ok (.invokevirtual 147, 3) by decide +kernel) rfl (Nat.le_of_ble_eq_true rfl) (by decide) okl_321 rfl rfl (Nat.le_refl _) (hh.2 389 _ (fun r' σ2 h => ⟨h.1, h.2.1, iv_same v h⟩)) (fun r' σ2 hs => ?_)
  obtain ⟨e, hr, v2⟩ := hs
  subst e
  refine y_icmp_eq (tgt := 1404) hr hr (show decode code 1108 = .ok (.if_icmp .eq 296, 3) by decide +kernel) (by decide) (fun _ => ?_) (fun z => absurd rfl z)
  exact lw_1404 (k t σ2 L v2)
end LC
