/-! ===== the law: its calls (printed by wip/whole/gen_cases.py) ===== -/
section LC
variable {Sc : Nat × (Nat → Int32)}
set_option maxRecDepth 8000 in
theorem lw_fewest {t i : Int} {σ : jM} {L : LT} (hL : Sc.1 ≤ 3072) (hi : 0 ≤ i ∧ i + 6 ≤ (Sc.1 : Int)) (v : IVL L σ) (k : ∀ t' σ' L', IVL L' σ' → JS Sc mL 401 0 340 PL 18 [(3, 0), rv 1, rv 321, iv (i + 6)] [] (GG t') σ') : JS Sc mL 401 0 340 PL 674 [(3, 0), rv 1, rv 321, iv i] [] (GG t) σ := by
  refine y_aload_n (i := 1) (v := rv 1) rfl (Or.inl rfl) (show decode code 674 = .ok (.aload_n 1, 1) by decide +kernel) ?_
  refine y_aload_n (i := 0) (v := (3, 0)) rfl (Or.inr (Or.inl rfl)) (show decode code 675 = .ok (.aload_n 0, 1) by decide +kernel) ?_
  refine y_iload_n (i := 3) (x := i) rfl (show decode code 676 = .ok (.iload_n 3, 1) by decide +kernel) ?_
  refine y_iconst (show decode code 677 = .ok (.iconst 1, 1) by decide +kernel) ?_
  refine y_iadd (show decode code 678 = .ok (.iadd, 1) by decide +kernel) ?_
  refine y_sald (show decode code 679 = .ok (.iaload, 1) by decide +kernel) hL (by omega) ?_
  refine y_ctV (m' := mX11_fewest) (t := t) (ci := 11) (tag := 0) (a := 1) (As := [iv (sv Sc (i + 1))]) (F := fun r σ1 => (inR r) ∧ ∀ (d2 : Nat) (Q2 : Int → jM → Prop), (∀ r' σ2, SameN L σ r r' σ2 → Q2 r' σ2) → Ct mX12_fewest (d2 + 11) 0 t [rv 321, iv (sv Sc (i + 1))] σ1 Q2) (cw_L_82 rfl) (show decode code 680 = .ok (.invokevirtual 82, 3) by decide +kernel) rfl (Nat.le_of_ble_eq_true rfl) (by decide) okl_1 rfl rfl (Nat.le_refl _) (a_fewest 360 v.1 v.2.1 v.2.2.1 sv_R (fun r σ1 c h => ⟨c, h⟩)) (fun r σ1 hh => ?_)
  refine y_aload_n (i := 2) (v := rv 321) rfl (Or.inl rfl) (show decode code 683 = .ok (.aload_n 2, 1) by decide +kernel) ?_
  refine y_aload_n (i := 0) (v := (3, 0)) rfl (Or.inr (Or.inl rfl)) (show decode code 684 = .ok (.aload_n 0, 1) by decide +kernel) ?_
  refine y_iload_n (i := 3) (x := i) rfl (show decode code 685 = .ok (.iload_n 3, 1) by decide +kernel) ?_
  refine y_iconst (show decode code 686 = .ok (.iconst 1, 1) by decide +kernel) ?_
  refine y_iadd (show decode code 687 = .ok (.iadd, 1) by decide +kernel) ?_
  refine y_sald (show decode code 688 = .ok (.iaload, 1) by decide +kernel) hL (by omega) ?_
  refine y_ctV (m' := mX12_fewest) (t := t) (ci := 12) (tag := 0) (a := 321) (As := [iv (sv Sc (i + 1))]) (F := fun r' σ2 => r' = r ∧ inR r ∧ IVL L σ2) (cw_L_85 rfl) (show decode code 689 = .ok (.invokevirtual 85, 3) by decide +kernel) rfl (Nat.le_of_ble_eq_true rfl) (by decide) okl_321 rfl rfl (Nat.le_refl _) (hh.2 389 _ (fun r' σ2 h => ⟨h.1, hh.1, iv_sameN v h⟩)) (fun r' σ2 hs => ?_)
  obtain ⟨e, hr, v2⟩ := hs
  subst e
  refine y_icmp_eq (tgt := 1404) hr hr (show decode code 692 = .ok (.if_icmp .eq 712, 3) by decide +kernel) (by decide) (fun _ => ?_) (fun z => absurd rfl z)
  exact lw_1404 (k t σ2 L v2)
set_option maxRecDepth 8000 in
theorem lw_chain {t i : Int} {σ : jM} {L : LT} (hL : Sc.1 ≤ 3072) (hi : 0 ≤ i ∧ i + 6 ≤ (Sc.1 : Int)) (v : IVL L σ) (k : ∀ t' σ' L', IVL L' σ' → JS Sc mL 401 0 340 PL 18 [(3, 0), rv 1, rv 321, iv (i + 6)] [] (GG t') σ') : JS Sc mL 401 0 340 PL 697 [(3, 0), rv 1, rv 321, iv i] [] (GG t) σ := by
  refine y_aload_n (i := 1) (v := rv 1) rfl (Or.inl rfl) (show decode code 697 = .ok (.aload_n 1, 1) by decide +kernel) ?_
  refine y_aload_n (i := 0) (v := (3, 0)) rfl (Or.inr (Or.inl rfl)) (show decode code 698 = .ok (.aload_n 0, 1) by decide +kernel) ?_
  refine y_iload_n (i := 3) (x := i) rfl (show decode code 699 = .ok (.iload_n 3, 1) by decide +kernel) ?_
  refine y_iconst (show decode code 700 = .ok (.iconst 1, 1) by decide +kernel) ?_
  refine y_iadd (show decode code 701 = .ok (.iadd, 1) by decide +kernel) ?_
  refine y_sald (show decode code 702 = .ok (.iaload, 1) by decide +kernel) hL (by omega) ?_
  refine y_aload_n (i := 0) (v := (3, 0)) rfl (Or.inr (Or.inl rfl)) (show decode code 703 = .ok (.aload_n 0, 1) by decide +kernel) ?_
  refine y_iload_n (i := 3) (x := i) rfl (show decode code 704 = .ok (.iload_n 3, 1) by decide +kernel) ?_
  refine y_iconst (show decode code 705 = .ok (.iconst 2, 1) by decide +kernel) ?_
  refine y_iadd (show decode code 706 = .ok (.iadd, 1) by decide +kernel) ?_
  refine y_sald (show decode code 707 = .ok (.iaload, 1) by decide +kernel) hL (by omega) ?_
  refine y_ctV (m' := mX11_chain) (t := t) (ci := 11) (tag := 0) (a := 1) (As := [iv (sv Sc (i + 1)), iv (sv Sc (i + 2))]) (F := fun r σ1 => (inR r) ∧ ∀ (d2 : Nat) (Q2 : Int → jM → Prop), (∀ r' σ2, SameN L σ r r' σ2 → Q2 r' σ2) → Ct mX12_chain (d2 + 11) 0 t [rv 321, iv (sv Sc (i + 1)), iv (sv Sc (i + 2))] σ1 Q2) (cw_L_86 rfl) (show decode code 708 = .ok (.invokevirtual 86, 3) by decide +kernel) rfl (Nat.le_of_ble_eq_true rfl) (by decide) okl_1 rfl rfl (Nat.le_refl _) (a_chain 360 v.1 v.2.1 v.2.2.1 sv_R sv_R (fun r σ1 c h => ⟨c, h⟩)) (fun r σ1 hh => ?_)
  refine y_aload_n (i := 2) (v := rv 321) rfl (Or.inl rfl) (show decode code 711 = .ok (.aload_n 2, 1) by decide +kernel) ?_
  refine y_aload_n (i := 0) (v := (3, 0)) rfl (Or.inr (Or.inl rfl)) (show decode code 712 = .ok (.aload_n 0, 1) by decide +kernel) ?_
  refine y_iload_n (i := 3) (x := i) rfl (show decode code 713 = .ok (.iload_n 3, 1) by decide +kernel) ?_
  refine y_iconst (show decode code 714 = .ok (.iconst 1, 1) by decide +kernel) ?_
  refine y_iadd (show decode code 715 = .ok (.iadd, 1) by decide +kernel) ?_
  refine y_sald (show decode code 716 = .ok (.iaload, 1) by decide +kernel) hL (by omega) ?_
  refine y_aload_n (i := 0) (v := (3, 0)) rfl (Or.inr (Or.inl rfl)) (show decode code 717 = .ok (.aload_n 0, 1) by decide +kernel) ?_
  refine y_iload_n (i := 3) (x := i) rfl (show decode code 718 = .ok (.iload_n 3, 1) by decide +kernel) ?_
  refine y_iconst (show decode code 719 = .ok (.iconst 2, 1) by decide +kernel) ?_
  refine y_iadd (show decode code 720 = .ok (.iadd, 1) by decide +kernel) ?_
  refine y_sald (show decode code 721 = .ok (.iaload, 1) by decide +kernel) hL (by omega) ?_
  refine y_ctV (m' := mX12_chain) (t := t) (ci := 12) (tag := 0) (a := 321) (As := [iv (sv Sc (i + 1)), iv (sv Sc (i + 2))]) (F := fun r' σ2 => r' = r ∧ inR r ∧ IVL L σ2) (cw_L_89 rfl) (show decode code 722 = .ok (.invokevirtual 89, 3) by decide +kernel) rfl (Nat.le_of_ble_eq_true rfl) (by decide) okl_321 rfl rfl (Nat.le_refl _) (hh.2 389 _ (fun r' σ2 h => ⟨h.1, hh.1, iv_sameN v h⟩)) (fun r' σ2 hs => ?_)
  obtain ⟨e, hr, v2⟩ := hs
  subst e
  refine y_icmp_eq (tgt := 1404) hr hr (show decode code 725 = .ok (.if_icmp .eq 679, 3) by decide +kernel) (by decide) (fun _ => ?_) (fun z => absurd rfl z)
  exact lw_1404 (k t σ2 L v2)
set_option maxRecDepth 8000 in
theorem lw_chains {t i : Int} {σ : jM} {L : LT} (hL : Sc.1 ≤ 3072) (hi : 0 ≤ i ∧ i + 6 ≤ (Sc.1 : Int)) (v : IVL L σ) (k : ∀ t' σ' L', IVL L' σ' → JS Sc mL 401 0 340 PL 18 [(3, 0), rv 1, rv 321, iv (i + 6)] [] (GG t') σ') : JS Sc mL 401 0 340 PL 730 [(3, 0), rv 1, rv 321, iv i] [] (GG t) σ := by
  refine y_aload_n (i := 1) (v := rv 1) rfl (Or.inl rfl) (show decode code 730 = .ok (.aload_n 1, 1) by decide +kernel) ?_
  refine y_aload_n (i := 0) (v := (3, 0)) rfl (Or.inr (Or.inl rfl)) (show decode code 731 = .ok (.aload_n 0, 1) by decide +kernel) ?_
  refine y_iload_n (i := 3) (x := i) rfl (show decode code 732 = .ok (.iload_n 3, 1) by decide +kernel) ?_
  refine y_iconst (show decode code 733 = .ok (.iconst 1, 1) by decide +kernel) ?_
  refine y_iadd (show decode code 734 = .ok (.iadd, 1) by decide +kernel) ?_
  refine y_sald (show decode code 735 = .ok (.iaload, 1) by decide +kernel) hL (by omega) ?_
  refine y_ctV (m' := mX11_chains) (t := t) (ci := 11) (tag := 1) (a := 1) (As := [iv (sv Sc (i + 1))]) (F := fun r σ1 => (inL r) ∧ ∀ (d2 : Nat) (Q2 : Int → jM → Prop), (∀ r' σ2, SameN L σ r r' σ2 → Q2 r' σ2) → Ct mX12_chains (d2 + 11) 1 t [rv 321, iv (sv Sc (i + 1))] σ1 Q2) (cw_L_90 rfl) (show decode code 736 = .ok (.invokevirtual 90, 3) by decide +kernel) rfl (Nat.le_of_ble_eq_true rfl) (by decide) okl_1 rfl rfl (Nat.le_refl _) (a_chains 360 v.1 v.2.1 v.2.2.1 sv_R (fun r σ1 c h => ⟨c, h⟩)) (fun r σ1 hh => ?_)
  refine y_aload_n (i := 2) (v := rv 321) rfl (Or.inl rfl) (show decode code 739 = .ok (.aload_n 2, 1) by decide +kernel) ?_
  refine y_aload_n (i := 0) (v := (3, 0)) rfl (Or.inr (Or.inl rfl)) (show decode code 740 = .ok (.aload_n 0, 1) by decide +kernel) ?_
  refine y_iload_n (i := 3) (x := i) rfl (show decode code 741 = .ok (.iload_n 3, 1) by decide +kernel) ?_
  refine y_iconst (show decode code 742 = .ok (.iconst 1, 1) by decide +kernel) ?_
  refine y_iadd (show decode code 743 = .ok (.iadd, 1) by decide +kernel) ?_
  refine y_sald (show decode code 744 = .ok (.iaload, 1) by decide +kernel) hL (by omega) ?_
  refine y_ctV (m' := mX12_chains) (t := t) (ci := 12) (tag := 1) (a := 321) (As := [iv (sv Sc (i + 1))]) (F := fun r' σ2 => r' = r ∧ inL r ∧ IVL L σ2) (cw_L_94 rfl) (show decode code 745 = .ok (.invokevirtual 94, 3) by decide +kernel) rfl (Nat.le_of_ble_eq_true rfl) (by decide) okl_321 rfl rfl (Nat.le_refl _) (hh.2 389 _ (fun r' σ2 h => ⟨h.1, hh.1, iv_sameN v h⟩)) (fun r' σ2 hs => ?_)
  obtain ⟨e, hr, v2⟩ := hs
  subst e
  refine y_lcmp hr hr (show decode code 748 = .ok (.lcmp, 1) by decide +kernel) (fun z => absurd z (by omega)) (fun _ => ?_) (fun z => absurd z (by omega))
  refine y_if_eq (tgt := 1404) (inl (by decide)) (show decode code 749 = .ok (.ifCond .eq 655, 3) by decide +kernel) (by decide) (fun _ => ?_) (fun z => absurd rfl z)
  exact lw_1404 (k t σ2 L v2)
set_option maxRecDepth 8000 in
theorem lw_halves {t i : Int} {σ : jM} {L : LT} (hL : Sc.1 ≤ 3072) (hi : 0 ≤ i ∧ i + 6 ≤ (Sc.1 : Int)) (v : IVL L σ) (k : ∀ t' σ' L', IVL L' σ' → JS Sc mL 401 0 340 PL 18 [(3, 0), rv 1, rv 321, iv (i + 6)] [] (GG t') σ') : JS Sc mL 401 0 340 PL 754 [(3, 0), rv 1, rv 321, iv i] [] (GG t) σ := by
  refine y_aload_n (i := 1) (v := rv 1) rfl (Or.inl rfl) (show decode code 754 = .ok (.aload_n 1, 1) by decide +kernel) ?_
  refine y_aload_n (i := 0) (v := (3, 0)) rfl (Or.inr (Or.inl rfl)) (show decode code 755 = .ok (.aload_n 0, 1) by decide +kernel) ?_
  refine y_iload_n (i := 3) (x := i) rfl (show decode code 756 = .ok (.iload_n 3, 1) by decide +kernel) ?_
  refine y_iconst (show decode code 757 = .ok (.iconst 1, 1) by decide +kernel) ?_
  refine y_iadd (show decode code 758 = .ok (.iadd, 1) by decide +kernel) ?_
  refine y_sald (show decode code 759 = .ok (.iaload, 1) by decide +kernel) hL (by omega) ?_
  refine y_ctV (m' := mX11_halves) (t := t) (ci := 11) (tag := 0) (a := 1) (As := [iv (sv Sc (i + 1))]) (F := fun r σ1 => (True) ∧ ∀ (d2 : Nat) (Q2 : Int → jM → Prop), (∀ r' σ2, Same L σ r r' σ2 → Q2 r' σ2) → Ct mX12_halves (d2 + 11) 0 t [rv 321, iv (sv Sc (i + 1))] σ1 Q2) (cw_L_95 rfl) (show decode code 760 = .ok (.invokevirtual 95, 3) by decide +kernel) rfl (Nat.le_of_ble_eq_true rfl) (by decide) okl_1 rfl rfl (Nat.le_refl _) (a_halves 389 v.1  sv_R (fun r σ1 h => ⟨trivial, h⟩)) (fun r σ1 hh => ?_)
  refine y_aload_n (i := 2) (v := rv 321) rfl (Or.inl rfl) (show decode code 763 = .ok (.aload_n 2, 1) by decide +kernel) ?_
  refine y_aload_n (i := 0) (v := (3, 0)) rfl (Or.inr (Or.inl rfl)) (show decode code 764 = .ok (.aload_n 0, 1) by decide +kernel) ?_
  refine y_iload_n (i := 3) (x := i) rfl (show decode code 765 = .ok (.iload_n 3, 1) by decide +kernel) ?_
  refine y_iconst (show decode code 766 = .ok (.iconst 1, 1) by decide +kernel) ?_
  refine y_iadd (show decode code 767 = .ok (.iadd, 1) by decide +kernel) ?_
  refine y_sald (show decode code 768 = .ok (.iaload, 1) by decide +kernel) hL (by omega) ?_
  refine y_ctV (m' := mX12_halves) (t := t) (ci := 12) (tag := 0) (a := 321) (As := [iv (sv Sc (i + 1))]) (F := fun r' σ2 => r' = r ∧ inR r ∧ IVL L σ2) (cw_L_98 rfl) (show decode code 769 = .ok (.invokevirtual 98, 3) by decide +kernel) rfl (Nat.le_of_ble_eq_true rfl) (by decide) okl_321 rfl rfl (Nat.le_refl _) (hh.2 389 _ (fun r' σ2 h => ⟨h.1, h.2.1, iv_same v h⟩)) (fun r' σ2 hs => ?_)
  obtain ⟨e, hr, v2⟩ := hs
  subst e
  refine y_icmp_eq (tgt := 1404) hr hr (show decode code 772 = .ok (.if_icmp .eq 632, 3) by decide +kernel) (by decide) (fun _ => ?_) (fun z => absurd rfl z)
  exact lw_1404 (k t σ2 L v2)
set_option maxRecDepth 8000 in
theorem lw_parts {t i : Int} {σ : jM} {L : LT} (hL : Sc.1 ≤ 3072) (hi : 0 ≤ i ∧ i + 6 ≤ (Sc.1 : Int)) (v : IVL L σ) (k : ∀ t' σ' L', IVL L' σ' → JS Sc mL 401 0 340 PL 18 [(3, 0), rv 1, rv 321, iv (i + 6)] [] (GG t') σ') : JS Sc mL 401 0 340 PL 777 [(3, 0), rv 1, rv 321, iv i] [] (GG t) σ := by
  refine y_aload_n (i := 1) (v := rv 1) rfl (Or.inl rfl) (show decode code 777 = .ok (.aload_n 1, 1) by decide +kernel) ?_
  refine y_aload_n (i := 0) (v := (3, 0)) rfl (Or.inr (Or.inl rfl)) (show decode code 778 = .ok (.aload_n 0, 1) by decide +kernel) ?_
  refine y_iload_n (i := 3) (x := i) rfl (show decode code 779 = .ok (.iload_n 3, 1) by decide +kernel) ?_
  refine y_iconst (show decode code 780 = .ok (.iconst 1, 1) by decide +kernel) ?_
  refine y_iadd (show decode code 781 = .ok (.iadd, 1) by decide +kernel) ?_
  refine y_sald (show decode code 782 = .ok (.iaload, 1) by decide +kernel) hL (by omega) ?_
  refine y_ctV (m' := mX11_parts) (t := t) (ci := 11) (tag := 0) (a := 1) (As := [iv (sv Sc (i + 1))]) (F := fun r σ1 => (True) ∧ ∀ (d2 : Nat) (Q2 : Int → jM → Prop), (∀ r' σ2, Same L σ r r' σ2 → Q2 r' σ2) → Ct mX12_parts (d2 + 11) 0 t [rv 321, iv (sv Sc (i + 1))] σ1 Q2) (cw_L_99 rfl) (show decode code 783 = .ok (.invokevirtual 99, 3) by decide +kernel) rfl (Nat.le_of_ble_eq_true rfl) (by decide) okl_1 rfl rfl (Nat.le_refl _) (a_parts 389 v.1  sv_R (fun r σ1 h => ⟨trivial, h⟩)) (fun r σ1 hh => ?_)
  refine y_aload_n (i := 2) (v := rv 321) rfl (Or.inl rfl) (show decode code 786 = .ok (.aload_n 2, 1) by decide +kernel) ?_
  refine y_aload_n (i := 0) (v := (3, 0)) rfl (Or.inr (Or.inl rfl)) (show decode code 787 = .ok (.aload_n 0, 1) by decide +kernel) ?_
  refine y_iload_n (i := 3) (x := i) rfl (show decode code 788 = .ok (.iload_n 3, 1) by decide +kernel) ?_
  refine y_iconst (show decode code 789 = .ok (.iconst 1, 1) by decide +kernel) ?_
  refine y_iadd (show decode code 790 = .ok (.iadd, 1) by decide +kernel) ?_
  refine y_sald (show decode code 791 = .ok (.iaload, 1) by decide +kernel) hL (by omega) ?_
  refine y_ctV (m' := mX12_parts) (t := t) (ci := 12) (tag := 0) (a := 321) (As := [iv (sv Sc (i + 1))]) (F := fun r' σ2 => r' = r ∧ inR r ∧ IVL L σ2) (cw_L_102 rfl) (show decode code 792 = .ok (.invokevirtual 102, 3) by decide +kernel) rfl (Nat.le_of_ble_eq_true rfl) (by decide) okl_321 rfl rfl (Nat.le_refl _) (hh.2 389 _ (fun r' σ2 h => ⟨h.1, h.2.1, iv_same v h⟩)) (fun r' σ2 hs => ?_)
  obtain ⟨e, hr, v2⟩ := hs
  subst e
  refine y_icmp_eq (tgt := 1404) hr hr (show decode code 795 = .ok (.if_icmp .eq 609, 3) by decide +kernel) (by decide) (fun _ => ?_) (fun z => absurd rfl z)
  exact lw_1404 (k t σ2 L v2)
set_option maxRecDepth 8000 in
theorem lw_hardest {t i : Int} {σ : jM} {L : LT} (hL : Sc.1 ≤ 3072) (hi : 0 ≤ i ∧ i + 6 ≤ (Sc.1 : Int)) (v : IVL L σ) (k : ∀ t' σ' L', IVL L' σ' → JS Sc mL 401 0 340 PL 18 [(3, 0), rv 1, rv 321, iv (i + 6)] [] (GG t') σ') : JS Sc mL 401 0 340 PL 800 [(3, 0), rv 1, rv 321, iv i] [] (GG t) σ := by
  refine y_aload_n (i := 1) (v := rv 1) rfl (Or.inl rfl) (show decode code 800 = .ok (.aload_n 1, 1) by decide +kernel) ?_
  refine y_aload_n (i := 0) (v := (3, 0)) rfl (Or.inr (Or.inl rfl)) (show decode code 801 = .ok (.aload_n 0, 1) by decide +kernel) ?_
  refine y_iload_n (i := 3) (x := i) rfl (show decode code 802 = .ok (.iload_n 3, 1) by decide +kernel) ?_
  refine y_iconst (show decode code 803 = .ok (.iconst 1, 1) by decide +kernel) ?_
  refine y_iadd (show decode code 804 = .ok (.iadd, 1) by decide +kernel) ?_
  refine y_sald (show decode code 805 = .ok (.iaload, 1) by decide +kernel) hL (by omega) ?_
  refine y_aload_n (i := 0) (v := (3, 0)) rfl (Or.inr (Or.inl rfl)) (show decode code 806 = .ok (.aload_n 0, 1) by decide +kernel) ?_
  refine y_iload_n (i := 3) (x := i) rfl (show decode code 807 = .ok (.iload_n 3, 1) by decide +kernel) ?_
  refine y_iconst (show decode code 808 = .ok (.iconst 2, 1) by decide +kernel) ?_
  refine y_iadd (show decode code 809 = .ok (.iadd, 1) by decide +kernel) ?_
  refine y_sald (show decode code 810 = .ok (.iaload, 1) by decide +kernel) hL (by omega) ?_
  refine y_ctV (m' := mX11_hardest) (t := t) (ci := 11) (tag := 0) (a := 1) (As := [iv (sv Sc (i + 1)), iv (sv Sc (i + 2))]) (F := fun r σ1 => (inR r) ∧ ∀ (d2 : Nat) (Q2 : Int → jM → Prop), (∀ r' σ2, SameN L σ r r' σ2 → Q2 r' σ2) → Ct mX12_hardest (d2 + 11) 0 t [rv 321, iv (sv Sc (i + 1)), iv (sv Sc (i + 2))] σ1 Q2) (cw_L_103 rfl) (show decode code 811 = .ok (.invokevirtual 103, 3) by decide +kernel) rfl (Nat.le_of_ble_eq_true rfl) (by decide) okl_1 rfl rfl (Nat.le_refl _) (a_hardest 360 v.1 v.2.1 v.2.2.1 sv_R sv_R (fun r σ1 c h => ⟨c, h⟩)) (fun r σ1 hh => ?_)
  refine y_aload_n (i := 2) (v := rv 321) rfl (Or.inl rfl) (show decode code 814 = .ok (.aload_n 2, 1) by decide +kernel) ?_
  refine y_aload_n (i := 0) (v := (3, 0)) rfl (Or.inr (Or.inl rfl)) (show decode code 815 = .ok (.aload_n 0, 1) by decide +kernel) ?_
  refine y_iload_n (i := 3) (x := i) rfl (show decode code 816 = .ok (.iload_n 3, 1) by decide +kernel) ?_
  refine y_iconst (show decode code 817 = .ok (.iconst 1, 1) by decide +kernel) ?_
  refine y_iadd (show decode code 818 = .ok (.iadd, 1) by decide +kernel) ?_
  refine y_sald (show decode code 819 = .ok (.iaload, 1) by decide +kernel) hL (by omega) ?_
  refine y_aload_n (i := 0) (v := (3, 0)) rfl (Or.inr (Or.inl rfl)) (show decode code 820 = .ok (.aload_n 0, 1) by decide +kernel) ?_
  refine y_iload_n (i := 3) (x := i) rfl (show decode code 821 = .ok (.iload_n 3, 1) by decide +kernel) ?_
  refine y_iconst (show decode code 822 = .ok (.iconst 2, 1) by decide +kernel) ?_
  refine y_iadd (show decode code 823 = .ok (.iadd, 1) by decide +kernel) ?_
  refine y_sald (show decode code 824 = .ok (.iaload, 1) by decide +kernel) hL (by omega) ?_
  refine y_ctV (m' := mX12_hardest) (t := t) (ci := 12) (tag := 0) (a := 321) (As := [iv (sv Sc (i + 1)), iv (sv Sc (i + 2))]) (F := fun r' σ2 => r' = r ∧ inR r ∧ IVL L σ2) (cw_L_106 rfl) (show decode code 825 = .ok (.invokevirtual 106, 3) by decide +kernel) rfl (Nat.le_of_ble_eq_true rfl) (by decide) okl_321 rfl rfl (Nat.le_refl _) (hh.2 389 _ (fun r' σ2 h => ⟨h.1, hh.1, iv_sameN v h⟩)) (fun r' σ2 hs => ?_)
  obtain ⟨e, hr, v2⟩ := hs
  subst e
  refine y_icmp_eq (tgt := 1404) hr hr (show decode code 828 = .ok (.if_icmp .eq 576, 3) by decide +kernel) (by decide) (fun _ => ?_) (fun z => absurd rfl z)
  exact lw_1404 (k t σ2 L v2)
set_option maxRecDepth 8000 in
theorem lw_cost {t i : Int} {σ : jM} {L : LT} (hL : Sc.1 ≤ 3072) (hi : 0 ≤ i ∧ i + 6 ≤ (Sc.1 : Int)) (v : IVL L σ) (k : ∀ t' σ' L', IVL L' σ' → JS Sc mL 401 0 340 PL 18 [(3, 0), rv 1, rv 321, iv (i + 6)] [] (GG t') σ') : JS Sc mL 401 0 340 PL 833 [(3, 0), rv 1, rv 321, iv i] [] (GG t) σ := by
  refine y_aload_n (i := 1) (v := rv 1) rfl (Or.inl rfl) (show decode code 833 = .ok (.aload_n 1, 1) by decide +kernel) ?_
  refine y_aload_n (i := 0) (v := (3, 0)) rfl (Or.inr (Or.inl rfl)) (show decode code 834 = .ok (.aload_n 0, 1) by decide +kernel) ?_
  refine y_iload_n (i := 3) (x := i) rfl (show decode code 835 = .ok (.iload_n 3, 1) by decide +kernel) ?_
  refine y_iconst (show decode code 836 = .ok (.iconst 1, 1) by decide +kernel) ?_
  refine y_iadd (show decode code 837 = .ok (.iadd, 1) by decide +kernel) ?_
  refine y_sald (show decode code 838 = .ok (.iaload, 1) by decide +kernel) hL (by omega) ?_
  refine y_aload_n (i := 0) (v := (3, 0)) rfl (Or.inr (Or.inl rfl)) (show decode code 839 = .ok (.aload_n 0, 1) by decide +kernel) ?_
  refine y_iload_n (i := 3) (x := i) rfl (show decode code 840 = .ok (.iload_n 3, 1) by decide +kernel) ?_
  refine y_iconst (show decode code 841 = .ok (.iconst 2, 1) by decide +kernel) ?_
  refine y_iadd (show decode code 842 = .ok (.iadd, 1) by decide +kernel) ?_
  refine y_sald (show decode code 843 = .ok (.iaload, 1) by decide +kernel) hL (by omega) ?_
  refine y_aload_n (i := 0) (v := (3, 0)) rfl (Or.inr (Or.inl rfl)) (show decode code 844 = .ok (.aload_n 0, 1) by decide +kernel) ?_
  refine y_iload_n (i := 3) (x := i) rfl (show decode code 845 = .ok (.iload_n 3, 1) by decide +kernel) ?_
  refine y_iconst (show decode code 846 = .ok (.iconst 3, 1) by decide +kernel) ?_
  refine y_iadd (show decode code 847 = .ok (.iadd, 1) by decide +kernel) ?_
  refine y_sald (show decode code 848 = .ok (.iaload, 1) by decide +kernel) hL (by omega) ?_
  refine y_ctV (m' := mX11_cost) (t := t) (ci := 11) (tag := 0) (a := 1) (As := [iv (sv Sc (i + 1)), iv (sv Sc (i + 2)), iv (sv Sc (i + 3))]) (F := fun r σ1 => (inR r) ∧ ∀ (d2 : Nat) (Q2 : Int → jM → Prop), (∀ r' σ2, SameT L σ r r' σ2 → Q2 r' σ2) → Ct mX12_cost (d2 + 11) 0 t [rv 321, iv (sv Sc (i + 1)), iv (sv Sc (i + 2)), iv (sv Sc (i + 3))] σ1 Q2) (cw_L_107 rfl) (show decode code 849 = .ok (.invokevirtual 107, 3) by decide +kernel) rfl (Nat.le_of_ble_eq_true rfl) (by decide) okl_1 rfl rfl (Nat.le_refl _) (a_cost 350 v.1 v.2.1 v.2.2.1 sv_R sv_R sv_R (fun r σ1 c h => ⟨c, h⟩)) (fun r σ1 hh => ?_)
  refine y_aload_n (i := 2) (v := rv 321) rfl (Or.inl rfl) (show decode code 852 = .ok (.aload_n 2, 1) by decide +kernel) ?_
  refine y_aload_n (i := 0) (v := (3, 0)) rfl (Or.inr (Or.inl rfl)) (show decode code 853 = .ok (.aload_n 0, 1) by decide +kernel) ?_
  refine y_iload_n (i := 3) (x := i) rfl (show decode code 854 = .ok (.iload_n 3, 1) by decide +kernel) ?_
  refine y_iconst (show decode code 855 = .ok (.iconst 1, 1) by decide +kernel) ?_
  refine y_iadd (show decode code 856 = .ok (.iadd, 1) by decide +kernel) ?_
  refine y_sald (show decode code 857 = .ok (.iaload, 1) by decide +kernel) hL (by omega) ?_
  refine y_aload_n (i := 0) (v := (3, 0)) rfl (Or.inr (Or.inl rfl)) (show decode code 858 = .ok (.aload_n 0, 1) by decide +kernel) ?_
  refine y_iload_n (i := 3) (x := i) rfl (show decode code 859 = .ok (.iload_n 3, 1) by decide +kernel) ?_
  refine y_iconst (show decode code 860 = .ok (.iconst 2, 1) by decide +kernel) ?_
  refine y_iadd (show decode code 861 = .ok (.iadd, 1) by decide +kernel) ?_
  refine y_sald (show decode code 862 = .ok (.iaload, 1) by decide +kernel) hL (by omega) ?_
  refine y_aload_n (i := 0) (v := (3, 0)) rfl (Or.inr (Or.inl rfl)) (show decode code 863 = .ok (.aload_n 0, 1) by decide +kernel) ?_
  refine y_iload_n (i := 3) (x := i) rfl (show decode code 864 = .ok (.iload_n 3, 1) by decide +kernel) ?_
  refine y_iconst (show decode code 865 = .ok (.iconst 3, 1) by decide +kernel) ?_
  refine y_iadd (show decode code 866 = .ok (.iadd, 1) by decide +kernel) ?_
  refine y_sald (show decode code 867 = .ok (.iaload, 1) by decide +kernel) hL (by omega) ?_
  refine y_ctV (m' := mX12_cost) (t := t) (ci := 12) (tag := 0) (a := 321) (As := [iv (sv Sc (i + 1)), iv (sv Sc (i + 2)), iv (sv Sc (i + 3))]) (F := fun r' σ2 => r' = r ∧ inR r ∧ IVL L σ2) (cw_L_111 rfl) (show decode code 868 = .ok (.invokevirtual 111, 3) by decide +kernel) rfl (Nat.le_of_ble_eq_true rfl) (by decide) okl_321 rfl rfl (Nat.le_refl _) (hh.2 389 _ (fun r' σ2 h => ⟨h.1, hh.1, iv_sameT v h⟩)) (fun r' σ2 hs => ?_)
  obtain ⟨e, hr, v2⟩ := hs
  subst e
  refine y_icmp_eq (tgt := 1404) hr hr (show decode code 871 = .ok (.if_icmp .eq 533, 3) by decide +kernel) (by decide) (fun _ => ?_) (fun z => absurd rfl z)
  exact lw_1404 (k t σ2 L v2)
set_option maxRecDepth 8000 in
theorem lw_few {t i : Int} {σ : jM} {L : LT} (hL : Sc.1 ≤ 3072) (hi : 0 ≤ i ∧ i + 6 ≤ (Sc.1 : Int)) (v : IVL L σ) (k : ∀ t' σ' L', IVL L' σ' → JS Sc mL 401 0 340 PL 18 [(3, 0), rv 1, rv 321, iv (i + 6)] [] (GG t') σ') : JS Sc mL 401 0 340 PL 876 [(3, 0), rv 1, rv 321, iv i] [] (GG t) σ := by
  refine y_aload_n (i := 1) (v := rv 1) rfl (Or.inl rfl) (show decode code 876 = .ok (.aload_n 1, 1) by decide +kernel) ?_
  refine y_aload_n (i := 0) (v := (3, 0)) rfl (Or.inr (Or.inl rfl)) (show decode code 877 = .ok (.aload_n 0, 1) by decide +kernel) ?_
  refine y_iload_n (i := 3) (x := i) rfl (show decode code 878 = .ok (.iload_n 3, 1) by decide +kernel) ?_
  refine y_iconst (show decode code 879 = .ok (.iconst 1, 1) by decide +kernel) ?_
  refine y_iadd (show decode code 880 = .ok (.iadd, 1) by decide +kernel) ?_
  refine y_sald (show decode code 881 = .ok (.iaload, 1) by decide +kernel) hL (by omega) ?_
  refine y_aload_n (i := 0) (v := (3, 0)) rfl (Or.inr (Or.inl rfl)) (show decode code 882 = .ok (.aload_n 0, 1) by decide +kernel) ?_
  refine y_iload_n (i := 3) (x := i) rfl (show decode code 883 = .ok (.iload_n 3, 1) by decide +kernel) ?_
  refine y_iconst (show decode code 884 = .ok (.iconst 2, 1) by decide +kernel) ?_
  refine y_iadd (show decode code 885 = .ok (.iadd, 1) by decide +kernel) ?_
  refine y_sald (show decode code 886 = .ok (.iaload, 1) by decide +kernel) hL (by omega) ?_
  refine y_ctV (m' := mX11_few) (t := t) (ci := 11) (tag := 0) (a := 1) (As := [iv (sv Sc (i + 1)), iv (sv Sc (i + 2))]) (F := fun r σ1 => (inR r) ∧ ∀ (d2 : Nat) (Q2 : Int → jM → Prop), (∀ r' σ2, r' = r → I0 L σ2 → K1 σ2 → KR σ2 → KS σ2 → (∀ x, (x = 291 ∨ x = 338) → σ2 x = σ x) → Q2 r' σ2) → Ct mX12_few (d2 + 11) 0 t [rv 321, iv (sv Sc (i + 1)), iv (sv Sc (i + 2))] σ1 Q2) (cw_L_112 rfl) (show decode code 887 = .ok (.invokevirtual 112, 3) by decide +kernel) rfl (Nat.le_of_ble_eq_true rfl) (by decide) okl_1 rfl rfl (Nat.le_refl _) (a_few 350 v.1 v.2.1 v.2.2.1 v.2.2.2.1 sv_R sv_R (fun r σ1 c h => ⟨c, h⟩)) (fun r σ1 hh => ?_)
  refine y_aload_n (i := 2) (v := rv 321) rfl (Or.inl rfl) (show decode code 890 = .ok (.aload_n 2, 1) by decide +kernel) ?_
  refine y_aload_n (i := 0) (v := (3, 0)) rfl (Or.inr (Or.inl rfl)) (show decode code 891 = .ok (.aload_n 0, 1) by decide +kernel) ?_
  refine y_iload_n (i := 3) (x := i) rfl (show decode code 892 = .ok (.iload_n 3, 1) by decide +kernel) ?_
  refine y_iconst (show decode code 893 = .ok (.iconst 1, 1) by decide +kernel) ?_
  refine y_iadd (show decode code 894 = .ok (.iadd, 1) by decide +kernel) ?_
  refine y_sald (show decode code 895 = .ok (.iaload, 1) by decide +kernel) hL (by omega) ?_
  refine y_aload_n (i := 0) (v := (3, 0)) rfl (Or.inr (Or.inl rfl)) (show decode code 896 = .ok (.aload_n 0, 1) by decide +kernel) ?_
  refine y_iload_n (i := 3) (x := i) rfl (show decode code 897 = .ok (.iload_n 3, 1) by decide +kernel) ?_
  refine y_iconst (show decode code 898 = .ok (.iconst 2, 1) by decide +kernel) ?_
  refine y_iadd (show decode code 899 = .ok (.iadd, 1) by decide +kernel) ?_
  refine y_sald (show decode code 900 = .ok (.iaload, 1) by decide +kernel) hL (by omega) ?_
  refine y_ctV (m' := mX12_few) (t := t) (ci := 12) (tag := 0) (a := 321) (As := [iv (sv Sc (i + 1)), iv (sv Sc (i + 2))]) (F := fun r' σ2 => r' = r ∧ inR r ∧ IVL L σ2) (cw_L_115 rfl) (show decode code 901 = .ok (.invokevirtual 115, 3) by decide +kernel) rfl (Nat.le_of_ble_eq_true rfl) (by decide) okl_321 rfl rfl (Nat.le_refl _) (hh.2 389 _ (fun r' σ2 e1 e2 e3 e4 e5 e6 => ⟨e1, hh.1, e2, e3, e4, e5, KP_row v.2.2.2.2 e6⟩)) (fun r' σ2 hs => ?_)
  obtain ⟨e, hr, v2⟩ := hs
  subst e
  refine y_icmp_eq (tgt := 1404) hr hr (show decode code 904 = .ok (.if_icmp .eq 500, 3) by decide +kernel) (by decide) (fun _ => ?_) (fun z => absurd rfl z)
  exact lw_1404 (k t σ2 L v2)
end LC
