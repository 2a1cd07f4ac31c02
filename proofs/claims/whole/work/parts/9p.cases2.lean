/-! ===== the law: its calls (printed by wip/whole/gen_cases.py) ===== -/
section LC
variable {Sc : Nat × (Nat → Int32)}
set_option maxRecDepth 8000 in
theorem lw_day {t i : Int} {σ : jM} {L : LT} (hL : Sc.1 ≤ 3072) (hi : 0 ≤ i ∧ i + 6 ≤ (Sc.1 : Int)) (v : IVL L σ) (k : ∀ t' σ' L', IVL L' σ' → JS Sc mL 401 0 340 PL 18 [(3, 0), rv 1, rv 321, iv (i + 6)] [] (GG t') σ') : JS Sc mL 401 0 340 PL 460 [(3, 0), rv 1, rv 321, iv i] [] (GG t) σ := by
  refine y_aload_n (i := 1) (v := rv 1) rfl (Or.inl rfl) (show decode code 460 = .ok (.aload_n 1, 1) by decide +kernel) ?_
  refine y_aload_n (i := 0) (v := (3, 0)) rfl (Or.inr (Or.inl rfl)) (show decode code 461 = .ok (.aload_n 0, 1) by decide +kernel) ?_
  refine y_iload_n (i := 3) (x := i) rfl (show decode code 462 = .ok (.iload_n 3, 1) by decide +kernel) ?_
  refine y_iconst (show decode code 463 = .ok (.iconst 1, 1) by decide +kernel) ?_
  refine y_iadd (show decode code 464 = .ok (.iadd, 1) by decide +kernel) ?_
  refine y_sald (show decode code 465 = .ok (.iaload, 1) by decide +kernel) hL (by omega) ?_
  refine y_ctV (m' := mX11_day) (t := t) (ci := 11) (tag := 0) (a := 1) (As := [iv (sv Sc (i + 1))]) (F := fun r σ1 => (True) ∧ ∀ (d2 : Nat) (Q2 : Int → jM → Prop), (∀ r' σ2, Same L σ r r' σ2 → Q2 r' σ2) → Ct mX12_day (d2 + 11) 0 t [rv 321, iv (sv Sc (i + 1))] σ1 Q2) (cw_L_50 rfl) (show decode code 466 = .ok (.invokevirtual 50, 3) by decide +kernel) rfl (Nat.le_of_ble_eq_true rfl) (by decide) okl_1 rfl rfl (Nat.le_refl _) (a_day 389 v.1  sv_R (fun r σ1 h => ⟨trivial, h⟩)) (fun r σ1 hh => ?_)
  refine y_aload_n (i := 2) (v := rv 321) rfl (Or.inl rfl) (show decode code 469 = .ok (.aload_n 2, 1) by decide +kernel) ?_
  refine y_aload_n (i := 0) (v := (3, 0)) rfl (Or.inr (Or.inl rfl)) (show decode code 470 = .ok (.aload_n 0, 1) by decide +kernel) ?_
  refine y_iload_n (i := 3) (x := i) rfl (show decode code 471 = .ok (.iload_n 3, 1) by decide +kernel) ?_
  refine y_iconst (show decode code 472 = .ok (.iconst 1, 1) by decide +kernel) ?_
  refine y_iadd (show decode code 473 = .ok (.iadd, 1) by decide +kernel) ?_
  refine y_sald (show decode code 474 = .ok (.iaload, 1) by decide +kernel) hL (by omega) ?_
  refine y_ctV (m' := mX12_day) (t := t) (ci := 12) (tag := 0) (a := 321) (As := [iv (sv Sc (i + 1))]) (F := fun r' σ2 => r' = r ∧ inR r ∧ IVL L σ2) (cw_L_53 rfl) (show decode code 475 = .ok (.invokevirtual 53, 3) by decide +kernel) rfl (Nat.le_of_ble_eq_true rfl) (by decide) okl_321 rfl rfl (Nat.le_refl _) (hh.2 389 _ (fun r' σ2 h => ⟨h.1, h.2.1, iv_same v h⟩)) (fun r' σ2 hs => ?_)
  obtain ⟨e, hr, v2⟩ := hs
  subst e
  refine y_icmp_eq (tgt := 1404) hr hr (show decode code 478 = .ok (.if_icmp .eq 926, 3) by decide +kernel) (by decide) (fun _ => ?_) (fun z => absurd rfl z)
  exact lw_1404 (k t σ2 L v2)
set_option maxRecDepth 8000 in
theorem lw_played {t i : Int} {σ : jM} {L : LT} (hL : Sc.1 ≤ 3072) (hi : 0 ≤ i ∧ i + 6 ≤ (Sc.1 : Int)) (v : IVL L σ) (k : ∀ t' σ' L', IVL L' σ' → JS Sc mL 401 0 340 PL 18 [(3, 0), rv 1, rv 321, iv (i + 6)] [] (GG t') σ') : JS Sc mL 401 0 340 PL 483 [(3, 0), rv 1, rv 321, iv i] [] (GG t) σ := by
  refine y_aload_n (i := 1) (v := rv 1) rfl (Or.inl rfl) (show decode code 483 = .ok (.aload_n 1, 1) by decide +kernel) ?_
  refine y_aload_n (i := 0) (v := (3, 0)) rfl (Or.inr (Or.inl rfl)) (show decode code 484 = .ok (.aload_n 0, 1) by decide +kernel) ?_
  refine y_iload_n (i := 3) (x := i) rfl (show decode code 485 = .ok (.iload_n 3, 1) by decide +kernel) ?_
  refine y_iconst (show decode code 486 = .ok (.iconst 1, 1) by decide +kernel) ?_
  refine y_iadd (show decode code 487 = .ok (.iadd, 1) by decide +kernel) ?_
  refine y_sald (show decode code 488 = .ok (.iaload, 1) by decide +kernel) hL (by omega) ?_
  refine y_ctV (m' := mX11_played) (t := t) (ci := 11) (tag := 0) (a := 1) (As := [iv (sv Sc (i + 1))]) (F := fun r σ1 => (inR r) ∧ ∀ (d2 : Nat) (Q2 : Int → jM → Prop), (∀ r' σ2, SameN L σ r r' σ2 → Q2 r' σ2) → Ct mX12_played (d2 + 13) 0 t [rv 321, iv (sv Sc (i + 1))] σ1 Q2) (cw_L_54 rfl) (show decode code 489 = .ok (.invokevirtual 54, 3) by decide +kernel) rfl (Nat.le_of_ble_eq_true rfl) (by decide) okl_1 rfl rfl (Nat.le_refl _) (a_played 358 v.1 v.2.1 v.2.2.1 sv_R (fun r σ1 c h => ⟨c, h⟩)) (fun r σ1 hh => ?_)
  refine y_aload_n (i := 2) (v := rv 321) rfl (Or.inl rfl) (show decode code 492 = .ok (.aload_n 2, 1) by decide +kernel) ?_
  refine y_aload_n (i := 0) (v := (3, 0)) rfl (Or.inr (Or.inl rfl)) (show decode code 493 = .ok (.aload_n 0, 1) by decide +kernel) ?_
  refine y_iload_n (i := 3) (x := i) rfl (show decode code 494 = .ok (.iload_n 3, 1) by decide +kernel) ?_
  refine y_iconst (show decode code 495 = .ok (.iconst 1, 1) by decide +kernel) ?_
  refine y_iadd (show decode code 496 = .ok (.iadd, 1) by decide +kernel) ?_
  refine y_sald (show decode code 497 = .ok (.iaload, 1) by decide +kernel) hL (by omega) ?_
  refine y_ctV (m' := mX12_played) (t := t) (ci := 12) (tag := 0) (a := 321) (As := [iv (sv Sc (i + 1))]) (F := fun r' σ2 => r' = r ∧ inR r ∧ IVL L σ2) (cw_L_57 rfl) (show decode code 498 = .ok (.invokevirtual 57, 3) by decide +kernel) rfl (Nat.le_of_ble_eq_true rfl) (by decide) okl_321 rfl rfl (Nat.le_refl _) (hh.2 387 _ (fun r' σ2 h => ⟨h.1, hh.1, iv_sameN v h⟩)) (fun r' σ2 hs => ?_)
  obtain ⟨e, hr, v2⟩ := hs
  subst e
  refine y_icmp_eq (tgt := 1404) hr hr (show decode code 501 = .ok (.if_icmp .eq 903, 3) by decide +kernel) (by decide) (fun _ => ?_) (fun z => absurd rfl z)
  exact lw_1404 (k t σ2 L v2)
set_option maxRecDepth 8000 in
theorem lw_years {t i : Int} {σ : jM} {L : LT} (hL : Sc.1 ≤ 3072) (hi : 0 ≤ i ∧ i + 6 ≤ (Sc.1 : Int)) (v : IVL L σ) (k : ∀ t' σ' L', IVL L' σ' → JS Sc mL 401 0 340 PL 18 [(3, 0), rv 1, rv 321, iv (i + 6)] [] (GG t') σ') : JS Sc mL 401 0 340 PL 506 [(3, 0), rv 1, rv 321, iv i] [] (GG t) σ := by
  refine y_aload_n (i := 1) (v := rv 1) rfl (Or.inl rfl) (show decode code 506 = .ok (.aload_n 1, 1) by decide +kernel) ?_
  refine y_aload_n (i := 0) (v := (3, 0)) rfl (Or.inr (Or.inl rfl)) (show decode code 507 = .ok (.aload_n 0, 1) by decide +kernel) ?_
  refine y_iload_n (i := 3) (x := i) rfl (show decode code 508 = .ok (.iload_n 3, 1) by decide +kernel) ?_
  refine y_iconst (show decode code 509 = .ok (.iconst 1, 1) by decide +kernel) ?_
  refine y_iadd (show decode code 510 = .ok (.iadd, 1) by decide +kernel) ?_
  refine y_sald (show decode code 511 = .ok (.iaload, 1) by decide +kernel) hL (by omega) ?_
  refine y_aload_n (i := 0) (v := (3, 0)) rfl (Or.inr (Or.inl rfl)) (show decode code 512 = .ok (.aload_n 0, 1) by decide +kernel) ?_
  refine y_iload_n (i := 3) (x := i) rfl (show decode code 513 = .ok (.iload_n 3, 1) by decide +kernel) ?_
  refine y_iconst (show decode code 514 = .ok (.iconst 2, 1) by decide +kernel) ?_
  refine y_iadd (show decode code 515 = .ok (.iadd, 1) by decide +kernel) ?_
  refine y_sald (show decode code 516 = .ok (.iaload, 1) by decide +kernel) hL (by omega) ?_
  refine y_ctV (m' := mX11_years) (t := t) (ci := 11) (tag := 0) (a := 1) (As := [iv (sv Sc (i + 1)), iv (sv Sc (i + 2))]) (F := fun r σ1 => (True) ∧ ∀ (d2 : Nat) (Q2 : Int → jM → Prop), (∀ r' σ2, Same L σ r r' σ2 → Q2 r' σ2) → Ct mX12_years (d2 + 12) 0 t [rv 321, iv (sv Sc (i + 1)), iv (sv Sc (i + 2))] σ1 Q2) (cw_L_58 rfl) (show decode code 517 = .ok (.invokevirtual 58, 3) by decide +kernel) rfl (Nat.le_of_ble_eq_true rfl) (by decide) okl_1 rfl rfl (Nat.le_refl _) (a_years 388 v.1  sv_R sv_R (fun r σ1 h => ⟨trivial, h⟩)) (fun r σ1 hh => ?_)
  refine y_aload_n (i := 2) (v := rv 321) rfl (Or.inl rfl) (show decode code 520 = .ok (.aload_n 2, 1) by decide +kernel) ?_
  refine y_aload_n (i := 0) (v := (3, 0)) rfl (Or.inr (Or.inl rfl)) (show decode code 521 = .ok (.aload_n 0, 1) by decide +kernel) ?_
  refine y_iload_n (i := 3) (x := i) rfl (show decode code 522 = .ok (.iload_n 3, 1) by decide +kernel) ?_
  refine y_iconst (show decode code 523 = .ok (.iconst 1, 1) by decide +kernel) ?_
  refine y_iadd (show decode code 524 = .ok (.iadd, 1) by decide +kernel) ?_
  refine y_sald (show decode code 525 = .ok (.iaload, 1) by decide +kernel) hL (by omega) ?_
  refine y_aload_n (i := 0) (v := (3, 0)) rfl (Or.inr (Or.inl rfl)) (show decode code 526 = .ok (.aload_n 0, 1) by decide +kernel) ?_
  refine y_iload_n (i := 3) (x := i) rfl (show decode code 527 = .ok (.iload_n 3, 1) by decide +kernel) ?_
  refine y_iconst (show decode code 528 = .ok (.iconst 2, 1) by decide +kernel) ?_
  refine y_iadd (show decode code 529 = .ok (.iadd, 1) by decide +kernel) ?_
  refine y_sald (show decode code 530 = .ok (.iaload, 1) by decide +kernel) hL (by omega) ?_
  refine y_ctV (m' := mX12_years) (t := t) (ci := 12) (tag := 0) (a := 321) (As := [iv (sv Sc (i + 1)), iv (sv Sc (i + 2))]) (F := fun r' σ2 => r' = r ∧ inR r ∧ IVL L σ2) (cw_L_61 rfl) (show decode code 531 = .ok (.invokevirtual 61, 3) by decide +kernel) rfl (Nat.le_of_ble_eq_true rfl) (by decide) okl_321 rfl rfl (Nat.le_refl _) (hh.2 388 _ (fun r' σ2 h => ⟨h.1, h.2.1, iv_same v h⟩)) (fun r' σ2 hs => ?_)
  obtain ⟨e, hr, v2⟩ := hs
  subst e
  refine y_icmp_eq (tgt := 1404) hr hr (show decode code 534 = .ok (.if_icmp .eq 870, 3) by decide +kernel) (by decide) (fun _ => ?_) (fun z => absurd rfl z)
  exact lw_1404 (k t σ2 L v2)
set_option maxRecDepth 8000 in
theorem lw_undo {t i : Int} {σ : jM} {L : LT} (hL : Sc.1 ≤ 3072) (hi : 0 ≤ i ∧ i + 6 ≤ (Sc.1 : Int)) (v : IVL L σ) (k : ∀ t' σ' L', IVL L' σ' → JS Sc mL 401 0 340 PL 18 [(3, 0), rv 1, rv 321, iv (i + 6)] [] (GG t') σ') : JS Sc mL 401 0 340 PL 539 [(3, 0), rv 1, rv 321, iv i] [] (GG t) σ := by
  refine y_aload_n (i := 1) (v := rv 1) rfl (Or.inl rfl) (show decode code 539 = .ok (.aload_n 1, 1) by decide +kernel) ?_
  refine y_ctV (m' := mX11_undo) (t := t) (ci := 11) (tag := 0) (a := 1) (As := []) (F := fun r σ1 => (True) ∧ ∀ (d2 : Nat) (Q2 : Int → jM → Prop), (∀ r' σ2, Same L σ r r' σ2 → Q2 r' σ2) → Ct mX12_undo (d2 + 11) 0 t [rv 321] σ1 Q2) (cw_L_62 rfl) (show decode code 540 = .ok (.invokevirtual 62, 3) by decide +kernel) rfl (Nat.le_of_ble_eq_true rfl) (by decide) okl_1 rfl rfl (Nat.le_refl _) (a_undo 389 v.1   (fun r σ1 h => ⟨trivial, h⟩)) (fun r σ1 hh => ?_)
  refine y_aload_n (i := 2) (v := rv 321) rfl (Or.inl rfl) (show decode code 543 = .ok (.aload_n 2, 1) by decide +kernel) ?_
  refine y_ctV (m' := mX12_undo) (t := t) (ci := 12) (tag := 0) (a := 321) (As := []) (F := fun r' σ2 => r' = r ∧ inR r ∧ IVL L σ2) (cw_L_65 rfl) (show decode code 544 = .ok (.invokevirtual 65, 3) by decide +kernel) rfl (Nat.le_of_ble_eq_true rfl) (by decide) okl_321 rfl rfl (Nat.le_refl _) (hh.2 389 _ (fun r' σ2 h => ⟨h.1, h.2.1, iv_same v h⟩)) (fun r' σ2 hs => ?_)
  obtain ⟨e, hr, v2⟩ := hs
  subst e
  refine y_icmp_eq (tgt := 1404) hr hr (show decode code 547 = .ok (.if_icmp .eq 857, 3) by decide +kernel) (by decide) (fun _ => ?_) (fun z => absurd rfl z)
  exact lw_1404 (k t σ2 L v2)
set_option maxRecDepth 8000 in
theorem lw_of {t i : Int} {σ : jM} {L : LT} (hL : Sc.1 ≤ 3072) (hi : 0 ≤ i ∧ i + 6 ≤ (Sc.1 : Int)) (v : IVL L σ) (k : ∀ t' σ' L', IVL L' σ' → JS Sc mL 401 0 340 PL 18 [(3, 0), rv 1, rv 321, iv (i + 6)] [] (GG t') σ') : JS Sc mL 401 0 340 PL 552 [(3, 0), rv 1, rv 321, iv i] [] (GG t) σ := by
  refine y_aload_n (i := 1) (v := rv 1) rfl (Or.inl rfl) (show decode code 552 = .ok (.aload_n 1, 1) by decide +kernel) ?_
  refine y_aload_n (i := 0) (v := (3, 0)) rfl (Or.inr (Or.inl rfl)) (show decode code 553 = .ok (.aload_n 0, 1) by decide +kernel) ?_
  refine y_iload_n (i := 3) (x := i) rfl (show decode code 554 = .ok (.iload_n 3, 1) by decide +kernel) ?_
  refine y_iconst (show decode code 555 = .ok (.iconst 1, 1) by decide +kernel) ?_
  refine y_iadd (show decode code 556 = .ok (.iadd, 1) by decide +kernel) ?_
  refine y_sald (show decode code 557 = .ok (.iaload, 1) by decide +kernel) hL (by omega) ?_
  refine y_aload_n (i := 0) (v := (3, 0)) rfl (Or.inr (Or.inl rfl)) (show decode code 558 = .ok (.aload_n 0, 1) by decide +kernel) ?_
  refine y_iload_n (i := 3) (x := i) rfl (show decode code 559 = .ok (.iload_n 3, 1) by decide +kernel) ?_
  refine y_iconst (show decode code 560 = .ok (.iconst 2, 1) by decide +kernel) ?_
  refine y_iadd (show decode code 561 = .ok (.iadd, 1) by decide +kernel) ?_
  refine y_sald (show decode code 562 = .ok (.iaload, 1) by decide +kernel) hL (by omega) ?_
  refine y_ctV (m' := mX11_of) (t := t) (ci := 11) (tag := 0) (a := 1) (As := [iv (sv Sc (i + 1)), iv (sv Sc (i + 2))]) (F := fun r σ1 => (True) ∧ ∀ (d2 : Nat) (Q2 : Int → jM → Prop), (∀ r' σ2, Same L σ r r' σ2 → Q2 r' σ2) → Ct mX12_of (d2 + 11) 0 t [rv 321, iv (sv Sc (i + 1)), iv (sv Sc (i + 2))] σ1 Q2) (cw_L_66 rfl) (show decode code 563 = .ok (.invokevirtual 66, 3) by decide +kernel) rfl (Nat.le_of_ble_eq_true rfl) (by decide) okl_1 rfl rfl (Nat.le_refl _) (a_of 389 v.1  sv_R sv_R (fun r σ1 h => ⟨trivial, h⟩)) (fun r σ1 hh => ?_)
  refine y_aload_n (i := 2) (v := rv 321) rfl (Or.inl rfl) (show decode code 566 = .ok (.aload_n 2, 1) by decide +kernel) ?_
  refine y_aload_n (i := 0) (v := (3, 0)) rfl (Or.inr (Or.inl rfl)) (show decode code 567 = .ok (.aload_n 0, 1) by decide +kernel) ?_
  refine y_iload_n (i := 3) (x := i) rfl (show decode code 568 = .ok (.iload_n 3, 1) by decide +kernel) ?_
  refine y_iconst (show decode code 569 = .ok (.iconst 1, 1) by decide +kernel) ?_
  refine y_iadd (show decode code 570 = .ok (.iadd, 1) by decide +kernel) ?_
  refine y_sald (show decode code 571 = .ok (.iaload, 1) by decide +kernel) hL (by omega) ?_
  refine y_aload_n (i := 0) (v := (3, 0)) rfl (Or.inr (Or.inl rfl)) (show decode code 572 = .ok (.aload_n 0, 1) by decide +kernel) ?_
  refine y_iload_n (i := 3) (x := i) rfl (show decode code 573 = .ok (.iload_n 3, 1) by decide +kernel) ?_
  refine y_iconst (show decode code 574 = .ok (.iconst 2, 1) by decide +kernel) ?_
  refine y_iadd (show decode code 575 = .ok (.iadd, 1) by decide +kernel) ?_
  refine y_sald (show decode code 576 = .ok (.iaload, 1) by decide +kernel) hL (by omega) ?_
  refine y_ctV (m' := mX12_of) (t := t) (ci := 12) (tag := 0) (a := 321) (As := [iv (sv Sc (i + 1)), iv (sv Sc (i + 2))]) (F := fun r' σ2 => r' = r ∧ inR r ∧ IVL L σ2) (cw_L_69 rfl) (show decode code 577 = .ok (.invokevirtual 69, 3) by decide +kernel) rfl (Nat.le_of_ble_eq_true rfl) (by decide) okl_321 rfl rfl (Nat.le_refl _) (hh.2 389 _ (fun r' σ2 h => ⟨h.1, h.2.1, iv_same v h⟩)) (fun r' σ2 hs => ?_)
  obtain ⟨e, hr, v2⟩ := hs
  subst e
  refine y_icmp_eq (tgt := 1404) hr hr (show decode code 580 = .ok (.if_icmp .eq 824, 3) by decide +kernel) (by decide) (fun _ => ?_) (fun z => absurd rfl z)
  exact lw_1404 (k t σ2 L v2)
set_option maxRecDepth 8000 in
theorem lw_is {t i : Int} {σ : jM} {L : LT} (hL : Sc.1 ≤ 3072) (hi : 0 ≤ i ∧ i + 6 ≤ (Sc.1 : Int)) (v : IVL L σ) (k : ∀ t' σ' L', IVL L' σ' → JS Sc mL 401 0 340 PL 18 [(3, 0), rv 1, rv 321, iv (i + 6)] [] (GG t') σ') : JS Sc mL 401 0 340 PL 585 [(3, 0), rv 1, rv 321, iv i] [] (GG t) σ := by
  refine y_aload_n (i := 1) (v := rv 1) rfl (Or.inl rfl) (show decode code 585 = .ok (.aload_n 1, 1) by decide +kernel) ?_
  refine y_aload_n (i := 0) (v := (3, 0)) rfl (Or.inr (Or.inl rfl)) (show decode code 586 = .ok (.aload_n 0, 1) by decide +kernel) ?_
  refine y_iload_n (i := 3) (x := i) rfl (show decode code 587 = .ok (.iload_n 3, 1) by decide +kernel) ?_
  refine y_iconst (show decode code 588 = .ok (.iconst 1, 1) by decide +kernel) ?_
  refine y_iadd (show decode code 589 = .ok (.iadd, 1) by decide +kernel) ?_
  refine y_sald (show decode code 590 = .ok (.iaload, 1) by decide +kernel) hL (by omega) ?_
  refine y_ctV (m' := mX11_is) (t := t) (ci := 11) (tag := 0) (a := 1) (As := [iv (sv Sc (i + 1))]) (F := fun r σ1 => (True) ∧ ∀ (d2 : Nat) (Q2 : Int → jM → Prop), (∀ r' σ2, Same L σ r r' σ2 → Q2 r' σ2) → Ct mX12_is (d2 + 11) 0 t [rv 321, iv (sv Sc (i + 1))] σ1 Q2) (cw_L_70 rfl) (show decode code 591 = .ok (.invokevirtual 70, 3) by decide +kernel) rfl (Nat.le_of_ble_eq_true rfl) (by decide) okl_1 rfl rfl (Nat.le_refl _) (a_is 389 v.1  sv_R (fun r σ1 h => ⟨trivial, h⟩)) (fun r σ1 hh => ?_)
  refine y_aload_n (i := 2) (v := rv 321) rfl (Or.inl rfl) (show decode code 594 = .ok (.aload_n 2, 1) by decide +kernel) ?_
  refine y_aload_n (i := 0) (v := (3, 0)) rfl (Or.inr (Or.inl rfl)) (show decode code 595 = .ok (.aload_n 0, 1) by decide +kernel) ?_
  refine y_iload_n (i := 3) (x := i) rfl (show decode code 596 = .ok (.iload_n 3, 1) by decide +kernel) ?_
  refine y_iconst (show decode code 597 = .ok (.iconst 1, 1) by decide +kernel) ?_
  refine y_iadd (show decode code 598 = .ok (.iadd, 1) by decide +kernel) ?_
  refine y_sald (show decode code 599 = .ok (.iaload, 1) by decide +kernel) hL (by omega) ?_
  refine y_ctV (m' := mX12_is) (t := t) (ci := 12) (tag := 0) (a := 321) (As := [iv (sv Sc (i + 1))]) (F := fun r' σ2 => r' = r ∧ inR r ∧ IVL L σ2) (cw_L_73 rfl) (show decode code 600 = .ok (.invokevirtual 73, 3) by decide +kernel) rfl (Nat.le_of_ble_eq_true rfl) (by decide) okl_321 rfl rfl (Nat.le_refl _) (hh.2 389 _ (fun r' σ2 h => ⟨h.1, h.2.1, iv_same v h⟩)) (fun r' σ2 hs => ?_)
  obtain ⟨e, hr, v2⟩ := hs
  subst e
  refine y_icmp_eq (tgt := 1404) hr hr (show decode code 603 = .ok (.if_icmp .eq 801, 3) by decide +kernel) (by decide) (fun _ => ?_) (fun z => absurd rfl z)
  exact lw_1404 (k t σ2 L v2)
set_option maxRecDepth 8000 in
theorem lw_book {t i : Int} {σ : jM} {L : LT} (hL : Sc.1 ≤ 3072) (hi : 0 ≤ i ∧ i + 6 ≤ (Sc.1 : Int)) (v : IVL L σ) (k : ∀ t' σ' L', IVL L' σ' → JS Sc mL 401 0 340 PL 18 [(3, 0), rv 1, rv 321, iv (i + 6)] [] (GG t') σ') : JS Sc mL 401 0 340 PL 608 [(3, 0), rv 1, rv 321, iv i] [] (GG t) σ := by
  refine y_aload_n (i := 1) (v := rv 1) rfl (Or.inl rfl) (show decode code 608 = .ok (.aload_n 1, 1) by decide +kernel) ?_
  refine y_aload_n (i := 0) (v := (3, 0)) rfl (Or.inr (Or.inl rfl)) (show decode code 609 = .ok (.aload_n 0, 1) by decide +kernel) ?_
  refine y_iload_n (i := 3) (x := i) rfl (show decode code 610 = .ok (.iload_n 3, 1) by decide +kernel) ?_
  refine y_iconst (show decode code 611 = .ok (.iconst 1, 1) by decide +kernel) ?_
  refine y_iadd (show decode code 612 = .ok (.iadd, 1) by decide +kernel) ?_
  refine y_sald (show decode code 613 = .ok (.iaload, 1) by decide +kernel) hL (by omega) ?_
  refine y_aload_n (i := 0) (v := (3, 0)) rfl (Or.inr (Or.inl rfl)) (show decode code 614 = .ok (.aload_n 0, 1) by decide +kernel) ?_
  refine y_iload_n (i := 3) (x := i) rfl (show decode code 615 = .ok (.iload_n 3, 1) by decide +kernel) ?_
  refine y_iconst (show decode code 616 = .ok (.iconst 2, 1) by decide +kernel) ?_
  refine y_iadd (show decode code 617 = .ok (.iadd, 1) by decide +kernel) ?_
  refine y_sald (show decode code 618 = .ok (.iaload, 1) by decide +kernel) hL (by omega) ?_
  refine y_ctV (m' := mX11_book) (t := t) (ci := 11) (tag := 0) (a := 1) (As := [iv (sv Sc (i + 1)), iv (sv Sc (i + 2))]) (F := fun r σ1 => (True) ∧ ∀ (d2 : Nat) (Q2 : Int → jM → Prop), (∀ r' σ2, Same L σ r r' σ2 → Q2 r' σ2) → Ct mX12_book (d2 + 11) 0 t [rv 321, iv (sv Sc (i + 1)), iv (sv Sc (i + 2))] σ1 Q2) (cw_L_74 rfl) (show decode code 619 = .ok (.invokevirtual 74, 3) by decide +kernel) rfl (Nat.le_of_ble_eq_true rfl) (by decide) okl_1 rfl rfl (Nat.le_refl _) (a_book 389 v.1  sv_R sv_R (fun r σ1 h => ⟨trivial, h⟩)) (fun r σ1 hh => ?_)
  refine y_aload_n (i := 2) (v := rv 321) rfl (Or.inl rfl) (show decode code 622 = .ok (.aload_n 2, 1) by decide +kernel) ?_
  refine y_aload_n (i := 0) (v := (3, 0)) rfl (Or.inr (Or.inl rfl)) (show decode code 623 = .ok (.aload_n 0, 1) by decide +kernel) ?_
  refine y_iload_n (i := 3) (x := i) rfl (show decode code 624 = .ok (.iload_n 3, 1) by decide +kernel) ?_
  refine y_iconst (show decode code 625 = .ok (.iconst 1, 1) by decide +kernel) ?_
  refine y_iadd (show decode code 626 = .ok (.iadd, 1) by decide +kernel) ?_
  refine y_sald (show decode code 627 = .ok (.iaload, 1) by decide +kernel) hL (by omega) ?_
  refine y_aload_n (i := 0) (v := (3, 0)) rfl (Or.inr (Or.inl rfl)) (show decode code 628 = .ok (.aload_n 0, 1) by decide +kernel) ?_
  refine y_iload_n (i := 3) (x := i) rfl (show decode code 629 = .ok (.iload_n 3, 1) by decide +kernel) ?_
  refine y_iconst (show decode code 630 = .ok (.iconst 2, 1) by decide +kernel) ?_
  refine y_iadd (show decode code 631 = .ok (.iadd, 1) by decide +kernel) ?_
  refine y_sald (show decode code 632 = .ok (.iaload, 1) by decide +kernel) hL (by omega) ?_
  refine y_ctV (m' := mX12_book) (t := t) (ci := 12) (tag := 0) (a := 321) (As := [iv (sv Sc (i + 1)), iv (sv Sc (i + 2))]) (F := fun r' σ2 => r' = r ∧ inR r ∧ IVL L σ2) (cw_L_77 rfl) (show decode code 633 = .ok (.invokevirtual 77, 3) by decide +kernel) rfl (Nat.le_of_ble_eq_true rfl) (by decide) okl_321 rfl rfl (Nat.le_refl _) (hh.2 389 _ (fun r' σ2 h => ⟨h.1, h.2.1, iv_same v h⟩)) (fun r' σ2 hs => ?_)
  obtain ⟨e, hr, v2⟩ := hs
  subst e
  refine y_icmp_eq (tgt := 1404) hr hr (show decode code 636 = .ok (.if_icmp .eq 768, 3) by decide +kernel) (by decide) (fun _ => ?_) (fun z => absurd rfl z)
  exact lw_1404 (k t σ2 L v2)
set_option maxRecDepth 8000 in
theorem lw_foretold {t i : Int} {σ : jM} {L : LT} (hL : Sc.1 ≤ 3072) (hi : 0 ≤ i ∧ i + 6 ≤ (Sc.1 : Int)) (v : IVL L σ) (k : ∀ t' σ' L', IVL L' σ' → JS Sc mL 401 0 340 PL 18 [(3, 0), rv 1, rv 321, iv (i + 6)] [] (GG t') σ') : JS Sc mL 401 0 340 PL 641 [(3, 0), rv 1, rv 321, iv i] [] (GG t) σ := by
  refine y_aload_n (i := 1) (v := rv 1) rfl (Or.inl rfl) (show decode code 641 = .ok (.aload_n 1, 1) by decide +kernel) ?_
  refine y_aload_n (i := 0) (v := (3, 0)) rfl (Or.inr (Or.inl rfl)) (show decode code 642 = .ok (.aload_n 0, 1) by decide +kernel) ?_
  refine y_iload_n (i := 3) (x := i) rfl (show decode code 643 = .ok (.iload_n 3, 1) by decide +kernel) ?_
  refine y_iconst (show decode code 644 = .ok (.iconst 1, 1) by decide +kernel) ?_
  refine y_iadd (show decode code 645 = .ok (.iadd, 1) by decide +kernel) ?_
  refine y_sald (show decode code 646 = .ok (.iaload, 1) by decide +kernel) hL (by omega) ?_
  refine y_aload_n (i := 0) (v := (3, 0)) rfl (Or.inr (Or.inl rfl)) (show decode code 647 = .ok (.aload_n 0, 1) by decide +kernel) ?_
  refine y_iload_n (i := 3) (x := i) rfl (show decode code 648 = .ok (.iload_n 3, 1) by decide +kernel) ?_
  refine y_iconst (show decode code 649 = .ok (.iconst 2, 1) by decide +kernel) ?_
  refine y_iadd (show decode code 650 = .ok (.iadd, 1) by decide +kernel) ?_
  refine y_sald (show decode code 651 = .ok (.iaload, 1) by decide +kernel) hL (by omega) ?_
  refine y_ctV (m' := mX11_foretold) (t := t) (ci := 11) (tag := 0) (a := 1) (As := [iv (sv Sc (i + 1)), iv (sv Sc (i + 2))]) (F := fun r σ1 => (True) ∧ ∀ (d2 : Nat) (Q2 : Int → jM → Prop), (∀ r' σ2, Same L σ r r' σ2 → Q2 r' σ2) → Ct mX12_foretold (d2 + 11) 0 t [rv 321, iv (sv Sc (i + 1)), iv (sv Sc (i + 2))] σ1 Q2) (cw_L_78 rfl) (show decode code 652 = .ok (.invokevirtual 78, 3) by decide +kernel) rfl (Nat.le_of_ble_eq_true rfl) (by decide) okl_1 rfl rfl (Nat.le_refl _) (a_foretold 389 v.1  sv_R sv_R (fun r σ1 h => ⟨trivial, h⟩)) (fun r σ1 hh => ?_)
  refine y_aload_n (i := 2) (v := rv 321) rfl (Or.inl rfl) (show decode code 655 = .ok (.aload_n 2, 1) by decide +kernel) ?_
  refine y_aload_n (i := 0) (v := (3, 0)) rfl (Or.inr (Or.inl rfl)) (show decode code 656 = .ok (.aload_n 0, 1) by decide +kernel) ?_
  refine y_iload_n (i := 3) (x := i) rfl (show decode code 657 = .ok (.iload_n 3, 1) by decide +kernel) ?_
  refine y_iconst (show decode code 658 = .ok (.iconst 1, 1) by decide +kernel) ?_
  refine y_iadd (show decode code 659 = .ok (.iadd, 1) by decide +kernel) ?_
  refine y_sald (show decode code 660 = .ok (.iaload, 1) by decide +kernel) hL (by omega) ?_
  refine y_aload_n (i := 0) (v := (3, 0)) rfl (Or.inr (Or.inl rfl)) (show decode code 661 = .ok (.aload_n 0, 1) by decide +kernel) ?_
  refine y_iload_n (i := 3) (x := i) rfl (show decode code 662 = .ok (.iload_n 3, 1) by decide +kernel) ?_
  refine y_iconst (show decode code 663 = .ok (.iconst 2, 1) by decide +kernel) ?_
  refine y_iadd (show decode code 664 = .ok (.iadd, 1) by decide +kernel) ?_
  refine y_sald (show decode code 665 = .ok (.iaload, 1) by decide +kernel) hL (by omega) ?_
  refine y_ctV (m' := mX12_foretold) (t := t) (ci := 12) (tag := 0) (a := 321) (As := [iv (sv Sc (i + 1)), iv (sv Sc (i + 2))]) (F := fun r' σ2 => r' = r ∧ inR r ∧ IVL L σ2) (cw_L_81 rfl) (show decode code 666 = .ok (.invokevirtual 81, 3) by decide +kernel) rfl (Nat.le_of_ble_eq_true rfl) (by decide) okl_321 rfl rfl (Nat.le_refl _) (hh.2 389 _ (fun r' σ2 h => ⟨h.1, h.2.1, iv_same v h⟩)) (fun r' σ2 hs => ?_)
  obtain ⟨e, hr, v2⟩ := hs
  subst e
  refine y_icmp_eq (tgt := 1404) hr hr (show decode code 669 = .ok (.if_icmp .eq 735, 3) by decide +kernel) (by decide) (fun _ => ?_) (fun z => absurd rfl z)
  exact lw_1404 (k t σ2 L v2)
end LC
