/-! ===== the law: its calls (printed by wip/whole/gen_cases.py) ===== -/
section LC
variable {Sc : Nat × (Nat → Int32)}
set_option maxRecDepth 8000 in
theorem lw_oldest {t i : Int} {σ : jM} {L : LT} (hL : Sc.1 ≤ 3072) (hi : 0 ≤ i ∧ i + 6 ≤ (Sc.1 : Int)) (v : IVL L σ) (k : ∀ t' σ' L', IVL L' σ' → JS Sc mL 401 0 340 PL 18 [(3, 0), rv 1, rv 321, iv (i + 6)] [] (GG t') σ') : JS Sc mL 401 0 340 PL 1283 [(3, 0), rv 1, rv 321, iv i] [] (GG t) σ := by
  refine y_aload_n (i := 1) (v := rv 1) rfl (Or.inl rfl) (show decode code 1283 = .ok (.aload_n 1, 1) by decide +kernel) ?_
  refine y_ctV (m' := mX11_oldest) (t := t) (ci := 11) (tag := 0) (a := 1) (As := []) (F := fun r σ1 => (True) ∧ ∀ (d2 : Nat) (Q2 : Int → jM → Prop), (∀ r' σ2, Same L σ r r' σ2 → Q2 r' σ2) → Ct mX12_oldest (d2 + 11) 0 t [rv 321] σ1 Q2) (cw_L_182 rfl) (show decode code 1284 = .ok (.invokevirtual 182, 3) by decide +kernel) rfl (Nat.le_of_ble_eq_true rfl) (by decide) okl_1 rfl rfl (Nat.le_refl _) (a_oldest 389 v.1   (fun r σ1 h => ⟨trivial, h⟩)) (fun r σ1 hh => ?_)
  refine y_aload_n (i := 2) (v := rv 321) rfl (Or.inl rfl) (show decode code 1287 = .ok (.aload_n 2, 1) by decide +kernel) ?_
  refine y_ctV (m' := mX12_oldest) (t := t) (ci := 12) (tag := 0) (a := 321) (As := []) (F := fun r' σ2 => r' = r ∧ inR r ∧ IVL L σ2) (cw_L_185 rfl) (show decode code 1288 = .ok (.invokevirtual 185, 3) by decide +kernel) rfl (Nat.le_of_ble_eq_true rfl) (by decide) okl_321 rfl rfl (Nat.le_refl _) (hh.2 389 _ (fun r' σ2 h => ⟨h.1, h.2.1, iv_same v h⟩)) (fun r' σ2 hs => ?_)
  obtain ⟨e, hr, v2⟩ := hs
  subst e
  refine y_icmp_eq (tgt := 1404) hr hr (show decode code 1291 = .ok (.if_icmp .eq 113, 3) by decide +kernel) (by decide) (fun _ => ?_) (fun z => absurd rfl z)
  exact lw_1404 (k t σ2 L v2)
set_option maxRecDepth 8000 in
theorem lw_fullest {t i : Int} {σ : jM} {L : LT} (hL : Sc.1 ≤ 3072) (hi : 0 ≤ i ∧ i + 6 ≤ (Sc.1 : Int)) (v : IVL L σ) (k : ∀ t' σ' L', IVL L' σ' → JS Sc mL 401 0 340 PL 18 [(3, 0), rv 1, rv 321, iv (i + 6)] [] (GG t') σ') : JS Sc mL 401 0 340 PL 1296 [(3, 0), rv 1, rv 321, iv i] [] (GG t) σ := by
  refine y_aload_n (i := 1) (v := rv 1) rfl (Or.inl rfl) (show decode code 1296 = .ok (.aload_n 1, 1) by decide +kernel) ?_
  refine y_ctV (m' := mX11_fullest) (t := t) (ci := 11) (tag := 0) (a := 1) (As := []) (F := fun r σ1 => (True) ∧ ∀ (d2 : Nat) (Q2 : Int → jM → Prop), (∀ r' σ2, Same L σ r r' σ2 → Q2 r' σ2) → Ct mX12_fullest (d2 + 11) 0 t [rv 321] σ1 Q2) (cw_L_186 rfl) (show decode code 1297 = .ok (.invokevirtual 186, 3) by decide +kernel) rfl (Nat.le_of_ble_eq_true rfl) (by decide) okl_1 rfl rfl (Nat.le_refl _) (a_fullest 389 v.1   (fun r σ1 h => ⟨trivial, h⟩)) (fun r σ1 hh => ?_)
  refine y_aload_n (i := 2) (v := rv 321) rfl (Or.inl rfl) (show decode code 1300 = .ok (.aload_n 2, 1) by decide +kernel) ?_
  refine y_ctV (m' := mX12_fullest) (t := t) (ci := 12) (tag := 0) (a := 321) (As := []) (F := fun r' σ2 => r' = r ∧ inR r ∧ IVL L σ2) (cw_L_189 rfl) (show decode code 1301 = .ok (.invokevirtual 189, 3) by decide +kernel) rfl (Nat.le_of_ble_eq_true rfl) (by decide) okl_321 rfl rfl (Nat.le_refl _) (hh.2 389 _ (fun r' σ2 h => ⟨h.1, h.2.1, iv_same v h⟩)) (fun r' σ2 hs => ?_)
  obtain ⟨e, hr, v2⟩ := hs
  subst e
  refine y_icmp_eq (tgt := 1404) hr hr (show decode code 1304 = .ok (.if_icmp .eq 100, 3) by decide +kernel) (by decide) (fun _ => ?_) (fun z => absurd rfl z)
  exact lw_1404 (k t σ2 L v2)
set_option maxRecDepth 8000 in
theorem lw_can {t i : Int} {σ : jM} {L : LT} (hL : Sc.1 ≤ 3072) (hi : 0 ≤ i ∧ i + 6 ≤ (Sc.1 : Int)) (v : IVL L σ) (k : ∀ t' σ' L', IVL L' σ' → JS Sc mL 401 0 340 PL 18 [(3, 0), rv 1, rv 321, iv (i + 6)] [] (GG t') σ') : JS Sc mL 401 0 340 PL 1309 [(3, 0), rv 1, rv 321, iv i] [] (GG t) σ := by
  refine y_aload_n (i := 1) (v := rv 1) rfl (Or.inl rfl) (show decode code 1309 = .ok (.aload_n 1, 1) by decide +kernel) ?_
  refine y_aload_n (i := 0) (v := (3, 0)) rfl (Or.inr (Or.inl rfl)) (show decode code 1310 = .ok (.aload_n 0, 1) by decide +kernel) ?_
  refine y_iload_n (i := 3) (x := i) rfl (show decode code 1311 = .ok (.iload_n 3, 1) by decide +kernel) ?_
  refine y_iconst (show decode code 1312 = .ok (.iconst 1, 1) by decide +kernel) ?_
  refine y_iadd (show decode code 1313 = .ok (.iadd, 1) by decide +kernel) ?_
  refine y_sald (show decode code 1314 = .ok (.iaload, 1) by decide +kernel) hL (by omega) ?_
  refine y_ctV (m' := mX11_can) (t := t) (ci := 11) (tag := 0) (a := 1) (As := [iv (sv Sc (i + 1))]) (F := fun r σ1 => (True) ∧ ∀ (d2 : Nat) (Q2 : Int → jM → Prop), (∀ r' σ2, Same L σ r r' σ2 → Q2 r' σ2) → Ct mX12_can (d2 + 11) 0 t [rv 321, iv (sv Sc (i + 1))] σ1 Q2) (cw_L_190 rfl) (show decode code 1315 = .ok (.invokevirtual 190, 3) by decide +kernel) rfl (Nat.le_of_ble_eq_true rfl) (by decide) okl_1 rfl rfl (Nat.le_refl _) (a_can 389 v.1  sv_R (fun r σ1 h => ⟨trivial, h⟩)) (fun r σ1 hh => ?_)
  refine y_aload_n (i := 2) (v := rv 321) rfl (Or.inl rfl) (show decode code 1318 = .ok (.aload_n 2, 1) by decide +kernel) ?_
  refine y_aload_n (i := 0) (v := (3, 0)) rfl (Or.inr (Or.inl rfl)) (show decode code 1319 = .ok (.aload_n 0, 1) by decide +kernel) ?_
  refine y_iload_n (i := 3) (x := i) rfl (show decode code 1320 = .ok (.iload_n 3, 1) by decide +kernel) ?_
  refine y_iconst (show decode code 1321 = .ok (.iconst 1, 1) by decide +kernel) ?_
  refine y_iadd (show decode code 1322 = .ok (.iadd, 1) by decide +kernel) ?_
  refine y_sald (show decode code 1323 = .ok (.iaload, 1) by decide +kernel) hL (by omega) ?_
  refine y_ctV (m' := mX12_can) (t := t) (ci := 12) (tag := 0) (a := 321) (As := [iv (sv Sc (i + 1))]) (F := fun r' σ2 => r' = r ∧ inR r ∧ IVL L σ2) (cw_L_193 rfl) (show decode code 1324 = .ok (.invokevirtual 193, 3) by decide +kernel) rfl (Nat.le_of_ble_eq_true rfl) (by decide) okl_321 rfl rfl (Nat.le_refl _) (hh.2 389 _ (fun r' σ2 h => ⟨h.1, h.2.1, iv_same v h⟩)) (fun r' σ2 hs => ?_)
  obtain ⟨e, hr, v2⟩ := hs
  subst e
  refine y_icmp_eq (tgt := 1404) hr hr (show decode code 1327 = .ok (.if_icmp .eq 77, 3) by decide +kernel) (by decide) (fun _ => ?_) (fun z => absurd rfl z)
  exact lw_1404 (k t σ2 L v2)
set_option maxRecDepth 8000 in
theorem lw_ledger {t i : Int} {σ : jM} {L : LT} (hL : Sc.1 ≤ 3072) (hi : 0 ≤ i ∧ i + 6 ≤ (Sc.1 : Int)) (v : IVL L σ) (k : ∀ t' σ' L', IVL L' σ' → JS Sc mL 401 0 340 PL 18 [(3, 0), rv 1, rv 321, iv (i + 6)] [] (GG t') σ') : JS Sc mL 401 0 340 PL 1332 [(3, 0), rv 1, rv 321, iv i] [] (GG t) σ := by
  refine y_aload_n (i := 1) (v := rv 1) rfl (Or.inl rfl) (show decode code 1332 = .ok (.aload_n 1, 1) by decide +kernel) ?_
  refine y_aload_n (i := 0) (v := (3, 0)) rfl (Or.inr (Or.inl rfl)) (show decode code 1333 = .ok (.aload_n 0, 1) by decide +kernel) ?_
  refine y_iload_n (i := 3) (x := i) rfl (show decode code 1334 = .ok (.iload_n 3, 1) by decide +kernel) ?_
  refine y_iconst (show decode code 1335 = .ok (.iconst 1, 1) by decide +kernel) ?_
  refine y_iadd (show decode code 1336 = .ok (.iadd, 1) by decide +kernel) ?_
  refine y_sald (show decode code 1337 = .ok (.iaload, 1) by decide +kernel) hL (by omega) ?_
  refine y_ctV (m' := mX11_ledger) (t := t) (ci := 11) (tag := 0) (a := 1) (As := [iv (sv Sc (i + 1))]) (F := fun r σ1 => (True) ∧ ∀ (d2 : Nat) (Q2 : Int → jM → Prop), (∀ r' σ2, Same L σ r r' σ2 → Q2 r' σ2) → Ct mX12_ledger (d2 + 11) 0 t [rv 321, iv (sv Sc (i + 1))] σ1 Q2) (cw_L_194 rfl) (show decode code 1338 = .ok (.invokevirtual 194, 3) by decide +kernel) rfl (Nat.le_of_ble_eq_true rfl) (by decide) okl_1 rfl rfl (Nat.le_refl _) (a_ledger 389 v.1  sv_R (fun r σ1 h => ⟨trivial, h⟩)) (fun r σ1 hh => ?_)
  refine y_aload_n (i := 2) (v := rv 321) rfl (Or.inl rfl) (show decode code 1341 = .ok (.aload_n 2, 1) by decide +kernel) ?_
  refine y_aload_n (i := 0) (v := (3, 0)) rfl (Or.inr (Or.inl rfl)) (show decode code 1342 = .ok (.aload_n 0, 1) by decide +kernel) ?_
  refine y_iload_n (i := 3) (x := i) rfl (show decode code 1343 = .ok (.iload_n 3, 1) by decide +kernel) ?_
  refine y_iconst (show decode code 1344 = .ok (.iconst 1, 1) by decide +kernel) ?_
  refine y_iadd (show decode code 1345 = .ok (.iadd, 1) by decide +kernel) ?_
  refine y_sald (show decode code 1346 = .ok (.iaload, 1) by decide +kernel) hL (by omega) ?_
  refine y_ctV (m' := mX12_ledger) (t := t) (ci := 12) (tag := 0) (a := 321) (As := [iv (sv Sc (i + 1))]) (F := fun r' σ2 => r' = r ∧ inR r ∧ IVL L σ2) (cw_L_197 rfl) (show decode code 1347 = .ok (.invokevirtual 197, 3) by decide +kernel) rfl (Nat.le_of_ble_eq_true rfl) (by decide) okl_321 rfl rfl (Nat.le_refl _) (hh.2 389 _ (fun r' σ2 h => ⟨h.1, h.2.1, iv_same v h⟩)) (fun r' σ2 hs => ?_)
  obtain ⟨e, hr, v2⟩ := hs
  subst e
  refine y_icmp_eq (tgt := 1404) hr hr (show decode code 1350 = .ok (.if_icmp .eq 54, 3) by decide +kernel) (by decide) (fun _ => ?_) (fun z => absurd rfl z)
  exact lw_1404 (k t σ2 L v2)
set_option maxRecDepth 8000 in
theorem lw_image {t i : Int} {σ : jM} {L : LT} (hL : Sc.1 ≤ 3072) (hi : 0 ≤ i ∧ i + 6 ≤ (Sc.1 : Int)) (v : IVL L σ) (k : ∀ t' σ' L', IVL L' σ' → JS Sc mL 401 0 340 PL 18 [(3, 0), rv 1, rv 321, iv (i + 6)] [] (GG t') σ') : JS Sc mL 401 0 340 PL 1355 [(3, 0), rv 1, rv 321, iv i] [] (GG t) σ := by
  refine y_aload_n (i := 1) (v := rv 1) rfl (Or.inl rfl) (show decode code 1355 = .ok (.aload_n 1, 1) by decide +kernel) ?_
  refine y_ctV (m' := mX11_image) (t := t) (ci := 11) (tag := 0) (a := 1) (As := []) (F := fun r σ1 => (True) ∧ ∀ (d2 : Nat) (Q2 : Int → jM → Prop), (∀ r' σ2, Same L σ r r' σ2 → Q2 r' σ2) → Ct mX12_image (d2 + 11) 0 t [rv 321] σ1 Q2) (cw_L_198 rfl) (show decode code 1356 = .ok (.invokevirtual 198, 3) by decide +kernel) rfl (Nat.le_of_ble_eq_true rfl) (by decide) okl_1 rfl rfl (Nat.le_refl _) (a_image 389 v.1   (fun r σ1 h => ⟨trivial, h⟩)) (fun r σ1 hh => ?_)
  refine y_aload_n (i := 2) (v := rv 321) rfl (Or.inl rfl) (show decode code 1359 = .ok (.aload_n 2, 1) by decide +kernel) ?_
  refine y_ctV (m' := mX12_image) (t := t) (ci := 12) (tag := 0) (a := 321) (As := []) (F := fun r' σ2 => r' = r ∧ inR r ∧ IVL L σ2) (cw_L_201 rfl) (show decode code 1360 = .ok (.invokevirtual 201, 3) by decide +kernel) rfl (Nat.le_of_ble_eq_true rfl) (by decide) okl_321 rfl rfl (Nat.le_refl _) (hh.2 389 _ (fun r' σ2 h => ⟨h.1, h.2.1, iv_same v h⟩)) (fun r' σ2 hs => ?_)
  obtain ⟨e, hr, v2⟩ := hs
  subst e
  refine y_icmp_eq (tgt := 1404) hr hr (show decode code 1363 = .ok (.if_icmp .eq 41, 3) by decide +kernel) (by decide) (fun _ => ?_) (fun z => absurd rfl z)
  exact lw_1404 (k t σ2 L v2)
set_option maxRecDepth 8000 in
theorem lw_back {t i : Int} {σ : jM} {L : LT} (hL : Sc.1 ≤ 3072) (hi : 0 ≤ i ∧ i + 6 ≤ (Sc.1 : Int)) (v : IVL L σ) (k : ∀ t' σ' L', IVL L' σ' → JS Sc mL 401 0 340 PL 18 [(3, 0), rv 1, rv 321, iv (i + 6)] [] (GG t') σ') : JS Sc mL 401 0 340 PL 1368 [(3, 0), rv 1, rv 321, iv i] [] (GG t) σ := by
  refine y_aload_n (i := 1) (v := rv 1) rfl (Or.inl rfl) (show decode code 1368 = .ok (.aload_n 1, 1) by decide +kernel) ?_
  refine y_ctV (m' := mX11_back) (t := t) (ci := 11) (tag := 0) (a := 1) (As := []) (F := fun r σ1 => (True) ∧ ∀ (d2 : Nat) (Q2 : Int → jM → Prop), (∀ r' σ2, Same L σ r r' σ2 → Q2 r' σ2) → Ct mX12_back (d2 + 11) 0 t [rv 321] σ1 Q2) (cw_L_202 rfl) (show decode code 1369 = .ok (.invokevirtual 202, 3) by decide +kernel) rfl (Nat.le_of_ble_eq_true rfl) (by decide) okl_1 rfl rfl (Nat.le_refl _) (a_back 389 v.1   (fun r σ1 h => ⟨trivial, h⟩)) (fun r σ1 hh => ?_)
  refine y_aload_n (i := 2) (v := rv 321) rfl (Or.inl rfl) (show decode code 1372 = .ok (.aload_n 2, 1) by decide +kernel) ?_
  refine y_ctV (m' := mX12_back) (t := t) (ci := 12) (tag := 0) (a := 321) (As := []) (F := fun r' σ2 => r' = r ∧ inR r ∧ IVL L σ2) (cw_L_205 rfl) (show decode code 1373 = .ok (.invokevirtual 205, 3) by decide +kernel) rfl (Nat.le_of_ble_eq_true rfl) (by decide) okl_321 rfl rfl (Nat.le_refl _) (hh.2 389 _ (fun r' σ2 h => ⟨h.1, h.2.1, iv_same v h⟩)) (fun r' σ2 hs => ?_)
  obtain ⟨e, hr, v2⟩ := hs
  subst e
  refine y_icmp_eq (tgt := 1404) hr hr (show decode code 1376 = .ok (.if_icmp .eq 28, 3) by decide +kernel) (by decide) (fun _ => ?_) (fun z => absurd rfl z)
  exact lw_1404 (k t σ2 L v2)
set_option maxRecDepth 8000 in
theorem lw_about {t i : Int} {σ : jM} {L : LT} (hL : Sc.1 ≤ 3072) (hi : 0 ≤ i ∧ i + 6 ≤ (Sc.1 : Int)) (v : IVL L σ) (k : ∀ t' σ' L', IVL L' σ' → JS Sc mL 401 0 340 PL 18 [(3, 0), rv 1, rv 321, iv (i + 6)] [] (GG t') σ') : JS Sc mL 401 0 340 PL 1381 [(3, 0), rv 1, rv 321, iv i] [] (GG t) σ := by
  refine y_aload_n (i := 1) (v := rv 1) rfl (Or.inl rfl) (show decode code 1381 = .ok (.aload_n 1, 1) by decide +kernel) ?_
  refine y_aload_n (i := 0) (v := (3, 0)) rfl (Or.inr (Or.inl rfl)) (show decode code 1382 = .ok (.aload_n 0, 1) by decide +kernel) ?_
  refine y_iload_n (i := 3) (x := i) rfl (show decode code 1383 = .ok (.iload_n 3, 1) by decide +kernel) ?_
  refine y_iconst (show decode code 1384 = .ok (.iconst 1, 1) by decide +kernel) ?_
  refine y_iadd (show decode code 1385 = .ok (.iadd, 1) by decide +kernel) ?_
  refine y_sald (show decode code 1386 = .ok (.iaload, 1) by decide +kernel) hL (by omega) ?_
  refine y_ctV (m' := mX11_about) (t := t) (ci := 11) (tag := 0) (a := 1) (As := [iv (sv Sc (i + 1))]) (F := fun r σ1 => (True) ∧ ∀ (d2 : Nat) (Q2 : Int → jM → Prop), (∀ r' σ2, Same L σ r r' σ2 → Q2 r' σ2) → Ct mX12_about (d2 + 11) 0 t [rv 321, iv (sv Sc (i + 1))] σ1 Q2) (cw_L_206 rfl) (show decode code 1387 = .ok (.invokevirtual 206, 3) by decide +kernel) rfl (Nat.le_of_ble_eq_true rfl) (by decide) okl_1 rfl rfl (Nat.le_refl _) (a_about 389 v.1  sv_R (fun r σ1 h => ⟨trivial, h⟩)) (fun r σ1 hh => ?_)
  refine y_aload_n (i := 2) (v := rv 321) rfl (Or.inl rfl) (show decode code 1390 = .ok (.aload_n 2, 1) by decide +kernel) ?_
  refine y_aload_n (i := 0) (v := (3, 0)) rfl (Or.inr (Or.inl rfl)) (show decode code 1391 = .ok (.aload_n 0, 1) by decide +kernel) ?_
  refine y_iload_n (i := 3) (x := i) rfl (show decode code 1392 = .ok (.iload_n 3, 1) by decide +kernel) ?_
  refine y_iconst (show decode code 1393 = .ok (.iconst 1, 1) by decide +kernel) ?_
  refine y_iadd (show decode code 1394 = .ok (.iadd, 1) by decide +kernel) ?_
  refine y_sald (show decode code 1395 = .ok (.iaload, 1) by decide +kernel) hL (by omega) ?_
  refine y_ctV (m' := mX12_about) (t := t) (ci := 12) (tag := 0) (a := 321) (As := [iv (sv Sc (i + 1))]) (F := fun r' σ2 => r' = r ∧ inR r ∧ IVL L σ2) (cw_L_209 rfl) (show decode code 1396 = .ok (.invokevirtual 209, 3) by decide +kernel) rfl (Nat.le_of_ble_eq_true rfl) (by decide) okl_321 rfl rfl (Nat.le_refl _) (hh.2 389 _ (fun r' σ2 h => ⟨h.1, h.2.1, iv_same v h⟩)) (fun r' σ2 hs => ?_)
  obtain ⟨e, hr, v2⟩ := hs
  subst e
  refine y_icmp_eq (tgt := 1404) hr hr (show decode code 1399 = .ok (.if_icmp .eq 5, 3) by decide +kernel) (by decide) (fun _ => ?_) (fun z => absurd rfl z)
  exact lw_1404 (k t σ2 L v2)
end LC
