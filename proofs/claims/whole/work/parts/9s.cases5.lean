/-! ===== the law: its calls (printed by wip/whole/gen_cases.py) ===== -/
section LC
variable {Sc : Nat × (Nat → Int32)}
set_option maxRecDepth 8000 in
theorem lw_wrong {t i : Int} {σ : jM} {L : LT} (hL : Sc.1 ≤ 3072) (hi : 0 ≤ i ∧ i + 6 ≤ (Sc.1 : Int)) (v : IVL L σ) (k : ∀ t' σ' L', IVL L' σ' → JS Sc mL 401 0 340 PL 18 [(3, 0), rv 1, rv 321, iv (i + 6)] [] (GG t') σ') : JS Sc mL 401 0 340 PL 1113 [(3, 0), rv 1, rv 321, iv i] [] (GG t) σ := by
  refine y_aload_n (i := 1) (v := rv 1) rfl (Or.inl rfl) (show decode code 1113 = .ok (.aload_n 1, 1) by decide +kernel) ?_
  refine y_ctV (m' := mX11_wrong) (t := t) (ci := 11) (tag := 0) (a := 1) (As := []) (F := fun r σ1 => (True) ∧ ∀ (d2 : Nat) (Q2 : Int → jM → Prop), (∀ r' σ2, Same L σ r r' σ2 → Q2 r' σ2) → Ct mX12_wrong (d2 + 11) 0 t [rv 321] σ1 Q2) (cw_L_148 rfl) (show decode code 1114 = .ok (.invokevirtual 148, 3) by decide +kernel) rfl (Nat.le_of_ble_eq_true rfl) (by decide) okl_1 rfl rfl (Nat.le_refl _) (a_wrong 389 v.1   (fun r σ1 h => ⟨trivial, h⟩)) (fun r σ1 hh => ?_)
  refine y_aload_n (i := 2) (v := rv 321) rfl (Or.inl rfl) (show decode code 1117 = .ok (.aload_n 2, 1) by decide +kernel) ?_
  refine y_ctV (m' := mX12_wrong) (t := t) (ci := 12) (tag := 0) (a := 321) (As := []) (F := fun r' σ2 => r' = r ∧ inR r ∧ IVL L σ2) (cw_L_151 rfl) (show decode code 1118 = .ok (.invokevirtual 151, 3) by decide +kernel) rfl (Nat.le_of_ble_eq_true rfl) (by decide) okl_321 rfl rfl (Nat.le_refl _) (hh.2 389 _ (fun r' σ2 h => ⟨h.1, h.2.1, iv_same v h⟩)) (fun r' σ2 hs => ?_)
  obtain ⟨e, hr, v2⟩ := hs
  subst e
  refine y_icmp_eq (tgt := 1404) hr hr (show decode code 1121 = .ok (.if_icmp .eq 283, 3) by decide +kernel) (by decide) (fun _ => ?_) (fun z => absurd rfl z)
  exact lw_1404 (k t σ2 L v2)
set_option maxRecDepth 8000 in
theorem lw_needless {t i : Int} {σ : jM} {L : LT} (hL : Sc.1 ≤ 3072) (hi : 0 ≤ i ∧ i + 6 ≤ (Sc.1 : Int)) (v : IVL L σ) (k : ∀ t' σ' L', IVL L' σ' → JS Sc mL 401 0 340 PL 18 [(3, 0), rv 1, rv 321, iv (i + 6)] [] (GG t') σ') : JS Sc mL 401 0 340 PL 1126 [(3, 0), rv 1, rv 321, iv i] [] (GG t) σ := by
  refine y_aload_n (i := 1) (v := rv 1) rfl (Or.inl rfl) (show decode code 1126 = .ok (.aload_n 1, 1) by decide +kernel) ?_
  refine y_ctV (m' := mX11_needless) (t := t) (ci := 11) (tag := 0) (a := 1) (As := []) (F := fun r σ1 => (True) ∧ ∀ (d2 : Nat) (Q2 : Int → jM → Prop), (∀ r' σ2, Same L σ r r' σ2 → Q2 r' σ2) → Ct mX12_needless (d2 + 11) 0 t [rv 321] σ1 Q2) (cw_L_152 rfl) (show decode code 1127 = .ok (.invokevirtual 152, 3) by decide +kernel) rfl (Nat.le_of_ble_eq_true rfl) (by decide) okl_1 rfl rfl (Nat.le_refl _) (a_needless 389 v.1   (fun r σ1 h => ⟨trivial, h⟩)) (fun r σ1 hh => ?_)
  refine y_aload_n (i := 2) (v := rv 321) rfl (Or.inl rfl) (show decode code 1130 = .ok (.aload_n 2, 1) by decide +kernel) ?_
  refine y_ctV (m' := mX12_needless) (t := t) (ci := 12) (tag := 0) (a := 321) (As := []) (F := fun r' σ2 => r' = r ∧ inR r ∧ IVL L σ2) (cw_L_155 rfl) (show decode code 1131 = .ok (.invokevirtual 155, 3) by decide +kernel) rfl (Nat.le_of_ble_eq_true rfl) (by decide) okl_321 rfl rfl (Nat.le_refl _) (hh.2 389 _ (fun r' σ2 h => ⟨h.1, h.2.1, iv_same v h⟩)) (fun r' σ2 hs => ?_)
  obtain ⟨e, hr, v2⟩ := hs
  subst e
  refine y_icmp_eq (tgt := 1404) hr hr (show decode code 1134 = .ok (.if_icmp .eq 270, 3) by decide +kernel) (by decide) (fun _ => ?_) (fun z => absurd rfl z)
  exact lw_1404 (k t σ2 L v2)
set_option maxRecDepth 8000 in
theorem lw_star {t i : Int} {σ : jM} {L : LT} (hL : Sc.1 ≤ 3072) (hi : 0 ≤ i ∧ i + 6 ≤ (Sc.1 : Int)) (v : IVL L σ) (k : ∀ t' σ' L', IVL L' σ' → JS Sc mL 401 0 340 PL 18 [(3, 0), rv 1, rv 321, iv (i + 6)] [] (GG t') σ') : JS Sc mL 401 0 340 PL 1139 [(3, 0), rv 1, rv 321, iv i] [] (GG t) σ := by
  refine y_aload_n (i := 1) (v := rv 1) rfl (Or.inl rfl) (show decode code 1139 = .ok (.aload_n 1, 1) by decide +kernel) ?_
  refine y_ctV (m' := mX11_star) (t := t) (ci := 11) (tag := 0) (a := 1) (As := []) (F := fun r σ1 => ((r = 0 ∨ r = 1)) ∧ ∀ (d2 : Nat) (Q2 : Int → jM → Prop), (∀ r' σ2, Same L σ r r' σ2 → Q2 r' σ2) → Ct mX12_star (d2 + 11) 0 t [rv 321] σ1 Q2) (cw_L_156 rfl) (show decode code 1140 = .ok (.invokevirtual 156, 3) by decide +kernel) rfl (Nat.le_of_ble_eq_true rfl) (by decide) okl_1 rfl rfl (Nat.le_refl _) (a_star 389 v.1   (fun r σ1 c h => ⟨c, h⟩)) (fun r σ1 hh => ?_)
  refine y_aload_n (i := 2) (v := rv 321) rfl (Or.inl rfl) (show decode code 1143 = .ok (.aload_n 2, 1) by decide +kernel) ?_
  refine y_ctV (m' := mX12_star) (t := t) (ci := 12) (tag := 0) (a := 321) (As := []) (F := fun r' σ2 => r' = r ∧ inR r ∧ IVL L σ2) (cw_L_160 rfl) (show decode code 1144 = .ok (.invokevirtual 160, 3) by decide +kernel) rfl (Nat.le_of_ble_eq_true rfl) (by decide) okl_321 rfl rfl (Nat.le_refl _) (hh.2 389 _ (fun r' σ2 h => ⟨h.1, h.2.1, iv_same v h⟩)) (fun r' σ2 hs => ?_)
  obtain ⟨e, hr, v2⟩ := hs
  subst e
  refine y_icmp_eq (tgt := 1404) hr hr (show decode code 1147 = .ok (.if_icmp .eq 257, 3) by decide +kernel) (by decide) (fun _ => ?_) (fun z => absurd rfl z)
  exact lw_1404 (k t σ2 L v2)
set_option maxRecDepth 8000 in
theorem lw_steps {t i : Int} {σ : jM} {L : LT} (hL : Sc.1 ≤ 3072) (hi : 0 ≤ i ∧ i + 6 ≤ (Sc.1 : Int)) (v : IVL L σ) (k : ∀ t' σ' L', IVL L' σ' → JS Sc mL 401 0 340 PL 18 [(3, 0), rv 1, rv 321, iv (i + 6)] [] (GG t') σ') : JS Sc mL 401 0 340 PL 1152 [(3, 0), rv 1, rv 321, iv i] [] (GG t) σ := by
  refine y_aload_n (i := 1) (v := rv 1) rfl (Or.inl rfl) (show decode code 1152 = .ok (.aload_n 1, 1) by decide +kernel) ?_
  refine y_aload_n (i := 0) (v := (3, 0)) rfl (Or.inr (Or.inl rfl)) (show decode code 1153 = .ok (.aload_n 0, 1) by decide +kernel) ?_
  refine y_iload_n (i := 3) (x := i) rfl (show decode code 1154 = .ok (.iload_n 3, 1) by decide +kernel) ?_
  refine y_iconst (show decode code 1155 = .ok (.iconst 1, 1) by decide +kernel) ?_
  refine y_iadd (show decode code 1156 = .ok (.iadd, 1) by decide +kernel) ?_
  refine y_sald (show decode code 1157 = .ok (.iaload, 1) by decide +kernel) hL (by omega) ?_
  refine y_if_eq (tgt := 1165) sv_R (show decode code 1158 = .ok (.ifCond .eq 7, 3) by decide +kernel) (by decide) (fun z => ?_) (fun z => ?_)
  · refine y_iconst (show decode code 1165 = .ok (.iconst 0, 1) by decide +kernel) ?_
    refine y_ctV (m' := mX11_steps) (t := t) (ci := 11) (tag := 0) (a := 1) (As := [iv 0]) (F := fun r σ1 => (True) ∧ ∀ (d2 : Nat) (Q2 : Int → jM → Prop), (∀ r' σ2, Same L σ r r' σ2 → Q2 r' σ2) → Ct mX12_steps (d2 + 11) 0 t [rv 321, iv 0] σ1 Q2) (cw_L_161 rfl) (show decode code 1166 = .ok (.invokevirtual 161, 3) by decide +kernel) rfl (Nat.le_of_ble_eq_true rfl) (by decide) okl_1 rfl rfl (Nat.le_refl _) (a_steps 389 v.1  (by decide) (fun r σ1 h => ⟨trivial, h⟩)) (fun r σ1 hh => ?_)
    refine y_aload_n (i := 2) (v := rv 321) rfl (Or.inl rfl) (show decode code 1169 = .ok (.aload_n 2, 1) by decide +kernel) ?_
    refine y_aload_n (i := 0) (v := (3, 0)) rfl (Or.inr (Or.inl rfl)) (show decode code 1170 = .ok (.aload_n 0, 1) by decide +kernel) ?_
    refine y_iload_n (i := 3) (x := i) rfl (show decode code 1171 = .ok (.iload_n 3, 1) by decide +kernel) ?_
    refine y_iconst (show decode code 1172 = .ok (.iconst 1, 1) by decide +kernel) ?_
    refine y_iadd (show decode code 1173 = .ok (.iadd, 1) by decide +kernel) ?_
    refine y_sald (show decode code 1174 = .ok (.iaload, 1) by decide +kernel) hL (by omega) ?_
    refine y_if_eq (tgt := 1182) sv_R (show decode code 1175 = .ok (.ifCond .eq 7, 3) by decide +kernel) (by decide) (fun _ => ?_) (fun y => absurd z y)
    refine y_iconst (show decode code 1182 = .ok (.iconst 0, 1) by decide +kernel) ?_
    refine y_ctV (m' := mX12_steps) (t := t) (ci := 12) (tag := 0) (a := 321) (As := [iv 0]) (F := fun r' σ2 => r' = r ∧ inR r ∧ IVL L σ2) (cw_L_165 rfl) (show decode code 1183 = .ok (.invokevirtual 165, 3) by decide +kernel) rfl (Nat.le_of_ble_eq_true rfl) (by decide) okl_321 rfl rfl (Nat.le_refl _) (hh.2 389 _ (fun r' σ2 h => ⟨h.1, h.2.1, iv_same v h⟩)) (fun r' σ2 hs => ?_)
    obtain ⟨e, hr, v2⟩ := hs
    subst e
    refine y_icmp_eq (tgt := 1404) hr hr (show decode code 1186 = .ok (.if_icmp .eq 218, 3) by decide +kernel) (by decide) (fun _ => ?_) (fun z => absurd rfl z)
    exact lw_1404 (k t σ2 L v2)
  · refine y_iconst (show decode code 1161 = .ok (.iconst 1, 1) by decide +kernel) ?_
    refine y_goto (tgt := 1166) (show decode code 1162 = .ok (.goto 4, 3) by decide +kernel) (by decide) ?_
    refine y_ctV (m' := mX11_steps) (t := t) (ci := 11) (tag := 0) (a := 1) (As := [iv 1]) (F := fun r σ1 => (True) ∧ ∀ (d2 : Nat) (Q2 : Int → jM → Prop), (∀ r' σ2, Same L σ r r' σ2 → Q2 r' σ2) → Ct mX12_steps (d2 + 11) 0 t [rv 321, iv 1] σ1 Q2) (cw_L_161 rfl) (show decode code 1166 = .ok (.invokevirtual 161, 3) by decide +kernel) rfl (Nat.le_of_ble_eq_true rfl) (by decide) okl_1 rfl rfl (Nat.le_refl _) (a_steps 389 v.1  (by decide) (fun r σ1 h => ⟨trivial, h⟩)) (fun r σ1 hh => ?_)
    refine y_aload_n (i := 2) (v := rv 321) rfl (Or.inl rfl) (show decode code 1169 = .ok (.aload_n 2, 1) by decide +kernel) ?_
    refine y_aload_n (i := 0) (v := (3, 0)) rfl (Or.inr (Or.inl rfl)) (show decode code 1170 = .ok (.aload_n 0, 1) by decide +kernel) ?_
    refine y_iload_n (i := 3) (x := i) rfl (show decode code 1171 = .ok (.iload_n 3, 1) by decide +kernel) ?_
    refine y_iconst (show decode code 1172 = .ok (.iconst 1, 1) by decide +kernel) ?_
    refine y_iadd (show decode code 1173 = .ok (.iadd, 1) by decide +kernel) ?_
    refine y_sald (show decode code 1174 = .ok (.iaload, 1) by decide +kernel) hL (by omega) ?_
    refine y_if_eq (tgt := 1182) sv_R (show decode code 1175 = .ok (.ifCond .eq 7, 3) by decide +kernel) (by decide) (fun y => absurd y z) (fun _ => ?_)
    refine y_iconst (show decode code 1178 = .ok (.iconst 1, 1) by decide +kernel) ?_
    refine y_goto (tgt := 1183) (show decode code 1179 = .ok (.goto 4, 3) by decide +kernel) (by decide) ?_
    refine y_ctV (m' := mX12_steps) (t := t) (ci := 12) (tag := 0) (a := 321) (As := [iv 1]) (F := fun r' σ2 => r' = r ∧ inR r ∧ IVL L σ2) (cw_L_165 rfl) (show decode code 1183 = .ok (.invokevirtual 165, 3) by decide +kernel) rfl (Nat.le_of_ble_eq_true rfl) (by decide) okl_321 rfl rfl (Nat.le_refl _) (hh.2 389 _ (fun r' σ2 h => ⟨h.1, h.2.1, iv_same v h⟩)) (fun r' σ2 hs => ?_)
    obtain ⟨e, hr, v2⟩ := hs
    subst e
    refine y_icmp_eq (tgt := 1404) hr hr (show decode code 1186 = .ok (.if_icmp .eq 218, 3) by decide +kernel) (by decide) (fun _ => ?_) (fun z => absurd rfl z)
    exact lw_1404 (k t σ2 L v2)
set_option maxRecDepth 8000 in
theorem lw_game {t i : Int} {σ : jM} {L : LT} (hL : Sc.1 ≤ 3072) (hi : 0 ≤ i ∧ i + 6 ≤ (Sc.1 : Int)) (v : IVL L σ) (k : ∀ t' σ' L', IVL L' σ' → JS Sc mL 401 0 340 PL 18 [(3, 0), rv 1, rv 321, iv (i + 6)] [] (GG t') σ') : JS Sc mL 401 0 340 PL 1191 [(3, 0), rv 1, rv 321, iv i] [] (GG t) σ := by
  refine y_aload_n (i := 1) (v := rv 1) rfl (Or.inl rfl) (show decode code 1191 = .ok (.aload_n 1, 1) by decide +kernel) ?_
  refine y_aload_n (i := 0) (v := (3, 0)) rfl (Or.inr (Or.inl rfl)) (show decode code 1192 = .ok (.aload_n 0, 1) by decide +kernel) ?_
  refine y_iload_n (i := 3) (x := i) rfl (show decode code 1193 = .ok (.iload_n 3, 1) by decide +kernel) ?_
  refine y_iconst (show decode code 1194 = .ok (.iconst 1, 1) by decide +kernel) ?_
  refine y_iadd (show decode code 1195 = .ok (.iadd, 1) by decide +kernel) ?_
  refine y_sald (show decode code 1196 = .ok (.iaload, 1) by decide +kernel) hL (by omega) ?_
  refine y_ctV (m' := mX11_game) (t := t) (ci := 11) (tag := 0) (a := 1) (As := [iv (sv Sc (i + 1))]) (F := fun r σ1 => (True) ∧ ∀ (d2 : Nat) (Q2 : Int → jM → Prop), (∀ r' σ2, Same L σ r r' σ2 → Q2 r' σ2) → Ct mX12_game (d2 + 11) 0 t [rv 321, iv (sv Sc (i + 1))] σ1 Q2) (cw_L_166 rfl) (show decode code 1197 = .ok (.invokevirtual 166, 3) by decide +kernel) rfl (Nat.le_of_ble_eq_true rfl) (by decide) okl_1 rfl rfl (Nat.le_refl _) (a_game 380 v.1  sv_R (fun r σ1 h => ⟨trivial, h⟩)) (fun r σ1 hh => ?_)
  refine y_aload_n (i := 2) (v := rv 321) rfl (Or.inl rfl) (show decode code 1200 = .ok (.aload_n 2, 1) by decide +kernel) ?_
  refine y_aload_n (i := 0) (v := (3, 0)) rfl (Or.inr (Or.inl rfl)) (show decode code 1201 = .ok (.aload_n 0, 1) by decide +kernel) ?_
  refine y_iload_n (i := 3) (x := i) rfl (show decode code 1202 = .ok (.iload_n 3, 1) by decide +kernel) ?_
  refine y_iconst (show decode code 1203 = .ok (.iconst 1, 1) by decide +kernel) ?_
  refine y_iadd (show decode code 1204 = .ok (.iadd, 1) by decide +kernel) ?_
  refine y_sald (show decode code 1205 = .ok (.iaload, 1) by decide +kernel) hL (by omega) ?_
  refine y_ctV (m' := mX12_game) (t := t) (ci := 12) (tag := 0) (a := 321) (As := [iv (sv Sc (i + 1))]) (F := fun r' σ2 => r' = r ∧ inR r ∧ IVL L σ2) (cw_L_169 rfl) (show decode code 1206 = .ok (.invokevirtual 169, 3) by decide +kernel) rfl (Nat.le_of_ble_eq_true rfl) (by decide) okl_321 rfl rfl (Nat.le_refl _) (hh.2 389 _ (fun r' σ2 h => ⟨h.1, h.2.1, iv_same v h⟩)) (fun r' σ2 hs => ?_)
  obtain ⟨e, hr, v2⟩ := hs
  subst e
  refine y_icmp_eq (tgt := 1404) hr hr (show decode code 1209 = .ok (.if_icmp .eq 195, 3) by decide +kernel) (by decide) (fun _ => ?_) (fun z => absurd rfl z)
  exact lw_1404 (k t σ2 L v2)
set_option maxRecDepth 8000 in
theorem lw_play {t i : Int} {σ : jM} {L : LT} (hL : Sc.1 ≤ 3072) (hi : 0 ≤ i ∧ i + 6 ≤ (Sc.1 : Int)) (v : IVL L σ) (k : ∀ t' σ' L', IVL L' σ' → JS Sc mL 401 0 340 PL 18 [(3, 0), rv 1, rv 321, iv (i + 6)] [] (GG t') σ') : JS Sc mL 401 0 340 PL 1214 [(3, 0), rv 1, rv 321, iv i] [] (GG t) σ := by
  refine y_aload_n (i := 1) (v := rv 1) rfl (Or.inl rfl) (show decode code 1214 = .ok (.aload_n 1, 1) by decide +kernel) ?_
  refine y_aload_n (i := 0) (v := (3, 0)) rfl (Or.inr (Or.inl rfl)) (show decode code 1215 = .ok (.aload_n 0, 1) by decide +kernel) ?_
  refine y_iload_n (i := 3) (x := i) rfl (show decode code 1216 = .ok (.iload_n 3, 1) by decide +kernel) ?_
  refine y_iconst (show decode code 1217 = .ok (.iconst 1, 1) by decide +kernel) ?_
  refine y_iadd (show decode code 1218 = .ok (.iadd, 1) by decide +kernel) ?_
  refine y_sald (show decode code 1219 = .ok (.iaload, 1) by decide +kernel) hL (by omega) ?_
  refine y_ctV (m' := mX11_play) (t := t) (ci := 11) (tag := 0) (a := 1) (As := [iv (sv Sc (i + 1))]) (F := fun r σ1 => (True) ∧ ∀ (d2 : Nat) (Q2 : Int → jM → Prop), (∀ r' σ2, Same L σ r r' σ2 → Q2 r' σ2) → Ct mX12_play (d2 + 11) 0 t [rv 321, iv (sv Sc (i + 1))] σ1 Q2) (cw_L_170 rfl) (show decode code 1220 = .ok (.invokevirtual 170, 3) by decide +kernel) rfl (Nat.le_of_ble_eq_true rfl) (by decide) okl_1 rfl rfl (Nat.le_refl _) (a_play 380 v.1  sv_R (fun r σ1 h => ⟨trivial, h⟩)) (fun r σ1 hh => ?_)
  refine y_aload_n (i := 2) (v := rv 321) rfl (Or.inl rfl) (show decode code 1223 = .ok (.aload_n 2, 1) by decide +kernel) ?_
  refine y_aload_n (i := 0) (v := (3, 0)) rfl (Or.inr (Or.inl rfl)) (show decode code 1224 = .ok (.aload_n 0, 1) by decide +kernel) ?_
  refine y_iload_n (i := 3) (x := i) rfl (show decode code 1225 = .ok (.iload_n 3, 1) by decide +kernel) ?_
  refine y_iconst (show decode code 1226 = .ok (.iconst 1, 1) by decide +kernel) ?_
  refine y_iadd (show decode code 1227 = .ok (.iadd, 1) by decide +kernel) ?_
  refine y_sald (show decode code 1228 = .ok (.iaload, 1) by decide +kernel) hL (by omega) ?_
  refine y_ctV (m' := mX12_play) (t := t) (ci := 12) (tag := 0) (a := 321) (As := [iv (sv Sc (i + 1))]) (F := fun r' σ2 => r' = r ∧ inR r ∧ IVL L σ2) (cw_L_173 rfl) (show decode code 1229 = .ok (.invokevirtual 173, 3) by decide +kernel) rfl (Nat.le_of_ble_eq_true rfl) (by decide) okl_321 rfl rfl (Nat.le_refl _) (hh.2 389 _ (fun r' σ2 h => ⟨h.1, h.2.1, iv_same v h⟩)) (fun r' σ2 hs => ?_)
  obtain ⟨e, hr, v2⟩ := hs
  subst e
  refine y_icmp_eq (tgt := 1404) hr hr (show decode code 1232 = .ok (.if_icmp .eq 172, 3) by decide +kernel) (by decide) (fun _ => ?_) (fun z => absurd rfl z)
  exact lw_1404 (k t σ2 L v2)
set_option maxRecDepth 8000 in
theorem lw_said {t i : Int} {σ : jM} {L : LT} (hL : Sc.1 ≤ 3072) (hi : 0 ≤ i ∧ i + 6 ≤ (Sc.1 : Int)) (v : IVL L σ) (k : ∀ t' σ' L', IVL L' σ' → JS Sc mL 401 0 340 PL 18 [(3, 0), rv 1, rv 321, iv (i + 6)] [] (GG t') σ') : JS Sc mL 401 0 340 PL 1237 [(3, 0), rv 1, rv 321, iv i] [] (GG t) σ := by
  refine y_aload_n (i := 1) (v := rv 1) rfl (Or.inl rfl) (show decode code 1237 = .ok (.aload_n 1, 1) by decide +kernel) ?_
  refine y_aload_n (i := 0) (v := (3, 0)) rfl (Or.inr (Or.inl rfl)) (show decode code 1238 = .ok (.aload_n 0, 1) by decide +kernel) ?_
  refine y_iload_n (i := 3) (x := i) rfl (show decode code 1239 = .ok (.iload_n 3, 1) by decide +kernel) ?_
  refine y_iconst (show decode code 1240 = .ok (.iconst 1, 1) by decide +kernel) ?_
  refine y_iadd (show decode code 1241 = .ok (.iadd, 1) by decide +kernel) ?_
  refine y_sald (show decode code 1242 = .ok (.iaload, 1) by decide +kernel) hL (by omega) ?_
  refine y_aload_n (i := 0) (v := (3, 0)) rfl (Or.inr (Or.inl rfl)) (show decode code 1243 = .ok (.aload_n 0, 1) by decide +kernel) ?_
  refine y_iload_n (i := 3) (x := i) rfl (show decode code 1244 = .ok (.iload_n 3, 1) by decide +kernel) ?_
  refine y_iconst (show decode code 1245 = .ok (.iconst 2, 1) by decide +kernel) ?_
  refine y_iadd (show decode code 1246 = .ok (.iadd, 1) by decide +kernel) ?_
  refine y_sald (show decode code 1247 = .ok (.iaload, 1) by decide +kernel) hL (by omega) ?_
  refine y_ctV (m' := mX11_said) (t := t) (ci := 11) (tag := 0) (a := 1) (As := [iv (sv Sc (i + 1)), iv (sv Sc (i + 2))]) (F := fun r σ1 => (True) ∧ ∀ (d2 : Nat) (Q2 : Int → jM → Prop), (∀ r' σ2, Same L σ r r' σ2 → Q2 r' σ2) → Ct mX12_said (d2 + 11) 0 t [rv 321, iv (sv Sc (i + 1)), iv (sv Sc (i + 2))] σ1 Q2) (cw_L_174 rfl) (show decode code 1248 = .ok (.invokevirtual 174, 3) by decide +kernel) rfl (Nat.le_of_ble_eq_true rfl) (by decide) okl_1 rfl rfl (Nat.le_refl _) (a_said 389 v.1  sv_R sv_R (fun r σ1 h => ⟨trivial, h⟩)) (fun r σ1 hh => ?_)
  refine y_aload_n (i := 2) (v := rv 321) rfl (Or.inl rfl) (show decode code 1251 = .ok (.aload_n 2, 1) by decide +kernel) ?_
  refine y_aload_n (i := 0) (v := (3, 0)) rfl (Or.inr (Or.inl rfl)) (show decode code 1252 = .ok (.aload_n 0, 1) by decide +kernel) ?_
  refine y_iload_n (i := 3) (x := i) rfl (show decode code 1253 = .ok (.iload_n 3, 1) by decide +kernel) ?_
  refine y_iconst (show decode code 1254 = .ok (.iconst 1, 1) by decide +kernel) ?_
  refine y_iadd (show decode code 1255 = .ok (.iadd, 1) by decide +kernel) ?_
  refine y_sald (show decode code 1256 = .ok (.iaload, 1) by decide +kernel) hL (by omega) ?_
  refine y_aload_n (i := 0) (v := (3, 0)) rfl (Or.inr (Or.inl rfl)) (show decode code 1257 = .ok (.aload_n 0, 1) by decide +kernel) ?_
  refine y_iload_n (i := 3) (x := i) rfl (show decode code 1258 = .ok (.iload_n 3, 1) by decide +kernel) ?_
  refine y_iconst (show decode code 1259 = .ok (.iconst 2, 1) by decide +kernel) ?_
  refine y_iadd (show decode code 1260 = .ok (.iadd, 1) by decide +kernel) ?_
  refine y_sald (show decode code 1261 = .ok (.iaload, 1) by decide +kernel) hL (by omega) ?_
  refine y_ctV (m' := mX12_said) (t := t) (ci := 12) (tag := 0) (a := 321) (As := [iv (sv Sc (i + 1)), iv (sv Sc (i + 2))]) (F := fun r' σ2 => r' = r ∧ inR r ∧ IVL L σ2) (cw_L_177 rfl) (show decode code 1262 = .ok (.invokevirtual 177, 3) by decide +kernel) rfl (Nat.le_of_ble_eq_true rfl) (by decide) okl_321 rfl rfl (Nat.le_refl _) (hh.2 389 _ (fun r' σ2 h => ⟨h.1, h.2.1, iv_same v h⟩)) (fun r' σ2 hs => ?_)
  obtain ⟨e, hr, v2⟩ := hs
  subst e
  refine y_icmp_eq (tgt := 1404) hr hr (show decode code 1265 = .ok (.if_icmp .eq 139, 3) by decide +kernel) (by decide) (fun _ => ?_) (fun z => absurd rfl z)
  exact lw_1404 (k t σ2 L v2)
set_option maxRecDepth 8000 in
theorem lw_whose {t i : Int} {σ : jM} {L : LT} (hL : Sc.1 ≤ 3072) (hi : 0 ≤ i ∧ i + 6 ≤ (Sc.1 : Int)) (v : IVL L σ) (k : ∀ t' σ' L', IVL L' σ' → JS Sc mL 401 0 340 PL 18 [(3, 0), rv 1, rv 321, iv (i + 6)] [] (GG t') σ') : JS Sc mL 401 0 340 PL 1270 [(3, 0), rv 1, rv 321, iv i] [] (GG t) σ := by
  refine y_aload_n (i := 1) (v := rv 1) rfl (Or.inl rfl) (show decode code 1270 = .ok (.aload_n 1, 1) by decide +kernel) ?_
  refine y_ctV (m' := mX11_whose) (t := t) (ci := 11) (tag := 0) (a := 1) (As := []) (F := fun r σ1 => (True) ∧ ∀ (d2 : Nat) (Q2 : Int → jM → Prop), (∀ r' σ2, Same L σ r r' σ2 → Q2 r' σ2) → Ct mX12_whose (d2 + 11) 0 t [rv 321] σ1 Q2) (cw_L_178 rfl) (show decode code 1271 = .ok (.invokevirtual 178, 3) by decide +kernel) rfl (Nat.le_of_ble_eq_true rfl) (by decide) okl_1 rfl rfl (Nat.le_refl _) (a_whose 389 v.1   (fun r σ1 h => ⟨trivial, h⟩)) (fun r σ1 hh => ?_)
  refine y_aload_n (i := 2) (v := rv 321) rfl (Or.inl rfl) (show decode code 1274 = .ok (.aload_n 2, 1) by decide +kernel) ?_
  refine y_ctV (m' := mX12_whose) (t := t) (ci := 12) (tag := 0) (a := 321) (As := []) (F := fun r' σ2 => r' = r ∧ inR r ∧ IVL L σ2) (cw_L_181 rfl) (show decode code 1275 = .ok (.invokevirtual 181, 3) by decide +kernel) rfl (Nat.le_of_ble_eq_true rfl) (by decide) okl_321 rfl rfl (Nat.le_refl _) (hh.2 389 _ (fun r' σ2 h => ⟨h.1, h.2.1, iv_same v h⟩)) (fun r' σ2 hs => ?_)
  obtain ⟨e, hr, v2⟩ := hs
  subst e
  refine y_icmp_eq (tgt := 1404) hr hr (show decode code 1278 = .ok (.if_icmp .eq 126, 3) by decide +kernel) (by decide) (fun _ => ?_) (fun z => absurd rfl z)
  exact lw_1404 (k t σ2 L v2)
end LC
