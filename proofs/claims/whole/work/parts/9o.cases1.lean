/-! ===== the law: its calls (printed by wip/whole/gen_cases.py) ===== -/
section LC
variable {Sc : Nat × (Nat → Int32)}
set_option maxRecDepth 8000 in
theorem lw_feed {t i : Int} {σ : jM} {L : LT} (hL : Sc.1 ≤ 3072) (hi : 0 ≤ i ∧ i + 6 ≤ (Sc.1 : Int)) (v : IVL L σ) (k : ∀ t' σ' L', IVL L' σ' → JS Sc mL 401 0 340 PL 18 [(3, 0), rv 1, rv 321, iv (i + 6)] [] (GG t') σ') : JS Sc mL 401 0 340 PL 236 [(3, 0), rv 1, rv 321, iv i] [] (GG t) σ := by
  refine y_aload_n (i := 1) (v := rv 1) rfl (Or.inl rfl) (show decode code 236 = .ok (.aload_n 1, 1) by decide +kernel) ?_
  refine y_aload_n (i := 0) (v := (3, 0)) rfl (Or.inr (Or.inl rfl)) (show decode code 237 = .ok (.aload_n 0, 1) by decide +kernel) ?_
  refine y_iload_n (i := 3) (x := i) rfl (show decode code 238 = .ok (.iload_n 3, 1) by decide +kernel) ?_
  refine y_iconst (show decode code 239 = .ok (.iconst 1, 1) by decide +kernel) ?_
  refine y_iadd (show decode code 240 = .ok (.iadd, 1) by decide +kernel) ?_
  refine y_sald (show decode code 241 = .ok (.iaload, 1) by decide +kernel) hL (by omega) ?_
  refine y_aload_n (i := 0) (v := (3, 0)) rfl (Or.inr (Or.inl rfl)) (show decode code 242 = .ok (.aload_n 0, 1) by decide +kernel) ?_
  refine y_iload_n (i := 3) (x := i) rfl (show decode code 243 = .ok (.iload_n 3, 1) by decide +kernel) ?_
  refine y_iconst (show decode code 244 = .ok (.iconst 2, 1) by decide +kernel) ?_
  refine y_iadd (show decode code 245 = .ok (.iadd, 1) by decide +kernel) ?_
  refine y_sald (show decode code 246 = .ok (.iaload, 1) by decide +kernel) hL (by omega) ?_
  refine y_aload_n (i := 0) (v := (3, 0)) rfl (Or.inr (Or.inl rfl)) (show decode code 247 = .ok (.aload_n 0, 1) by decide +kernel) ?_
  refine y_iload_n (i := 3) (x := i) rfl (show decode code 248 = .ok (.iload_n 3, 1) by decide +kernel) ?_
  refine y_iconst (show decode code 249 = .ok (.iconst 3, 1) by decide +kernel) ?_
  refine y_iadd (show decode code 250 = .ok (.iadd, 1) by decide +kernel) ?_
  refine y_sald (show decode code 251 = .ok (.iaload, 1) by decide +kernel) hL (by omega) ?_
  refine y_aload_n (i := 0) (v := (3, 0)) rfl (Or.inr (Or.inl rfl)) (show decode code 252 = .ok (.aload_n 0, 1) by decide +kernel) ?_
  refine y_iload_n (i := 3) (x := i) rfl (show decode code 253 = .ok (.iload_n 3, 1) by decide +kernel) ?_
  refine y_iconst (show decode code 254 = .ok (.iconst 4, 1) by decide +kernel) ?_
  refine y_iadd (show decode code 255 = .ok (.iadd, 1) by decide +kernel) ?_
  refine y_sald (show decode code 256 = .ok (.iaload, 1) by decide +kernel) hL (by omega) ?_
  refine y_aload_n (i := 0) (v := (3, 0)) rfl (Or.inr (Or.inl rfl)) (show decode code 257 = .ok (.aload_n 0, 1) by decide +kernel) ?_
  refine y_iload_n (i := 3) (x := i) rfl (show decode code 258 = .ok (.iload_n 3, 1) by decide +kernel) ?_
  refine y_iconst (show decode code 259 = .ok (.iconst 5, 1) by decide +kernel) ?_
  refine y_iadd (show decode code 260 = .ok (.iadd, 1) by decide +kernel) ?_
  refine y_sald (show decode code 261 = .ok (.iaload, 1) by decide +kernel) hL (by omega) ?_
  refine y_ctV (m' := mX11_feed) (t := t) (ci := 11) (tag := 0) (a := 1) (As := [iv (sv Sc (i + 1)), iv (sv Sc (i + 2)), iv (sv Sc (i + 3)), iv (sv Sc (i + 4)), iv (sv Sc (i + 5))]) (F := fun r σ1 => (True) ∧ ∀ (d2 : Nat) (Q2 : Int → jM → Prop), (∀ r' σ2, Same L σ r r' σ2 → Q2 r' σ2) → Ct mX12_feed (d2 + 11) 0 t [rv 321, iv (sv Sc (i + 1)), iv (sv Sc (i + 2)), iv (sv Sc (i + 3)), iv (sv Sc (i + 4)), iv (sv Sc (i + 5))] σ1 Q2) (cw_L_13 rfl) (show decode code 262 = .ok (.invokevirtual 13, 3) by decide +kernel) rfl (Nat.le_of_ble_eq_true rfl) (by decide) okl_1 rfl rfl (Nat.le_refl _) (a_feed 389 v.1   (fun r σ1 h => ⟨trivial, h⟩)) (fun r σ1 hh => ?_)
  refine y_aload_n (i := 2) (v := rv 321) rfl (Or.inl rfl) (show decode code 265 = .ok (.aload_n 2, 1) by decide +kernel) ?_
  refine y_aload_n (i := 0) (v := (3, 0)) rfl (Or.inr (Or.inl rfl)) (show decode code 266 = .ok (.aload_n 0, 1) by decide +kernel) ?_
  refine y_iload_n (i := 3) (x := i) rfl (show decode code 267 = .ok (.iload_n 3, 1) by decide +kernel) ?_
  refine y_iconst (show decode code 268 = .ok (.iconst 1, 1) by decide +kernel) ?_
  refine y_iadd (show decode code 269 = .ok (.iadd, 1) by decide +kernel) ?_
  refine y_sald (show decode code 270 = .ok (.iaload, 1) by decide +kernel) hL (by omega) ?_
  refine y_aload_n (i := 0) (v := (3, 0)) rfl (Or.inr (Or.inl rfl)) (show decode code 271 = .ok (.aload_n 0, 1) by decide +kernel) ?_
  refine y_iload_n (i := 3) (x := i) rfl (show decode code 272 = .ok (.iload_n 3, 1) by decide +kernel) ?_
  refine y_iconst (show decode code 273 = .ok (.iconst 2, 1) by decide +kernel) ?_
  refine y_iadd (show decode code 274 = .ok (.iadd, 1) by decide +kernel) ?_
  refine y_sald (show decode code 275 = .ok (.iaload, 1) by decide +kernel) hL (by omega) ?_
  refine y_aload_n (i := 0) (v := (3, 0)) rfl (Or.inr (Or.inl rfl)) (show decode code 276 = .ok (.aload_n 0, 1) by decide +kernel) ?_
  refine y_iload_n (i := 3) (x := i) rfl (show decode code 277 = .ok (.iload_n 3, 1) by decide +kernel) ?_
  refine y_iconst (show decode code 278 = .ok (.iconst 3, 1) by decide +kernel) ?_
  refine y_iadd (show decode code 279 = .ok (.iadd, 1) by decide +kernel) ?_
  refine y_sald (show decode code 280 = .ok (.iaload, 1) by decide +kernel) hL (by omega) ?_
  refine y_aload_n (i := 0) (v := (3, 0)) rfl (Or.inr (Or.inl rfl)) (show decode code 281 = .ok (.aload_n 0, 1) by decide +kernel) ?_
  refine y_iload_n (i := 3) (x := i) rfl (show decode code 282 = .ok (.iload_n 3, 1) by decide +kernel) ?_
  refine y_iconst (show decode code 283 = .ok (.iconst 4, 1) by decide +kernel) ?_
  refine y_iadd (show decode code 284 = .ok (.iadd, 1) by decide +kernel) ?_
  refine y_sald (show decode code 285 = .ok (.iaload, 1) by decide +kernel) hL (by omega) ?_
  refine y_aload_n (i := 0) (v := (3, 0)) rfl (Or.inr (Or.inl rfl)) (show decode code 286 = .ok (.aload_n 0, 1) by decide +kernel) ?_
  refine y_iload_n (i := 3) (x := i) rfl (show decode code 287 = .ok (.iload_n 3, 1) by decide +kernel) ?_
  refine y_iconst (show decode code 288 = .ok (.iconst 5, 1) by decide +kernel) ?_
  refine y_iadd (show decode code 289 = .ok (.iadd, 1) by decide +kernel) ?_
  refine y_sald (show decode code 290 = .ok (.iaload, 1) by decide +kernel) hL (by omega) ?_
  refine y_ctV (m' := mX12_feed) (t := t) (ci := 12) (tag := 0) (a := 321) (As := [iv (sv Sc (i + 1)), iv (sv Sc (i + 2)), iv (sv Sc (i + 3)), iv (sv Sc (i + 4)), iv (sv Sc (i + 5))]) (F := fun r' σ2 => r' = r ∧ inR r ∧ IVL L σ2) (cw_L_17 rfl) (show decode code 291 = .ok (.invokevirtual 17, 3) by decide +kernel) rfl (Nat.le_of_ble_eq_true rfl) (by decide) okl_321 rfl rfl (Nat.le_refl _) (hh.2 389 _ (fun r' σ2 h => ⟨h.1, h.2.1, iv_same v h⟩)) (fun r' σ2 hs => ?_)
  obtain ⟨e, hr, v2⟩ := hs
  subst e
  refine y_icmp_eq (tgt := 1404) hr hr (show decode code 294 = .ok (.if_icmp .eq 1110, 3) by decide +kernel) (by decide) (fun _ => ?_) (fun z => absurd rfl z)
  exact lw_1404 (k t σ2 L v2)
set_option maxRecDepth 8000 in
theorem lw_end {t i : Int} {σ : jM} {L : LT} (hL : Sc.1 ≤ 3072) (hi : 0 ≤ i ∧ i + 6 ≤ (Sc.1 : Int)) (v : IVL L σ) (k : ∀ t' σ' L', IVL L' σ' → JS Sc mL 401 0 340 PL 18 [(3, 0), rv 1, rv 321, iv (i + 6)] [] (GG t') σ') : JS Sc mL 401 0 340 PL 299 [(3, 0), rv 1, rv 321, iv i] [] (GG t) σ := by
  refine y_aload_n (i := 1) (v := rv 1) rfl (Or.inl rfl) (show decode code 299 = .ok (.aload_n 1, 1) by decide +kernel) ?_
  refine y_aload_n (i := 0) (v := (3, 0)) rfl (Or.inr (Or.inl rfl)) (show decode code 300 = .ok (.aload_n 0, 1) by decide +kernel) ?_
  refine y_iload_n (i := 3) (x := i) rfl (show decode code 301 = .ok (.iload_n 3, 1) by decide +kernel) ?_
  refine y_iconst (show decode code 302 = .ok (.iconst 1, 1) by decide +kernel) ?_
  refine y_iadd (show decode code 303 = .ok (.iadd, 1) by decide +kernel) ?_
  refine y_sald (show decode code 304 = .ok (.iaload, 1) by decide +kernel) hL (by omega) ?_
  refine y_ctV (m' := mX11_end) (t := t) (ci := 11) (tag := 0) (a := 1) (As := [iv (sv Sc (i + 1))]) (F := fun r σ1 => (True) ∧ ∀ (d2 : Nat) (Q2 : Int → jM → Prop), (∀ r' σ2, Same L σ r r' σ2 → Q2 r' σ2) → Ct mX12_end (d2 + 11) 0 t [rv 321, iv (sv Sc (i + 1))] σ1 Q2) (cw_L_18 rfl) (show decode code 305 = .ok (.invokevirtual 18, 3) by decide +kernel) rfl (Nat.le_of_ble_eq_true rfl) (by decide) okl_1 rfl rfl (Nat.le_refl _) (a_end 389 v.1  sv_R (fun r σ1 h => ⟨trivial, h⟩)) (fun r σ1 hh => ?_)
  refine y_aload_n (i := 2) (v := rv 321) rfl (Or.inl rfl) (show decode code 308 = .ok (.aload_n 2, 1) by decide +kernel) ?_
  refine y_aload_n (i := 0) (v := (3, 0)) rfl (Or.inr (Or.inl rfl)) (show decode code 309 = .ok (.aload_n 0, 1) by decide +kernel) ?_
  refine y_iload_n (i := 3) (x := i) rfl (show decode code 310 = .ok (.iload_n 3, 1) by decide +kernel) ?_
  refine y_iconst (show decode code 311 = .ok (.iconst 1, 1) by decide +kernel) ?_
  refine y_iadd (show decode code 312 = .ok (.iadd, 1) by decide +kernel) ?_
  refine y_sald (show decode code 313 = .ok (.iaload, 1) by decide +kernel) hL (by omega) ?_
  refine y_ctV (m' := mX12_end) (t := t) (ci := 12) (tag := 0) (a := 321) (As := [iv (sv Sc (i + 1))]) (F := fun r' σ2 => r' = r ∧ inR r ∧ IVL L σ2) (cw_L_22 rfl) (show decode code 314 = .ok (.invokevirtual 22, 3) by decide +kernel) rfl (Nat.le_of_ble_eq_true rfl) (by decide) okl_321 rfl rfl (Nat.le_refl _) (hh.2 389 _ (fun r' σ2 h => ⟨h.1, h.2.1, iv_same v h⟩)) (fun r' σ2 hs => ?_)
  obtain ⟨e, hr, v2⟩ := hs
  subst e
  refine y_icmp_eq (tgt := 1404) hr hr (show decode code 317 = .ok (.if_icmp .eq 1087, 3) by decide +kernel) (by decide) (fun _ => ?_) (fun z => absurd rfl z)
  exact lw_1404 (k t σ2 L v2)
set_option maxRecDepth 8000 in
theorem lw_text {t i : Int} {σ : jM} {L : LT} (hL : Sc.1 ≤ 3072) (hi : 0 ≤ i ∧ i + 6 ≤ (Sc.1 : Int)) (v : IVL L σ) (k : ∀ t' σ' L', IVL L' σ' → JS Sc mL 401 0 340 PL 18 [(3, 0), rv 1, rv 321, iv (i + 6)] [] (GG t') σ') : JS Sc mL 401 0 340 PL 322 [(3, 0), rv 1, rv 321, iv i] [] (GG t) σ := by
  refine y_aload_n (i := 1) (v := rv 1) rfl (Or.inl rfl) (show decode code 322 = .ok (.aload_n 1, 1) by decide +kernel) ?_
  refine y_callV (m' := mX11_text) (d' := 400) (k := 0) (ci := 11) (a := 1) (As := []) (cw_L_23 rfl) (show decode code 323 = .ok (.invokevirtual 23, 3) by decide +kernel) rfl (Nat.le_of_ble_eq_true rfl) (Nat.le_refl _) (Nat.le_refl _) okl_1 rfl rfl (Cn_mono (a_text (t := t) 20 v.1 (Q := fun t' r σ1 => inR r ∧ ∀ (d2 : Nat) (Q2 : Int → jM → Prop), (∀ r' σ2, r' = r → (∃ L', I0 L' σ2) → frK σ σ2 → Q2 r' σ2) → Ct mX12_text (d2 + 13) 0 t' [rv 321] σ1 Q2) (fun t' r σ1 c h => ⟨c, h⟩)) ?_)
  rintro ⟨r1, r⟩ G' σ1 ⟨h1, t', h2, hh⟩
  have h1 : r1 = 0 := h1
  subst h1
  subst h2
  unfold jpush
  rw [if_neg (show ¬ (0 : Nat) = 9 by decide)]
  refine y_aload_n (i := 2) (v := rv 321) rfl (Or.inl rfl) (show decode code 326 = .ok (.aload_n 2, 1) by decide +kernel) ?_
  refine y_ctV (m' := mX12_text) (t := t') (ci := 12) (tag := 0) (a := 321) (As := []) (F := fun r' σ2 => r' = r ∧ inR r ∧ ∃ L', IVL L' σ2) (cw_L_27 rfl) (show decode code 327 = .ok (.invokevirtual 27, 3) by decide +kernel) rfl (Nat.le_of_ble_eq_true rfl) (by decide) okl_321 rfl rfl (Nat.le_refl _) (hh.2 387 _ (fun r' σ2 e1 e2 e3 => ⟨e1, hh.1, iv_text v e2 e3⟩)) (fun r' σ2 hs => ?_)
  obtain ⟨e, hr, L2, v2⟩ := hs
  subst e
  refine y_icmp_eq (tgt := 1404) hr hr (show decode code 330 = .ok (.if_icmp .eq 1074, 3) by decide +kernel) (by decide) (fun _ => ?_) (fun z => absurd rfl z)
  exact lw_1404 (k t' σ2 L2 v2)
set_option maxRecDepth 8000 in
theorem lw_fault {t i : Int} {σ : jM} {L : LT} (hL : Sc.1 ≤ 3072) (hi : 0 ≤ i ∧ i + 6 ≤ (Sc.1 : Int)) (v : IVL L σ) (k : ∀ t' σ' L', IVL L' σ' → JS Sc mL 401 0 340 PL 18 [(3, 0), rv 1, rv 321, iv (i + 6)] [] (GG t') σ') : JS Sc mL 401 0 340 PL 335 [(3, 0), rv 1, rv 321, iv i] [] (GG t) σ := by
  refine y_aload_n (i := 1) (v := rv 1) rfl (Or.inl rfl) (show decode code 335 = .ok (.aload_n 1, 1) by decide +kernel) ?_
  refine y_aload_n (i := 0) (v := (3, 0)) rfl (Or.inr (Or.inl rfl)) (show decode code 336 = .ok (.aload_n 0, 1) by decide +kernel) ?_
  refine y_iload_n (i := 3) (x := i) rfl (show decode code 337 = .ok (.iload_n 3, 1) by decide +kernel) ?_
  refine y_iconst (show decode code 338 = .ok (.iconst 1, 1) by decide +kernel) ?_
  refine y_iadd (show decode code 339 = .ok (.iadd, 1) by decide +kernel) ?_
  refine y_sald (show decode code 340 = .ok (.iaload, 1) by decide +kernel) hL (by omega) ?_
  refine y_ctV (m' := mX11_fault) (t := t) (ci := 11) (tag := 0) (a := 1) (As := [iv (sv Sc (i + 1))]) (F := fun r σ1 => (True) ∧ ∀ (d2 : Nat) (Q2 : Int → jM → Prop), (∀ r' σ2, Same L σ r r' σ2 → Q2 r' σ2) → Ct mX12_fault (d2 + 11) 0 t [rv 321, iv (sv Sc (i + 1))] σ1 Q2) (cw_L_28 rfl) (show decode code 341 = .ok (.invokevirtual 28, 3) by decide +kernel) rfl (Nat.le_of_ble_eq_true rfl) (by decide) okl_1 rfl rfl (Nat.le_refl _) (a_fault 389 v.1  sv_R (fun r σ1 h => ⟨trivial, h⟩)) (fun r σ1 hh => ?_)
  refine y_aload_n (i := 2) (v := rv 321) rfl (Or.inl rfl) (show decode code 344 = .ok (.aload_n 2, 1) by decide +kernel) ?_
  refine y_aload_n (i := 0) (v := (3, 0)) rfl (Or.inr (Or.inl rfl)) (show decode code 345 = .ok (.aload_n 0, 1) by decide +kernel) ?_
  refine y_iload_n (i := 3) (x := i) rfl (show decode code 346 = .ok (.iload_n 3, 1) by decide +kernel) ?_
  refine y_iconst (show decode code 347 = .ok (.iconst 1, 1) by decide +kernel) ?_
  refine y_iadd (show decode code 348 = .ok (.iadd, 1) by decide +kernel) ?_
  refine y_sald (show decode code 349 = .ok (.iaload, 1) by decide +kernel) hL (by omega) ?_
  refine y_ctV (m' := mX12_fault) (t := t) (ci := 12) (tag := 0) (a := 321) (As := [iv (sv Sc (i + 1))]) (F := fun r' σ2 => r' = r ∧ inR r ∧ IVL L σ2) (cw_L_31 rfl) (show decode code 350 = .ok (.invokevirtual 31, 3) by decide +kernel) rfl (Nat.le_of_ble_eq_true rfl) (by decide) okl_321 rfl rfl (Nat.le_refl _) (hh.2 389 _ (fun r' σ2 h => ⟨h.1, h.2.1, iv_same v h⟩)) (fun r' σ2 hs => ?_)
  obtain ⟨e, hr, v2⟩ := hs
  subst e
  refine y_icmp_eq (tgt := 1404) hr hr (show decode code 353 = .ok (.if_icmp .eq 1051, 3) by decide +kernel) (by decide) (fun _ => ?_) (fun z => absurd rfl z)
  exact lw_1404 (k t σ2 L v2)
set_option maxRecDepth 8000 in
theorem lw_by {t i : Int} {σ : jM} {L : LT} (hL : Sc.1 ≤ 3072) (hi : 0 ≤ i ∧ i + 6 ≤ (Sc.1 : Int)) (v : IVL L σ) (k : ∀ t' σ' L', IVL L' σ' → JS Sc mL 401 0 340 PL 18 [(3, 0), rv 1, rv 321, iv (i + 6)] [] (GG t') σ') : JS Sc mL 401 0 340 PL 358 [(3, 0), rv 1, rv 321, iv i] [] (GG t) σ := by
  refine y_aload_n (i := 1) (v := rv 1) rfl (Or.inl rfl) (show decode code 358 = .ok (.aload_n 1, 1) by decide +kernel) ?_
  refine y_aload_n (i := 0) (v := (3, 0)) rfl (Or.inr (Or.inl rfl)) (show decode code 359 = .ok (.aload_n 0, 1) by decide +kernel) ?_
  refine y_iload_n (i := 3) (x := i) rfl (show decode code 360 = .ok (.iload_n 3, 1) by decide +kernel) ?_
  refine y_iconst (show decode code 361 = .ok (.iconst 1, 1) by decide +kernel) ?_
  refine y_iadd (show decode code 362 = .ok (.iadd, 1) by decide +kernel) ?_
  refine y_sald (show decode code 363 = .ok (.iaload, 1) by decide +kernel) hL (by omega) ?_
  refine y_ctV (m' := mX11_by) (t := t) (ci := 11) (tag := 0) (a := 1) (As := [iv (sv Sc (i + 1))]) (F := fun r σ1 => ((r = 0 ∨ r = 1)) ∧ ∀ (d2 : Nat) (Q2 : Int → jM → Prop), (∀ r' σ2, Same L σ r r' σ2 → Q2 r' σ2) → Ct mX12_by (d2 + 11) 0 t [rv 321, iv (sv Sc (i + 1))] σ1 Q2) (cw_L_32 rfl) (show decode code 364 = .ok (.invokevirtual 32, 3) by decide +kernel) rfl (Nat.le_of_ble_eq_true rfl) (by decide) okl_1 rfl rfl (Nat.le_refl _) (a_by 389 v.1  sv_R (fun r σ1 c h => ⟨c, h⟩)) (fun r σ1 hh => ?_)
  refine y_aload_n (i := 2) (v := rv 321) rfl (Or.inl rfl) (show decode code 367 = .ok (.aload_n 2, 1) by decide +kernel) ?_
  refine y_aload_n (i := 0) (v := (3, 0)) rfl (Or.inr (Or.inl rfl)) (show decode code 368 = .ok (.aload_n 0, 1) by decide +kernel) ?_
  refine y_iload_n (i := 3) (x := i) rfl (show decode code 369 = .ok (.iload_n 3, 1) by decide +kernel) ?_
  refine y_iconst (show decode code 370 = .ok (.iconst 1, 1) by decide +kernel) ?_
  refine y_iadd (show decode code 371 = .ok (.iadd, 1) by decide +kernel) ?_
  refine y_sald (show decode code 372 = .ok (.iaload, 1) by decide +kernel) hL (by omega) ?_
  refine y_ctV (m' := mX12_by) (t := t) (ci := 12) (tag := 0) (a := 321) (As := [iv (sv Sc (i + 1))]) (F := fun r' σ2 => r' = r ∧ inR r ∧ IVL L σ2) (cw_L_36 rfl) (show decode code 373 = .ok (.invokevirtual 36, 3) by decide +kernel) rfl (Nat.le_of_ble_eq_true rfl) (by decide) okl_321 rfl rfl (Nat.le_refl _) (hh.2 389 _ (fun r' σ2 h => ⟨h.1, h.2.1, iv_same v h⟩)) (fun r' σ2 hs => ?_)
  obtain ⟨e, hr, v2⟩ := hs
  subst e
  refine y_icmp_eq (tgt := 1404) hr hr (show decode code 376 = .ok (.if_icmp .eq 1028, 3) by decide +kernel) (by decide) (fun _ => ?_) (fun z => absurd rfl z)
  exact lw_1404 (k t σ2 L v2)
set_option maxRecDepth 8000 in
theorem lw_join {t i : Int} {σ : jM} {L : LT} (hL : Sc.1 ≤ 3072) (hi : 0 ≤ i ∧ i + 6 ≤ (Sc.1 : Int)) (v : IVL L σ) (k : ∀ t' σ' L', IVL L' σ' → JS Sc mL 401 0 340 PL 18 [(3, 0), rv 1, rv 321, iv (i + 6)] [] (GG t') σ') : JS Sc mL 401 0 340 PL 381 [(3, 0), rv 1, rv 321, iv i] [] (GG t) σ := by
  refine y_aload_n (i := 1) (v := rv 1) rfl (Or.inl rfl) (show decode code 381 = .ok (.aload_n 1, 1) by decide +kernel) ?_
  refine y_aload_n (i := 0) (v := (3, 0)) rfl (Or.inr (Or.inl rfl)) (show decode code 382 = .ok (.aload_n 0, 1) by decide +kernel) ?_
  refine y_iload_n (i := 3) (x := i) rfl (show decode code 383 = .ok (.iload_n 3, 1) by decide +kernel) ?_
  refine y_iconst (show decode code 384 = .ok (.iconst 1, 1) by decide +kernel) ?_
  refine y_iadd (show decode code 385 = .ok (.iadd, 1) by decide +kernel) ?_
  refine y_sald (show decode code 386 = .ok (.iaload, 1) by decide +kernel) hL (by omega) ?_
  refine y_aload_n (i := 0) (v := (3, 0)) rfl (Or.inr (Or.inl rfl)) (show decode code 387 = .ok (.aload_n 0, 1) by decide +kernel) ?_
  refine y_iload_n (i := 3) (x := i) rfl (show decode code 388 = .ok (.iload_n 3, 1) by decide +kernel) ?_
  refine y_iconst (show decode code 389 = .ok (.iconst 2, 1) by decide +kernel) ?_
  refine y_iadd (show decode code 390 = .ok (.iadd, 1) by decide +kernel) ?_
  refine y_sald (show decode code 391 = .ok (.iaload, 1) by decide +kernel) hL (by omega) ?_
  refine y_ctV (m' := mX11_join) (t := t) (ci := 11) (tag := 0) (a := 1) (As := [iv (sv Sc (i + 1)), iv (sv Sc (i + 2))]) (F := fun r σ1 => (True) ∧ ∀ (d2 : Nat) (Q2 : Int → jM → Prop), (∀ r' σ2, Same L σ r r' σ2 → Q2 r' σ2) → Ct mX12_join (d2 + 10) 0 t [rv 321, iv (sv Sc (i + 1)), iv (sv Sc (i + 2))] σ1 Q2) (cw_L_37 rfl) (show decode code 392 = .ok (.invokevirtual 37, 3) by decide +kernel) rfl (Nat.le_of_ble_eq_true rfl) (by decide) okl_1 rfl rfl (Nat.le_refl _) (a_join 390 v.1  sv_R sv_R (fun r σ1 h => ⟨trivial, h⟩)) (fun r σ1 hh => ?_)
  refine y_aload_n (i := 2) (v := rv 321) rfl (Or.inl rfl) (show decode code 395 = .ok (.aload_n 2, 1) by decide +kernel) ?_
  refine y_aload_n (i := 0) (v := (3, 0)) rfl (Or.inr (Or.inl rfl)) (show decode code 396 = .ok (.aload_n 0, 1) by decide +kernel) ?_
  refine y_iload_n (i := 3) (x := i) rfl (show decode code 397 = .ok (.iload_n 3, 1) by decide +kernel) ?_
  refine y_iconst (show decode code 398 = .ok (.iconst 1, 1) by decide +kernel) ?_
  refine y_iadd (show decode code 399 = .ok (.iadd, 1) by decide +kernel) ?_
  refine y_sald (show decode code 400 = .ok (.iaload, 1) by decide +kernel) hL (by omega) ?_
  refine y_aload_n (i := 0) (v := (3, 0)) rfl (Or.inr (Or.inl rfl)) (show decode code 401 = .ok (.aload_n 0, 1) by decide +kernel) ?_
  refine y_iload_n (i := 3) (x := i) rfl (show decode code 402 = .ok (.iload_n 3, 1) by decide +kernel) ?_
  refine y_iconst (show decode code 403 = .ok (.iconst 2, 1) by decide +kernel) ?_
  refine y_iadd (show decode code 404 = .ok (.iadd, 1) by decide +kernel) ?_
  refine y_sald (show decode code 405 = .ok (.iaload, 1) by decide +kernel) hL (by omega) ?_
  refine y_ctV (m' := mX12_join) (t := t) (ci := 12) (tag := 0) (a := 321) (As := [iv (sv Sc (i + 1)), iv (sv Sc (i + 2))]) (F := fun r' σ2 => r' = r ∧ inR r ∧ IVL L σ2) (cw_L_41 rfl) (show decode code 406 = .ok (.invokevirtual 41, 3) by decide +kernel) rfl (Nat.le_of_ble_eq_true rfl) (by decide) okl_321 rfl rfl (Nat.le_refl _) (hh.2 390 _ (fun r' σ2 h => ⟨h.1, h.2.1, iv_same v h⟩)) (fun r' σ2 hs => ?_)
  obtain ⟨e, hr, v2⟩ := hs
  subst e
  refine y_icmp_eq (tgt := 1404) hr hr (show decode code 409 = .ok (.if_icmp .eq 995, 3) by decide +kernel) (by decide) (fun _ => ?_) (fun z => absurd rfl z)
  exact lw_1404 (k t σ2 L v2)
set_option maxRecDepth 8000 in
theorem lw_pour {t i : Int} {σ : jM} {L : LT} (hL : Sc.1 ≤ 3072) (hi : 0 ≤ i ∧ i + 6 ≤ (Sc.1 : Int)) (v : IVL L σ) (k : ∀ t' σ' L', IVL L' σ' → JS Sc mL 401 0 340 PL 18 [(3, 0), rv 1, rv 321, iv (i + 6)] [] (GG t') σ') : JS Sc mL 401 0 340 PL 414 [(3, 0), rv 1, rv 321, iv i] [] (GG t) σ := by
  refine y_aload_n (i := 1) (v := rv 1) rfl (Or.inl rfl) (show decode code 414 = .ok (.aload_n 1, 1) by decide +kernel) ?_
  refine y_aload_n (i := 0) (v := (3, 0)) rfl (Or.inr (Or.inl rfl)) (show decode code 415 = .ok (.aload_n 0, 1) by decide +kernel) ?_
  refine y_iload_n (i := 3) (x := i) rfl (show decode code 416 = .ok (.iload_n 3, 1) by decide +kernel) ?_
  refine y_iconst (show decode code 417 = .ok (.iconst 1, 1) by decide +kernel) ?_
  refine y_iadd (show decode code 418 = .ok (.iadd, 1) by decide +kernel) ?_
  refine y_sald (show decode code 419 = .ok (.iaload, 1) by decide +kernel) hL (by omega) ?_
  refine y_ctV (m' := mX11_pour) (t := t) (ci := 11) (tag := 0) (a := 1) (As := [iv (sv Sc (i + 1))]) (F := fun r σ1 => ((r = 0 ∨ r = 1)) ∧ ∀ (d2 : Nat) (Q2 : Int → jM → Prop), (∀ r' σ2, Same L σ r r' σ2 → Q2 r' σ2) → Ct mX12_pour (d2 + 10) 0 t [rv 321, iv (sv Sc (i + 1))] σ1 Q2) (cw_L_42 rfl) (show decode code 420 = .ok (.invokevirtual 42, 3) by decide +kernel) rfl (Nat.le_of_ble_eq_true rfl) (by decide) okl_1 rfl rfl (Nat.le_refl _) (a_pour 390 v.1  sv_R (fun r σ1 c h => ⟨c, h⟩)) (fun r σ1 hh => ?_)
  refine y_aload_n (i := 2) (v := rv 321) rfl (Or.inl rfl) (show decode code 423 = .ok (.aload_n 2, 1) by decide +kernel) ?_
  refine y_aload_n (i := 0) (v := (3, 0)) rfl (Or.inr (Or.inl rfl)) (show decode code 424 = .ok (.aload_n 0, 1) by decide +kernel) ?_
  refine y_iload_n (i := 3) (x := i) rfl (show decode code 425 = .ok (.iload_n 3, 1) by decide +kernel) ?_
  refine y_iconst (show decode code 426 = .ok (.iconst 1, 1) by decide +kernel) ?_
  refine y_iadd (show decode code 427 = .ok (.iadd, 1) by decide +kernel) ?_
  refine y_sald (show decode code 428 = .ok (.iaload, 1) by decide +kernel) hL (by omega) ?_
  refine y_ctV (m' := mX12_pour) (t := t) (ci := 12) (tag := 0) (a := 321) (As := [iv (sv Sc (i + 1))]) (F := fun r' σ2 => r' = r ∧ inR r ∧ IVL L σ2) (cw_L_45 rfl) (show decode code 429 = .ok (.invokevirtual 45, 3) by decide +kernel) rfl (Nat.le_of_ble_eq_true rfl) (by decide) okl_321 rfl rfl (Nat.le_refl _) (hh.2 390 _ (fun r' σ2 h => ⟨h.1, h.2.1, iv_same v h⟩)) (fun r' σ2 hs => ?_)
  obtain ⟨e, hr, v2⟩ := hs
  subst e
  refine y_icmp_eq (tgt := 1404) hr hr (show decode code 432 = .ok (.if_icmp .eq 972, 3) by decide +kernel) (by decide) (fun _ => ?_) (fun z => absurd rfl z)
  exact lw_1404 (k t σ2 L v2)
set_option maxRecDepth 8000 in
theorem lw_bake {t i : Int} {σ : jM} {L : LT} (hL : Sc.1 ≤ 3072) (hi : 0 ≤ i ∧ i + 6 ≤ (Sc.1 : Int)) (v : IVL L σ) (k : ∀ t' σ' L', IVL L' σ' → JS Sc mL 401 0 340 PL 18 [(3, 0), rv 1, rv 321, iv (i + 6)] [] (GG t') σ') : JS Sc mL 401 0 340 PL 437 [(3, 0), rv 1, rv 321, iv i] [] (GG t) σ := by
  refine y_aload_n (i := 1) (v := rv 1) rfl (Or.inl rfl) (show decode code 437 = .ok (.aload_n 1, 1) by decide +kernel) ?_
  refine y_aload_n (i := 0) (v := (3, 0)) rfl (Or.inr (Or.inl rfl)) (show decode code 438 = .ok (.aload_n 0, 1) by decide +kernel) ?_
  refine y_iload_n (i := 3) (x := i) rfl (show decode code 439 = .ok (.iload_n 3, 1) by decide +kernel) ?_
  refine y_iconst (show decode code 440 = .ok (.iconst 1, 1) by decide +kernel) ?_
  refine y_iadd (show decode code 441 = .ok (.iadd, 1) by decide +kernel) ?_
  refine y_sald (show decode code 442 = .ok (.iaload, 1) by decide +kernel) hL (by omega) ?_
  refine y_ctV (m' := mX11_bake) (t := t) (ci := 11) (tag := 0) (a := 1) (As := [iv (sv Sc (i + 1))]) (F := fun r σ1 => ((r = -1 ∨ 0 ≤ r)) ∧ ∀ (d2 : Nat) (Q2 : Int → jM → Prop), (∀ r' σ2, Same L σ r r' σ2 → Q2 r' σ2) → Ct mX12_bake (d2 + 10) 0 t [rv 321, iv (sv Sc (i + 1))] σ1 Q2) (cw_L_46 rfl) (show decode code 443 = .ok (.invokevirtual 46, 3) by decide +kernel) rfl (Nat.le_of_ble_eq_true rfl) (by decide) okl_1 rfl rfl (Nat.le_refl _) (a_bake 390 v.1  sv_R (fun r σ1 c h => ⟨c, h⟩)) (fun r σ1 hh => ?_)
  refine y_aload_n (i := 2) (v := rv 321) rfl (Or.inl rfl) (show decode code 446 = .ok (.aload_n 2, 1) by decide +kernel) ?_
  refine y_aload_n (i := 0) (v := (3, 0)) rfl (Or.inr (Or.inl rfl)) (show decode code 447 = .ok (.aload_n 0, 1) by decide +kernel) ?_
  refine y_iload_n (i := 3) (x := i) rfl (show decode code 448 = .ok (.iload_n 3, 1) by decide +kernel) ?_
  refine y_iconst (show decode code 449 = .ok (.iconst 1, 1) by decide +kernel) ?_
  refine y_iadd (show decode code 450 = .ok (.iadd, 1) by decide +kernel) ?_
  refine y_sald (show decode code 451 = .ok (.iaload, 1) by decide +kernel) hL (by omega) ?_
  refine y_ctV (m' := mX12_bake) (t := t) (ci := 12) (tag := 0) (a := 321) (As := [iv (sv Sc (i + 1))]) (F := fun r' σ2 => r' = r ∧ inR r ∧ IVL L σ2) (cw_L_49 rfl) (show decode code 452 = .ok (.invokevirtual 49, 3) by decide +kernel) rfl (Nat.le_of_ble_eq_true rfl) (by decide) okl_321 rfl rfl (Nat.le_refl _) (hh.2 390 _ (fun r' σ2 h => ⟨h.1, h.2.1, iv_same v h⟩)) (fun r' σ2 hs => ?_)
  obtain ⟨e, hr, v2⟩ := hs
  subst e
  refine y_icmp_eq (tgt := 1404) hr hr (show decode code 455 = .ok (.if_icmp .eq 949, 3) by decide +kernel) (by decide) (fun _ => ?_) (fun z => absurd rfl z)
  exact lw_1404 (k t σ2 L v2)
end LC
