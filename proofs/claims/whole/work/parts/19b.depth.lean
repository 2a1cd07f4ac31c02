/-! ===== a contract of more frames ===== -/
theorem room_le {s : State} {pl : Platform} {a b : Room} (hf : a.frames ≤ b.frames) (hl : a.locals ≤ b.locals) (hc : a.cells = b.cells) (hs : a.slots = b.slots) (h : s.hasRoom pl b = true) : s.hasRoom pl a = true := by
  unfold State.hasRoom at h ⊢
  simp only [Bool.and_eq_true, decide_eq_true_eq] at h ⊢
  rw [hc, hs]
  refine ⟨⟨⟨⟨by omega, ?_⟩, h.1.1.2⟩, h.1.2⟩, h.2⟩
  obtain ⟨h1, h2, h3, h4, h5⟩ := h.1.1.1.2
  exact ⟨by omega, by omega, by omega, by omega, h5⟩
theorem Cn_le {m : jT} {d d' k : Nat} {As : List jV} {G : jG} {σ : jM} {P : jV → jG → jM → Prop} (h : Cn m d k As G σ P) (hd : d ≤ d') : Cn m d' k As G σ P := by
  intro l E p e ha hcs hk s mm args below hfr happ hP hK
  obtain ⟨a1, a2, a3, a4, a5, a6, a7, a8⟩ := (Spec.appliesLoose_iff hfr).mp happ
  exact h l E p e ha hcs hk s mm args below hfr ((Spec.appliesLoose_iff hfr).mpr ⟨a1, a2, a3, a4, a5, a6, room_le (b := jrm d' G.2 k) hd (Nat.mul_le_mul_left 64 hd) rfl rfl a7, a8⟩) hP hK
theorem Ct_le {m : jT} {d d' tag : Nat} {t : Int} {As : List jV} {σ : jM} {Q : Int → jM → Prop} (h : Ct m d tag t As σ Q) (hd : d ≤ d') : Ct m d' tag t As σ Q := Cn_le h hd
