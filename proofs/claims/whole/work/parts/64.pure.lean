/-! PURE 5: getters -/
def OC (x : Option (Int32 × Mm)) (s : Int32 × GS) : Prop := ∃ τ, x = some (s.1, τ) ∧ RepC τ s.2
def OR (x : Option (Int32 × Mm)) (s : Int32 × GS) : Prop := ∃ τ, x = some (s.1, τ) ∧ RepR τ s.2
section O
variable {σ : Mm} {G : GS}
theorem OC.ans (hW : WFG G) (h : RepC σ G) (x : Int32) : OC (c_I (fX11_answer 0 x σ) (fun y τ => some (y, τ))) (x, stq 0 G) := ⟨_, rfl, h.st 0 hW⟩
theorem OC.non (hW : WFG G) (h : RepC σ G) (x : Int32) : OC (c_I (fX11_none 0 x σ) (fun y τ => some (y, τ))) (-1, stq x G) := ⟨_, rfl, h.st x hW⟩
theorem OC.agr (hW : WFG G) (h : RepC σ G) : OC (c_I (fX11_agree 0 σ) (fun y τ => b_z y τ)) (1, stq 0 G) := ⟨_, rfl, h.st 0 hW⟩
theorem OC.rfs (hW : WFG G) (h : RepC σ G) (x : Int32) : OC (c_I (fX11_refuse 0 x σ) (fun y τ => b_z y τ)) (0, stq x G) := ⟨_, rfl, h.st x hW⟩
theorem OR.ans (hW : WFG G) (h : RepR σ G) (x : Int32) : OR (c_I (fX12_gives 31 x σ) (fun y τ => some (y, τ))) (x, stq 0 G) := ⟨_, rfl, h.st 0 hW⟩
theorem OR.non (hW : WFG G) (h : RepR σ G) (x : Int32) : OR (c_I (fX12_refuse 31 x σ) (fun y τ => some (y, τ))) (-1, stq x G) := ⟨_, rfl, h.st x hW⟩
theorem OR.agr (hW : WFG G) (h : RepR σ G) : OR (c_I (fX12_is 31 0 σ) (fun y τ => b_z y τ)) (1, stq 0 G) := ⟨_, rfl, h.st 0 hW⟩
theorem OR.rfs (hW : WFG G) (h : RepR σ G) {x : Int32} (hx : x ≠ 0) : OR (c_I (fX12_is 31 x σ) (fun y τ => b_z y τ)) (0, stq x G) := by
  refine ⟨_, ?_, h.st x hW⟩
  unfold fX12_is
  rw [p_sc_s, if_neg hx]; rfl
theorem OC.if {c : Prop} [Decidable c] {A B : Option (Int32 × Mm)} {s t : Int32 × GS} (h1 : c → OC A s) (h2 : ¬ c → OC B t) : OC (if c then A else B) (if c then s else t) := by
  by_cases h : c
  · rw [if_pos h, if_pos h]; exact h1 h
  · rw [if_neg h, if_neg h]; exact h2 h
theorem OR.if {c : Prop} [Decidable c] {A B : Option (Int32 × Mm)} {s t : Int32 × GS} (h1 : c → OR A s) (h2 : ¬ c → OR B t) : OR (if c then A else B) (if c then s else t) := by
  by_cases h : c
  · rw [if_pos h, if_pos h]; exact h1 h
  · rw [if_neg h, if_neg h]; exact h2 h
theorem simS {fc fr : Mm → Option (Int32 × Mm)} {ks : List Nat} (hks : 12 ∉ ks) (sp : GS → Int32 × GS) (hC : ∀ σ G, WFG G → RepC σ G → OC (fc σ) (sp G)) (hR : ∀ σ G, WFG G → RepR σ G → OR (fr σ) (sp G)) (hG : ∀ G, WFG G → WFG (sp G).2) (fC : ∀ σ x τ, fc σ = some (x, τ) → FK ks σ τ) (fR : ∀ σ x τ, fr σ = some (x, τ) → FK [12] σ τ) (σ : Mm) (h : Rel σ) : ok (fc σ) (fun q => ok (fr q.2) (fun q' => q'.1 = q.1 ∧ Rel q'.2)) :=
  simI hks (fun G => (sp G).1) (fun G => (sp G).2) (fun σ G hW h => by obtain ⟨τ, e, r⟩ := hC σ G hW h; exact ⟨_, e, rfl, r⟩) (fun σ G hW h => by obtain ⟨τ, e, r⟩ := hR σ G hW h; exact ⟨_, e, rfl, r⟩) hG fC fR σ h
/-! which vanes, places, shafts there are -/
theorem RepC.pl (h : RepC σ G) : ∃ p, (p = 5 ∨ p = 8) ∧ m_rf σ 4 0 = some p ∧ KD p = 2 ∧ PlC σ p (GD G) := by
  obtain ⟨-, -, -, ⟨p, g, ⟨w1, w2, w3, w4, w5⟩, t1, t2, t3⟩, -⟩ := h
  refine ⟨p, ?_, w1, ?_, t1⟩ <;> rcases w3 with ⟨rfl, -⟩ | ⟨rfl, -⟩ <;> first | decide | simp
theorem RepC.sv (h : RepC σ G) : StC σ 6 (GD G) (GV G) := by
  obtain ⟨-, -, -, ⟨p, g, ⟨w1, w2, w3, w4, w5⟩, t1, t2, t3⟩, -⟩ := h
  exact t2
theorem RepR.pl (h : RepR σ G) : PlR (m_ar σ 31 0) (m_la σ 31 1) 0 0 (GD G) := h.2.2.2.1.1
theorem RepR.sv (h : RepR σ G) : StR (m_ar σ 31 0) 0 (GD G) (GV G) := h.2.2.2.1.2.1
theorem WFG.d (h : WFG G) : WFD (GD G) := h.2.2.1.1
theorem WFG.v (h : WFG G) : WFV (GD G) (GV G) := h.2.2.1.2.1

theorem isPlace_c0 (hW : WFG G) (h : RepC σ G) {a : Int32} (ha : a < 0 ∨ (¬ a < 0 ∧ nI (d_p (GD G)) ≤ a)) : fX11_isPlace 0 a σ = some (0, σ) := by
  obtain ⟨p, -, e, hk, hp⟩ := h.pl
  unfold fX11_isPlace
  rcases ha with ha | ⟨ha, hb⟩
  · rw [if_pos ha]
  · rw [if_neg ha, show tg 0 9 = 4 from rfl, r_rf_e e hk, r_sc_s, hp.1.1, if_pos hb]
theorem isPlace_c1 (hW : WFG G) (h : RepC σ G) {v : Nat} (hv : v < d_p (GD G)) : fX11_isPlace 0 (nI v) σ = some (1, σ) := by
  obtain ⟨p, -, e, hk, hp⟩ := h.pl
  have hb := hW.d.1
  unfold fX11_isPlace
  rw [if_neg (nI_neg0 (by omega)), show tg 0 9 = 4 from rfl, r_rf_e e hk, r_sc_s, hp.1.1, if_neg (by rw [nI_len (by omega) (by omega)]; omega)]
theorem isPlace_r0 (hW : WFG G) (h : RepR σ G) {a : Int32} (ha : a < 0 ∨ (¬ a < 0 ∧ nI (d_p (GD G)) ≤ a)) : fX12_isPlace 31 a σ = some (0, σ) := by
  have hp := h.pl.1.1
  unfold fX12_isPlace
  rcases ha with ha | ⟨ha, hb⟩
  · rw [if_pos ha]
  · rw [if_neg ha, show (0 : Int32) = nI 0 from rfl, g_ar_n (by decide) (by decide), show m_ar σ 31 0 0 = nI (d_p (GD G)) from hp, if_pos hb]
theorem isPlace_r1 (hW : WFG G) (h : RepR σ G) {v : Nat} (hv : v < d_p (GD G)) : fX12_isPlace 31 (nI v) σ = some (1, σ) := by
  have hp := h.pl.1.1
  have hb := hW.d.1
  unfold fX12_isPlace
  rw [if_neg (nI_neg0 (by omega)), show g_ar σ 31 0 2950 (0 : Int32) = g_ar σ 31 0 2950 (nI 0) from rfl, g_ar_n (by decide) (by decide), show m_ar σ 31 0 0 = nI (d_p (GD G)) from hp, if_neg (by rw [nI_len (by omega) (by omega)]; omega)]

theorem isVane_c0 (hW : WFG G) (h : RepC σ G) {a : Int32} (ha : a < 0 ∨ (¬ a < 0 ∧ nI (d_v (GD G)) ≤ a)) : fX11_isVane 0 a σ = some (0, σ) := by
  obtain ⟨p, -, e, hk, hp⟩ := h.pl
  unfold fX11_isVane
  rcases ha with ha | ⟨ha, hb⟩
  · rw [if_pos ha]
  · rw [if_neg ha, show tg 0 9 = 4 from rfl, r_rf_e e hk, r_sc_s, hp.1.2.1, if_pos hb]
theorem isVane_c1 (hW : WFG G) (h : RepC σ G) {v : Nat} (hv : v < d_v (GD G)) : fX11_isVane 0 (nI v) σ = some (1, σ) := by
  obtain ⟨p, -, e, hk, hp⟩ := h.pl
  have hb := hW.d.1
  unfold fX11_isVane
  rw [if_neg (nI_neg0 (by omega)), show tg 0 9 = 4 from rfl, r_rf_e e hk, r_sc_s, hp.1.2.1, if_neg (by rw [nI_len (by omega) (by omega)]; omega)]
theorem isVane_r0 (hW : WFG G) (h : RepR σ G) {a : Int32} (ha : a < 0 ∨ (¬ a < 0 ∧ nI (d_v (GD G)) ≤ a)) : fX12_isVane 31 a σ = some (0, σ) := by
  have hp := h.pl.1.2.1
  unfold fX12_isVane
  rcases ha with ha | ⟨ha, hb⟩
  · rw [if_pos ha]
  · rw [if_neg ha, show (1 : Int32) = nI 1 from rfl, g_ar_n (by decide) (by decide), show m_ar σ 31 0 1 = nI (d_v (GD G)) from hp, if_pos hb]
theorem isVane_r1 (hW : WFG G) (h : RepR σ G) {v : Nat} (hv : v < d_v (GD G)) : fX12_isVane 31 (nI v) σ = some (1, σ) := by
  have hp := h.pl.1.2.1
  have hb := hW.d.1
  unfold fX12_isVane
  rw [if_neg (nI_neg0 (by omega)), show g_ar σ 31 0 2950 (1 : Int32) = g_ar σ 31 0 2950 (nI 1) from rfl, g_ar_n (by decide) (by decide), show m_ar σ 31 0 1 = nI (d_v (GD G)) from hp, if_neg (by rw [nI_len (by omega) (by omega)]; omega)]

theorem isShaft_c0 (hW : WFG G) (h : RepC σ G) {a : Int32} (ha : a < 0 ∨ (¬ a < 0 ∧ nI (d_s (GD G)) ≤ a)) : fX11_isShaft 0 a σ = some (0, σ) := by
  obtain ⟨p, -, e, hk, hp⟩ := h.pl
  unfold fX11_isShaft
  rcases ha with ha | ⟨ha, hb⟩
  · rw [if_pos ha]
  · rw [if_neg ha, show tg 0 9 = 4 from rfl, r_rf_e e hk, r_sc_s, hp.1.2.2, if_pos hb]
theorem isShaft_c1 (hW : WFG G) (h : RepC σ G) {v : Nat} (hv : v < d_s (GD G)) : fX11_isShaft 0 (nI v) σ = some (1, σ) := by
  obtain ⟨p, -, e, hk, hp⟩ := h.pl
  have hb := hW.d.1
  unfold fX11_isShaft
  rw [if_neg (nI_neg0 (by omega)), show tg 0 9 = 4 from rfl, r_rf_e e hk, r_sc_s, hp.1.2.2, if_neg (by rw [nI_len (by omega) (by omega)]; omega)]
theorem isShaft_r0 (hW : WFG G) (h : RepR σ G) {a : Int32} (ha : a < 0 ∨ (¬ a < 0 ∧ nI (d_s (GD G)) ≤ a)) : fX12_isShaft 31 a σ = some (0, σ) := by
  have hp := h.pl.1.2.2
  unfold fX12_isShaft
  rcases ha with ha | ⟨ha, hb⟩
  · rw [if_pos ha]
  · rw [if_neg ha, show (2 : Int32) = nI 2 from rfl, g_ar_n (by decide) (by decide), show m_ar σ 31 0 2 = nI (d_s (GD G)) from hp, if_pos hb]
theorem isShaft_r1 (hW : WFG G) (h : RepR σ G) {v : Nat} (hv : v < d_s (GD G)) : fX12_isShaft 31 (nI v) σ = some (1, σ) := by
  have hp := h.pl.1.2.2
  have hb := hW.d.1
  unfold fX12_isShaft
  rw [if_neg (nI_neg0 (by omega)), show g_ar σ 31 0 2950 (2 : Int32) = g_ar σ 31 0 2950 (nI 2) from rfl, g_ar_n (by decide) (by decide), show m_ar σ 31 0 2 = nI (d_s (GD G)) from hp, if_neg (by rw [nI_len (by omega) (by omega)]; omega)]

end O
