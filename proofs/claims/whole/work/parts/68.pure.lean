/-! PURE 9: trays -/
abbrev TY : Type := Nat → Option (Nat × Nat × (Nat → Int64))
section O
variable {σ τ : Mm} {G : GS}
def suY (t : Int32 × Int64 × Int64) (y : TY) (G : GS) : GS := (t, g_f G, y, G.2.2.2)
theorem RepC.uY (t : Int32 × Int64 × Int64) (y : TY) (hm : g_m G ≤ 3) (h : CU [0, 15, 16, 17, 18] σ τ) (z : Z0 σ τ) (z0 : m_sc τ 0 0 = t.1 ∧ m_lg τ 0 1 = t.2.1 ∧ m_lg τ 0 2 = t.2.2) (hy : ∀ t, t < 4 → TrC τ t (y t)) (q : RepC σ G) : RepC τ (suY t y G) := by
  obtain ⟨⟨-, -, -, a4, a5⟩, q2, q3, ⟨p, g, ⟨w1, w2, w3, w4, w5⟩, t1, t2, t3⟩, q5, q6, q7⟩ := q
  have hp : BU p σ τ := by rcases w3 with ⟨rfl, -⟩ | ⟨rfl, -⟩ <;> exact h _ (by decide) (by decide)
  have hg : BU g σ τ := by rcases w4 with ⟨rfl, -⟩ | ⟨rfl, -⟩ <;> exact h _ (by decide) (by decide)
  have h4 := h 4 (by decide) (by decide)
  have hh : ∀ q, q < 31 → 18 < q → BU q σ τ := fun q h1 h2 => h q h1 (by simp; omega)
  refine ⟨⟨z0.1, z0.2.1, z0.2.2, z.1.trans a4, z.2.1.trans a5⟩, hy, ?_, ⟨p, g, ⟨?_, ?_, ?_, ?_, fun i hi => ?_⟩, t1.bu hp, t2.bu (h 6 (by decide) (by decide)), t3.bu hg⟩, ⟨?_, fun i hi => ?_⟩, q6.bu (h 13 (by decide) (by decide)), ?_⟩
  · have h0 := h 1 (by decide) (by decide)
    rw [h0.1, h0.2.2.1]; exact q3
  · rw [h4.2.2.2.2]; exact w1
  · rw [h4.2.2.2.2]; exact w2
  · rw [z.2.2.2.1]; exact w3
  · rw [z.2.2.2.2]; exact w4
  · have h9 := hh (19 + i) (by omega) (by omega)
    rw [h9.2.2.2.2, h9.2.2.2.2]; exact w5 i hi
  · rw [z.2.2.1]; exact q5.1
  · have hi3 : i < 3 := by have : i < g_m G := hi; omega
    obtain ⟨a, b, c⟩ := q5.2 i hi
    exact ⟨a.bu (hh _ (by omega) (by omega)), b.bu (hh _ (by omega) (by omega)), c.bu (hh _ (by omega) (by omega))⟩
  · rw [(h 13 (by decide) (by decide)).2.2.1]; exact q7
theorem RepR.uY (t : Int32 × Int64 × Int64) (y : TY) (hs : ∀ k, k = 10 ∨ k = 16 ∨ k = 17 ∨ k = 42 ∨ k = 44 → m_sc τ 31 k = m_sc σ 31 k) (ha : ∀ j, j = 0 ∨ j = 5 ∨ j = 14 ∨ j = 15 ∨ j = 16 → m_ar τ 31 j = m_ar σ 31 j) (hl : m_la τ 31 1 = m_la σ 31 1) (z0 : m_sc τ 31 2 = t.1 ∧ m_lg τ 31 3 = t.2.1 ∧ m_lg τ 31 4 = t.2.2) (hy : ∀ t, t < 4 → TrR τ t (y t)) (q : RepR σ G) : RepR τ (suY t y G) := by
  obtain ⟨⟨-, -, -, a4, a5⟩, q2, q3, q4, q5, q6, q7⟩ := q
  refine ⟨⟨z0.1, z0.2.1, z0.2.2, (hs _ (by decide)).trans a4, (hs _ (by decide)).trans a5⟩, hy, ?_, ?_, ⟨(hs _ (by decide)).trans q5.1, ?_⟩, ?_, ?_⟩
  · rw [hs _ (by decide), ha _ (by decide)]; exact q3
  · rw [ha _ (by decide), hl]; exact q4
  · rw [ha _ (by decide), hl]; exact q5.2
  · show RnR τ (g_r G)
    cases hr : g_r G with
    | none => rw [hr] at q6; exact (hs 42 (by decide)).trans q6
    | some r => rw [hr] at q6; exact ⟨(hs 42 (by decide)).trans q6.1, fun k hk => by rw [ha _ (by decide)]; exact q6.2.1 k hk, fun k hk => by rw [ha _ (by decide)]; exact q6.2.2 k hk⟩
  · rw [ha _ (by decide)]; exact q7
def yUp (y : TY) (t : Nat) (q : Nat × Nat × (Nat → Int64)) : TY := fun i => if i = t then some q else y i
theorem WFG.uY (t : Int32 × Int64 × Int64) {k : Nat} {q : Nat × Nat × (Nat → Int64)} (hW : WFG G) (h1 : q.1 ≤ 3) (h2 : q.2.1 ≤ 60) : WFG (suY t (yUp (g_y G) k q) G) := by
  refine ⟨fun i hi q' e => ?_, hW.2⟩
  by_cases c : i = k
  · have : some q = some q' := by rw [← e]; show _ = yUp (g_y G) k q i; unfold yUp; rw [if_pos c]
    cases this; exact ⟨h1, h2⟩
  · exact hW.1 i hi q' (by rw [← e]; show _ = yUp (g_y G) k q i; unfold yUp; rw [if_neg c])
theorem isTray_c0 {a : Int32} (ha : a < 0 ∨ (¬ a < 0 ∧ nI 4 ≤ a)) (σ : Mm) : fX11_isTray 0 a σ = some (0, σ) := by
  unfold fX11_isTray
  rcases ha with ha | ha
  · rw [if_pos ha]
  · rw [if_neg ha.1, if_pos (show (4 : Int32) ≤ a from ha.2)]
theorem isTray_r0 {a : Int32} (ha : a < 0 ∨ (¬ a < 0 ∧ nI 4 ≤ a)) (σ : Mm) : fX12_isTray a σ = some (0, σ) := by
  unfold fX12_isTray
  rcases ha with ha | ha
  · rw [if_pos ha]
  · rw [if_neg ha.1, if_pos (show (4 : Int32) ≤ a from ha.2)]
theorem isTray_c1 {t : Nat} (ht : t < 4) (σ : Mm) : fX11_isTray 0 (nI t) σ = some (1, σ) := by
  unfold fX11_isTray
  rw [if_neg (nI_neg0 (by omega)), ln_4, if_neg (fun q => absurd ((nI_len (a := 4) (by decide) (by omega)).mp q) (by omega))]
theorem isTray_r1 {t : Nat} (ht : t < 4) (σ : Mm) : fX12_isTray (nI t) σ = some (1, σ) := by
  unfold fX12_isTray
  rw [if_neg (nI_neg0 (by omega)), ln_4, if_neg (fun q => absurd ((nI_len (a := 4) (by decide) (by omega)).mp q) (by omega))]
def spY (a b c : Int32) (G : GS) : Int32 × GS := match ix 4 a, ix 4 b, ix 61 c with
  | some t, some s, some m => (1, suY (0, g_t G, g_b G) (yUp (g_y G) t (s, m, fun _ => 0)) G)
  | _, _, _ => (0, stq 1 G)
/-- zeros are laid -/
theorem lay_l (o : Nat) (a1 a2 : Int32) : ∀ (n i : Nat) (σ : Mm), i ≤ 60 → 60 - i < n → (∀ k, k < i → m_la σ o 0 k = 0) → ∃ τ, fX8_lay_12 o a1 a2 n (nI i) σ = some τ ∧ (∀ k, k < 60 → m_la τ o 0 k = 0) ∧ (m_sc τ = m_sc σ) ∧ ∀ q, q ≠ o → BU q σ τ := by
  intro n
  induction n with
  | zero => intro i σ _ h; omega
  | succ n ih =>
    intro i σ hi hn h
    unfold fX8_lay_12
    by_cases c : 60 ≤ i
    · rw [if_pos (show (60 : Int32) ≤ nI i from (nI_len (a := 60) (by decide) (by omega)).mpr c)]
      exact ⟨σ, rfl, fun k hk => h k (by omega), rfl, fun _ _ => BU.rf⟩
    · rw [ln_60, if_neg (fun q => c ((nI_len (a := 60) (by decide) (by omega)).mp q)), s_la_n (by omega) (by decide), nI_s]
      obtain ⟨τ, e, h1, h2, h3⟩ := ih (i + 1) (w_la σ o 0 i 0) (by omega) (by omega) (fun k hk => by
        rw [m_la_la]
        by_cases q : k = i
        · simp [q]
        · rw [if_neg (fun z => q z.2.2)]; exact h k (by omega))
      exact ⟨τ, e, h1, h2, fun q hq => (BU.lf hq).tr (h3 q hq)⟩
theorem tray_c (a b c : Int32) (hW : WFG G) (h : RepC σ G) : OC (fX11_tray 0 a b c σ) (spY a b c G) := by
  unfold fX11_tray spY
  rcases ix_cases (n := 4) (by decide) a with ⟨ei, ha⟩ | ⟨t, ht, rfl, ei⟩ <;> rw [ei]
  · rw [isTray_c0 ha]
    exact OC.rfs hW h _
  · rw [isTray_c1 ht, c_I_s, if_neg (by decide)]
    rcases ix_cases (n := 4) (by decide) b with ⟨ej, hb⟩ | ⟨s, hs, rfl, ej⟩ <;> rw [ej]
    · refine OC.eq (h.st 1 hW) ?_
      rcases hb with hb | hb
      · rw [if_pos hb]; rfl
      · rw [if_neg hb.1]
        simp (disch := omega) only [ln_0, ln_1, ln_2, ln_3, ln_4, ln_5, ln_6, ln_7, ln_8, ln_9, ln_10, ln_11, ln_12, ln_13, ln_14, ln_15, ln_16, ln_17, ln_18, ln_19, ln_20, ln_21, ln_22, ln_23, ln_24, ln_25, ln_26, ln_27, ln_28, ln_29, ln_30, ln_31, ln_32, ln_48, ln_57, ln_59, ln_60, ln_61, ln_62, ln_70, ln_72, ln_73, ln_74, ln_88, ln_90, ln_92, ln_97, ln_99, ln_100, ln_119, ln_120, ln_122, ln_255, ln_300, ln_400, ln_490, ln_900, ln_1000, ln_1800, ln_1807, ln_1819, ln_1960, ln_2082, ln_2450, ln_2460, ln_2470, ln_2520, ln_2683, ln_2950, ln_9999, ln_11587, ln_12800, ln_65536, tg_0_4, tg_0_5, tg_0_6, tg_0_9, tg_0_14, tg_0_15, tg_0_16, tg_0_17, tg_4_1, tg_13_0, tg_19_1, tg_20_1, tg_21_1, c_I_s, c_L_s, c_V_s, r_sc_s, r_lg_s, p_sc_s, p_lg_s, p_rf_s, g_ar_n, g_la_n, s_ar_n, s_la_n, g_bl_n, nI_ad, nI_mul, nI_inj, nI_ltn, nI_len, nI_nem1, nI_ltm, ne_eq, not_true_eq_false, not_false_eq_true, ite_true, ite_false, Nat.not_lt_zero, Nat.zero_le, reduceIte, Nat.reduceEqDiff, Nat.reduceLT, Nat.reduceLeDiff, Nat.reduceAdd, Nat.reduceMul, reduceCtorEq, Nat.zero_ne_one, Nat.one_ne_zero, ix_gt (by decide) hb.2, rfs_c]
        try rfl
    · rw [if_neg (nI_neg0 (by omega)), if_neg (show ¬ (3 : Int32) < nI s from fun q => absurd ((nI_ltn (a := 3) (by decide) (by omega)).mp q) (by omega))]
      rcases ix_cases (n := 61) (by decide) c with ⟨ek, hc⟩ | ⟨m, hm, rfl, ek⟩ <;> rw [ek]
      · refine OC.eq (h.st 1 hW) ?_
        rcases hc with hc | hc
        · rw [if_pos hc]; rfl
        · rw [if_neg hc.1]
          simp (disch := omega) only [ln_0, ln_1, ln_2, ln_3, ln_4, ln_5, ln_6, ln_7, ln_8, ln_9, ln_10, ln_11, ln_12, ln_13, ln_14, ln_15, ln_16, ln_17, ln_18, ln_19, ln_20, ln_21, ln_22, ln_23, ln_24, ln_25, ln_26, ln_27, ln_28, ln_29, ln_30, ln_31, ln_32, ln_48, ln_57, ln_59, ln_60, ln_61, ln_62, ln_70, ln_72, ln_73, ln_74, ln_88, ln_90, ln_92, ln_97, ln_99, ln_100, ln_119, ln_120, ln_122, ln_255, ln_300, ln_400, ln_490, ln_900, ln_1000, ln_1800, ln_1807, ln_1819, ln_1960, ln_2082, ln_2450, ln_2460, ln_2470, ln_2520, ln_2683, ln_2950, ln_9999, ln_11587, ln_12800, ln_65536, tg_0_4, tg_0_5, tg_0_6, tg_0_9, tg_0_14, tg_0_15, tg_0_16, tg_0_17, tg_4_1, tg_13_0, tg_19_1, tg_20_1, tg_21_1, c_I_s, c_L_s, c_V_s, r_sc_s, r_lg_s, p_sc_s, p_lg_s, p_rf_s, g_ar_n, g_la_n, s_ar_n, s_la_n, g_bl_n, nI_ad, nI_mul, nI_inj, nI_ltn, nI_len, nI_nem1, nI_ltm, ne_eq, not_true_eq_false, not_false_eq_true, ite_true, ite_false, Nat.not_lt_zero, Nat.zero_le, reduceIte, Nat.reduceEqDiff, Nat.reduceLT, Nat.reduceLeDiff, Nat.reduceAdd, Nat.reduceMul, reduceCtorEq, Nat.zero_ne_one, Nat.one_ne_zero, ix_ge (by decide) hc.2, rfs_c]
          try rfl
      · rw [if_neg (nI_neg0 (by omega)), if_pos (show nI m ≤ 60 from (nI_len (b := 60) (by omega) (by omega)).mpr (by omega)), g_bl_n ht (by decide)]
        unfold fX8_lay
        rw [show ra 0 t = 15 + t from rfl, p_sc_s, p_sc_s]
        obtain ⟨τ, e, h1, h2, h3⟩ := lay_l (15 + t) (nI s) (nI m) FU 0 (w_sc (w_sc σ (15 + t) 0 (nI s)) (15 + t) 1 (nI m)) (by decide) (FU_gt (by decide)) (fun k hk => by omega)
        rw [show (0 : Int32) = nI 0 from rfl, e, c_V_s]
        have hB : ∀ q, q ≠ 15 + t → BU q σ τ := fun q hq => ((BU.sc hq).tr (BU.sc hq)).tr (h3 q hq)
        have h0 := hB 0 (by omega)
        refine ⟨_, rfl, RepC.uY (σ := σ) _ _ hW.2.2.2.1 (fun q _ hq => ?_) ⟨?_, ?_, ?_, ?_, ?_⟩ ⟨rfl, ?_, ?_⟩ (fun i hi => ?_) h⟩
        · simp at hq
          exact (hB q (by omega)).tr (BU.sc (by omega))
        · exact h0.1 7
        · exact h0.1 8
        · exact h0.1 13
        · exact h0.2.2.2.2 10
        · exact h0.2.2.2.2 11
        · exact (h0.2.1 1).trans h.1.2.1
        · exact (h0.2.1 2).trans h.1.2.2.1
        · unfold yUp
          by_cases q : i = t
          · subst q
            rw [if_pos rfl]
            refine ⟨?_, ?_, fun k hk => ?_⟩
            · rw [m_sc_sc, if_neg (by omega), h2, m_sc_sc, if_neg (by omega), m_sc_sc, if_pos ⟨rfl, rfl⟩]
            · rw [m_sc_sc, if_neg (by omega), h2, m_sc_sc, if_pos ⟨rfl, rfl⟩]
            · exact h1 k (Nat.lt_of_lt_of_le hk (by show m ≤ 60; omega))
          · rw [if_neg q]
            exact (h.2.1 i hi).bu ((hB (15 + i) (by omega)).tr (BU.sc (by omega)))
theorem trayR_l (t : Nat) (ht : t < 4) (a2 : Int32) (m : Nat) (hm : m ≤ 60) : ∀ (n i : Nat) (σ : Mm), i ≤ m → m - i < n → (∀ k, k < i → m_la σ 31 4 (60 * t + k) = 0) → ∃ τ, fX12_tray_49 31 (nI t) a2 (nI m) n (nI i) σ = some (1, w_sc τ 31 2 0) ∧ (∀ k, k < m → m_la τ 31 4 (60 * t + k) = 0) ∧ (m_sc τ = m_sc σ) ∧ m_lg τ = m_lg σ ∧ m_ar τ = m_ar σ ∧ m_la τ 31 1 = m_la σ 31 1 ∧ ∀ k, k < 60 * t ∨ 60 * t + 60 ≤ k → m_la τ 31 4 k = m_la σ 31 4 k := by
  intro n
  induction n with
  | zero => intro i σ _ h; omega
  | succ n ih =>
    intro i σ hi hn h
    unfold fX12_tray_49
    by_cases c : m ≤ i
    · rw [if_pos ((nI_len (by omega) (by omega)).mpr c)]
      exact ⟨σ, rfl, fun k hk => h k (by omega), rfl, rfl, rfl, rfl, fun _ _ => rfl⟩
    · rw [if_neg (fun q => c ((nI_len (by omega) (by omega)).mp q)), ln_60, nI_mul, nI_ad, s_la_n (by omega) (by decide), nI_s]
      obtain ⟨τ, e, h1, h2, h3, h4, h5, h6⟩ := ih (i + 1) (w_la σ 31 4 (60 * t + i) 0) (by omega) (by omega) (fun k hk => by
        rw [m_la_la]
        by_cases q : k = i
        · simp [q]
        · rw [if_neg (by omega)]; exact h k (by omega))
      refine ⟨τ, e, h1, h2, h3, h4, ?_, fun k hk => ?_⟩
      · rw [h5]; funext k; rw [m_la_la, if_neg (by omega)]
      · rw [h6 k hk, m_la_la, if_neg (by omega)]
theorem tray_r (a b c : Int32) (hW : WFG G) (h : RepR σ G) : OR (fX12_tray 31 a b c σ) (spY a b c G) := by
  unfold fX12_tray spY
  rcases ix_cases (n := 4) (by decide) a with ⟨ei, ha⟩ | ⟨t, ht, rfl, ei⟩ <;> rw [ei]
  · rw [isTray_r0 ha]
    exact OR.rfs (x := 1) hW h (by decide)
  · rw [isTray_r1 ht, c_I_s, if_neg (by decide)]
    rcases ix_cases (n := 4) (by decide) b with ⟨ej, hb⟩ | ⟨s, hs, rfl, ej⟩ <;> rw [ej]
    · refine OR.eq (h.st 1 hW) ?_
      rcases hb with hb | hb
      · rw [if_pos hb]; rfl
      · rw [if_neg hb.1]
        simp (disch := omega) only [ln_0, ln_1, ln_2, ln_3, ln_4, ln_5, ln_6, ln_7, ln_8, ln_9, ln_10, ln_11, ln_12, ln_13, ln_14, ln_15, ln_16, ln_17, ln_18, ln_19, ln_20, ln_21, ln_22, ln_23, ln_24, ln_25, ln_26, ln_27, ln_28, ln_29, ln_30, ln_31, ln_32, ln_48, ln_57, ln_59, ln_60, ln_61, ln_62, ln_70, ln_72, ln_73, ln_74, ln_88, ln_90, ln_92, ln_97, ln_99, ln_100, ln_119, ln_120, ln_122, ln_255, ln_300, ln_400, ln_490, ln_900, ln_1000, ln_1800, ln_1807, ln_1819, ln_1960, ln_2082, ln_2450, ln_2460, ln_2470, ln_2520, ln_2683, ln_2950, ln_9999, ln_11587, ln_12800, ln_65536, tg_0_4, tg_0_5, tg_0_6, tg_0_9, tg_0_14, tg_0_15, tg_0_16, tg_0_17, tg_4_1, tg_13_0, tg_19_1, tg_20_1, tg_21_1, c_I_s, c_L_s, c_V_s, r_sc_s, r_lg_s, p_sc_s, p_lg_s, p_rf_s, g_ar_n, g_la_n, s_ar_n, s_la_n, g_bl_n, nI_ad, nI_mul, nI_inj, nI_ltn, nI_len, nI_nem1, nI_ltm, ne_eq, not_true_eq_false, not_false_eq_true, ite_true, ite_false, Nat.not_lt_zero, Nat.zero_le, reduceIte, Nat.reduceEqDiff, Nat.reduceLT, Nat.reduceLeDiff, Nat.reduceAdd, Nat.reduceMul, reduceCtorEq, Nat.zero_ne_one, Nat.one_ne_zero, ix_gt (by decide) hb.2, is_r]
        try rfl
    · rw [if_neg (nI_neg0 (by omega)), if_neg (show ¬ (3 : Int32) < nI s from fun q => absurd ((nI_ltn (a := 3) (by decide) (by omega)).mp q) (by omega))]
      rcases ix_cases (n := 61) (by decide) c with ⟨ek, hc⟩ | ⟨m, hm, rfl, ek⟩ <;> rw [ek]
      · refine OR.eq (h.st 1 hW) ?_
        rcases hc with hc | hc
        · rw [if_pos hc]; rfl
        · rw [if_neg hc.1]
          simp (disch := omega) only [ln_0, ln_1, ln_2, ln_3, ln_4, ln_5, ln_6, ln_7, ln_8, ln_9, ln_10, ln_11, ln_12, ln_13, ln_14, ln_15, ln_16, ln_17, ln_18, ln_19, ln_20, ln_21, ln_22, ln_23, ln_24, ln_25, ln_26, ln_27, ln_28, ln_29, ln_30, ln_31, ln_32, ln_48, ln_57, ln_59, ln_60, ln_61, ln_62, ln_70, ln_72, ln_73, ln_74, ln_88, ln_90, ln_92, ln_97, ln_99, ln_100, ln_119, ln_120, ln_122, ln_255, ln_300, ln_400, ln_490, ln_900, ln_1000, ln_1800, ln_1807, ln_1819, ln_1960, ln_2082, ln_2450, ln_2460, ln_2470, ln_2520, ln_2683, ln_2950, ln_9999, ln_11587, ln_12800, ln_65536, tg_0_4, tg_0_5, tg_0_6, tg_0_9, tg_0_14, tg_0_15, tg_0_16, tg_0_17, tg_4_1, tg_13_0, tg_19_1, tg_20_1, tg_21_1, c_I_s, c_L_s, c_V_s, r_sc_s, r_lg_s, p_sc_s, p_lg_s, p_rf_s, g_ar_n, g_la_n, s_ar_n, s_la_n, g_bl_n, nI_ad, nI_mul, nI_inj, nI_ltn, nI_len, nI_nem1, nI_ltm, ne_eq, not_true_eq_false, not_false_eq_true, ite_true, ite_false, Nat.not_lt_zero, Nat.zero_le, reduceIte, Nat.reduceEqDiff, Nat.reduceLT, Nat.reduceLeDiff, Nat.reduceAdd, Nat.reduceMul, reduceCtorEq, Nat.zero_ne_one, Nat.one_ne_zero, ix_ge (by decide) hc.2, is_r]
          try rfl
      · rw [if_neg (nI_neg0 (by omega)), if_pos (show nI m ≤ 60 from (nI_len (b := 60) (by omega) (by omega)).mpr (by omega)), s_ar_n ht (by decide), s_ar_n ht (by decide)]
        obtain ⟨τ, e, h1, h2, h3, h4, h5, h6⟩ := trayR_l t ht (nI s) m (by omega) FU 0 (w_ar (w_ar σ 31 2 t (nI s)) 31 3 t (nI m)) (by omega) (FU_gt (by omega)) (fun k hk => by omega)
        have hA : ∀ j k, m_ar τ 31 j k = if j = 3 ∧ k = t then nI m else if j = 2 ∧ k = t then nI s else m_ar σ 31 j k := fun j k => by
          rw [h4, m_ar_ar, m_ar_ar]; simp
        refine ⟨_, e, RepR.uY (σ := σ) _ _ (fun k hk => ?_) (fun j hj => ?_) h5 ⟨rfl, ?_, ?_⟩ (fun i hi => ?_) h⟩
        · rw [m_sc_sc, if_neg (by omega), h2]; rfl
        · funext k; rw [m_ar_sc, hA, if_neg (by omega), if_neg (by omega)]
        · rw [m_lg_sc, h3]; exact h.1.2.1
        · rw [m_lg_sc, h3]; exact h.1.2.2.1
        · unfold yUp
          by_cases q : i = t
          · subst q
            rw [if_pos rfl]
            refine ⟨?_, ?_, fun k hk => ?_⟩
            · rw [m_ar_sc, hA]; simp
            · rw [m_ar_sc, hA]; simp
            · exact h1 k hk
          · rw [if_neg q]
            have := h.2.1 i hi
            cases hy : g_y G i with
            | none =>
              rw [hy] at this
              show m_ar τ 31 3 i = -1
              rw [hA, if_neg (by omega), if_neg (by omega)]; exact this
            | some y =>
              rw [hy] at this
              have hb := hW.1 i hi y hy
              refine ⟨?_, ?_, fun k hk => ?_⟩
              · rw [m_ar_sc, hA, if_neg (by omega), if_neg (by omega)]; exact this.1
              · rw [m_ar_sc, hA, if_neg (by omega), if_neg (by omega)]; exact this.2.1
              · rw [m_la_sc, h6 _ (by omega)]; exact this.2.2 k hk
theorem tray_w (a b c : Int32) (hW : WFG G) : WFG (spY a b c G).2 := by
  unfold spY
  rcases ix_cases (n := 4) (by decide) a with ⟨ei, ha⟩ | ⟨t, ht, rfl, ei⟩ <;> rw [ei]
  · exact hW
  · rcases ix_cases (n := 4) (by decide) b with ⟨ej, hb⟩ | ⟨s, hs, rfl, ej⟩ <;> rw [ej]
    · exact hW
    · rcases ix_cases (n := 61) (by decide) c with ⟨ek, hc⟩ | ⟨m, hm, rfl, ek⟩ <;> rw [ek]
      · exact hW
      · exact hW.uY _ (by show s ≤ 3; omega) (by show m ≤ 60; omega)
theorem tray_s (a : Int32) (b : Int32) (c : Int32) (σ : Mm) (h : Rel σ) : ok (fX11_tray 0 a b c σ) (fun q => ok (fX12_tray 31 a b c q.2) (fun q' => q'.1 = q.1 ∧ Rel q'.2)) :=
  simS (fc := fX11_tray 0 a b c) (fr := fX12_tray 31 a b c) (ks := [8, 11]) (by decide) (spY a b c) (fun σ G => tray_c a b c) (fun σ G => tray_r a b c) (fun G hW => tray_w a b c hW) (fun σ x τ ee => F_sub (frX11_tray 0 a b c (by decide) σ ee) (by decide)) (fun σ x τ ee => F_sub (frX12_tray 31 a b c (by decide) σ ee) (by decide)) σ h
end O
