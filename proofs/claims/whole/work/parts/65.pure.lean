/-! PURE 6: the getters themselves -/
section O
variable {σ : Mm} {G : GS}
theorem OC.eq {x : Option (Int32 × Mm)} {s : Int32 × GS} {τ : Mm} (h : RepC τ s.2) (e : x = some (s.1, τ)) : OC x s := ⟨τ, e, h⟩
theorem OR.eq {x : Option (Int32 × Mm)} {s : Int32 × GS} {τ : Mm} (h : RepR τ s.2) (e : x = some (s.1, τ)) : OR x s := ⟨τ, e, h⟩
theorem ans_c (x : Int32) (σ : Mm) : fX11_answer 0 x σ = some (x, w_sc σ 0 0 0) := rfl
theorem non_c (x : Int32) (σ : Mm) : fX11_none 0 x σ = some (-1, w_sc σ 0 0 x) := rfl
theorem agr_c (σ : Mm) : fX11_agree 0 σ = some (1, w_sc σ 0 0 0) := rfl
theorem rfs_c (x : Int32) (σ : Mm) : fX11_refuse 0 x σ = some (0, w_sc σ 0 0 x) := rfl
theorem ans_r (x : Int32) (σ : Mm) : fX12_gives 31 x σ = some (x, w_sc σ 31 2 0) := rfl
theorem non_r (x : Int32) (σ : Mm) : fX12_refuse 31 x σ = some (-1, w_sc σ 31 2 x) := rfl
theorem is_r (x : Int32) (σ : Mm) : fX12_is 31 x σ = some (if x = 0 then 1 else 0, w_sc σ 31 2 x) := by
  unfold fX12_is
  rw [p_sc_s]
  by_cases q : x = 0
  · rw [if_pos q, if_pos q]
  · rw [if_neg q, if_neg q]
theorem ix_no {n : Nat} {a : Int32} (hn : n < 2147483648) (ha : a < 0 ∨ (¬ a < 0 ∧ nI n ≤ a)) (i : Nat) (hi : i < n) : (a = nI i) = False := eq_false fun q => by
  subst q
  rcases ha with ha | ha
  · exact nI_neg0 (by omega) ha
  · exact absurd ((nI_len hn (by omega)).mp ha.2) (by omega)
/-- too large: no less than all below -/
theorem ix_ge {n : Nat} {a : Int32} (hn : n < 2147483648) (ha : nI n ≤ a) (i : Nat) (hi : i < n) : (a ≤ nI i) = False := eq_false fun q => by
  rw [Int32.le_iff_toInt_le, nI_iI, iI_t (by omega) (by omega)] at q ha
  omega
theorem ix_gt {n : Nat} {a : Int32} (hn : n < 2147483648) (ha : nI n ≤ a) (i : Nat) (hi : i < n) : (nI i < a) = True := eq_true (by
  rw [Int32.le_iff_toInt_le, nI_iI, iI_t (by omega) (by omega)] at ha
  rw [Int32.lt_iff_toInt_lt, nI_iI, iI_t (by omega) (by omega)]
  omega)
theorem ix_nl {n : Nat} {a : Int32} (ha : nI n ≤ a) : (a < nI n) = False := eq_false (i_le_lt ha)
def tvT (G : GS) (k : Nat) : Int32 := match k with
  | 0 => nI (d_p (GD G))
  | 1 => nI (d_v (GD G))
  | 2 => nI (d_s (GD G))
  | 3 => nI (v_qu (GV G))
  | 4 => nI (v_li (GV G))
  | 5 => nI (v_he (GV G))
  | _ => 0
def spT (a : Int32) (G : GS) : Int32 × GS := match ix 6 a with
  | none => (-1, stq 1 G)
  | some k => (tvT G k, stq 0 G)
theorem told_c (a : Int32) (hW : WFG G) (h : RepC σ G) : OC (fX11_told 0 a σ) (spT a G) := by
  obtain ⟨p, -, e, hk, hp⟩ := h.pl
  have hv := h.sv
  unfold fX11_told spT
  rcases ix_cases (n := 6) (by decide) a with ⟨ei, ha⟩ | ⟨k, hk6, rfl, ei⟩ <;> rw [ei]
  · have hn := ix_no (by decide) ha
    refine OC.eq (h.st 1 hW) ?_
    simp (disch := omega) only [ln_0, ln_1, ln_2, ln_3, ln_4, ln_5, ln_6, ln_7, ln_8, ln_9, ln_10, ln_11, ln_12, ln_13, ln_14, ln_15, ln_16, ln_17, ln_18, ln_19, ln_20, ln_21, ln_22, ln_23, ln_24, ln_25, ln_26, ln_27, ln_28, ln_29, ln_30, ln_31, ln_32, ln_48, ln_57, ln_59, ln_60, ln_61, ln_62, ln_70, ln_72, ln_73, ln_74, ln_88, ln_90, ln_92, ln_97, ln_99, ln_100, ln_119, ln_120, ln_122, ln_255, ln_300, ln_400, ln_490, ln_900, ln_1000, ln_1800, ln_1807, ln_1819, ln_1960, ln_2082, ln_2450, ln_2460, ln_2470, ln_2520, ln_2683, ln_2950, ln_9999, ln_11587, ln_12800, ln_65536, tg_0_4, tg_0_5, tg_0_6, tg_0_9, tg_0_14, tg_0_15, tg_0_16, tg_0_17, tg_4_1, tg_13_0, tg_19_1, tg_20_1, tg_21_1, c_I_s, c_L_s, c_V_s, r_sc_s, r_lg_s, p_sc_s, p_lg_s, p_rf_s, g_ar_n, g_la_n, s_ar_n, s_la_n, g_bl_n, nI_ad, nI_mul, nI_inj, nI_ltn, nI_len, nI_nem1, nI_ltm, ne_eq, not_true_eq_false, not_false_eq_true, ite_true, ite_false, Nat.not_lt_zero, Nat.zero_le, reduceIte, Nat.reduceEqDiff, Nat.reduceLT, Nat.reduceLeDiff, Nat.reduceAdd, Nat.reduceMul, reduceCtorEq, Nat.zero_ne_one, Nat.one_ne_zero, hn, non_c]
    try rfl
  · clear ei
    refine OC.eq (h.st 0 hW) ?_
    dsimp only
    have hk6 : k = 0 ∨ k = 1 ∨ k = 2 ∨ k = 3 ∨ k = 4 ∨ k = 5 := by omega
    rcases hk6 with rfl | rfl | rfl | rfl | rfl | rfl
    · simp (disch := omega) only [ln_0, ln_1, ln_2, ln_3, ln_4, ln_5, ln_6, ln_7, ln_8, ln_9, ln_10, ln_11, ln_12, ln_13, ln_14, ln_15, ln_16, ln_17, ln_18, ln_19, ln_20, ln_21, ln_22, ln_23, ln_24, ln_25, ln_26, ln_27, ln_28, ln_29, ln_30, ln_31, ln_32, ln_48, ln_57, ln_59, ln_60, ln_61, ln_62, ln_70, ln_72, ln_73, ln_74, ln_88, ln_90, ln_92, ln_97, ln_99, ln_100, ln_119, ln_120, ln_122, ln_255, ln_300, ln_400, ln_490, ln_900, ln_1000, ln_1800, ln_1807, ln_1819, ln_1960, ln_2082, ln_2450, ln_2460, ln_2470, ln_2520, ln_2683, ln_2950, ln_9999, ln_11587, ln_12800, ln_65536, tg_0_4, tg_0_5, tg_0_6, tg_0_9, tg_0_14, tg_0_15, tg_0_16, tg_0_17, tg_4_1, tg_13_0, tg_19_1, tg_20_1, tg_21_1, c_I_s, c_L_s, c_V_s, r_sc_s, r_lg_s, p_sc_s, p_lg_s, p_rf_s, g_ar_n, g_la_n, s_ar_n, s_la_n, g_bl_n, nI_ad, nI_mul, nI_inj, nI_ltn, nI_len, nI_nem1, nI_ltm, ne_eq, not_true_eq_false, not_false_eq_true, ite_true, ite_false, Nat.not_lt_zero, Nat.zero_le, reduceIte, Nat.reduceEqDiff, Nat.reduceLT, Nat.reduceLeDiff, Nat.reduceAdd, Nat.reduceMul, reduceCtorEq, Nat.zero_ne_one, Nat.one_ne_zero, ans_c, r_rf_e e hk, hp.1.1]; rfl
    · simp (disch := omega) only [ln_0, ln_1, ln_2, ln_3, ln_4, ln_5, ln_6, ln_7, ln_8, ln_9, ln_10, ln_11, ln_12, ln_13, ln_14, ln_15, ln_16, ln_17, ln_18, ln_19, ln_20, ln_21, ln_22, ln_23, ln_24, ln_25, ln_26, ln_27, ln_28, ln_29, ln_30, ln_31, ln_32, ln_48, ln_57, ln_59, ln_60, ln_61, ln_62, ln_70, ln_72, ln_73, ln_74, ln_88, ln_90, ln_92, ln_97, ln_99, ln_100, ln_119, ln_120, ln_122, ln_255, ln_300, ln_400, ln_490, ln_900, ln_1000, ln_1800, ln_1807, ln_1819, ln_1960, ln_2082, ln_2450, ln_2460, ln_2470, ln_2520, ln_2683, ln_2950, ln_9999, ln_11587, ln_12800, ln_65536, tg_0_4, tg_0_5, tg_0_6, tg_0_9, tg_0_14, tg_0_15, tg_0_16, tg_0_17, tg_4_1, tg_13_0, tg_19_1, tg_20_1, tg_21_1, c_I_s, c_L_s, c_V_s, r_sc_s, r_lg_s, p_sc_s, p_lg_s, p_rf_s, g_ar_n, g_la_n, s_ar_n, s_la_n, g_bl_n, nI_ad, nI_mul, nI_inj, nI_ltn, nI_len, nI_nem1, nI_ltm, ne_eq, not_true_eq_false, not_false_eq_true, ite_true, ite_false, Nat.not_lt_zero, Nat.zero_le, reduceIte, Nat.reduceEqDiff, Nat.reduceLT, Nat.reduceLeDiff, Nat.reduceAdd, Nat.reduceMul, reduceCtorEq, Nat.zero_ne_one, Nat.one_ne_zero, ans_c, r_rf_e e hk, hp.1.2.1]; rfl
    · simp (disch := omega) only [ln_0, ln_1, ln_2, ln_3, ln_4, ln_5, ln_6, ln_7, ln_8, ln_9, ln_10, ln_11, ln_12, ln_13, ln_14, ln_15, ln_16, ln_17, ln_18, ln_19, ln_20, ln_21, ln_22, ln_23, ln_24, ln_25, ln_26, ln_27, ln_28, ln_29, ln_30, ln_31, ln_32, ln_48, ln_57, ln_59, ln_60, ln_61, ln_62, ln_70, ln_72, ln_73, ln_74, ln_88, ln_90, ln_92, ln_97, ln_99, ln_100, ln_119, ln_120, ln_122, ln_255, ln_300, ln_400, ln_490, ln_900, ln_1000, ln_1800, ln_1807, ln_1819, ln_1960, ln_2082, ln_2450, ln_2460, ln_2470, ln_2520, ln_2683, ln_2950, ln_9999, ln_11587, ln_12800, ln_65536, tg_0_4, tg_0_5, tg_0_6, tg_0_9, tg_0_14, tg_0_15, tg_0_16, tg_0_17, tg_4_1, tg_13_0, tg_19_1, tg_20_1, tg_21_1, c_I_s, c_L_s, c_V_s, r_sc_s, r_lg_s, p_sc_s, p_lg_s, p_rf_s, g_ar_n, g_la_n, s_ar_n, s_la_n, g_bl_n, nI_ad, nI_mul, nI_inj, nI_ltn, nI_len, nI_nem1, nI_ltm, ne_eq, not_true_eq_false, not_false_eq_true, ite_true, ite_false, Nat.not_lt_zero, Nat.zero_le, reduceIte, Nat.reduceEqDiff, Nat.reduceLT, Nat.reduceLeDiff, Nat.reduceAdd, Nat.reduceMul, reduceCtorEq, Nat.zero_ne_one, Nat.one_ne_zero, ans_c, r_rf_e e hk, hp.1.2.2]; rfl
    · simp (disch := omega) only [ln_0, ln_1, ln_2, ln_3, ln_4, ln_5, ln_6, ln_7, ln_8, ln_9, ln_10, ln_11, ln_12, ln_13, ln_14, ln_15, ln_16, ln_17, ln_18, ln_19, ln_20, ln_21, ln_22, ln_23, ln_24, ln_25, ln_26, ln_27, ln_28, ln_29, ln_30, ln_31, ln_32, ln_48, ln_57, ln_59, ln_60, ln_61, ln_62, ln_70, ln_72, ln_73, ln_74, ln_88, ln_90, ln_92, ln_97, ln_99, ln_100, ln_119, ln_120, ln_122, ln_255, ln_300, ln_400, ln_490, ln_900, ln_1000, ln_1800, ln_1807, ln_1819, ln_1960, ln_2082, ln_2450, ln_2460, ln_2470, ln_2520, ln_2683, ln_2950, ln_9999, ln_11587, ln_12800, ln_65536, tg_0_4, tg_0_5, tg_0_6, tg_0_9, tg_0_14, tg_0_15, tg_0_16, tg_0_17, tg_4_1, tg_13_0, tg_19_1, tg_20_1, tg_21_1, c_I_s, c_L_s, c_V_s, r_sc_s, r_lg_s, p_sc_s, p_lg_s, p_rf_s, g_ar_n, g_la_n, s_ar_n, s_la_n, g_bl_n, nI_ad, nI_mul, nI_inj, nI_ltn, nI_len, nI_nem1, nI_ltm, ne_eq, not_true_eq_false, not_false_eq_true, ite_true, ite_false, Nat.not_lt_zero, Nat.zero_le, reduceIte, Nat.reduceEqDiff, Nat.reduceLT, Nat.reduceLeDiff, Nat.reduceAdd, Nat.reduceMul, reduceCtorEq, Nat.zero_ne_one, Nat.one_ne_zero, ans_c, r_rf_e e hk, hv.2.2.2.2.2]; rfl
    · simp (disch := omega) only [ln_0, ln_1, ln_2, ln_3, ln_4, ln_5, ln_6, ln_7, ln_8, ln_9, ln_10, ln_11, ln_12, ln_13, ln_14, ln_15, ln_16, ln_17, ln_18, ln_19, ln_20, ln_21, ln_22, ln_23, ln_24, ln_25, ln_26, ln_27, ln_28, ln_29, ln_30, ln_31, ln_32, ln_48, ln_57, ln_59, ln_60, ln_61, ln_62, ln_70, ln_72, ln_73, ln_74, ln_88, ln_90, ln_92, ln_97, ln_99, ln_100, ln_119, ln_120, ln_122, ln_255, ln_300, ln_400, ln_490, ln_900, ln_1000, ln_1800, ln_1807, ln_1819, ln_1960, ln_2082, ln_2450, ln_2460, ln_2470, ln_2520, ln_2683, ln_2950, ln_9999, ln_11587, ln_12800, ln_65536, tg_0_4, tg_0_5, tg_0_6, tg_0_9, tg_0_14, tg_0_15, tg_0_16, tg_0_17, tg_4_1, tg_13_0, tg_19_1, tg_20_1, tg_21_1, c_I_s, c_L_s, c_V_s, r_sc_s, r_lg_s, p_sc_s, p_lg_s, p_rf_s, g_ar_n, g_la_n, s_ar_n, s_la_n, g_bl_n, nI_ad, nI_mul, nI_inj, nI_ltn, nI_len, nI_nem1, nI_ltm, ne_eq, not_true_eq_false, not_false_eq_true, ite_true, ite_false, Nat.not_lt_zero, Nat.zero_le, reduceIte, Nat.reduceEqDiff, Nat.reduceLT, Nat.reduceLeDiff, Nat.reduceAdd, Nat.reduceMul, reduceCtorEq, Nat.zero_ne_one, Nat.one_ne_zero, ans_c, r_rf_e e hk, hv.2.2.2.1]; rfl
    · simp (disch := omega) only [ln_0, ln_1, ln_2, ln_3, ln_4, ln_5, ln_6, ln_7, ln_8, ln_9, ln_10, ln_11, ln_12, ln_13, ln_14, ln_15, ln_16, ln_17, ln_18, ln_19, ln_20, ln_21, ln_22, ln_23, ln_24, ln_25, ln_26, ln_27, ln_28, ln_29, ln_30, ln_31, ln_32, ln_48, ln_57, ln_59, ln_60, ln_61, ln_62, ln_70, ln_72, ln_73, ln_74, ln_88, ln_90, ln_92, ln_97, ln_99, ln_100, ln_119, ln_120, ln_122, ln_255, ln_300, ln_400, ln_490, ln_900, ln_1000, ln_1800, ln_1807, ln_1819, ln_1960, ln_2082, ln_2450, ln_2460, ln_2470, ln_2520, ln_2683, ln_2950, ln_9999, ln_11587, ln_12800, ln_65536, tg_0_4, tg_0_5, tg_0_6, tg_0_9, tg_0_14, tg_0_15, tg_0_16, tg_0_17, tg_4_1, tg_13_0, tg_19_1, tg_20_1, tg_21_1, c_I_s, c_L_s, c_V_s, r_sc_s, r_lg_s, p_sc_s, p_lg_s, p_rf_s, g_ar_n, g_la_n, s_ar_n, s_la_n, g_bl_n, nI_ad, nI_mul, nI_inj, nI_ltn, nI_len, nI_nem1, nI_ltm, ne_eq, not_true_eq_false, not_false_eq_true, ite_true, ite_false, Nat.not_lt_zero, Nat.zero_le, reduceIte, Nat.reduceEqDiff, Nat.reduceLT, Nat.reduceLeDiff, Nat.reduceAdd, Nat.reduceMul, reduceCtorEq, Nat.zero_ne_one, Nat.one_ne_zero, ans_c, r_rf_e e hk, hv.2.2.2.2.1]; rfl

theorem told_r (a : Int32) (hW : WFG G) (h : RepR σ G) : OR (fX12_told 31 a σ) (spT a G) := by
  have hp := h.pl
  have hv := h.sv
  unfold fX12_told spT
  rcases ix_cases (n := 6) (by decide) a with ⟨ei, ha⟩ | ⟨k, hk6, rfl, ei⟩ <;> rw [ei]
  · refine OR.eq (h.st 1 hW) ?_
    rcases ha with ha | ha
    · rw [if_pos ha]; rfl
    · rw [if_neg ha.1]
      simp (disch := omega) only [ln_0, ln_1, ln_2, ln_3, ln_4, ln_5, ln_6, ln_7, ln_8, ln_9, ln_10, ln_11, ln_12, ln_13, ln_14, ln_15, ln_16, ln_17, ln_18, ln_19, ln_20, ln_21, ln_22, ln_23, ln_24, ln_25, ln_26, ln_27, ln_28, ln_29, ln_30, ln_31, ln_32, ln_48, ln_57, ln_59, ln_60, ln_61, ln_62, ln_70, ln_72, ln_73, ln_74, ln_88, ln_90, ln_92, ln_97, ln_99, ln_100, ln_119, ln_120, ln_122, ln_255, ln_300, ln_400, ln_490, ln_900, ln_1000, ln_1800, ln_1807, ln_1819, ln_1960, ln_2082, ln_2450, ln_2460, ln_2470, ln_2520, ln_2683, ln_2950, ln_9999, ln_11587, ln_12800, ln_65536, tg_0_4, tg_0_5, tg_0_6, tg_0_9, tg_0_14, tg_0_15, tg_0_16, tg_0_17, tg_4_1, tg_13_0, tg_19_1, tg_20_1, tg_21_1, c_I_s, c_L_s, c_V_s, r_sc_s, r_lg_s, p_sc_s, p_lg_s, p_rf_s, g_ar_n, g_la_n, s_ar_n, s_la_n, g_bl_n, nI_ad, nI_mul, nI_inj, nI_ltn, nI_len, nI_nem1, nI_ltm, ne_eq, not_true_eq_false, not_false_eq_true, ite_true, ite_false, Nat.not_lt_zero, Nat.zero_le, reduceIte, Nat.reduceEqDiff, Nat.reduceLT, Nat.reduceLeDiff, Nat.reduceAdd, Nat.reduceMul, reduceCtorEq, Nat.zero_ne_one, Nat.one_ne_zero, ix_ge (by decide) ha.2, non_r]
      try rfl
  · clear ei
    refine OR.eq (h.st 0 hW) ?_
    dsimp only
    have hk6 : k = 0 ∨ k = 1 ∨ k = 2 ∨ k = 3 ∨ k = 4 ∨ k = 5 := by omega
    rcases hk6 with rfl | rfl | rfl | rfl | rfl | rfl
    · simp (disch := omega) only [ln_0, ln_1, ln_2, ln_3, ln_4, ln_5, ln_6, ln_7, ln_8, ln_9, ln_10, ln_11, ln_12, ln_13, ln_14, ln_15, ln_16, ln_17, ln_18, ln_19, ln_20, ln_21, ln_22, ln_23, ln_24, ln_25, ln_26, ln_27, ln_28, ln_29, ln_30, ln_31, ln_32, ln_48, ln_57, ln_59, ln_60, ln_61, ln_62, ln_70, ln_72, ln_73, ln_74, ln_88, ln_90, ln_92, ln_97, ln_99, ln_100, ln_119, ln_120, ln_122, ln_255, ln_300, ln_400, ln_490, ln_900, ln_1000, ln_1800, ln_1807, ln_1819, ln_1960, ln_2082, ln_2450, ln_2460, ln_2470, ln_2520, ln_2683, ln_2950, ln_9999, ln_11587, ln_12800, ln_65536, tg_0_4, tg_0_5, tg_0_6, tg_0_9, tg_0_14, tg_0_15, tg_0_16, tg_0_17, tg_4_1, tg_13_0, tg_19_1, tg_20_1, tg_21_1, c_I_s, c_L_s, c_V_s, r_sc_s, r_lg_s, p_sc_s, p_lg_s, p_rf_s, g_ar_n, g_la_n, s_ar_n, s_la_n, g_bl_n, nI_ad, nI_mul, nI_inj, nI_ltn, nI_len, nI_nem1, nI_ltm, ne_eq, not_true_eq_false, not_false_eq_true, ite_true, ite_false, Nat.not_lt_zero, Nat.zero_le, reduceIte, Nat.reduceEqDiff, Nat.reduceLT, Nat.reduceLeDiff, Nat.reduceAdd, Nat.reduceMul, reduceCtorEq, Nat.zero_ne_one, Nat.one_ne_zero, ans_r, hp.1.1]; rfl
    · simp (disch := omega) only [ln_0, ln_1, ln_2, ln_3, ln_4, ln_5, ln_6, ln_7, ln_8, ln_9, ln_10, ln_11, ln_12, ln_13, ln_14, ln_15, ln_16, ln_17, ln_18, ln_19, ln_20, ln_21, ln_22, ln_23, ln_24, ln_25, ln_26, ln_27, ln_28, ln_29, ln_30, ln_31, ln_32, ln_48, ln_57, ln_59, ln_60, ln_61, ln_62, ln_70, ln_72, ln_73, ln_74, ln_88, ln_90, ln_92, ln_97, ln_99, ln_100, ln_119, ln_120, ln_122, ln_255, ln_300, ln_400, ln_490, ln_900, ln_1000, ln_1800, ln_1807, ln_1819, ln_1960, ln_2082, ln_2450, ln_2460, ln_2470, ln_2520, ln_2683, ln_2950, ln_9999, ln_11587, ln_12800, ln_65536, tg_0_4, tg_0_5, tg_0_6, tg_0_9, tg_0_14, tg_0_15, tg_0_16, tg_0_17, tg_4_1, tg_13_0, tg_19_1, tg_20_1, tg_21_1, c_I_s, c_L_s, c_V_s, r_sc_s, r_lg_s, p_sc_s, p_lg_s, p_rf_s, g_ar_n, g_la_n, s_ar_n, s_la_n, g_bl_n, nI_ad, nI_mul, nI_inj, nI_ltn, nI_len, nI_nem1, nI_ltm, ne_eq, not_true_eq_false, not_false_eq_true, ite_true, ite_false, Nat.not_lt_zero, Nat.zero_le, reduceIte, Nat.reduceEqDiff, Nat.reduceLT, Nat.reduceLeDiff, Nat.reduceAdd, Nat.reduceMul, reduceCtorEq, Nat.zero_ne_one, Nat.one_ne_zero, ans_r, hp.1.2.1]; rfl
    · simp (disch := omega) only [ln_0, ln_1, ln_2, ln_3, ln_4, ln_5, ln_6, ln_7, ln_8, ln_9, ln_10, ln_11, ln_12, ln_13, ln_14, ln_15, ln_16, ln_17, ln_18, ln_19, ln_20, ln_21, ln_22, ln_23, ln_24, ln_25, ln_26, ln_27, ln_28, ln_29, ln_30, ln_31, ln_32, ln_48, ln_57, ln_59, ln_60, ln_61, ln_62, ln_70, ln_72, ln_73, ln_74, ln_88, ln_90, ln_92, ln_97, ln_99, ln_100, ln_119, ln_120, ln_122, ln_255, ln_300, ln_400, ln_490, ln_900, ln_1000, ln_1800, ln_1807, ln_1819, ln_1960, ln_2082, ln_2450, ln_2460, ln_2470, ln_2520, ln_2683, ln_2950, ln_9999, ln_11587, ln_12800, ln_65536, tg_0_4, tg_0_5, tg_0_6, tg_0_9, tg_0_14, tg_0_15, tg_0_16, tg_0_17, tg_4_1, tg_13_0, tg_19_1, tg_20_1, tg_21_1, c_I_s, c_L_s, c_V_s, r_sc_s, r_lg_s, p_sc_s, p_lg_s, p_rf_s, g_ar_n, g_la_n, s_ar_n, s_la_n, g_bl_n, nI_ad, nI_mul, nI_inj, nI_ltn, nI_len, nI_nem1, nI_ltm, ne_eq, not_true_eq_false, not_false_eq_true, ite_true, ite_false, Nat.not_lt_zero, Nat.zero_le, reduceIte, Nat.reduceEqDiff, Nat.reduceLT, Nat.reduceLeDiff, Nat.reduceAdd, Nat.reduceMul, reduceCtorEq, Nat.zero_ne_one, Nat.one_ne_zero, ans_r, hp.1.2.2]; rfl
    · simp (disch := omega) only [ln_0, ln_1, ln_2, ln_3, ln_4, ln_5, ln_6, ln_7, ln_8, ln_9, ln_10, ln_11, ln_12, ln_13, ln_14, ln_15, ln_16, ln_17, ln_18, ln_19, ln_20, ln_21, ln_22, ln_23, ln_24, ln_25, ln_26, ln_27, ln_28, ln_29, ln_30, ln_31, ln_32, ln_48, ln_57, ln_59, ln_60, ln_61, ln_62, ln_70, ln_72, ln_73, ln_74, ln_88, ln_90, ln_92, ln_97, ln_99, ln_100, ln_119, ln_120, ln_122, ln_255, ln_300, ln_400, ln_490, ln_900, ln_1000, ln_1800, ln_1807, ln_1819, ln_1960, ln_2082, ln_2450, ln_2460, ln_2470, ln_2520, ln_2683, ln_2950, ln_9999, ln_11587, ln_12800, ln_65536, tg_0_4, tg_0_5, tg_0_6, tg_0_9, tg_0_14, tg_0_15, tg_0_16, tg_0_17, tg_4_1, tg_13_0, tg_19_1, tg_20_1, tg_21_1, c_I_s, c_L_s, c_V_s, r_sc_s, r_lg_s, p_sc_s, p_lg_s, p_rf_s, g_ar_n, g_la_n, s_ar_n, s_la_n, g_bl_n, nI_ad, nI_mul, nI_inj, nI_ltn, nI_len, nI_nem1, nI_ltm, ne_eq, not_true_eq_false, not_false_eq_true, ite_true, ite_false, Nat.not_lt_zero, Nat.zero_le, reduceIte, Nat.reduceEqDiff, Nat.reduceLT, Nat.reduceLeDiff, Nat.reduceAdd, Nat.reduceMul, reduceCtorEq, Nat.zero_ne_one, Nat.one_ne_zero, ans_r, hv.2.2.2.2.2]; rfl
    · simp (disch := omega) only [ln_0, ln_1, ln_2, ln_3, ln_4, ln_5, ln_6, ln_7, ln_8, ln_9, ln_10, ln_11, ln_12, ln_13, ln_14, ln_15, ln_16, ln_17, ln_18, ln_19, ln_20, ln_21, ln_22, ln_23, ln_24, ln_25, ln_26, ln_27, ln_28, ln_29, ln_30, ln_31, ln_32, ln_48, ln_57, ln_59, ln_60, ln_61, ln_62, ln_70, ln_72, ln_73, ln_74, ln_88, ln_90, ln_92, ln_97, ln_99, ln_100, ln_119, ln_120, ln_122, ln_255, ln_300, ln_400, ln_490, ln_900, ln_1000, ln_1800, ln_1807, ln_1819, ln_1960, ln_2082, ln_2450, ln_2460, ln_2470, ln_2520, ln_2683, ln_2950, ln_9999, ln_11587, ln_12800, ln_65536, tg_0_4, tg_0_5, tg_0_6, tg_0_9, tg_0_14, tg_0_15, tg_0_16, tg_0_17, tg_4_1, tg_13_0, tg_19_1, tg_20_1, tg_21_1, c_I_s, c_L_s, c_V_s, r_sc_s, r_lg_s, p_sc_s, p_lg_s, p_rf_s, g_ar_n, g_la_n, s_ar_n, s_la_n, g_bl_n, nI_ad, nI_mul, nI_inj, nI_ltn, nI_len, nI_nem1, nI_ltm, ne_eq, not_true_eq_false, not_false_eq_true, ite_true, ite_false, Nat.not_lt_zero, Nat.zero_le, reduceIte, Nat.reduceEqDiff, Nat.reduceLT, Nat.reduceLeDiff, Nat.reduceAdd, Nat.reduceMul, reduceCtorEq, Nat.zero_ne_one, Nat.one_ne_zero, ans_r, hv.2.2.2.1]; rfl
    · simp (disch := omega) only [ln_0, ln_1, ln_2, ln_3, ln_4, ln_5, ln_6, ln_7, ln_8, ln_9, ln_10, ln_11, ln_12, ln_13, ln_14, ln_15, ln_16, ln_17, ln_18, ln_19, ln_20, ln_21, ln_22, ln_23, ln_24, ln_25, ln_26, ln_27, ln_28, ln_29, ln_30, ln_31, ln_32, ln_48, ln_57, ln_59, ln_60, ln_61, ln_62, ln_70, ln_72, ln_73, ln_74, ln_88, ln_90, ln_92, ln_97, ln_99, ln_100, ln_119, ln_120, ln_122, ln_255, ln_300, ln_400, ln_490, ln_900, ln_1000, ln_1800, ln_1807, ln_1819, ln_1960, ln_2082, ln_2450, ln_2460, ln_2470, ln_2520, ln_2683, ln_2950, ln_9999, ln_11587, ln_12800, ln_65536, tg_0_4, tg_0_5, tg_0_6, tg_0_9, tg_0_14, tg_0_15, tg_0_16, tg_0_17, tg_4_1, tg_13_0, tg_19_1, tg_20_1, tg_21_1, c_I_s, c_L_s, c_V_s, r_sc_s, r_lg_s, p_sc_s, p_lg_s, p_rf_s, g_ar_n, g_la_n, s_ar_n, s_la_n, g_bl_n, nI_ad, nI_mul, nI_inj, nI_ltn, nI_len, nI_nem1, nI_ltm, ne_eq, not_true_eq_false, not_false_eq_true, ite_true, ite_false, Nat.not_lt_zero, Nat.zero_le, reduceIte, Nat.reduceEqDiff, Nat.reduceLT, Nat.reduceLeDiff, Nat.reduceAdd, Nat.reduceMul, reduceCtorEq, Nat.zero_ne_one, Nat.one_ne_zero, ans_r, hv.2.2.2.2.1]; rfl

theorem told_s (a : Int32) (σ : Mm) (h : Rel σ) : ok (fX11_told 0 a σ) (fun q => ok (fX12_told 31 a q.2) (fun q' => q'.1 = q.1 ∧ Rel q'.2)) :=
  simS (fc := fX11_told 0 a) (fr := fX12_told 31 a) (ks := [11]) (by decide) (spT a) (fun σ G => told_c a) (fun σ G => told_r a) (fun G hW => by unfold spT; split <;> exact hW) (fun σ x τ e => frX11_told 0 a (by decide) σ e) (fun σ x τ e => frX12_told 31 a (by decide) σ e) σ h
def tvV (G : GS) (v : Nat) (k : Nat) : Int32 := match k with
  | 0 => nI (d_te (GD G) v)
  | 1 => nI (d_ho (GD G) v)
  | 2 => nI (d_st (GD G) v)
  | 3 => nI (v_pt (GV G) v)
  | 4 => v_tn (GV G) v
  | 5 => v_sk (GV G) v
  | _ => 0
def spV (a b : Int32) (G : GS) : Int32 × GS := match ix (d_v (GD G)) a with
  | none => (-1, stq 1 G)
  | some v => match ix 6 b with
    | none => (-1, stq 1 G)
    | some k => (tvV G v k, stq 0 G)
theorem vane_c (a b : Int32) (hW : WFG G) (h : RepC σ G) : OC (fX11_vane 0 a b σ) (spV a b G) := by
  obtain ⟨p, -, e, hk, hp⟩ := h.pl
  have hv := h.sv
  have hd := hW.d.1
  unfold fX11_vane spV
  rcases ix_cases (n := d_v (GD G)) (by omega) a with ⟨ei, ha⟩ | ⟨v, hv6, rfl, ei⟩ <;> rw [ei]
  · rw [isVane_c0 hW h ha]
    exact OC.non hW h _
  · rw [isVane_c1 hW h hv6, c_I_s, if_neg (by decide)]
    rcases ix_cases (n := 6) (by decide) b with ⟨ej, ha⟩ | ⟨k, hk6, rfl, ej⟩ <;> rw [ej]
    · have hn := ix_no (by decide) ha
      refine OC.eq (h.st 1 hW) ?_
      simp (disch := omega) only [ln_0, ln_1, ln_2, ln_3, ln_4, ln_5, ln_6, ln_7, ln_8, ln_9, ln_10, ln_11, ln_12, ln_13, ln_14, ln_15, ln_16, ln_17, ln_18, ln_19, ln_20, ln_21, ln_22, ln_23, ln_24, ln_25, ln_26, ln_27, ln_28, ln_29, ln_30, ln_31, ln_32, ln_48, ln_57, ln_59, ln_60, ln_61, ln_62, ln_70, ln_72, ln_73, ln_74, ln_88, ln_90, ln_92, ln_97, ln_99, ln_100, ln_119, ln_120, ln_122, ln_255, ln_300, ln_400, ln_490, ln_900, ln_1000, ln_1800, ln_1807, ln_1819, ln_1960, ln_2082, ln_2450, ln_2460, ln_2470, ln_2520, ln_2683, ln_2950, ln_9999, ln_11587, ln_12800, ln_65536, tg_0_4, tg_0_5, tg_0_6, tg_0_9, tg_0_14, tg_0_15, tg_0_16, tg_0_17, tg_4_1, tg_13_0, tg_19_1, tg_20_1, tg_21_1, c_I_s, c_L_s, c_V_s, r_sc_s, r_lg_s, p_sc_s, p_lg_s, p_rf_s, g_ar_n, g_la_n, s_ar_n, s_la_n, g_bl_n, nI_ad, nI_mul, nI_inj, nI_ltn, nI_len, nI_nem1, nI_ltm, ne_eq, not_true_eq_false, not_false_eq_true, ite_true, ite_false, Nat.not_lt_zero, Nat.zero_le, reduceIte, Nat.reduceEqDiff, Nat.reduceLT, Nat.reduceLeDiff, Nat.reduceAdd, Nat.reduceMul, reduceCtorEq, Nat.zero_ne_one, Nat.one_ne_zero, hn, non_c]
      try rfl
    · clear ej
      refine OC.eq (h.st 0 hW) ?_
      dsimp only
      have hk6 : k = 0 ∨ k = 1 ∨ k = 2 ∨ k = 3 ∨ k = 4 ∨ k = 5 := by omega
      rcases hk6 with rfl | rfl | rfl | rfl | rfl | rfl
      · simp (disch := omega) only [ln_0, ln_1, ln_2, ln_3, ln_4, ln_5, ln_6, ln_7, ln_8, ln_9, ln_10, ln_11, ln_12, ln_13, ln_14, ln_15, ln_16, ln_17, ln_18, ln_19, ln_20, ln_21, ln_22, ln_23, ln_24, ln_25, ln_26, ln_27, ln_28, ln_29, ln_30, ln_31, ln_32, ln_48, ln_57, ln_59, ln_60, ln_61, ln_62, ln_70, ln_72, ln_73, ln_74, ln_88, ln_90, ln_92, ln_97, ln_99, ln_100, ln_119, ln_120, ln_122, ln_255, ln_300, ln_400, ln_490, ln_900, ln_1000, ln_1800, ln_1807, ln_1819, ln_1960, ln_2082, ln_2450, ln_2460, ln_2470, ln_2520, ln_2683, ln_2950, ln_9999, ln_11587, ln_12800, ln_65536, tg_0_4, tg_0_5, tg_0_6, tg_0_9, tg_0_14, tg_0_15, tg_0_16, tg_0_17, tg_4_1, tg_13_0, tg_19_1, tg_20_1, tg_21_1, c_I_s, c_L_s, c_V_s, r_sc_s, r_lg_s, p_sc_s, p_lg_s, p_rf_s, g_ar_n, g_la_n, s_ar_n, s_la_n, g_bl_n, nI_ad, nI_mul, nI_inj, nI_ltn, nI_len, nI_nem1, nI_ltm, ne_eq, not_true_eq_false, not_false_eq_true, ite_true, ite_false, Nat.not_lt_zero, Nat.zero_le, reduceIte, Nat.reduceEqDiff, Nat.reduceLT, Nat.reduceLeDiff, Nat.reduceAdd, Nat.reduceMul, reduceCtorEq, Nat.zero_ne_one, Nat.one_ne_zero, ans_c, r_rf_e e hk, (hp.2.1 v hv6).1]; try rfl
      · simp (disch := omega) only [ln_0, ln_1, ln_2, ln_3, ln_4, ln_5, ln_6, ln_7, ln_8, ln_9, ln_10, ln_11, ln_12, ln_13, ln_14, ln_15, ln_16, ln_17, ln_18, ln_19, ln_20, ln_21, ln_22, ln_23, ln_24, ln_25, ln_26, ln_27, ln_28, ln_29, ln_30, ln_31, ln_32, ln_48, ln_57, ln_59, ln_60, ln_61, ln_62, ln_70, ln_72, ln_73, ln_74, ln_88, ln_90, ln_92, ln_97, ln_99, ln_100, ln_119, ln_120, ln_122, ln_255, ln_300, ln_400, ln_490, ln_900, ln_1000, ln_1800, ln_1807, ln_1819, ln_1960, ln_2082, ln_2450, ln_2460, ln_2470, ln_2520, ln_2683, ln_2950, ln_9999, ln_11587, ln_12800, ln_65536, tg_0_4, tg_0_5, tg_0_6, tg_0_9, tg_0_14, tg_0_15, tg_0_16, tg_0_17, tg_4_1, tg_13_0, tg_19_1, tg_20_1, tg_21_1, c_I_s, c_L_s, c_V_s, r_sc_s, r_lg_s, p_sc_s, p_lg_s, p_rf_s, g_ar_n, g_la_n, s_ar_n, s_la_n, g_bl_n, nI_ad, nI_mul, nI_inj, nI_ltn, nI_len, nI_nem1, nI_ltm, ne_eq, not_true_eq_false, not_false_eq_true, ite_true, ite_false, Nat.not_lt_zero, Nat.zero_le, reduceIte, Nat.reduceEqDiff, Nat.reduceLT, Nat.reduceLeDiff, Nat.reduceAdd, Nat.reduceMul, reduceCtorEq, Nat.zero_ne_one, Nat.one_ne_zero, ans_c, r_rf_e e hk, (hp.2.1 v hv6).2.1]; try rfl
      · simp (disch := omega) only [ln_0, ln_1, ln_2, ln_3, ln_4, ln_5, ln_6, ln_7, ln_8, ln_9, ln_10, ln_11, ln_12, ln_13, ln_14, ln_15, ln_16, ln_17, ln_18, ln_19, ln_20, ln_21, ln_22, ln_23, ln_24, ln_25, ln_26, ln_27, ln_28, ln_29, ln_30, ln_31, ln_32, ln_48, ln_57, ln_59, ln_60, ln_61, ln_62, ln_70, ln_72, ln_73, ln_74, ln_88, ln_90, ln_92, ln_97, ln_99, ln_100, ln_119, ln_120, ln_122, ln_255, ln_300, ln_400, ln_490, ln_900, ln_1000, ln_1800, ln_1807, ln_1819, ln_1960, ln_2082, ln_2450, ln_2460, ln_2470, ln_2520, ln_2683, ln_2950, ln_9999, ln_11587, ln_12800, ln_65536, tg_0_4, tg_0_5, tg_0_6, tg_0_9, tg_0_14, tg_0_15, tg_0_16, tg_0_17, tg_4_1, tg_13_0, tg_19_1, tg_20_1, tg_21_1, c_I_s, c_L_s, c_V_s, r_sc_s, r_lg_s, p_sc_s, p_lg_s, p_rf_s, g_ar_n, g_la_n, s_ar_n, s_la_n, g_bl_n, nI_ad, nI_mul, nI_inj, nI_ltn, nI_len, nI_nem1, nI_ltm, ne_eq, not_true_eq_false, not_false_eq_true, ite_true, ite_false, Nat.not_lt_zero, Nat.zero_le, reduceIte, Nat.reduceEqDiff, Nat.reduceLT, Nat.reduceLeDiff, Nat.reduceAdd, Nat.reduceMul, reduceCtorEq, Nat.zero_ne_one, Nat.one_ne_zero, ans_c, r_rf_e e hk, (hp.2.1 v hv6).2.2]; try rfl
      · simp (disch := omega) only [ln_0, ln_1, ln_2, ln_3, ln_4, ln_5, ln_6, ln_7, ln_8, ln_9, ln_10, ln_11, ln_12, ln_13, ln_14, ln_15, ln_16, ln_17, ln_18, ln_19, ln_20, ln_21, ln_22, ln_23, ln_24, ln_25, ln_26, ln_27, ln_28, ln_29, ln_30, ln_31, ln_32, ln_48, ln_57, ln_59, ln_60, ln_61, ln_62, ln_70, ln_72, ln_73, ln_74, ln_88, ln_90, ln_92, ln_97, ln_99, ln_100, ln_119, ln_120, ln_122, ln_255, ln_300, ln_400, ln_490, ln_900, ln_1000, ln_1800, ln_1807, ln_1819, ln_1960, ln_2082, ln_2450, ln_2460, ln_2470, ln_2520, ln_2683, ln_2950, ln_9999, ln_11587, ln_12800, ln_65536, tg_0_4, tg_0_5, tg_0_6, tg_0_9, tg_0_14, tg_0_15, tg_0_16, tg_0_17, tg_4_1, tg_13_0, tg_19_1, tg_20_1, tg_21_1, c_I_s, c_L_s, c_V_s, r_sc_s, r_lg_s, p_sc_s, p_lg_s, p_rf_s, g_ar_n, g_la_n, s_ar_n, s_la_n, g_bl_n, nI_ad, nI_mul, nI_inj, nI_ltn, nI_len, nI_nem1, nI_ltm, ne_eq, not_true_eq_false, not_false_eq_true, ite_true, ite_false, Nat.not_lt_zero, Nat.zero_le, reduceIte, Nat.reduceEqDiff, Nat.reduceLT, Nat.reduceLeDiff, Nat.reduceAdd, Nat.reduceMul, reduceCtorEq, Nat.zero_ne_one, Nat.one_ne_zero, ans_c, r_rf_e e hk, (hv.2.1 v hv6).1]; try rfl
      · simp (disch := omega) only [ln_0, ln_1, ln_2, ln_3, ln_4, ln_5, ln_6, ln_7, ln_8, ln_9, ln_10, ln_11, ln_12, ln_13, ln_14, ln_15, ln_16, ln_17, ln_18, ln_19, ln_20, ln_21, ln_22, ln_23, ln_24, ln_25, ln_26, ln_27, ln_28, ln_29, ln_30, ln_31, ln_32, ln_48, ln_57, ln_59, ln_60, ln_61, ln_62, ln_70, ln_72, ln_73, ln_74, ln_88, ln_90, ln_92, ln_97, ln_99, ln_100, ln_119, ln_120, ln_122, ln_255, ln_300, ln_400, ln_490, ln_900, ln_1000, ln_1800, ln_1807, ln_1819, ln_1960, ln_2082, ln_2450, ln_2460, ln_2470, ln_2520, ln_2683, ln_2950, ln_9999, ln_11587, ln_12800, ln_65536, tg_0_4, tg_0_5, tg_0_6, tg_0_9, tg_0_14, tg_0_15, tg_0_16, tg_0_17, tg_4_1, tg_13_0, tg_19_1, tg_20_1, tg_21_1, c_I_s, c_L_s, c_V_s, r_sc_s, r_lg_s, p_sc_s, p_lg_s, p_rf_s, g_ar_n, g_la_n, s_ar_n, s_la_n, g_bl_n, nI_ad, nI_mul, nI_inj, nI_ltn, nI_len, nI_nem1, nI_ltm, ne_eq, not_true_eq_false, not_false_eq_true, ite_true, ite_false, Nat.not_lt_zero, Nat.zero_le, reduceIte, Nat.reduceEqDiff, Nat.reduceLT, Nat.reduceLeDiff, Nat.reduceAdd, Nat.reduceMul, reduceCtorEq, Nat.zero_ne_one, Nat.one_ne_zero, ans_c, r_rf_e e hk, (hv.2.1 v hv6).2.1]; try rfl
      · simp (disch := omega) only [ln_0, ln_1, ln_2, ln_3, ln_4, ln_5, ln_6, ln_7, ln_8, ln_9, ln_10, ln_11, ln_12, ln_13, ln_14, ln_15, ln_16, ln_17, ln_18, ln_19, ln_20, ln_21, ln_22, ln_23, ln_24, ln_25, ln_26, ln_27, ln_28, ln_29, ln_30, ln_31, ln_32, ln_48, ln_57, ln_59, ln_60, ln_61, ln_62, ln_70, ln_72, ln_73, ln_74, ln_88, ln_90, ln_92, ln_97, ln_99, ln_100, ln_119, ln_120, ln_122, ln_255, ln_300, ln_400, ln_490, ln_900, ln_1000, ln_1800, ln_1807, ln_1819, ln_1960, ln_2082, ln_2450, ln_2460, ln_2470, ln_2520, ln_2683, ln_2950, ln_9999, ln_11587, ln_12800, ln_65536, tg_0_4, tg_0_5, tg_0_6, tg_0_9, tg_0_14, tg_0_15, tg_0_16, tg_0_17, tg_4_1, tg_13_0, tg_19_1, tg_20_1, tg_21_1, c_I_s, c_L_s, c_V_s, r_sc_s, r_lg_s, p_sc_s, p_lg_s, p_rf_s, g_ar_n, g_la_n, s_ar_n, s_la_n, g_bl_n, nI_ad, nI_mul, nI_inj, nI_ltn, nI_len, nI_nem1, nI_ltm, ne_eq, not_true_eq_false, not_false_eq_true, ite_true, ite_false, Nat.not_lt_zero, Nat.zero_le, reduceIte, Nat.reduceEqDiff, Nat.reduceLT, Nat.reduceLeDiff, Nat.reduceAdd, Nat.reduceMul, reduceCtorEq, Nat.zero_ne_one, Nat.one_ne_zero, ans_c, r_rf_e e hk, (hv.2.1 v hv6).2.2]; try rfl

theorem vane_r (a b : Int32) (hW : WFG G) (h : RepR σ G) : OR (fX12_vane 31 a b σ) (spV a b G) := by
  have hp := h.pl
  have hv := h.sv
  have hd := hW.d.1
  unfold fX12_vane spV
  rcases ix_cases (n := d_v (GD G)) (by omega) a with ⟨ei, ha⟩ | ⟨v, hv6, rfl, ei⟩ <;> rw [ei]
  · rw [isVane_r0 hW h ha]
    exact OR.non hW h _
  · rw [isVane_r1 hW h hv6, c_I_s, if_neg (by decide)]
    rcases ix_cases (n := 6) (by decide) b with ⟨ej, ha⟩ | ⟨k, hk6, rfl, ej⟩ <;> rw [ej]
    · refine OR.eq (h.st 1 hW) ?_
      rcases ha with ha | ha
      · rw [if_pos ha]; rfl
      · rw [if_neg ha.1]
        simp (disch := omega) only [ln_0, ln_1, ln_2, ln_3, ln_4, ln_5, ln_6, ln_7, ln_8, ln_9, ln_10, ln_11, ln_12, ln_13, ln_14, ln_15, ln_16, ln_17, ln_18, ln_19, ln_20, ln_21, ln_22, ln_23, ln_24, ln_25, ln_26, ln_27, ln_28, ln_29, ln_30, ln_31, ln_32, ln_48, ln_57, ln_59, ln_60, ln_61, ln_62, ln_70, ln_72, ln_73, ln_74, ln_88, ln_90, ln_92, ln_97, ln_99, ln_100, ln_119, ln_120, ln_122, ln_255, ln_300, ln_400, ln_490, ln_900, ln_1000, ln_1800, ln_1807, ln_1819, ln_1960, ln_2082, ln_2450, ln_2460, ln_2470, ln_2520, ln_2683, ln_2950, ln_9999, ln_11587, ln_12800, ln_65536, tg_0_4, tg_0_5, tg_0_6, tg_0_9, tg_0_14, tg_0_15, tg_0_16, tg_0_17, tg_4_1, tg_13_0, tg_19_1, tg_20_1, tg_21_1, c_I_s, c_L_s, c_V_s, r_sc_s, r_lg_s, p_sc_s, p_lg_s, p_rf_s, g_ar_n, g_la_n, s_ar_n, s_la_n, g_bl_n, nI_ad, nI_mul, nI_inj, nI_ltn, nI_len, nI_nem1, nI_ltm, ne_eq, not_true_eq_false, not_false_eq_true, ite_true, ite_false, Nat.not_lt_zero, Nat.zero_le, reduceIte, Nat.reduceEqDiff, Nat.reduceLT, Nat.reduceLeDiff, Nat.reduceAdd, Nat.reduceMul, reduceCtorEq, Nat.zero_ne_one, Nat.one_ne_zero, ix_gt (by decide) ha.2, ix_ge (by decide) ha.2, non_r]
        try rfl
    · clear ej
      refine OR.eq (h.st 0 hW) ?_
      dsimp only
      have hk6 : k = 0 ∨ k = 1 ∨ k = 2 ∨ k = 3 ∨ k = 4 ∨ k = 5 := by omega
      rcases hk6 with rfl | rfl | rfl | rfl | rfl | rfl
      · have e1 : m_ar σ 31 0 (20 + 6 * v + 0) = tvV G v 0 := by
          rw [show 20 + 6 * v + 0 = 0 + 20 + 6 * v by omega]; exact (hp.2.1 v hv6).1
        simp (disch := omega) only [ln_0, ln_1, ln_2, ln_3, ln_4, ln_5, ln_6, ln_7, ln_8, ln_9, ln_10, ln_11, ln_12, ln_13, ln_14, ln_15, ln_16, ln_17, ln_18, ln_19, ln_20, ln_21, ln_22, ln_23, ln_24, ln_25, ln_26, ln_27, ln_28, ln_29, ln_30, ln_31, ln_32, ln_48, ln_57, ln_59, ln_60, ln_61, ln_62, ln_70, ln_72, ln_73, ln_74, ln_88, ln_90, ln_92, ln_97, ln_99, ln_100, ln_119, ln_120, ln_122, ln_255, ln_300, ln_400, ln_490, ln_900, ln_1000, ln_1800, ln_1807, ln_1819, ln_1960, ln_2082, ln_2450, ln_2460, ln_2470, ln_2520, ln_2683, ln_2950, ln_9999, ln_11587, ln_12800, ln_65536, tg_0_4, tg_0_5, tg_0_6, tg_0_9, tg_0_14, tg_0_15, tg_0_16, tg_0_17, tg_4_1, tg_13_0, tg_19_1, tg_20_1, tg_21_1, c_I_s, c_L_s, c_V_s, r_sc_s, r_lg_s, p_sc_s, p_lg_s, p_rf_s, g_ar_n, g_la_n, s_ar_n, s_la_n, g_bl_n, nI_ad, nI_mul, nI_inj, nI_ltn, nI_len, nI_nem1, nI_ltm, ne_eq, not_true_eq_false, not_false_eq_true, ite_true, ite_false, Nat.not_lt_zero, Nat.zero_le, reduceIte, Nat.reduceEqDiff, Nat.reduceLT, Nat.reduceLeDiff, Nat.reduceAdd, Nat.reduceMul, reduceCtorEq, Nat.zero_ne_one, Nat.one_ne_zero, ans_r, e1]; try rfl
      · have e1 : m_ar σ 31 0 (20 + 6 * v + 1) = tvV G v 1 := by
          rw [show 20 + 6 * v + 1 = 0 + 21 + 6 * v by omega]; exact (hp.2.1 v hv6).2.1
        simp (disch := omega) only [ln_0, ln_1, ln_2, ln_3, ln_4, ln_5, ln_6, ln_7, ln_8, ln_9, ln_10, ln_11, ln_12, ln_13, ln_14, ln_15, ln_16, ln_17, ln_18, ln_19, ln_20, ln_21, ln_22, ln_23, ln_24, ln_25, ln_26, ln_27, ln_28, ln_29, ln_30, ln_31, ln_32, ln_48, ln_57, ln_59, ln_60, ln_61, ln_62, ln_70, ln_72, ln_73, ln_74, ln_88, ln_90, ln_92, ln_97, ln_99, ln_100, ln_119, ln_120, ln_122, ln_255, ln_300, ln_400, ln_490, ln_900, ln_1000, ln_1800, ln_1807, ln_1819, ln_1960, ln_2082, ln_2450, ln_2460, ln_2470, ln_2520, ln_2683, ln_2950, ln_9999, ln_11587, ln_12800, ln_65536, tg_0_4, tg_0_5, tg_0_6, tg_0_9, tg_0_14, tg_0_15, tg_0_16, tg_0_17, tg_4_1, tg_13_0, tg_19_1, tg_20_1, tg_21_1, c_I_s, c_L_s, c_V_s, r_sc_s, r_lg_s, p_sc_s, p_lg_s, p_rf_s, g_ar_n, g_la_n, s_ar_n, s_la_n, g_bl_n, nI_ad, nI_mul, nI_inj, nI_ltn, nI_len, nI_nem1, nI_ltm, ne_eq, not_true_eq_false, not_false_eq_true, ite_true, ite_false, Nat.not_lt_zero, Nat.zero_le, reduceIte, Nat.reduceEqDiff, Nat.reduceLT, Nat.reduceLeDiff, Nat.reduceAdd, Nat.reduceMul, reduceCtorEq, Nat.zero_ne_one, Nat.one_ne_zero, ans_r, e1]; try rfl
      · have e1 : m_ar σ 31 0 (20 + 6 * v + 2) = tvV G v 2 := by
          rw [show 20 + 6 * v + 2 = 0 + 22 + 6 * v by omega]; exact (hp.2.1 v hv6).2.2
        simp (disch := omega) only [ln_0, ln_1, ln_2, ln_3, ln_4, ln_5, ln_6, ln_7, ln_8, ln_9, ln_10, ln_11, ln_12, ln_13, ln_14, ln_15, ln_16, ln_17, ln_18, ln_19, ln_20, ln_21, ln_22, ln_23, ln_24, ln_25, ln_26, ln_27, ln_28, ln_29, ln_30, ln_31, ln_32, ln_48, ln_57, ln_59, ln_60, ln_61, ln_62, ln_70, ln_72, ln_73, ln_74, ln_88, ln_90, ln_92, ln_97, ln_99, ln_100, ln_119, ln_120, ln_122, ln_255, ln_300, ln_400, ln_490, ln_900, ln_1000, ln_1800, ln_1807, ln_1819, ln_1960, ln_2082, ln_2450, ln_2460, ln_2470, ln_2520, ln_2683, ln_2950, ln_9999, ln_11587, ln_12800, ln_65536, tg_0_4, tg_0_5, tg_0_6, tg_0_9, tg_0_14, tg_0_15, tg_0_16, tg_0_17, tg_4_1, tg_13_0, tg_19_1, tg_20_1, tg_21_1, c_I_s, c_L_s, c_V_s, r_sc_s, r_lg_s, p_sc_s, p_lg_s, p_rf_s, g_ar_n, g_la_n, s_ar_n, s_la_n, g_bl_n, nI_ad, nI_mul, nI_inj, nI_ltn, nI_len, nI_nem1, nI_ltm, ne_eq, not_true_eq_false, not_false_eq_true, ite_true, ite_false, Nat.not_lt_zero, Nat.zero_le, reduceIte, Nat.reduceEqDiff, Nat.reduceLT, Nat.reduceLeDiff, Nat.reduceAdd, Nat.reduceMul, reduceCtorEq, Nat.zero_ne_one, Nat.one_ne_zero, ans_r, e1]; try rfl
      · have e1 : m_ar σ 31 0 (20 + 6 * v + 3) = tvV G v 3 := by
          rw [show 20 + 6 * v + 3 = 0 + 23 + 6 * v by omega]; exact (hv.2.1 v hv6).1
        simp (disch := omega) only [ln_0, ln_1, ln_2, ln_3, ln_4, ln_5, ln_6, ln_7, ln_8, ln_9, ln_10, ln_11, ln_12, ln_13, ln_14, ln_15, ln_16, ln_17, ln_18, ln_19, ln_20, ln_21, ln_22, ln_23, ln_24, ln_25, ln_26, ln_27, ln_28, ln_29, ln_30, ln_31, ln_32, ln_48, ln_57, ln_59, ln_60, ln_61, ln_62, ln_70, ln_72, ln_73, ln_74, ln_88, ln_90, ln_92, ln_97, ln_99, ln_100, ln_119, ln_120, ln_122, ln_255, ln_300, ln_400, ln_490, ln_900, ln_1000, ln_1800, ln_1807, ln_1819, ln_1960, ln_2082, ln_2450, ln_2460, ln_2470, ln_2520, ln_2683, ln_2950, ln_9999, ln_11587, ln_12800, ln_65536, tg_0_4, tg_0_5, tg_0_6, tg_0_9, tg_0_14, tg_0_15, tg_0_16, tg_0_17, tg_4_1, tg_13_0, tg_19_1, tg_20_1, tg_21_1, c_I_s, c_L_s, c_V_s, r_sc_s, r_lg_s, p_sc_s, p_lg_s, p_rf_s, g_ar_n, g_la_n, s_ar_n, s_la_n, g_bl_n, nI_ad, nI_mul, nI_inj, nI_ltn, nI_len, nI_nem1, nI_ltm, ne_eq, not_true_eq_false, not_false_eq_true, ite_true, ite_false, Nat.not_lt_zero, Nat.zero_le, reduceIte, Nat.reduceEqDiff, Nat.reduceLT, Nat.reduceLeDiff, Nat.reduceAdd, Nat.reduceMul, reduceCtorEq, Nat.zero_ne_one, Nat.one_ne_zero, ans_r, e1]; try rfl
      · have e1 : m_ar σ 31 0 (20 + 6 * v + 4) = tvV G v 4 := by
          rw [show 20 + 6 * v + 4 = 0 + 24 + 6 * v by omega]; exact (hv.2.1 v hv6).2.1
        simp (disch := omega) only [ln_0, ln_1, ln_2, ln_3, ln_4, ln_5, ln_6, ln_7, ln_8, ln_9, ln_10, ln_11, ln_12, ln_13, ln_14, ln_15, ln_16, ln_17, ln_18, ln_19, ln_20, ln_21, ln_22, ln_23, ln_24, ln_25, ln_26, ln_27, ln_28, ln_29, ln_30, ln_31, ln_32, ln_48, ln_57, ln_59, ln_60, ln_61, ln_62, ln_70, ln_72, ln_73, ln_74, ln_88, ln_90, ln_92, ln_97, ln_99, ln_100, ln_119, ln_120, ln_122, ln_255, ln_300, ln_400, ln_490, ln_900, ln_1000, ln_1800, ln_1807, ln_1819, ln_1960, ln_2082, ln_2450, ln_2460, ln_2470, ln_2520, ln_2683, ln_2950, ln_9999, ln_11587, ln_12800, ln_65536, tg_0_4, tg_0_5, tg_0_6, tg_0_9, tg_0_14, tg_0_15, tg_0_16, tg_0_17, tg_4_1, tg_13_0, tg_19_1, tg_20_1, tg_21_1, c_I_s, c_L_s, c_V_s, r_sc_s, r_lg_s, p_sc_s, p_lg_s, p_rf_s, g_ar_n, g_la_n, s_ar_n, s_la_n, g_bl_n, nI_ad, nI_mul, nI_inj, nI_ltn, nI_len, nI_nem1, nI_ltm, ne_eq, not_true_eq_false, not_false_eq_true, ite_true, ite_false, Nat.not_lt_zero, Nat.zero_le, reduceIte, Nat.reduceEqDiff, Nat.reduceLT, Nat.reduceLeDiff, Nat.reduceAdd, Nat.reduceMul, reduceCtorEq, Nat.zero_ne_one, Nat.one_ne_zero, ans_r, e1]; try rfl
      · have e1 : m_ar σ 31 0 (20 + 6 * v + 5) = tvV G v 5 := by
          rw [show 20 + 6 * v + 5 = 0 + 25 + 6 * v by omega]; exact (hv.2.1 v hv6).2.2
        simp (disch := omega) only [ln_0, ln_1, ln_2, ln_3, ln_4, ln_5, ln_6, ln_7, ln_8, ln_9, ln_10, ln_11, ln_12, ln_13, ln_14, ln_15, ln_16, ln_17, ln_18, ln_19, ln_20, ln_21, ln_22, ln_23, ln_24, ln_25, ln_26, ln_27, ln_28, ln_29, ln_30, ln_31, ln_32, ln_48, ln_57, ln_59, ln_60, ln_61, ln_62, ln_70, ln_72, ln_73, ln_74, ln_88, ln_90, ln_92, ln_97, ln_99, ln_100, ln_119, ln_120, ln_122, ln_255, ln_300, ln_400, ln_490, ln_900, ln_1000, ln_1800, ln_1807, ln_1819, ln_1960, ln_2082, ln_2450, ln_2460, ln_2470, ln_2520, ln_2683, ln_2950, ln_9999, ln_11587, ln_12800, ln_65536, tg_0_4, tg_0_5, tg_0_6, tg_0_9, tg_0_14, tg_0_15, tg_0_16, tg_0_17, tg_4_1, tg_13_0, tg_19_1, tg_20_1, tg_21_1, c_I_s, c_L_s, c_V_s, r_sc_s, r_lg_s, p_sc_s, p_lg_s, p_rf_s, g_ar_n, g_la_n, s_ar_n, s_la_n, g_bl_n, nI_ad, nI_mul, nI_inj, nI_ltn, nI_len, nI_nem1, nI_ltm, ne_eq, not_true_eq_false, not_false_eq_true, ite_true, ite_false, Nat.not_lt_zero, Nat.zero_le, reduceIte, Nat.reduceEqDiff, Nat.reduceLT, Nat.reduceLeDiff, Nat.reduceAdd, Nat.reduceMul, reduceCtorEq, Nat.zero_ne_one, Nat.one_ne_zero, ans_r, e1]; try rfl

theorem vane_s (a : Int32) (b : Int32) (σ : Mm) (h : Rel σ) : ok (fX11_vane 0 a b σ) (fun q => ok (fX12_vane 31 a b q.2) (fun q' => q'.1 = q.1 ∧ Rel q'.2)) :=
  simS (fc := fX11_vane 0 a b) (fr := fX12_vane 31 a b) (ks := [11]) (by decide) (spV a b) (fun σ G => vane_c a b) (fun σ G => vane_r a b) (fun G hW => by unfold spV; repeat (first | exact hW | split)) (fun σ x τ e => F_sub (frX11_vane 0 a b (by decide) σ e) (by decide)) (fun σ x τ e => F_sub (frX12_vane 31 a b (by decide) σ e) (by decide)) σ h
def tvH (G : GS) (v : Nat) (k : Nat) : Int32 := match k with
  | 0 => nI (d_fs (GD G) v)
  | 1 => nI (d_sn (GD G) v)
  | 2 => if d_be (GD G) v then 1 else 0
  | 3 => nI (d_sl (GD G) v)
  | 4 => nI (v_py (GV G) v)
  | _ => 0
def spH (a b : Int32) (G : GS) : Int32 × GS := match ix (d_s (GD G)) a with
  | none => (-1, stq 1 G)
  | some v => match ix 5 b with
    | none => (-1, stq 1 G)
    | some k => (tvH G v k, stq 0 G)
theorem shaft_c (a b : Int32) (hW : WFG G) (h : RepC σ G) : OC (fX11_shaft 0 a b σ) (spH a b G) := by
  obtain ⟨p, -, e, hk, hp⟩ := h.pl
  have hv := h.sv
  have hd := hW.d.1
  unfold fX11_shaft spH
  rcases ix_cases (n := d_s (GD G)) (by omega) a with ⟨ei, ha⟩ | ⟨v, hv6, rfl, ei⟩ <;> rw [ei]
  · rw [isShaft_c0 hW h ha]
    exact OC.non hW h _
  · rw [isShaft_c1 hW h hv6, c_I_s, if_neg (by decide)]
    rcases ix_cases (n := 5) (by decide) b with ⟨ej, ha⟩ | ⟨k, hk6, rfl, ej⟩ <;> rw [ej]
    · have hn := ix_no (by decide) ha
      refine OC.eq (h.st 1 hW) ?_
      simp (disch := omega) only [ln_0, ln_1, ln_2, ln_3, ln_4, ln_5, ln_6, ln_7, ln_8, ln_9, ln_10, ln_11, ln_12, ln_13, ln_14, ln_15, ln_16, ln_17, ln_18, ln_19, ln_20, ln_21, ln_22, ln_23, ln_24, ln_25, ln_26, ln_27, ln_28, ln_29, ln_30, ln_31, ln_32, ln_48, ln_57, ln_59, ln_60, ln_61, ln_62, ln_70, ln_72, ln_73, ln_74, ln_88, ln_90, ln_92, ln_97, ln_99, ln_100, ln_119, ln_120, ln_122, ln_255, ln_300, ln_400, ln_490, ln_900, ln_1000, ln_1800, ln_1807, ln_1819, ln_1960, ln_2082, ln_2450, ln_2460, ln_2470, ln_2520, ln_2683, ln_2950, ln_9999, ln_11587, ln_12800, ln_65536, tg_0_4, tg_0_5, tg_0_6, tg_0_9, tg_0_14, tg_0_15, tg_0_16, tg_0_17, tg_4_1, tg_13_0, tg_19_1, tg_20_1, tg_21_1, c_I_s, c_L_s, c_V_s, r_sc_s, r_lg_s, p_sc_s, p_lg_s, p_rf_s, g_ar_n, g_la_n, s_ar_n, s_la_n, g_bl_n, nI_ad, nI_mul, nI_inj, nI_ltn, nI_len, nI_nem1, nI_ltm, ne_eq, not_true_eq_false, not_false_eq_true, ite_true, ite_false, Nat.not_lt_zero, Nat.zero_le, reduceIte, Nat.reduceEqDiff, Nat.reduceLT, Nat.reduceLeDiff, Nat.reduceAdd, Nat.reduceMul, reduceCtorEq, Nat.zero_ne_one, Nat.one_ne_zero, hn, non_c]
      try rfl
    · clear ej
      refine OC.eq (h.st 0 hW) ?_
      dsimp only
      have hk6 : k = 0 ∨ k = 1 ∨ k = 2 ∨ k = 3 ∨ k = 4 := by omega
      rcases hk6 with rfl | rfl | rfl | rfl | rfl
      · simp (disch := omega) only [ln_0, ln_1, ln_2, ln_3, ln_4, ln_5, ln_6, ln_7, ln_8, ln_9, ln_10, ln_11, ln_12, ln_13, ln_14, ln_15, ln_16, ln_17, ln_18, ln_19, ln_20, ln_21, ln_22, ln_23, ln_24, ln_25, ln_26, ln_27, ln_28, ln_29, ln_30, ln_31, ln_32, ln_48, ln_57, ln_59, ln_60, ln_61, ln_62, ln_70, ln_72, ln_73, ln_74, ln_88, ln_90, ln_92, ln_97, ln_99, ln_100, ln_119, ln_120, ln_122, ln_255, ln_300, ln_400, ln_490, ln_900, ln_1000, ln_1800, ln_1807, ln_1819, ln_1960, ln_2082, ln_2450, ln_2460, ln_2470, ln_2520, ln_2683, ln_2950, ln_9999, ln_11587, ln_12800, ln_65536, tg_0_4, tg_0_5, tg_0_6, tg_0_9, tg_0_14, tg_0_15, tg_0_16, tg_0_17, tg_4_1, tg_13_0, tg_19_1, tg_20_1, tg_21_1, c_I_s, c_L_s, c_V_s, r_sc_s, r_lg_s, p_sc_s, p_lg_s, p_rf_s, g_ar_n, g_la_n, s_ar_n, s_la_n, g_bl_n, nI_ad, nI_mul, nI_inj, nI_ltn, nI_len, nI_nem1, nI_ltm, ne_eq, not_true_eq_false, not_false_eq_true, ite_true, ite_false, Nat.not_lt_zero, Nat.zero_le, reduceIte, Nat.reduceEqDiff, Nat.reduceLT, Nat.reduceLeDiff, Nat.reduceAdd, Nat.reduceMul, reduceCtorEq, Nat.zero_ne_one, Nat.one_ne_zero, ans_c, r_rf_e e hk, (hp.2.2.1 v hv6).1]; try rfl
      · simp (disch := omega) only [ln_0, ln_1, ln_2, ln_3, ln_4, ln_5, ln_6, ln_7, ln_8, ln_9, ln_10, ln_11, ln_12, ln_13, ln_14, ln_15, ln_16, ln_17, ln_18, ln_19, ln_20, ln_21, ln_22, ln_23, ln_24, ln_25, ln_26, ln_27, ln_28, ln_29, ln_30, ln_31, ln_32, ln_48, ln_57, ln_59, ln_60, ln_61, ln_62, ln_70, ln_72, ln_73, ln_74, ln_88, ln_90, ln_92, ln_97, ln_99, ln_100, ln_119, ln_120, ln_122, ln_255, ln_300, ln_400, ln_490, ln_900, ln_1000, ln_1800, ln_1807, ln_1819, ln_1960, ln_2082, ln_2450, ln_2460, ln_2470, ln_2520, ln_2683, ln_2950, ln_9999, ln_11587, ln_12800, ln_65536, tg_0_4, tg_0_5, tg_0_6, tg_0_9, tg_0_14, tg_0_15, tg_0_16, tg_0_17, tg_4_1, tg_13_0, tg_19_1, tg_20_1, tg_21_1, c_I_s, c_L_s, c_V_s, r_sc_s, r_lg_s, p_sc_s, p_lg_s, p_rf_s, g_ar_n, g_la_n, s_ar_n, s_la_n, g_bl_n, nI_ad, nI_mul, nI_inj, nI_ltn, nI_len, nI_nem1, nI_ltm, ne_eq, not_true_eq_false, not_false_eq_true, ite_true, ite_false, Nat.not_lt_zero, Nat.zero_le, reduceIte, Nat.reduceEqDiff, Nat.reduceLT, Nat.reduceLeDiff, Nat.reduceAdd, Nat.reduceMul, reduceCtorEq, Nat.zero_ne_one, Nat.one_ne_zero, ans_c, r_rf_e e hk, (hp.2.2.1 v hv6).2.1]; try rfl
      · cases hb : d_be (GD G) v
        · have e2 : m_ar σ p 9 v = -1 := by rw [(hp.2.2.1 v hv6).2.2.1, hb]; rfl
          simp (disch := omega) only [ln_0, ln_1, ln_2, ln_3, ln_4, ln_5, ln_6, ln_7, ln_8, ln_9, ln_10, ln_11, ln_12, ln_13, ln_14, ln_15, ln_16, ln_17, ln_18, ln_19, ln_20, ln_21, ln_22, ln_23, ln_24, ln_25, ln_26, ln_27, ln_28, ln_29, ln_30, ln_31, ln_32, ln_48, ln_57, ln_59, ln_60, ln_61, ln_62, ln_70, ln_72, ln_73, ln_74, ln_88, ln_90, ln_92, ln_97, ln_99, ln_100, ln_119, ln_120, ln_122, ln_255, ln_300, ln_400, ln_490, ln_900, ln_1000, ln_1800, ln_1807, ln_1819, ln_1960, ln_2082, ln_2450, ln_2460, ln_2470, ln_2520, ln_2683, ln_2950, ln_9999, ln_11587, ln_12800, ln_65536, tg_0_4, tg_0_5, tg_0_6, tg_0_9, tg_0_14, tg_0_15, tg_0_16, tg_0_17, tg_4_1, tg_13_0, tg_19_1, tg_20_1, tg_21_1, c_I_s, c_L_s, c_V_s, r_sc_s, r_lg_s, p_sc_s, p_lg_s, p_rf_s, g_ar_n, g_la_n, s_ar_n, s_la_n, g_bl_n, nI_ad, nI_mul, nI_inj, nI_ltn, nI_len, nI_nem1, nI_ltm, ne_eq, not_true_eq_false, not_false_eq_true, ite_true, ite_false, Nat.not_lt_zero, Nat.zero_le, reduceIte, Nat.reduceEqDiff, Nat.reduceLT, Nat.reduceLeDiff, Nat.reduceAdd, Nat.reduceMul, reduceCtorEq, Nat.zero_ne_one, Nat.one_ne_zero, ans_c, r_rf_e e hk, e2]
          simp [tvH, hb]; rfl
        · have e2 : m_ar σ p 9 v = 1 := by rw [(hp.2.2.1 v hv6).2.2.1, hb]; rfl
          simp (disch := omega) only [ln_0, ln_1, ln_2, ln_3, ln_4, ln_5, ln_6, ln_7, ln_8, ln_9, ln_10, ln_11, ln_12, ln_13, ln_14, ln_15, ln_16, ln_17, ln_18, ln_19, ln_20, ln_21, ln_22, ln_23, ln_24, ln_25, ln_26, ln_27, ln_28, ln_29, ln_30, ln_31, ln_32, ln_48, ln_57, ln_59, ln_60, ln_61, ln_62, ln_70, ln_72, ln_73, ln_74, ln_88, ln_90, ln_92, ln_97, ln_99, ln_100, ln_119, ln_120, ln_122, ln_255, ln_300, ln_400, ln_490, ln_900, ln_1000, ln_1800, ln_1807, ln_1819, ln_1960, ln_2082, ln_2450, ln_2460, ln_2470, ln_2520, ln_2683, ln_2950, ln_9999, ln_11587, ln_12800, ln_65536, tg_0_4, tg_0_5, tg_0_6, tg_0_9, tg_0_14, tg_0_15, tg_0_16, tg_0_17, tg_4_1, tg_13_0, tg_19_1, tg_20_1, tg_21_1, c_I_s, c_L_s, c_V_s, r_sc_s, r_lg_s, p_sc_s, p_lg_s, p_rf_s, g_ar_n, g_la_n, s_ar_n, s_la_n, g_bl_n, nI_ad, nI_mul, nI_inj, nI_ltn, nI_len, nI_nem1, nI_ltm, ne_eq, not_true_eq_false, not_false_eq_true, ite_true, ite_false, Nat.not_lt_zero, Nat.zero_le, reduceIte, Nat.reduceEqDiff, Nat.reduceLT, Nat.reduceLeDiff, Nat.reduceAdd, Nat.reduceMul, reduceCtorEq, Nat.zero_ne_one, Nat.one_ne_zero, ans_c, r_rf_e e hk, e2]
          simp [tvH, hb]; rfl
      · simp (disch := omega) only [ln_0, ln_1, ln_2, ln_3, ln_4, ln_5, ln_6, ln_7, ln_8, ln_9, ln_10, ln_11, ln_12, ln_13, ln_14, ln_15, ln_16, ln_17, ln_18, ln_19, ln_20, ln_21, ln_22, ln_23, ln_24, ln_25, ln_26, ln_27, ln_28, ln_29, ln_30, ln_31, ln_32, ln_48, ln_57, ln_59, ln_60, ln_61, ln_62, ln_70, ln_72, ln_73, ln_74, ln_88, ln_90, ln_92, ln_97, ln_99, ln_100, ln_119, ln_120, ln_122, ln_255, ln_300, ln_400, ln_490, ln_900, ln_1000, ln_1800, ln_1807, ln_1819, ln_1960, ln_2082, ln_2450, ln_2460, ln_2470, ln_2520, ln_2683, ln_2950, ln_9999, ln_11587, ln_12800, ln_65536, tg_0_4, tg_0_5, tg_0_6, tg_0_9, tg_0_14, tg_0_15, tg_0_16, tg_0_17, tg_4_1, tg_13_0, tg_19_1, tg_20_1, tg_21_1, c_I_s, c_L_s, c_V_s, r_sc_s, r_lg_s, p_sc_s, p_lg_s, p_rf_s, g_ar_n, g_la_n, s_ar_n, s_la_n, g_bl_n, nI_ad, nI_mul, nI_inj, nI_ltn, nI_len, nI_nem1, nI_ltm, ne_eq, not_true_eq_false, not_false_eq_true, ite_true, ite_false, Nat.not_lt_zero, Nat.zero_le, reduceIte, Nat.reduceEqDiff, Nat.reduceLT, Nat.reduceLeDiff, Nat.reduceAdd, Nat.reduceMul, reduceCtorEq, Nat.zero_ne_one, Nat.one_ne_zero, ans_c, r_rf_e e hk, (hp.2.2.1 v hv6).2.2.2]; try rfl
      · simp (disch := omega) only [ln_0, ln_1, ln_2, ln_3, ln_4, ln_5, ln_6, ln_7, ln_8, ln_9, ln_10, ln_11, ln_12, ln_13, ln_14, ln_15, ln_16, ln_17, ln_18, ln_19, ln_20, ln_21, ln_22, ln_23, ln_24, ln_25, ln_26, ln_27, ln_28, ln_29, ln_30, ln_31, ln_32, ln_48, ln_57, ln_59, ln_60, ln_61, ln_62, ln_70, ln_72, ln_73, ln_74, ln_88, ln_90, ln_92, ln_97, ln_99, ln_100, ln_119, ln_120, ln_122, ln_255, ln_300, ln_400, ln_490, ln_900, ln_1000, ln_1800, ln_1807, ln_1819, ln_1960, ln_2082, ln_2450, ln_2460, ln_2470, ln_2520, ln_2683, ln_2950, ln_9999, ln_11587, ln_12800, ln_65536, tg_0_4, tg_0_5, tg_0_6, tg_0_9, tg_0_14, tg_0_15, tg_0_16, tg_0_17, tg_4_1, tg_13_0, tg_19_1, tg_20_1, tg_21_1, c_I_s, c_L_s, c_V_s, r_sc_s, r_lg_s, p_sc_s, p_lg_s, p_rf_s, g_ar_n, g_la_n, s_ar_n, s_la_n, g_bl_n, nI_ad, nI_mul, nI_inj, nI_ltn, nI_len, nI_nem1, nI_ltm, ne_eq, not_true_eq_false, not_false_eq_true, ite_true, ite_false, Nat.not_lt_zero, Nat.zero_le, reduceIte, Nat.reduceEqDiff, Nat.reduceLT, Nat.reduceLeDiff, Nat.reduceAdd, Nat.reduceMul, reduceCtorEq, Nat.zero_ne_one, Nat.one_ne_zero, ans_c, r_rf_e e hk, hv.2.2.1 v hv6]; try rfl

theorem shaft_r (a b : Int32) (hW : WFG G) (h : RepR σ G) : OR (fX12_shaft 31 a b σ) (spH a b G) := by
  have hp := h.pl
  have hv := h.sv
  have hd := hW.d.1
  unfold fX12_shaft spH
  rcases ix_cases (n := d_s (GD G)) (by omega) a with ⟨ei, ha⟩ | ⟨v, hv6, rfl, ei⟩ <;> rw [ei]
  · rw [isShaft_r0 hW h ha]
    exact OR.non hW h _
  · rw [isShaft_r1 hW h hv6, c_I_s, if_neg (by decide)]
    rcases ix_cases (n := 5) (by decide) b with ⟨ej, ha⟩ | ⟨k, hk6, rfl, ej⟩ <;> rw [ej]
    · refine OR.eq (h.st 1 hW) ?_
      rcases ha with ha | ha
      · rw [if_pos ha]; rfl
      · rw [if_neg ha.1]
        simp (disch := omega) only [ln_0, ln_1, ln_2, ln_3, ln_4, ln_5, ln_6, ln_7, ln_8, ln_9, ln_10, ln_11, ln_12, ln_13, ln_14, ln_15, ln_16, ln_17, ln_18, ln_19, ln_20, ln_21, ln_22, ln_23, ln_24, ln_25, ln_26, ln_27, ln_28, ln_29, ln_30, ln_31, ln_32, ln_48, ln_57, ln_59, ln_60, ln_61, ln_62, ln_70, ln_72, ln_73, ln_74, ln_88, ln_90, ln_92, ln_97, ln_99, ln_100, ln_119, ln_120, ln_122, ln_255, ln_300, ln_400, ln_490, ln_900, ln_1000, ln_1800, ln_1807, ln_1819, ln_1960, ln_2082, ln_2450, ln_2460, ln_2470, ln_2520, ln_2683, ln_2950, ln_9999, ln_11587, ln_12800, ln_65536, tg_0_4, tg_0_5, tg_0_6, tg_0_9, tg_0_14, tg_0_15, tg_0_16, tg_0_17, tg_4_1, tg_13_0, tg_19_1, tg_20_1, tg_21_1, c_I_s, c_L_s, c_V_s, r_sc_s, r_lg_s, p_sc_s, p_lg_s, p_rf_s, g_ar_n, g_la_n, s_ar_n, s_la_n, g_bl_n, nI_ad, nI_mul, nI_inj, nI_ltn, nI_len, nI_nem1, nI_ltm, ne_eq, not_true_eq_false, not_false_eq_true, ite_true, ite_false, Nat.not_lt_zero, Nat.zero_le, reduceIte, Nat.reduceEqDiff, Nat.reduceLT, Nat.reduceLeDiff, Nat.reduceAdd, Nat.reduceMul, reduceCtorEq, Nat.zero_ne_one, Nat.one_ne_zero, ix_gt (by decide) ha.2, ix_ge (by decide) ha.2, non_r]
        try rfl
    · clear ej
      refine OR.eq (h.st 0 hW) ?_
      dsimp only
      have hk6 : k = 0 ∨ k = 1 ∨ k = 2 ∨ k = 3 ∨ k = 4 := by omega
      rcases hk6 with rfl | rfl | rfl | rfl | rfl
      · have e1 : m_ar σ 31 0 (70 + 5 * v + 0) = tvH G v 0 := by
          rw [show 70 + 5 * v + 0 = 0 + 70 + 5 * v by omega]; exact (hp.2.2.1 v hv6).1
        simp (disch := omega) only [ln_0, ln_1, ln_2, ln_3, ln_4, ln_5, ln_6, ln_7, ln_8, ln_9, ln_10, ln_11, ln_12, ln_13, ln_14, ln_15, ln_16, ln_17, ln_18, ln_19, ln_20, ln_21, ln_22, ln_23, ln_24, ln_25, ln_26, ln_27, ln_28, ln_29, ln_30, ln_31, ln_32, ln_48, ln_57, ln_59, ln_60, ln_61, ln_62, ln_70, ln_72, ln_73, ln_74, ln_88, ln_90, ln_92, ln_97, ln_99, ln_100, ln_119, ln_120, ln_122, ln_255, ln_300, ln_400, ln_490, ln_900, ln_1000, ln_1800, ln_1807, ln_1819, ln_1960, ln_2082, ln_2450, ln_2460, ln_2470, ln_2520, ln_2683, ln_2950, ln_9999, ln_11587, ln_12800, ln_65536, tg_0_4, tg_0_5, tg_0_6, tg_0_9, tg_0_14, tg_0_15, tg_0_16, tg_0_17, tg_4_1, tg_13_0, tg_19_1, tg_20_1, tg_21_1, c_I_s, c_L_s, c_V_s, r_sc_s, r_lg_s, p_sc_s, p_lg_s, p_rf_s, g_ar_n, g_la_n, s_ar_n, s_la_n, g_bl_n, nI_ad, nI_mul, nI_inj, nI_ltn, nI_len, nI_nem1, nI_ltm, ne_eq, not_true_eq_false, not_false_eq_true, ite_true, ite_false, Nat.not_lt_zero, Nat.zero_le, reduceIte, Nat.reduceEqDiff, Nat.reduceLT, Nat.reduceLeDiff, Nat.reduceAdd, Nat.reduceMul, reduceCtorEq, Nat.zero_ne_one, Nat.one_ne_zero, ans_r, e1]; try rfl
      · have e1 : m_ar σ 31 0 (70 + 5 * v + 1) = tvH G v 1 := by
          rw [show 70 + 5 * v + 1 = 0 + 71 + 5 * v by omega]; exact (hp.2.2.1 v hv6).2.1
        simp (disch := omega) only [ln_0, ln_1, ln_2, ln_3, ln_4, ln_5, ln_6, ln_7, ln_8, ln_9, ln_10, ln_11, ln_12, ln_13, ln_14, ln_15, ln_16, ln_17, ln_18, ln_19, ln_20, ln_21, ln_22, ln_23, ln_24, ln_25, ln_26, ln_27, ln_28, ln_29, ln_30, ln_31, ln_32, ln_48, ln_57, ln_59, ln_60, ln_61, ln_62, ln_70, ln_72, ln_73, ln_74, ln_88, ln_90, ln_92, ln_97, ln_99, ln_100, ln_119, ln_120, ln_122, ln_255, ln_300, ln_400, ln_490, ln_900, ln_1000, ln_1800, ln_1807, ln_1819, ln_1960, ln_2082, ln_2450, ln_2460, ln_2470, ln_2520, ln_2683, ln_2950, ln_9999, ln_11587, ln_12800, ln_65536, tg_0_4, tg_0_5, tg_0_6, tg_0_9, tg_0_14, tg_0_15, tg_0_16, tg_0_17, tg_4_1, tg_13_0, tg_19_1, tg_20_1, tg_21_1, c_I_s, c_L_s, c_V_s, r_sc_s, r_lg_s, p_sc_s, p_lg_s, p_rf_s, g_ar_n, g_la_n, s_ar_n, s_la_n, g_bl_n, nI_ad, nI_mul, nI_inj, nI_ltn, nI_len, nI_nem1, nI_ltm, ne_eq, not_true_eq_false, not_false_eq_true, ite_true, ite_false, Nat.not_lt_zero, Nat.zero_le, reduceIte, Nat.reduceEqDiff, Nat.reduceLT, Nat.reduceLeDiff, Nat.reduceAdd, Nat.reduceMul, reduceCtorEq, Nat.zero_ne_one, Nat.one_ne_zero, ans_r, e1]; try rfl
      · have e1 : m_ar σ 31 0 (70 + 5 * v + 2) = tvH G v 2 := by
          rw [show 70 + 5 * v + 2 = 0 + 72 + 5 * v by omega]; exact (hp.2.2.1 v hv6).2.2.1
        simp (disch := omega) only [ln_0, ln_1, ln_2, ln_3, ln_4, ln_5, ln_6, ln_7, ln_8, ln_9, ln_10, ln_11, ln_12, ln_13, ln_14, ln_15, ln_16, ln_17, ln_18, ln_19, ln_20, ln_21, ln_22, ln_23, ln_24, ln_25, ln_26, ln_27, ln_28, ln_29, ln_30, ln_31, ln_32, ln_48, ln_57, ln_59, ln_60, ln_61, ln_62, ln_70, ln_72, ln_73, ln_74, ln_88, ln_90, ln_92, ln_97, ln_99, ln_100, ln_119, ln_120, ln_122, ln_255, ln_300, ln_400, ln_490, ln_900, ln_1000, ln_1800, ln_1807, ln_1819, ln_1960, ln_2082, ln_2450, ln_2460, ln_2470, ln_2520, ln_2683, ln_2950, ln_9999, ln_11587, ln_12800, ln_65536, tg_0_4, tg_0_5, tg_0_6, tg_0_9, tg_0_14, tg_0_15, tg_0_16, tg_0_17, tg_4_1, tg_13_0, tg_19_1, tg_20_1, tg_21_1, c_I_s, c_L_s, c_V_s, r_sc_s, r_lg_s, p_sc_s, p_lg_s, p_rf_s, g_ar_n, g_la_n, s_ar_n, s_la_n, g_bl_n, nI_ad, nI_mul, nI_inj, nI_ltn, nI_len, nI_nem1, nI_ltm, ne_eq, not_true_eq_false, not_false_eq_true, ite_true, ite_false, Nat.not_lt_zero, Nat.zero_le, reduceIte, Nat.reduceEqDiff, Nat.reduceLT, Nat.reduceLeDiff, Nat.reduceAdd, Nat.reduceMul, reduceCtorEq, Nat.zero_ne_one, Nat.one_ne_zero, ans_r, e1]; try rfl
      · have e1 : m_ar σ 31 0 (70 + 5 * v + 3) = tvH G v 3 := by
          rw [show 70 + 5 * v + 3 = 0 + 73 + 5 * v by omega]; exact (hp.2.2.1 v hv6).2.2.2
        simp (disch := omega) only [ln_0, ln_1, ln_2, ln_3, ln_4, ln_5, ln_6, ln_7, ln_8, ln_9, ln_10, ln_11, ln_12, ln_13, ln_14, ln_15, ln_16, ln_17, ln_18, ln_19, ln_20, ln_21, ln_22, ln_23, ln_24, ln_25, ln_26, ln_27, ln_28, ln_29, ln_30, ln_31, ln_32, ln_48, ln_57, ln_59, ln_60, ln_61, ln_62, ln_70, ln_72, ln_73, ln_74, ln_88, ln_90, ln_92, ln_97, ln_99, ln_100, ln_119, ln_120, ln_122, ln_255, ln_300, ln_400, ln_490, ln_900, ln_1000, ln_1800, ln_1807, ln_1819, ln_1960, ln_2082, ln_2450, ln_2460, ln_2470, ln_2520, ln_2683, ln_2950, ln_9999, ln_11587, ln_12800, ln_65536, tg_0_4, tg_0_5, tg_0_6, tg_0_9, tg_0_14, tg_0_15, tg_0_16, tg_0_17, tg_4_1, tg_13_0, tg_19_1, tg_20_1, tg_21_1, c_I_s, c_L_s, c_V_s, r_sc_s, r_lg_s, p_sc_s, p_lg_s, p_rf_s, g_ar_n, g_la_n, s_ar_n, s_la_n, g_bl_n, nI_ad, nI_mul, nI_inj, nI_ltn, nI_len, nI_nem1, nI_ltm, ne_eq, not_true_eq_false, not_false_eq_true, ite_true, ite_false, Nat.not_lt_zero, Nat.zero_le, reduceIte, Nat.reduceEqDiff, Nat.reduceLT, Nat.reduceLeDiff, Nat.reduceAdd, Nat.reduceMul, reduceCtorEq, Nat.zero_ne_one, Nat.one_ne_zero, ans_r, e1]; try rfl
      · have e1 : m_ar σ 31 0 (70 + 5 * v + 4) = tvH G v 4 := by
          rw [show 70 + 5 * v + 4 = 0 + 74 + 5 * v by omega]; exact hv.2.2.1 v hv6
        simp (disch := omega) only [ln_0, ln_1, ln_2, ln_3, ln_4, ln_5, ln_6, ln_7, ln_8, ln_9, ln_10, ln_11, ln_12, ln_13, ln_14, ln_15, ln_16, ln_17, ln_18, ln_19, ln_20, ln_21, ln_22, ln_23, ln_24, ln_25, ln_26, ln_27, ln_28, ln_29, ln_30, ln_31, ln_32, ln_48, ln_57, ln_59, ln_60, ln_61, ln_62, ln_70, ln_72, ln_73, ln_74, ln_88, ln_90, ln_92, ln_97, ln_99, ln_100, ln_119, ln_120, ln_122, ln_255, ln_300, ln_400, ln_490, ln_900, ln_1000, ln_1800, ln_1807, ln_1819, ln_1960, ln_2082, ln_2450, ln_2460, ln_2470, ln_2520, ln_2683, ln_2950, ln_9999, ln_11587, ln_12800, ln_65536, tg_0_4, tg_0_5, tg_0_6, tg_0_9, tg_0_14, tg_0_15, tg_0_16, tg_0_17, tg_4_1, tg_13_0, tg_19_1, tg_20_1, tg_21_1, c_I_s, c_L_s, c_V_s, r_sc_s, r_lg_s, p_sc_s, p_lg_s, p_rf_s, g_ar_n, g_la_n, s_ar_n, s_la_n, g_bl_n, nI_ad, nI_mul, nI_inj, nI_ltn, nI_len, nI_nem1, nI_ltm, ne_eq, not_true_eq_false, not_false_eq_true, ite_true, ite_false, Nat.not_lt_zero, Nat.zero_le, reduceIte, Nat.reduceEqDiff, Nat.reduceLT, Nat.reduceLeDiff, Nat.reduceAdd, Nat.reduceMul, reduceCtorEq, Nat.zero_ne_one, Nat.one_ne_zero, ans_r, e1]; try rfl

theorem shaft_s (a : Int32) (b : Int32) (σ : Mm) (h : Rel σ) : ok (fX11_shaft 0 a b σ) (fun q => ok (fX12_shaft 31 a b q.2) (fun q' => q'.1 = q.1 ∧ Rel q'.2)) :=
  simS (fc := fX11_shaft 0 a b) (fr := fX12_shaft 31 a b) (ks := [11]) (by decide) (spH a b) (fun σ G => shaft_c a b) (fun σ G => shaft_r a b) (fun G hW => by unfold spH; repeat (first | exact hW | split)) (fun σ x τ e => F_sub (frX11_shaft 0 a b (by decide) σ e) (by decide)) (fun σ x τ e => F_sub (frX12_shaft 31 a b (by decide) σ e) (by decide)) σ h
def spF (a : Int32) (G : GS) : Int32 × GS := (if a = 0 then (g_f G).1 else if a = 1 then (g_f G).2 else -1, G)
theorem fault_c (a : Int32) (hW : WFG G) (h : RepC σ G) : OC (fX11_fault 0 a σ) (spF a G) := by
  refine OC.eq (τ := σ) h ?_
  unfold fX11_fault spF
  rw [r_sc_s, r_sc_s, h.1.2.2.2.1, h.1.2.2.2.2]
  by_cases q : a = 0
  · rw [if_pos q, if_pos q]
  · rw [if_neg q, if_neg q]; by_cases q2 : a = 1
    · rw [if_pos q2, if_pos q2]
    · rw [if_neg q2, if_neg q2]
theorem fault_r (a : Int32) (hW : WFG G) (h : RepR σ G) : OR (fX12_fault 31 a σ) (spF a G) := by
  refine OR.eq (τ := σ) h ?_
  unfold fX12_fault spF
  rw [r_sc_s, r_sc_s, h.1.2.2.2.1, h.1.2.2.2.2]
  by_cases q : a = 0
  · rw [if_pos q, if_pos q]
  · rw [if_neg q, if_neg q]; by_cases q2 : a = 1
    · rw [if_pos q2, if_pos q2]
    · rw [if_neg q2, if_neg q2]
theorem fault_s (a : Int32) (σ : Mm) (h : Rel σ) : ok (fX11_fault 0 a σ) (fun q => ok (fX12_fault 31 a q.2) (fun q' => q'.1 = q.1 ∧ Rel q'.2)) :=
  simS (fc := fX11_fault 0 a) (fr := fX12_fault 31 a) (ks := [11]) (by decide) (spF a) (fun σ G => fault_c a) (fun σ G => fault_r a) (fun G hW => hW) (fun σ x τ e => F_sub (frX11_fault 0 a (by decide) σ e) (by decide)) (fun σ x τ e => F_sub (frX12_fault 31 a (by decide) σ e) (by decide)) σ h
theorem status_s (σ : Mm) (h : Rel σ) : ok (fX11_status 0 σ) (fun q => ok (fX12_status 31 q.2) (fun q' => q'.1 = q.1 ∧ Rel q'.2)) := by
  obtain ⟨G, hW, h1, h2⟩ := h
  exact ⟨_, rfl, _, rfl, (h2.1.1).trans h1.1.1.symm, G, hW, h1, h2⟩
theorem top_s (σ : Mm) (h : Rel σ) : ok (fX11_top 0 σ) (fun q => ok (fX12_top 31 q.2) (fun q' => q'.1 = q.1 ∧ Rel q'.2)) := by
  obtain ⟨G, hW, h1, h2⟩ := h
  exact ⟨_, rfl, _, rfl, (h2.1.2.1).trans h1.1.2.1.symm, G, hW, h1, h2⟩
theorem bottom_s (σ : Mm) (h : Rel σ) : ok (fX11_bottom 0 σ) (fun q => ok (fX12_bottom 31 q.2) (fun q' => q'.1 = q.1 ∧ Rel q'.2)) := by
  obtain ⟨G, hW, h1, h2⟩ := h
  exact ⟨_, rfl, _, rfl, (h2.1.2.2.1).trans h1.1.2.2.1.symm, G, hW, h1, h2⟩
def spA (a b : Int32) (G : GS) : Int32 × GS := match ix (d_p (GD G)) a with
  | none => (-1, stq 1 G)
  | some v => match ix 2 b with
    | none => (-1, stq 1 G)
    | some k => (nI (if k = 0 then v_fr (GV G) v else v_sg (GV G) v), stq 0 G)
theorem windAt_c (a b : Int32) (hW : WFG G) (h : RepC σ G) : OC (fX11_windAt 0 a b σ) (spA a b G) := by
  have hv := h.sv
  have hd := hW.d.1
  unfold fX11_windAt spA
  rcases ix_cases (n := d_p (GD G)) (by omega) a with ⟨ei, ha⟩ | ⟨v, hv6, rfl, ei⟩ <;> rw [ei]
  · rw [isPlace_c0 hW h ha]
    exact OC.non hW h _
  · rw [isPlace_c1 hW h hv6, c_I_s, if_neg (by decide)]
    rcases ix_cases (n := 2) (by decide) b with ⟨ej, ha⟩ | ⟨k, hk6, rfl, ej⟩ <;> rw [ej]
    · refine OC.eq (h.st 1 hW) ?_
      rcases ha with ha | ha
      · rw [if_pos ha]; rfl
      · rw [if_neg ha.1]
        simp (disch := omega) only [ln_0, ln_1, ln_2, ln_3, ln_4, ln_5, ln_6, ln_7, ln_8, ln_9, ln_10, ln_11, ln_12, ln_13, ln_14, ln_15, ln_16, ln_17, ln_18, ln_19, ln_20, ln_21, ln_22, ln_23, ln_24, ln_25, ln_26, ln_27, ln_28, ln_29, ln_30, ln_31, ln_32, ln_48, ln_57, ln_59, ln_60, ln_61, ln_62, ln_70, ln_72, ln_73, ln_74, ln_88, ln_90, ln_92, ln_97, ln_99, ln_100, ln_119, ln_120, ln_122, ln_255, ln_300, ln_400, ln_490, ln_900, ln_1000, ln_1800, ln_1807, ln_1819, ln_1960, ln_2082, ln_2450, ln_2460, ln_2470, ln_2520, ln_2683, ln_2950, ln_9999, ln_11587, ln_12800, ln_65536, tg_0_4, tg_0_5, tg_0_6, tg_0_9, tg_0_14, tg_0_15, tg_0_16, tg_0_17, tg_4_1, tg_13_0, tg_19_1, tg_20_1, tg_21_1, c_I_s, c_L_s, c_V_s, r_sc_s, r_lg_s, p_sc_s, p_lg_s, p_rf_s, g_ar_n, g_la_n, s_ar_n, s_la_n, g_bl_n, nI_ad, nI_mul, nI_inj, nI_ltn, nI_len, nI_nem1, nI_ltm, ne_eq, not_true_eq_false, not_false_eq_true, ite_true, ite_false, Nat.not_lt_zero, Nat.zero_le, reduceIte, Nat.reduceEqDiff, Nat.reduceLT, Nat.reduceLeDiff, Nat.reduceAdd, Nat.reduceMul, reduceCtorEq, Nat.zero_ne_one, Nat.one_ne_zero, ix_ge (by decide) ha.2, non_c]
        try rfl
    · clear ej
      refine OC.eq (h.st 0 hW) ?_
      dsimp only
      have hk6 : k = 0 ∨ k = 1 := by omega
      rcases hk6 with rfl | rfl
      · simp (disch := omega) only [ln_0, ln_1, ln_2, ln_3, ln_4, ln_5, ln_6, ln_7, ln_8, ln_9, ln_10, ln_11, ln_12, ln_13, ln_14, ln_15, ln_16, ln_17, ln_18, ln_19, ln_20, ln_21, ln_22, ln_23, ln_24, ln_25, ln_26, ln_27, ln_28, ln_29, ln_30, ln_31, ln_32, ln_48, ln_57, ln_59, ln_60, ln_61, ln_62, ln_70, ln_72, ln_73, ln_74, ln_88, ln_90, ln_92, ln_97, ln_99, ln_100, ln_119, ln_120, ln_122, ln_255, ln_300, ln_400, ln_490, ln_900, ln_1000, ln_1800, ln_1807, ln_1819, ln_1960, ln_2082, ln_2450, ln_2460, ln_2470, ln_2520, ln_2683, ln_2950, ln_9999, ln_11587, ln_12800, ln_65536, tg_0_4, tg_0_5, tg_0_6, tg_0_9, tg_0_14, tg_0_15, tg_0_16, tg_0_17, tg_4_1, tg_13_0, tg_19_1, tg_20_1, tg_21_1, c_I_s, c_L_s, c_V_s, r_sc_s, r_lg_s, p_sc_s, p_lg_s, p_rf_s, g_ar_n, g_la_n, s_ar_n, s_la_n, g_bl_n, nI_ad, nI_mul, nI_inj, nI_ltn, nI_len, nI_nem1, nI_ltm, ne_eq, not_true_eq_false, not_false_eq_true, ite_true, ite_false, Nat.not_lt_zero, Nat.zero_le, reduceIte, Nat.reduceEqDiff, Nat.reduceLT, Nat.reduceLeDiff, Nat.reduceAdd, Nat.reduceMul, reduceCtorEq, Nat.zero_ne_one, Nat.one_ne_zero, ans_c, (hv.1 v (by omega)).1]; try rfl
      · simp (disch := omega) only [ln_0, ln_1, ln_2, ln_3, ln_4, ln_5, ln_6, ln_7, ln_8, ln_9, ln_10, ln_11, ln_12, ln_13, ln_14, ln_15, ln_16, ln_17, ln_18, ln_19, ln_20, ln_21, ln_22, ln_23, ln_24, ln_25, ln_26, ln_27, ln_28, ln_29, ln_30, ln_31, ln_32, ln_48, ln_57, ln_59, ln_60, ln_61, ln_62, ln_70, ln_72, ln_73, ln_74, ln_88, ln_90, ln_92, ln_97, ln_99, ln_100, ln_119, ln_120, ln_122, ln_255, ln_300, ln_400, ln_490, ln_900, ln_1000, ln_1800, ln_1807, ln_1819, ln_1960, ln_2082, ln_2450, ln_2460, ln_2470, ln_2520, ln_2683, ln_2950, ln_9999, ln_11587, ln_12800, ln_65536, tg_0_4, tg_0_5, tg_0_6, tg_0_9, tg_0_14, tg_0_15, tg_0_16, tg_0_17, tg_4_1, tg_13_0, tg_19_1, tg_20_1, tg_21_1, c_I_s, c_L_s, c_V_s, r_sc_s, r_lg_s, p_sc_s, p_lg_s, p_rf_s, g_ar_n, g_la_n, s_ar_n, s_la_n, g_bl_n, nI_ad, nI_mul, nI_inj, nI_ltn, nI_len, nI_nem1, nI_ltm, ne_eq, not_true_eq_false, not_false_eq_true, ite_true, ite_false, Nat.not_lt_zero, Nat.zero_le, reduceIte, Nat.reduceEqDiff, Nat.reduceLT, Nat.reduceLeDiff, Nat.reduceAdd, Nat.reduceMul, reduceCtorEq, Nat.zero_ne_one, Nat.one_ne_zero, ans_c, (hv.1 v (by omega)).2]; try rfl

theorem windAt_r (a b : Int32) (hW : WFG G) (h : RepR σ G) : OR (fX12_windAt 31 a b σ) (spA a b G) := by
  have hv := h.sv
  have hd := hW.d.1
  unfold fX12_windAt spA
  rcases ix_cases (n := d_p (GD G)) (by omega) a with ⟨ei, ha⟩ | ⟨v, hv6, rfl, ei⟩ <;> rw [ei]
  · rw [isPlace_r0 hW h ha]
    exact OR.non hW h _
  · rw [isPlace_r1 hW h hv6, c_I_s, if_neg (by decide)]
    rcases ix_cases (n := 2) (by decide) b with ⟨ej, ha⟩ | ⟨k, hk6, rfl, ej⟩ <;> rw [ej]
    · refine OR.eq (h.st 1 hW) ?_
      have hn := ix_no (by decide) ha
      simp (disch := omega) only [ln_0, ln_1, ln_2, ln_3, ln_4, ln_5, ln_6, ln_7, ln_8, ln_9, ln_10, ln_11, ln_12, ln_13, ln_14, ln_15, ln_16, ln_17, ln_18, ln_19, ln_20, ln_21, ln_22, ln_23, ln_24, ln_25, ln_26, ln_27, ln_28, ln_29, ln_30, ln_31, ln_32, ln_48, ln_57, ln_59, ln_60, ln_61, ln_62, ln_70, ln_72, ln_73, ln_74, ln_88, ln_90, ln_92, ln_97, ln_99, ln_100, ln_119, ln_120, ln_122, ln_255, ln_300, ln_400, ln_490, ln_900, ln_1000, ln_1800, ln_1807, ln_1819, ln_1960, ln_2082, ln_2450, ln_2460, ln_2470, ln_2520, ln_2683, ln_2950, ln_9999, ln_11587, ln_12800, ln_65536, tg_0_4, tg_0_5, tg_0_6, tg_0_9, tg_0_14, tg_0_15, tg_0_16, tg_0_17, tg_4_1, tg_13_0, tg_19_1, tg_20_1, tg_21_1, c_I_s, c_L_s, c_V_s, r_sc_s, r_lg_s, p_sc_s, p_lg_s, p_rf_s, g_ar_n, g_la_n, s_ar_n, s_la_n, g_bl_n, nI_ad, nI_mul, nI_inj, nI_ltn, nI_len, nI_nem1, nI_ltm, ne_eq, not_true_eq_false, not_false_eq_true, ite_true, ite_false, Nat.not_lt_zero, Nat.zero_le, reduceIte, Nat.reduceEqDiff, Nat.reduceLT, Nat.reduceLeDiff, Nat.reduceAdd, Nat.reduceMul, reduceCtorEq, Nat.zero_ne_one, Nat.one_ne_zero, hn, non_r]
      try rfl
    · clear ej
      refine OR.eq (h.st 0 hW) ?_
      dsimp only
      have hk6 : k = 0 ∨ k = 1 := by omega
      rcases hk6 with rfl | rfl
      · have e1 : m_ar σ 31 0 (10 + 2 * v + 0) = nI (v_fr (GV G) v) := by
          rw [show 10 + 2 * v + 0 = 0 + 10 + 2 * v by omega]; exact (hv.1 v (by omega)).1
        simp (disch := omega) only [ln_0, ln_1, ln_2, ln_3, ln_4, ln_5, ln_6, ln_7, ln_8, ln_9, ln_10, ln_11, ln_12, ln_13, ln_14, ln_15, ln_16, ln_17, ln_18, ln_19, ln_20, ln_21, ln_22, ln_23, ln_24, ln_25, ln_26, ln_27, ln_28, ln_29, ln_30, ln_31, ln_32, ln_48, ln_57, ln_59, ln_60, ln_61, ln_62, ln_70, ln_72, ln_73, ln_74, ln_88, ln_90, ln_92, ln_97, ln_99, ln_100, ln_119, ln_120, ln_122, ln_255, ln_300, ln_400, ln_490, ln_900, ln_1000, ln_1800, ln_1807, ln_1819, ln_1960, ln_2082, ln_2450, ln_2460, ln_2470, ln_2520, ln_2683, ln_2950, ln_9999, ln_11587, ln_12800, ln_65536, tg_0_4, tg_0_5, tg_0_6, tg_0_9, tg_0_14, tg_0_15, tg_0_16, tg_0_17, tg_4_1, tg_13_0, tg_19_1, tg_20_1, tg_21_1, c_I_s, c_L_s, c_V_s, r_sc_s, r_lg_s, p_sc_s, p_lg_s, p_rf_s, g_ar_n, g_la_n, s_ar_n, s_la_n, g_bl_n, nI_ad, nI_mul, nI_inj, nI_ltn, nI_len, nI_nem1, nI_ltm, ne_eq, not_true_eq_false, not_false_eq_true, ite_true, ite_false, Nat.not_lt_zero, Nat.zero_le, reduceIte, Nat.reduceEqDiff, Nat.reduceLT, Nat.reduceLeDiff, Nat.reduceAdd, Nat.reduceMul, reduceCtorEq, Nat.zero_ne_one, Nat.one_ne_zero, ans_r, e1]; try rfl
      · have e1 : m_ar σ 31 0 (10 + 2 * v + 1) = nI (v_sg (GV G) v) := by
          rw [show 10 + 2 * v + 1 = 0 + 11 + 2 * v by omega]; exact (hv.1 v (by omega)).2
        simp (disch := omega) only [ln_0, ln_1, ln_2, ln_3, ln_4, ln_5, ln_6, ln_7, ln_8, ln_9, ln_10, ln_11, ln_12, ln_13, ln_14, ln_15, ln_16, ln_17, ln_18, ln_19, ln_20, ln_21, ln_22, ln_23, ln_24, ln_25, ln_26, ln_27, ln_28, ln_29, ln_30, ln_31, ln_32, ln_48, ln_57, ln_59, ln_60, ln_61, ln_62, ln_70, ln_72, ln_73, ln_74, ln_88, ln_90, ln_92, ln_97, ln_99, ln_100, ln_119, ln_120, ln_122, ln_255, ln_300, ln_400, ln_490, ln_900, ln_1000, ln_1800, ln_1807, ln_1819, ln_1960, ln_2082, ln_2450, ln_2460, ln_2470, ln_2520, ln_2683, ln_2950, ln_9999, ln_11587, ln_12800, ln_65536, tg_0_4, tg_0_5, tg_0_6, tg_0_9, tg_0_14, tg_0_15, tg_0_16, tg_0_17, tg_4_1, tg_13_0, tg_19_1, tg_20_1, tg_21_1, c_I_s, c_L_s, c_V_s, r_sc_s, r_lg_s, p_sc_s, p_lg_s, p_rf_s, g_ar_n, g_la_n, s_ar_n, s_la_n, g_bl_n, nI_ad, nI_mul, nI_inj, nI_ltn, nI_len, nI_nem1, nI_ltm, ne_eq, not_true_eq_false, not_false_eq_true, ite_true, ite_false, Nat.not_lt_zero, Nat.zero_le, reduceIte, Nat.reduceEqDiff, Nat.reduceLT, Nat.reduceLeDiff, Nat.reduceAdd, Nat.reduceMul, reduceCtorEq, Nat.zero_ne_one, Nat.one_ne_zero, ans_r, e1]; try rfl

theorem windAt_s (a : Int32) (b : Int32) (σ : Mm) (h : Rel σ) : ok (fX11_windAt 0 a b σ) (fun q => ok (fX12_windAt 31 a b q.2) (fun q' => q'.1 = q.1 ∧ Rel q'.2)) :=
  simS (fc := fX11_windAt 0 a b) (fr := fX12_windAt 31 a b) (ks := [11]) (by decide) (spA a b) (fun σ G => windAt_c a b) (fun σ G => windAt_r a b) (fun G hW => by unfold spA; repeat (first | exact hW | split)) (fun σ x τ e => F_sub (frX11_windAt 0 a b (by decide) σ e) (by decide)) (fun σ x τ e => F_sub (frX12_windAt 31 a b (by decide) σ e) (by decide)) σ h
def spN (a : Int32) (G : GS) : Int32 × GS := match ix 5 a with
  | none => (-1, stq 1 G)
  | some k => match g_r G with
    | none => (-1, stq 6 G)
    | some r => (r.2.1 k, stq 0 G)
theorem ran_c (a : Int32) (hW : WFG G) (h : RepC σ G) : OC (fX11_ran 0 a σ) (spN a G) := by
  have hr := h.2.2.2.2.2.1
  unfold fX11_ran spN
  rcases ix_cases (n := 5) (by decide) a with ⟨ei, ha⟩ | ⟨k, hk6, rfl, ei⟩ <;> rw [ei]
  · refine OC.eq (h.st 1 hW) ?_
    rcases ha with ha | ha
    · rw [if_pos ha]; rfl
    · rw [if_neg ha.1]
      simp (disch := omega) only [ln_0, ln_1, ln_2, ln_3, ln_4, ln_5, ln_6, ln_7, ln_8, ln_9, ln_10, ln_11, ln_12, ln_13, ln_14, ln_15, ln_16, ln_17, ln_18, ln_19, ln_20, ln_21, ln_22, ln_23, ln_24, ln_25, ln_26, ln_27, ln_28, ln_29, ln_30, ln_31, ln_32, ln_48, ln_57, ln_59, ln_60, ln_61, ln_62, ln_70, ln_72, ln_73, ln_74, ln_88, ln_90, ln_92, ln_97, ln_99, ln_100, ln_119, ln_120, ln_122, ln_255, ln_300, ln_400, ln_490, ln_900, ln_1000, ln_1800, ln_1807, ln_1819, ln_1960, ln_2082, ln_2450, ln_2460, ln_2470, ln_2520, ln_2683, ln_2950, ln_9999, ln_11587, ln_12800, ln_65536, tg_0_4, tg_0_5, tg_0_6, tg_0_9, tg_0_14, tg_0_15, tg_0_16, tg_0_17, tg_4_1, tg_13_0, tg_19_1, tg_20_1, tg_21_1, c_I_s, c_L_s, c_V_s, r_sc_s, r_lg_s, p_sc_s, p_lg_s, p_rf_s, g_ar_n, g_la_n, s_ar_n, s_la_n, g_bl_n, nI_ad, nI_mul, nI_inj, nI_ltn, nI_len, nI_nem1, nI_ltm, ne_eq, not_true_eq_false, not_false_eq_true, ite_true, ite_false, Nat.not_lt_zero, Nat.zero_le, reduceIte, Nat.reduceEqDiff, Nat.reduceLT, Nat.reduceLeDiff, Nat.reduceAdd, Nat.reduceMul, reduceCtorEq, Nat.zero_ne_one, Nat.one_ne_zero, ix_ge (by decide) ha.2, non_c]
      try rfl
  · rw [if_neg (nI_neg0 (by omega))]
    cases hg : g_r G with
    | none =>
      rw [hg] at hr
      have e1 : m_sc σ 13 9 = nI 0 := hr.1
      refine OC.eq (h.st 6 hW) ?_
      have hk5 : k ≤ 4 := by omega
      simp (disch := omega) only [ln_0, ln_1, ln_2, ln_3, ln_4, ln_5, ln_6, ln_7, ln_8, ln_9, ln_10, ln_11, ln_12, ln_13, ln_14, ln_15, ln_16, ln_17, ln_18, ln_19, ln_20, ln_21, ln_22, ln_23, ln_24, ln_25, ln_26, ln_27, ln_28, ln_29, ln_30, ln_31, ln_32, ln_48, ln_57, ln_59, ln_60, ln_61, ln_62, ln_70, ln_72, ln_73, ln_74, ln_88, ln_90, ln_92, ln_97, ln_99, ln_100, ln_119, ln_120, ln_122, ln_255, ln_300, ln_400, ln_490, ln_900, ln_1000, ln_1800, ln_1807, ln_1819, ln_1960, ln_2082, ln_2450, ln_2460, ln_2470, ln_2520, ln_2683, ln_2950, ln_9999, ln_11587, ln_12800, ln_65536, tg_0_4, tg_0_5, tg_0_6, tg_0_9, tg_0_14, tg_0_15, tg_0_16, tg_0_17, tg_4_1, tg_13_0, tg_19_1, tg_20_1, tg_21_1, c_I_s, c_L_s, c_V_s, r_sc_s, r_lg_s, p_sc_s, p_lg_s, p_rf_s, g_ar_n, g_la_n, s_ar_n, s_la_n, g_bl_n, nI_ad, nI_mul, nI_inj, nI_ltn, nI_len, nI_nem1, nI_ltm, ne_eq, not_true_eq_false, not_false_eq_true, ite_true, ite_false, Nat.not_lt_zero, Nat.zero_le, reduceIte, Nat.reduceEqDiff, Nat.reduceLT, Nat.reduceLeDiff, Nat.reduceAdd, Nat.reduceMul, reduceCtorEq, Nat.zero_ne_one, Nat.one_ne_zero, e1, non_c, hk5]
      try rfl
    | some r =>
      rw [hg] at hr
      have e1 : m_sc σ 13 9 = nI 1 := hr.1
      have hk5 : k ≤ 4 := by omega
      refine OC.eq (h.st 0 hW) ?_
      simp (disch := omega) only [ln_0, ln_1, ln_2, ln_3, ln_4, ln_5, ln_6, ln_7, ln_8, ln_9, ln_10, ln_11, ln_12, ln_13, ln_14, ln_15, ln_16, ln_17, ln_18, ln_19, ln_20, ln_21, ln_22, ln_23, ln_24, ln_25, ln_26, ln_27, ln_28, ln_29, ln_30, ln_31, ln_32, ln_48, ln_57, ln_59, ln_60, ln_61, ln_62, ln_70, ln_72, ln_73, ln_74, ln_88, ln_90, ln_92, ln_97, ln_99, ln_100, ln_119, ln_120, ln_122, ln_255, ln_300, ln_400, ln_490, ln_900, ln_1000, ln_1800, ln_1807, ln_1819, ln_1960, ln_2082, ln_2450, ln_2460, ln_2470, ln_2520, ln_2683, ln_2950, ln_9999, ln_11587, ln_12800, ln_65536, tg_0_4, tg_0_5, tg_0_6, tg_0_9, tg_0_14, tg_0_15, tg_0_16, tg_0_17, tg_4_1, tg_13_0, tg_19_1, tg_20_1, tg_21_1, c_I_s, c_L_s, c_V_s, r_sc_s, r_lg_s, p_sc_s, p_lg_s, p_rf_s, g_ar_n, g_la_n, s_ar_n, s_la_n, g_bl_n, nI_ad, nI_mul, nI_inj, nI_ltn, nI_len, nI_nem1, nI_ltm, ne_eq, not_true_eq_false, not_false_eq_true, ite_true, ite_false, Nat.not_lt_zero, Nat.zero_le, reduceIte, Nat.reduceEqDiff, Nat.reduceLT, Nat.reduceLeDiff, Nat.reduceAdd, Nat.reduceMul, reduceCtorEq, Nat.zero_ne_one, Nat.one_ne_zero, e1, ans_c, hk5, hr.2.2.1 k hk6]
      try rfl
theorem ran_r (a : Int32) (hW : WFG G) (h : RepR σ G) : OR (fX12_ran 31 a σ) (spN a G) := by
  have hr := h.2.2.2.2.2.1
  unfold fX12_ran spN
  rcases ix_cases (n := 5) (by decide) a with ⟨ei, ha⟩ | ⟨k, hk6, rfl, ei⟩ <;> rw [ei]
  · refine OR.eq (h.st 1 hW) ?_
    rcases ha with ha | ha
    · rw [if_pos ha]; rfl
    · rw [if_neg ha.1]
      simp (disch := omega) only [ln_0, ln_1, ln_2, ln_3, ln_4, ln_5, ln_6, ln_7, ln_8, ln_9, ln_10, ln_11, ln_12, ln_13, ln_14, ln_15, ln_16, ln_17, ln_18, ln_19, ln_20, ln_21, ln_22, ln_23, ln_24, ln_25, ln_26, ln_27, ln_28, ln_29, ln_30, ln_31, ln_32, ln_48, ln_57, ln_59, ln_60, ln_61, ln_62, ln_70, ln_72, ln_73, ln_74, ln_88, ln_90, ln_92, ln_97, ln_99, ln_100, ln_119, ln_120, ln_122, ln_255, ln_300, ln_400, ln_490, ln_900, ln_1000, ln_1800, ln_1807, ln_1819, ln_1960, ln_2082, ln_2450, ln_2460, ln_2470, ln_2520, ln_2683, ln_2950, ln_9999, ln_11587, ln_12800, ln_65536, tg_0_4, tg_0_5, tg_0_6, tg_0_9, tg_0_14, tg_0_15, tg_0_16, tg_0_17, tg_4_1, tg_13_0, tg_19_1, tg_20_1, tg_21_1, c_I_s, c_L_s, c_V_s, r_sc_s, r_lg_s, p_sc_s, p_lg_s, p_rf_s, g_ar_n, g_la_n, s_ar_n, s_la_n, g_bl_n, nI_ad, nI_mul, nI_inj, nI_ltn, nI_len, nI_nem1, nI_ltm, ne_eq, not_true_eq_false, not_false_eq_true, ite_true, ite_false, Nat.not_lt_zero, Nat.zero_le, reduceIte, Nat.reduceEqDiff, Nat.reduceLT, Nat.reduceLeDiff, Nat.reduceAdd, Nat.reduceMul, reduceCtorEq, Nat.zero_ne_one, Nat.one_ne_zero, ix_ge (by decide) ha.2, non_r]
      try rfl
  · rw [if_neg (nI_neg0 (by omega))]
    have hk5 : k ≤ 4 := by omega
    cases hg : g_r G with
    | none =>
      rw [hg] at hr
      have e1 : m_sc σ 31 42 = -1 := hr
      refine OR.eq (h.st 6 hW) ?_
      simp (disch := omega) only [ln_0, ln_1, ln_2, ln_3, ln_4, ln_5, ln_6, ln_7, ln_8, ln_9, ln_10, ln_11, ln_12, ln_13, ln_14, ln_15, ln_16, ln_17, ln_18, ln_19, ln_20, ln_21, ln_22, ln_23, ln_24, ln_25, ln_26, ln_27, ln_28, ln_29, ln_30, ln_31, ln_32, ln_48, ln_57, ln_59, ln_60, ln_61, ln_62, ln_70, ln_72, ln_73, ln_74, ln_88, ln_90, ln_92, ln_97, ln_99, ln_100, ln_119, ln_120, ln_122, ln_255, ln_300, ln_400, ln_490, ln_900, ln_1000, ln_1800, ln_1807, ln_1819, ln_1960, ln_2082, ln_2450, ln_2460, ln_2470, ln_2520, ln_2683, ln_2950, ln_9999, ln_11587, ln_12800, ln_65536, tg_0_4, tg_0_5, tg_0_6, tg_0_9, tg_0_14, tg_0_15, tg_0_16, tg_0_17, tg_4_1, tg_13_0, tg_19_1, tg_20_1, tg_21_1, c_I_s, c_L_s, c_V_s, r_sc_s, r_lg_s, p_sc_s, p_lg_s, p_rf_s, g_ar_n, g_la_n, s_ar_n, s_la_n, g_bl_n, nI_ad, nI_mul, nI_inj, nI_ltn, nI_len, nI_nem1, nI_ltm, ne_eq, not_true_eq_false, not_false_eq_true, ite_true, ite_false, Nat.not_lt_zero, Nat.zero_le, reduceIte, Nat.reduceEqDiff, Nat.reduceLT, Nat.reduceLeDiff, Nat.reduceAdd, Nat.reduceMul, reduceCtorEq, Nat.zero_ne_one, Nat.one_ne_zero, e1, non_r, hk5]
      try rfl
    | some r =>
      rw [hg] at hr
      have h8 := hW.2.2.2.2.2.1 r hg
      have e1 : m_sc σ 31 42 = nI r.1 := hr.1
      refine OR.eq (h.st 0 hW) ?_
      simp (disch := omega) only [ln_0, ln_1, ln_2, ln_3, ln_4, ln_5, ln_6, ln_7, ln_8, ln_9, ln_10, ln_11, ln_12, ln_13, ln_14, ln_15, ln_16, ln_17, ln_18, ln_19, ln_20, ln_21, ln_22, ln_23, ln_24, ln_25, ln_26, ln_27, ln_28, ln_29, ln_30, ln_31, ln_32, ln_48, ln_57, ln_59, ln_60, ln_61, ln_62, ln_70, ln_72, ln_73, ln_74, ln_88, ln_90, ln_92, ln_97, ln_99, ln_100, ln_119, ln_120, ln_122, ln_255, ln_300, ln_400, ln_490, ln_900, ln_1000, ln_1800, ln_1807, ln_1819, ln_1960, ln_2082, ln_2450, ln_2460, ln_2470, ln_2520, ln_2683, ln_2950, ln_9999, ln_11587, ln_12800, ln_65536, tg_0_4, tg_0_5, tg_0_6, tg_0_9, tg_0_14, tg_0_15, tg_0_16, tg_0_17, tg_4_1, tg_13_0, tg_19_1, tg_20_1, tg_21_1, c_I_s, c_L_s, c_V_s, r_sc_s, r_lg_s, p_sc_s, p_lg_s, p_rf_s, g_ar_n, g_la_n, s_ar_n, s_la_n, g_bl_n, nI_ad, nI_mul, nI_inj, nI_ltn, nI_len, nI_nem1, nI_ltm, ne_eq, not_true_eq_false, not_false_eq_true, ite_true, ite_false, Nat.not_lt_zero, Nat.zero_le, reduceIte, Nat.reduceEqDiff, Nat.reduceLT, Nat.reduceLeDiff, Nat.reduceAdd, Nat.reduceMul, reduceCtorEq, Nat.zero_ne_one, Nat.one_ne_zero, e1, ans_r, hk5, hr.2.1 k hk6]
      try rfl
def spM (a : Int32) (G : GS) : Int32 × GS := match ix 8 a with
  | none => (-1, stq 1 G)
  | some k => match g_r G with
    | none => (-1, stq 6 G)
    | some r => if k < r.1 then (r.2.2 k, stq 0 G) else (-1, stq 6 G)
theorem ranTo_c (a : Int32) (hW : WFG G) (h : RepC σ G) : OC (fX11_ranTo 0 a σ) (spM a G) := by
  have hr := h.2.2.2.2.2.1
  unfold fX11_ranTo spM
  rcases ix_cases (n := 8) (by decide) a with ⟨ei, ha⟩ | ⟨k, hk6, rfl, ei⟩ <;> rw [ei]
  · refine OC.eq (h.st 1 hW) ?_
    rcases ha with ha | ha
    · rw [if_pos ha]; rfl
    · rw [if_neg ha.1]
      simp (disch := omega) only [ln_0, ln_1, ln_2, ln_3, ln_4, ln_5, ln_6, ln_7, ln_8, ln_9, ln_10, ln_11, ln_12, ln_13, ln_14, ln_15, ln_16, ln_17, ln_18, ln_19, ln_20, ln_21, ln_22, ln_23, ln_24, ln_25, ln_26, ln_27, ln_28, ln_29, ln_30, ln_31, ln_32, ln_48, ln_57, ln_59, ln_60, ln_61, ln_62, ln_70, ln_72, ln_73, ln_74, ln_88, ln_90, ln_92, ln_97, ln_99, ln_100, ln_119, ln_120, ln_122, ln_255, ln_300, ln_400, ln_490, ln_900, ln_1000, ln_1800, ln_1807, ln_1819, ln_1960, ln_2082, ln_2450, ln_2460, ln_2470, ln_2520, ln_2683, ln_2950, ln_9999, ln_11587, ln_12800, ln_65536, tg_0_4, tg_0_5, tg_0_6, tg_0_9, tg_0_14, tg_0_15, tg_0_16, tg_0_17, tg_4_1, tg_13_0, tg_19_1, tg_20_1, tg_21_1, c_I_s, c_L_s, c_V_s, r_sc_s, r_lg_s, p_sc_s, p_lg_s, p_rf_s, g_ar_n, g_la_n, s_ar_n, s_la_n, g_bl_n, nI_ad, nI_mul, nI_inj, nI_ltn, nI_len, nI_nem1, nI_ltm, ne_eq, not_true_eq_false, not_false_eq_true, ite_true, ite_false, Nat.not_lt_zero, Nat.zero_le, reduceIte, Nat.reduceEqDiff, Nat.reduceLT, Nat.reduceLeDiff, Nat.reduceAdd, Nat.reduceMul, reduceCtorEq, Nat.zero_ne_one, Nat.one_ne_zero, ix_nl ha.2, non_c]
      try rfl
  · rw [if_neg (nI_neg0 (by omega))]
    cases hg : g_r G with
    | none =>
      rw [hg] at hr
      have e1 : m_sc σ 13 11 = nI 0 := hr.2
      refine OC.eq (h.st 6 hW) ?_
      simp (disch := omega) only [ln_0, ln_1, ln_2, ln_3, ln_4, ln_5, ln_6, ln_7, ln_8, ln_9, ln_10, ln_11, ln_12, ln_13, ln_14, ln_15, ln_16, ln_17, ln_18, ln_19, ln_20, ln_21, ln_22, ln_23, ln_24, ln_25, ln_26, ln_27, ln_28, ln_29, ln_30, ln_31, ln_32, ln_48, ln_57, ln_59, ln_60, ln_61, ln_62, ln_70, ln_72, ln_73, ln_74, ln_88, ln_90, ln_92, ln_97, ln_99, ln_100, ln_119, ln_120, ln_122, ln_255, ln_300, ln_400, ln_490, ln_900, ln_1000, ln_1800, ln_1807, ln_1819, ln_1960, ln_2082, ln_2450, ln_2460, ln_2470, ln_2520, ln_2683, ln_2950, ln_9999, ln_11587, ln_12800, ln_65536, tg_0_4, tg_0_5, tg_0_6, tg_0_9, tg_0_14, tg_0_15, tg_0_16, tg_0_17, tg_4_1, tg_13_0, tg_19_1, tg_20_1, tg_21_1, c_I_s, c_L_s, c_V_s, r_sc_s, r_lg_s, p_sc_s, p_lg_s, p_rf_s, g_ar_n, g_la_n, s_ar_n, s_la_n, g_bl_n, nI_ad, nI_mul, nI_inj, nI_ltn, nI_len, nI_nem1, nI_ltm, ne_eq, not_true_eq_false, not_false_eq_true, ite_true, ite_false, Nat.not_lt_zero, Nat.zero_le, reduceIte, Nat.reduceEqDiff, Nat.reduceLT, Nat.reduceLeDiff, Nat.reduceAdd, Nat.reduceMul, reduceCtorEq, Nat.zero_ne_one, Nat.one_ne_zero, e1, non_c, hk6]
      try rfl
    | some r =>
      rw [hg] at hr
      have h8 := hW.2.2.2.2.2.1 r hg
      have e1 : m_sc σ 13 11 = nI r.1 := hr.2.1
      dsimp only
      by_cases hq : k < r.1
      · refine OC.eq (τ := w_sc σ 0 0 0) ?_ ?_
        · rw [if_pos hq]; exact h.st 0 hW
        · have hq2 : ¬ r.1 ≤ k := by omega
          simp (disch := omega) only [ln_0, ln_1, ln_2, ln_3, ln_4, ln_5, ln_6, ln_7, ln_8, ln_9, ln_10, ln_11, ln_12, ln_13, ln_14, ln_15, ln_16, ln_17, ln_18, ln_19, ln_20, ln_21, ln_22, ln_23, ln_24, ln_25, ln_26, ln_27, ln_28, ln_29, ln_30, ln_31, ln_32, ln_48, ln_57, ln_59, ln_60, ln_61, ln_62, ln_70, ln_72, ln_73, ln_74, ln_88, ln_90, ln_92, ln_97, ln_99, ln_100, ln_119, ln_120, ln_122, ln_255, ln_300, ln_400, ln_490, ln_900, ln_1000, ln_1800, ln_1807, ln_1819, ln_1960, ln_2082, ln_2450, ln_2460, ln_2470, ln_2520, ln_2683, ln_2950, ln_9999, ln_11587, ln_12800, ln_65536, tg_0_4, tg_0_5, tg_0_6, tg_0_9, tg_0_14, tg_0_15, tg_0_16, tg_0_17, tg_4_1, tg_13_0, tg_19_1, tg_20_1, tg_21_1, c_I_s, c_L_s, c_V_s, r_sc_s, r_lg_s, p_sc_s, p_lg_s, p_rf_s, g_ar_n, g_la_n, s_ar_n, s_la_n, g_bl_n, nI_ad, nI_mul, nI_inj, nI_ltn, nI_len, nI_nem1, nI_ltm, ne_eq, not_true_eq_false, not_false_eq_true, ite_true, ite_false, Nat.not_lt_zero, Nat.zero_le, reduceIte, Nat.reduceEqDiff, Nat.reduceLT, Nat.reduceLeDiff, Nat.reduceAdd, Nat.reduceMul, reduceCtorEq, Nat.zero_ne_one, Nat.one_ne_zero, e1, ans_c, hk6, hr.2.2.2 k hq, hq, hq2]
          try rfl
      · refine OC.eq (τ := w_sc σ 0 0 6) ?_ ?_
        · rw [if_neg hq]; exact h.st 6 hW
        · have hq2 : r.1 ≤ k := by omega
          simp (disch := omega) only [ln_0, ln_1, ln_2, ln_3, ln_4, ln_5, ln_6, ln_7, ln_8, ln_9, ln_10, ln_11, ln_12, ln_13, ln_14, ln_15, ln_16, ln_17, ln_18, ln_19, ln_20, ln_21, ln_22, ln_23, ln_24, ln_25, ln_26, ln_27, ln_28, ln_29, ln_30, ln_31, ln_32, ln_48, ln_57, ln_59, ln_60, ln_61, ln_62, ln_70, ln_72, ln_73, ln_74, ln_88, ln_90, ln_92, ln_97, ln_99, ln_100, ln_119, ln_120, ln_122, ln_255, ln_300, ln_400, ln_490, ln_900, ln_1000, ln_1800, ln_1807, ln_1819, ln_1960, ln_2082, ln_2450, ln_2460, ln_2470, ln_2520, ln_2683, ln_2950, ln_9999, ln_11587, ln_12800, ln_65536, tg_0_4, tg_0_5, tg_0_6, tg_0_9, tg_0_14, tg_0_15, tg_0_16, tg_0_17, tg_4_1, tg_13_0, tg_19_1, tg_20_1, tg_21_1, c_I_s, c_L_s, c_V_s, r_sc_s, r_lg_s, p_sc_s, p_lg_s, p_rf_s, g_ar_n, g_la_n, s_ar_n, s_la_n, g_bl_n, nI_ad, nI_mul, nI_inj, nI_ltn, nI_len, nI_nem1, nI_ltm, ne_eq, not_true_eq_false, not_false_eq_true, ite_true, ite_false, Nat.not_lt_zero, Nat.zero_le, reduceIte, Nat.reduceEqDiff, Nat.reduceLT, Nat.reduceLeDiff, Nat.reduceAdd, Nat.reduceMul, reduceCtorEq, Nat.zero_ne_one, Nat.one_ne_zero, e1, non_c, hk6, hq, hq2]
          try rfl
theorem ranTo_r (a : Int32) (hW : WFG G) (h : RepR σ G) : OR (fX12_ranTo 31 a σ) (spM a G) := by
  have hr := h.2.2.2.2.2.1
  unfold fX12_ranTo spM
  rcases ix_cases (n := 8) (by decide) a with ⟨ei, ha⟩ | ⟨k, hk6, rfl, ei⟩ <;> rw [ei]
  · refine OR.eq (h.st 1 hW) ?_
    rcases ha with ha | ha
    · rw [if_pos ha]; rfl
    · rw [if_neg ha.1]
      simp (disch := omega) only [ln_0, ln_1, ln_2, ln_3, ln_4, ln_5, ln_6, ln_7, ln_8, ln_9, ln_10, ln_11, ln_12, ln_13, ln_14, ln_15, ln_16, ln_17, ln_18, ln_19, ln_20, ln_21, ln_22, ln_23, ln_24, ln_25, ln_26, ln_27, ln_28, ln_29, ln_30, ln_31, ln_32, ln_48, ln_57, ln_59, ln_60, ln_61, ln_62, ln_70, ln_72, ln_73, ln_74, ln_88, ln_90, ln_92, ln_97, ln_99, ln_100, ln_119, ln_120, ln_122, ln_255, ln_300, ln_400, ln_490, ln_900, ln_1000, ln_1800, ln_1807, ln_1819, ln_1960, ln_2082, ln_2450, ln_2460, ln_2470, ln_2520, ln_2683, ln_2950, ln_9999, ln_11587, ln_12800, ln_65536, tg_0_4, tg_0_5, tg_0_6, tg_0_9, tg_0_14, tg_0_15, tg_0_16, tg_0_17, tg_4_1, tg_13_0, tg_19_1, tg_20_1, tg_21_1, c_I_s, c_L_s, c_V_s, r_sc_s, r_lg_s, p_sc_s, p_lg_s, p_rf_s, g_ar_n, g_la_n, s_ar_n, s_la_n, g_bl_n, nI_ad, nI_mul, nI_inj, nI_ltn, nI_len, nI_nem1, nI_ltm, ne_eq, not_true_eq_false, not_false_eq_true, ite_true, ite_false, Nat.not_lt_zero, Nat.zero_le, reduceIte, Nat.reduceEqDiff, Nat.reduceLT, Nat.reduceLeDiff, Nat.reduceAdd, Nat.reduceMul, reduceCtorEq, Nat.zero_ne_one, Nat.one_ne_zero, ix_nl ha.2, non_r]
      try rfl
  · rw [if_neg (nI_neg0 (by omega))]
    cases hg : g_r G with
    | none =>
      rw [hg] at hr
      have e1 : m_sc σ 31 42 = -1 := hr
      refine OR.eq (h.st 6 hW) ?_
      simp (disch := omega) only [ln_0, ln_1, ln_2, ln_3, ln_4, ln_5, ln_6, ln_7, ln_8, ln_9, ln_10, ln_11, ln_12, ln_13, ln_14, ln_15, ln_16, ln_17, ln_18, ln_19, ln_20, ln_21, ln_22, ln_23, ln_24, ln_25, ln_26, ln_27, ln_28, ln_29, ln_30, ln_31, ln_32, ln_48, ln_57, ln_59, ln_60, ln_61, ln_62, ln_70, ln_72, ln_73, ln_74, ln_88, ln_90, ln_92, ln_97, ln_99, ln_100, ln_119, ln_120, ln_122, ln_255, ln_300, ln_400, ln_490, ln_900, ln_1000, ln_1800, ln_1807, ln_1819, ln_1960, ln_2082, ln_2450, ln_2460, ln_2470, ln_2520, ln_2683, ln_2950, ln_9999, ln_11587, ln_12800, ln_65536, tg_0_4, tg_0_5, tg_0_6, tg_0_9, tg_0_14, tg_0_15, tg_0_16, tg_0_17, tg_4_1, tg_13_0, tg_19_1, tg_20_1, tg_21_1, c_I_s, c_L_s, c_V_s, r_sc_s, r_lg_s, p_sc_s, p_lg_s, p_rf_s, g_ar_n, g_la_n, s_ar_n, s_la_n, g_bl_n, nI_ad, nI_mul, nI_inj, nI_ltn, nI_len, nI_nem1, nI_ltm, ne_eq, not_true_eq_false, not_false_eq_true, ite_true, ite_false, Nat.not_lt_zero, Nat.zero_le, reduceIte, Nat.reduceEqDiff, Nat.reduceLT, Nat.reduceLeDiff, Nat.reduceAdd, Nat.reduceMul, reduceCtorEq, Nat.zero_ne_one, Nat.one_ne_zero, e1, non_r, hk6]
      try rfl
    | some r =>
      rw [hg] at hr
      have h8 := hW.2.2.2.2.2.1 r hg
      have e1 : m_sc σ 31 42 = nI r.1 := hr.1
      dsimp only
      by_cases hq : k < r.1
      · refine OR.eq (τ := w_sc σ 31 2 0) ?_ ?_
        · rw [if_pos hq]; exact h.st 0 hW
        · simp (disch := omega) only [ln_0, ln_1, ln_2, ln_3, ln_4, ln_5, ln_6, ln_7, ln_8, ln_9, ln_10, ln_11, ln_12, ln_13, ln_14, ln_15, ln_16, ln_17, ln_18, ln_19, ln_20, ln_21, ln_22, ln_23, ln_24, ln_25, ln_26, ln_27, ln_28, ln_29, ln_30, ln_31, ln_32, ln_48, ln_57, ln_59, ln_60, ln_61, ln_62, ln_70, ln_72, ln_73, ln_74, ln_88, ln_90, ln_92, ln_97, ln_99, ln_100, ln_119, ln_120, ln_122, ln_255, ln_300, ln_400, ln_490, ln_900, ln_1000, ln_1800, ln_1807, ln_1819, ln_1960, ln_2082, ln_2450, ln_2460, ln_2470, ln_2520, ln_2683, ln_2950, ln_9999, ln_11587, ln_12800, ln_65536, tg_0_4, tg_0_5, tg_0_6, tg_0_9, tg_0_14, tg_0_15, tg_0_16, tg_0_17, tg_4_1, tg_13_0, tg_19_1, tg_20_1, tg_21_1, c_I_s, c_L_s, c_V_s, r_sc_s, r_lg_s, p_sc_s, p_lg_s, p_rf_s, g_ar_n, g_la_n, s_ar_n, s_la_n, g_bl_n, nI_ad, nI_mul, nI_inj, nI_ltn, nI_len, nI_nem1, nI_ltm, ne_eq, not_true_eq_false, not_false_eq_true, ite_true, ite_false, Nat.not_lt_zero, Nat.zero_le, reduceIte, Nat.reduceEqDiff, Nat.reduceLT, Nat.reduceLeDiff, Nat.reduceAdd, Nat.reduceMul, reduceCtorEq, Nat.zero_ne_one, Nat.one_ne_zero, e1, ans_r, hk6, hr.2.2 k hq, hq]
          try rfl
      · refine OR.eq (τ := w_sc σ 31 2 6) ?_ ?_
        · rw [if_neg hq]; exact h.st 6 hW
        · simp (disch := omega) only [ln_0, ln_1, ln_2, ln_3, ln_4, ln_5, ln_6, ln_7, ln_8, ln_9, ln_10, ln_11, ln_12, ln_13, ln_14, ln_15, ln_16, ln_17, ln_18, ln_19, ln_20, ln_21, ln_22, ln_23, ln_24, ln_25, ln_26, ln_27, ln_28, ln_29, ln_30, ln_31, ln_32, ln_48, ln_57, ln_59, ln_60, ln_61, ln_62, ln_70, ln_72, ln_73, ln_74, ln_88, ln_90, ln_92, ln_97, ln_99, ln_100, ln_119, ln_120, ln_122, ln_255, ln_300, ln_400, ln_490, ln_900, ln_1000, ln_1800, ln_1807, ln_1819, ln_1960, ln_2082, ln_2450, ln_2460, ln_2470, ln_2520, ln_2683, ln_2950, ln_9999, ln_11587, ln_12800, ln_65536, tg_0_4, tg_0_5, tg_0_6, tg_0_9, tg_0_14, tg_0_15, tg_0_16, tg_0_17, tg_4_1, tg_13_0, tg_19_1, tg_20_1, tg_21_1, c_I_s, c_L_s, c_V_s, r_sc_s, r_lg_s, p_sc_s, p_lg_s, p_rf_s, g_ar_n, g_la_n, s_ar_n, s_la_n, g_bl_n, nI_ad, nI_mul, nI_inj, nI_ltn, nI_len, nI_nem1, nI_ltm, ne_eq, not_true_eq_false, not_false_eq_true, ite_true, ite_false, Nat.not_lt_zero, Nat.zero_le, reduceIte, Nat.reduceEqDiff, Nat.reduceLT, Nat.reduceLeDiff, Nat.reduceAdd, Nat.reduceMul, reduceCtorEq, Nat.zero_ne_one, Nat.one_ne_zero, e1, non_r, hk6, hq]
          try rfl
theorem ran_s (a : Int32) (σ : Mm) (h : Rel σ) : ok (fX11_ran 0 a σ) (fun q => ok (fX12_ran 31 a q.2) (fun q' => q'.1 = q.1 ∧ Rel q'.2)) :=
  simS (fc := fX11_ran 0 a) (fr := fX12_ran 31 a) (ks := [11]) (by decide) (spN a) (fun σ G => ran_c a) (fun σ G => ran_r a) (fun G hW => by unfold spN; repeat (first | exact hW | split)) (fun σ x τ e => F_sub (frX11_ran 0 a (by decide) σ e) (by decide)) (fun σ x τ e => F_sub (frX12_ran 31 a (by decide) σ e) (by decide)) σ h
theorem ranTo_s (a : Int32) (σ : Mm) (h : Rel σ) : ok (fX11_ranTo 0 a σ) (fun q => ok (fX12_ranTo 31 a q.2) (fun q' => q'.1 = q.1 ∧ Rel q'.2)) :=
  simS (fc := fX11_ranTo 0 a) (fr := fX12_ranTo 31 a) (ks := [11]) (by decide) (spM a) (fun σ G => ranTo_c a) (fun σ G => ranTo_r a) (fun G hW => by unfold spM; repeat (first | exact hW | split)) (fun σ x τ e => F_sub (frX11_ranTo 0 a (by decide) σ e) (by decide)) (fun σ x τ e => F_sub (frX12_ranTo 31 a (by decide) σ e) (by decide)) σ h
end O
