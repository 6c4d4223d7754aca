/-! PURE 12: copies of plans, states, orders -/
section O
variable {σ τ : Mm} {G : GS}
theorem a_ci_s {α : Type} {o j o' j' n n0 n1 : Nat} {K : Mm → Option α} (h : n < 2147483648) (h0 : n ≤ n0) (h1 : n ≤ n1) : a_ci σ o j n0 (nI 0) o' j' n1 (nI 0) (nI n) K = K (w_af σ o' j' (va_cpy (m_ar σ o j) (m_ar σ o' j') 0 0 n)) := by
  unfold a_ci y_ac
  rw [nI_cl h, nI_cl (by decide), if_neg]
  intro z; rcases z with z | z | z | z | z <;> first | exact nI_neg0 (by omega) z | omega
theorem a_cl_s {α : Type} {o j o' j' n n0 n1 : Nat} {K : Mm → Option α} (h : n < 2147483648) (h0 : n ≤ n0) (h1 : n ≤ n1) : a_cl σ o j n0 (nI 0) o' j' n1 (nI 0) (nI n) K = K (w_lf σ o' j' (va_cpy (m_la σ o j) (m_la σ o' j') 0 0 n)) := by
  unfold a_cl y_ac
  rw [nI_cl h, nI_cl (by decide), if_neg]
  intro z; rcases z with z | z | z | z | z <;> first | exact nI_neg0 (by omega) z | omega
theorem cpy0 {α : Type} {f g : Nat → α} {n k : Nat} (h : k < n) : va_cpy f g 0 0 n k = f k := by
  unfold va_cpy
  rw [if_pos (by omega)]; congr 1; omega
theorem BU.afs {q o j : Nat} {g : Nat → Int32} (h : q ≠ o) (h2 : BU q σ τ) : BU q σ (w_af τ o j g) := h2.tr (BU.af h)
theorem BU.lfs {q o j : Nat} {g : Nat → Int64} (h : q ≠ o) (h2 : BU q σ τ) : BU q σ (w_lf τ o j g) := h2.tr (BU.lf h)
theorem BU.scs {q o k : Nat} {v : Int32} (h : q ≠ o) (h2 : BU q σ τ) : BU q σ (w_sc τ o k v) := h2.tr (BU.sc h)
theorem cp4 {o a : Nat} (hne : a ≠ o) (σ : Mm) : ∃ τ, fX4_copyFrom o a σ = some τ ∧ (∀ q, q ≠ o → BU q σ τ) ∧ (∀ k, k < 4 → m_ar τ o 0 k = m_ar σ a 0 k ∧ m_ar τ o 1 k = m_ar σ a 1 k) ∧ (∀ k, k < 8 → m_ar τ o 2 k = m_ar σ a 2 k ∧ m_ar τ o 3 k = m_ar σ a 3 k ∧ m_ar τ o 4 k = m_ar σ a 4 k) ∧ (∀ k, k < 10 → m_ar τ o 5 k = m_ar σ a 5 k) ∧ m_sc τ o 6 = m_sc σ a 6 ∧ m_sc τ o 7 = m_sc σ a 7 ∧ m_sc τ o 8 = m_sc σ a 8 := by
  unfold fX4_copyFrom
  simp (disch := omega) only [ln_0, ln_1, ln_2, ln_3, ln_4, ln_5, ln_6, ln_7, ln_8, ln_9, ln_10, ln_11, ln_12, ln_13, ln_14, ln_15, ln_16, ln_17, ln_18, ln_19, ln_20, ln_21, ln_22, ln_23, ln_24, ln_25, ln_26, ln_27, ln_28, ln_29, ln_30, ln_31, ln_32, ln_48, ln_57, ln_59, ln_60, ln_61, ln_62, ln_70, ln_72, ln_73, ln_74, ln_88, ln_90, ln_92, ln_97, ln_99, ln_100, ln_119, ln_120, ln_122, ln_255, ln_300, ln_400, ln_490, ln_900, ln_1000, ln_1800, ln_1807, ln_1819, ln_1960, ln_2082, ln_2450, ln_2460, ln_2470, ln_2520, ln_2683, ln_2950, ln_9999, ln_11587, ln_12800, ln_65536, tg_0_4, tg_0_5, tg_0_6, tg_0_9, tg_0_14, tg_0_15, tg_0_16, tg_0_17, tg_4_1, tg_13_0, tg_19_1, tg_20_1, tg_21_1, c_I_s, c_L_s, c_V_s, r_sc_s, r_lg_s, p_sc_s, p_lg_s, p_rf_s, g_ar_n, g_la_n, s_ar_n, s_la_n, g_bl_n, nI_ad, nI_mul, nI_inj, nI_ltn, nI_len, nI_nem1, nI_ltm, ne_eq, not_true_eq_false, not_false_eq_true, ite_true, ite_false, Nat.not_lt_zero, Nat.zero_le, reduceIte, Nat.reduceEqDiff, Nat.reduceLT, Nat.reduceLeDiff, Nat.reduceAdd, Nat.reduceMul, reduceCtorEq, Nat.zero_ne_one, Nat.one_ne_zero, a_ci_s, a_cl_s, Nat.le_refl]
  refine ⟨_, rfl, fun q hq => ?_, ?_, ?_, ?_, ?_, ?_, ?_⟩
  · repeat (first | exact BU.rf | refine BU.scs hq ?_ | refine BU.afs hq ?_)
  · intro k hk
    simp [m_ar_sc, m_ar_af, cpy0 hk, hne]
  · intro k hk
    simp [m_ar_sc, m_ar_af, cpy0 hk, hne]
  · intro k hk
    simp [m_ar_sc, m_ar_af, cpy0 hk, hne]
  · simp [m_sc_sc, m_sc_af, hne]
  · simp [m_sc_sc, m_sc_af, hne]
  · simp [m_sc_sc, m_sc_af, hne]
theorem StC.cp {o a : Nat} (hne : a ≠ o) {D : PD} {V : SD} (hD : WFD D) (h : StC σ a D V) : ∃ τ, fX4_copyFrom o a σ = some τ ∧ (∀ q, q ≠ o → BU q σ τ) ∧ StC τ o D V := by
  obtain ⟨τ, e, hB, h1, h2, h3, h4, h5, h6⟩ := cp4 hne σ
  obtain ⟨g1, g2, g3, g4, g5, g6⟩ := h
  have hd := hD.1
  refine ⟨τ, e, hB, fun q hq => ?_, fun v hv => ?_, fun k hk => ?_, h4.trans g4, h5.trans g5, h6.trans g6⟩
  · rw [(h1 q hq).1, (h1 q hq).2]; exact g1 q hq
  · have h2 := h2 v (by omega)
    rw [h2.1, h2.2.1, h2.2.2]; exact g2 v hv
  · rw [h3 k (by omega)]; exact g3 k hk
theorem PlC.cp {o a : Nat} (hne : a ≠ o) {D : PD} (hD : WFD D) (h : PlC σ a D) : ∃ τ, fX2_copyFrom o a σ = some τ ∧ (∀ q, q ≠ o → BU q σ τ) ∧ PlC τ o D := by
  unfold fX2_copyFrom
  simp (disch := omega) only [ln_0, ln_1, ln_2, ln_3, ln_4, ln_5, ln_6, ln_7, ln_8, ln_9, ln_10, ln_11, ln_12, ln_13, ln_14, ln_15, ln_16, ln_17, ln_18, ln_19, ln_20, ln_21, ln_22, ln_23, ln_24, ln_25, ln_26, ln_27, ln_28, ln_29, ln_30, ln_31, ln_32, ln_48, ln_57, ln_59, ln_60, ln_61, ln_62, ln_70, ln_72, ln_73, ln_74, ln_88, ln_90, ln_92, ln_97, ln_99, ln_100, ln_119, ln_120, ln_122, ln_255, ln_300, ln_400, ln_490, ln_900, ln_1000, ln_1800, ln_1807, ln_1819, ln_1960, ln_2082, ln_2450, ln_2460, ln_2470, ln_2520, ln_2683, ln_2950, ln_9999, ln_11587, ln_12800, ln_65536, tg_0_4, tg_0_5, tg_0_6, tg_0_9, tg_0_14, tg_0_15, tg_0_16, tg_0_17, tg_4_1, tg_13_0, tg_19_1, tg_20_1, tg_21_1, c_I_s, c_L_s, c_V_s, r_sc_s, r_lg_s, p_sc_s, p_lg_s, p_rf_s, g_ar_n, g_la_n, s_ar_n, s_la_n, g_bl_n, nI_ad, nI_mul, nI_inj, nI_ltn, nI_len, nI_nem1, nI_ltm, ne_eq, not_true_eq_false, not_false_eq_true, ite_true, ite_false, Nat.not_lt_zero, Nat.zero_le, reduceIte, Nat.reduceEqDiff, Nat.reduceLT, Nat.reduceLeDiff, Nat.reduceAdd, Nat.reduceMul, reduceCtorEq, Nat.zero_ne_one, Nat.one_ne_zero, a_ci_s, a_cl_s, Nat.le_refl]
  obtain ⟨⟨a1, a2, a3⟩, b, c, d, e, f⟩ := h
  have hd := hD.1
  refine ⟨_, rfl, fun q hq => ?_, ⟨?_, ?_, ?_⟩, fun v hv => ?_, fun v hv => ?_, fun v hv => ?_, fun v hv => ?_, fun v hv => ?_⟩
  · repeat (first | exact BU.rf | refine BU.scs hq ?_ | refine BU.afs hq ?_ | refine BU.lfs hq ?_)
  · simp [m_sc_sc, m_sc_af, m_sc_lf, hne]; exact a1
  · simp [m_sc_sc, m_sc_af, m_sc_lf, hne]; exact a2
  · simp [m_sc_sc, m_sc_af, m_sc_lf, hne]; exact a3
  · have hk : v < 8 := by omega
    simp only [m_ar_sc, m_ar_af, m_ar_lf, cpy0 hk, hne, true_and, false_and, if_true, if_false, if_pos, Nat.reduceEqDiff]; exact b v hv
  · have hk : v < 10 := by omega
    simp only [m_ar_sc, m_ar_af, m_ar_lf, cpy0 hk, hne, true_and, false_and, if_true, if_false, if_pos, Nat.reduceEqDiff]; exact c v hv
  · have hk : v < 4 := by omega
    simp [m_la_sc, m_la_af, m_la_lf, cpy0 hk, hne]; exact d v hv
  · have hk : v < 8 := by omega
    simp [m_la_sc, m_la_af, m_la_lf, cpy0 hk, hne]; exact e v hv
  · have hk : v < 10 := by omega
    simp [m_la_sc, m_la_af, m_la_lf, cpy0 hk, hne]; exact f v hv
theorem p_bz_s {α : Type} {o k : Nat} {v : Int32} {K : Mm → Option α} (hv : v = 0 ∨ v = 1) : p_bz σ o k v K = K (w_sc σ o k v) := by
  unfold p_bz; rw [if_pos hv]
theorem OrC.cp {o a : Nat} (hne : a ≠ o) {D : PD} {O : OD} (hO : WFO D O) (h : OrC σ a O) : ∃ τ, fX5_copyFrom o a σ = some τ ∧ (∀ q, q ≠ o → BU q σ τ) ∧ OrC τ o O := by
  have h01 : m_sc σ a 0 = 0 ∨ m_sc σ a 0 = 1 := by
    rw [h.1]; split
    · exact Or.inr rfl
    · exact Or.inl rfl
  unfold fX5_copyFrom
  rw [r_sc_s, p_bz_s h01]
  simp (disch := omega) only [ln_0, ln_1, ln_2, ln_3, ln_4, ln_5, ln_6, ln_7, ln_8, ln_9, ln_10, ln_11, ln_12, ln_13, ln_14, ln_15, ln_16, ln_17, ln_18, ln_19, ln_20, ln_21, ln_22, ln_23, ln_24, ln_25, ln_26, ln_27, ln_28, ln_29, ln_30, ln_31, ln_32, ln_48, ln_57, ln_59, ln_60, ln_61, ln_62, ln_70, ln_72, ln_73, ln_74, ln_88, ln_90, ln_92, ln_97, ln_99, ln_100, ln_119, ln_120, ln_122, ln_255, ln_300, ln_400, ln_490, ln_900, ln_1000, ln_1800, ln_1807, ln_1819, ln_1960, ln_2082, ln_2450, ln_2460, ln_2470, ln_2520, ln_2683, ln_2950, ln_9999, ln_11587, ln_12800, ln_65536, tg_0_4, tg_0_5, tg_0_6, tg_0_9, tg_0_14, tg_0_15, tg_0_16, tg_0_17, tg_4_1, tg_13_0, tg_19_1, tg_20_1, tg_21_1, c_I_s, c_L_s, c_V_s, r_sc_s, r_lg_s, p_sc_s, p_lg_s, p_rf_s, g_ar_n, g_la_n, s_ar_n, s_la_n, g_bl_n, nI_ad, nI_mul, nI_inj, nI_ltn, nI_len, nI_nem1, nI_ltm, ne_eq, not_true_eq_false, not_false_eq_true, ite_true, ite_false, Nat.not_lt_zero, Nat.zero_le, reduceIte, Nat.reduceEqDiff, Nat.reduceLT, Nat.reduceLeDiff, Nat.reduceAdd, Nat.reduceMul, reduceCtorEq, Nat.zero_ne_one, Nat.one_ne_zero, a_ci_s, a_cl_s, Nat.le_refl]
  refine ⟨_, rfl, fun q hq => ?_, ?_, fun hg => ?_⟩
  · repeat (first | exact BU.rf | refine BU.scs hq ?_ | refine BU.afs hq ?_ | refine BU.lfs hq ?_)
  · simp [m_sc_sc, m_sc_af, m_sc_lf, hne]; exact h.1
  · obtain ⟨h1, h2, h3⟩ := h.2 hg
    have hr6 := (hO hg).2.1
    refine ⟨?_, ?_, fun r hr => ?_⟩
    · simp [m_sc_sc, m_sc_af, m_sc_lf, hne]; exact h1
    · simp [m_sc_sc, m_sc_af, m_sc_lf, hne]; exact h2
    · have hk : r < 60 := by omega
      simp only [m_ar_sc, m_ar_af, m_ar_lf, cpy0 hk, hne, true_and, false_and, if_true, if_false, if_pos, Nat.reduceEqDiff]
      exact h3 r hr
theorem TwC.cp {o a p p' g g' s s' : Nat} {T : TW} (hT : WFT T) (e1 : m_rf σ o 0 = some p') (e2 : m_rf σ o 2 = some g') (e3 : m_rf σ a 0 = some p) (e4 : m_rf σ a 2 = some g) (t1 : tg o 1 = s') (t2 : tg a 1 = s) (k1 : KD p = 2) (k2 : KD p' = 2) (k3 : KD g = 5) (k4 : KD g' = 5) (k5 : KD s = 4) (k6 : KD s' = 4) (k7 : KD o = 7) (k8 : KD a = 7) (n1 : p ≠ p') (n2 : g ≠ g') (n3 : s ≠ s') (h : TwC σ p s g T) : ∃ τ, fX7_copyFrom o a σ = some τ ∧ (∀ q, q ≠ p' → q ≠ s' → q ≠ g' → BU q σ τ) ∧ TwC τ p' s' g' T := by
  have nk : ∀ {x y : Nat}, KD x ≠ KD y → x ≠ y := fun h e => h (by rw [e])
  unfold fX7_copyFrom
  obtain ⟨τ1, f1, b1, r1⟩ := h.1.cp n1 hT.1
  rw [r_rf_e e1 k2, r_rf_e e3 k1, f1, c_V_s, t1, t2]
  obtain ⟨τ2, f2, b2, r2⟩ := (h.2.1.bu (b1 s (nk (by rw [k5, k2]; decide)))).cp n3 hT.1
  have w := fun (q : Nat) (hq : KD q = 7) => (b1 q (nk (by rw [hq, k2]; decide))).tr (b2 q (nk (by rw [hq, k6]; decide)))
  rw [f2, c_V_s, r_rf_e (((w o k7).2.2.2.2 2).trans e2) k4, r_rf_e (((w a k8).2.2.2.2 2).trans e4) k3]
  obtain ⟨τ3, f3, b3, r3⟩ := (h.2.2.bu ((b1 g (nk (by rw [k3, k2]; decide))).tr (b2 g (nk (by rw [k3, k6]; decide))))).cp n2 hT.2.2
  rw [f3, c_V_s]
  refine ⟨τ3, rfl, fun q h1 h2 h3 => ((b1 q h1).tr (b2 q h2)).tr (b3 q h3), r1.bu ?_, r2.bu ?_, r3⟩
  · exact (b2 p' (nk (by rw [k2, k6]; decide))).tr (b3 p' (nk (by rw [k2, k4]; decide)))
  · exact b3 s' (nk (by rw [k6, k4]; decide))
end O
