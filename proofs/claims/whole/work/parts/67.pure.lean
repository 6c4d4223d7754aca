/-! PURE 8: wind, lift, hold -/
section O
variable {σ τ : Mm} {G : GS}
def vW (V : SD) (p d s : Nat) : SD := ((fun q => if q = p then d else v_fr V q, fun q => if q = p then s else v_sg V q), V.2)
def spW (a b c : Int32) (G : GS) : Int32 × GS := match ix (d_p (GD G)) a, ix 16 b, ix 100 c with
  | some p, some d, some s => (1, suV (0, g_t G, g_b G) (vW (GV G) p d s) G)
  | _, _, _ => (0, stq 1 G)
theorem bz_0 (σ : Mm) : b_z 0 σ = some (0, σ) := rfl
theorem bz_1 (σ : Mm) : b_z 1 σ = some (1, σ) := rfl
theorem wind_c (a b c : Int32) (hW : WFG G) (h : RepC σ G) : OC (fX11_wind 0 a b c σ) (spW a b c G) := by
  have hv := h.sv
  have hd := hW.d.1
  unfold fX11_wind spW
  rcases ix_cases (n := d_p (GD G)) (by omega) a with ⟨ei, ha⟩ | ⟨v, hv6, rfl, ei⟩ <;> rw [ei]
  · rw [isPlace_c0 hW h ha]
    exact OC.rfs hW h _
  · rw [isPlace_c1 hW h hv6, c_I_s, if_neg (by decide)]
    rcases ix_cases (n := 16) (by decide) b with ⟨ej, hb⟩ | ⟨d, hd6, rfl, ej⟩ <;> rw [ej]
    · refine OC.eq (h.st 1 hW) ?_
      rcases hb with hb | hb
      · rw [if_pos hb]; rfl
      · rw [if_neg hb.1]
        simp (disch := omega) only [ln_0, ln_1, ln_2, ln_3, ln_4, ln_5, ln_6, ln_7, ln_8, ln_9, ln_10, ln_11, ln_12, ln_13, ln_14, ln_15, ln_16, ln_17, ln_18, ln_19, ln_20, ln_21, ln_22, ln_23, ln_24, ln_25, ln_26, ln_27, ln_28, ln_29, ln_30, ln_31, ln_32, ln_48, ln_57, ln_59, ln_60, ln_61, ln_62, ln_70, ln_72, ln_73, ln_74, ln_88, ln_90, ln_92, ln_97, ln_99, ln_100, ln_119, ln_120, ln_122, ln_255, ln_300, ln_400, ln_490, ln_900, ln_1000, ln_1800, ln_1807, ln_1819, ln_1960, ln_2082, ln_2450, ln_2460, ln_2470, ln_2520, ln_2683, ln_2950, ln_9999, ln_11587, ln_12800, ln_65536, tg_0_4, tg_0_5, tg_0_6, tg_0_9, tg_0_14, tg_0_15, tg_0_16, tg_0_17, tg_4_1, tg_13_0, tg_19_1, tg_20_1, tg_21_1, c_I_s, c_L_s, c_V_s, r_sc_s, r_lg_s, p_sc_s, p_lg_s, p_rf_s, g_ar_n, g_la_n, s_ar_n, s_la_n, g_bl_n, nI_ad, nI_mul, nI_inj, nI_ltn, nI_len, nI_nem1, nI_ltm, ne_eq, not_true_eq_false, not_false_eq_true, ite_true, ite_false, Nat.not_lt_zero, Nat.zero_le, reduceIte, Nat.reduceEqDiff, Nat.reduceLT, Nat.reduceLeDiff, Nat.reduceAdd, Nat.reduceMul, reduceCtorEq, Nat.zero_ne_one, Nat.one_ne_zero, ix_nl hb.2, rfs_c, bz_0]
        try rfl
    · rw [if_neg (nI_neg0 (by omega)), if_pos (show nI d < 16 from (nI_ltn (b := 16) (by omega) (by omega)).mpr hd6)]
      rcases ix_cases (n := 100) (by decide) c with ⟨ek, hc⟩ | ⟨s, hs6, rfl, ek⟩ <;> rw [ek]
      · refine OC.eq (h.st 1 hW) ?_
        rcases hc with hc | hc
        · rw [if_pos hc]; rfl
        · rw [if_neg hc.1]
          simp (disch := omega) only [ln_0, ln_1, ln_2, ln_3, ln_4, ln_5, ln_6, ln_7, ln_8, ln_9, ln_10, ln_11, ln_12, ln_13, ln_14, ln_15, ln_16, ln_17, ln_18, ln_19, ln_20, ln_21, ln_22, ln_23, ln_24, ln_25, ln_26, ln_27, ln_28, ln_29, ln_30, ln_31, ln_32, ln_48, ln_57, ln_59, ln_60, ln_61, ln_62, ln_70, ln_72, ln_73, ln_74, ln_88, ln_90, ln_92, ln_97, ln_99, ln_100, ln_119, ln_120, ln_122, ln_255, ln_300, ln_400, ln_490, ln_900, ln_1000, ln_1800, ln_1807, ln_1819, ln_1960, ln_2082, ln_2450, ln_2460, ln_2470, ln_2520, ln_2683, ln_2950, ln_9999, ln_11587, ln_12800, ln_65536, tg_0_4, tg_0_5, tg_0_6, tg_0_9, tg_0_14, tg_0_15, tg_0_16, tg_0_17, tg_4_1, tg_13_0, tg_19_1, tg_20_1, tg_21_1, c_I_s, c_L_s, c_V_s, r_sc_s, r_lg_s, p_sc_s, p_lg_s, p_rf_s, g_ar_n, g_la_n, s_ar_n, s_la_n, g_bl_n, nI_ad, nI_mul, nI_inj, nI_ltn, nI_len, nI_nem1, nI_ltm, ne_eq, not_true_eq_false, not_false_eq_true, ite_true, ite_false, Nat.not_lt_zero, Nat.zero_le, reduceIte, Nat.reduceEqDiff, Nat.reduceLT, Nat.reduceLeDiff, Nat.reduceAdd, Nat.reduceMul, reduceCtorEq, Nat.zero_ne_one, Nat.one_ne_zero, ix_ge (by decide) hc.2, rfs_c]
          try rfl
      · rw [if_neg (nI_neg0 (by omega)), if_pos (show nI s ≤ 99 from (nI_len (b := 99) (by omega) (by omega)).mpr (by omega))]
        refine ⟨w_sc (w_ar (w_ar σ 6 0 v (nI d)) 6 1 v (nI s)) 0 0 0, ?_, ?_⟩
        · simp (disch := omega) only [ln_0, ln_1, ln_2, ln_3, ln_4, ln_5, ln_6, ln_7, ln_8, ln_9, ln_10, ln_11, ln_12, ln_13, ln_14, ln_15, ln_16, ln_17, ln_18, ln_19, ln_20, ln_21, ln_22, ln_23, ln_24, ln_25, ln_26, ln_27, ln_28, ln_29, ln_30, ln_31, ln_32, ln_48, ln_57, ln_59, ln_60, ln_61, ln_62, ln_70, ln_72, ln_73, ln_74, ln_88, ln_90, ln_92, ln_97, ln_99, ln_100, ln_119, ln_120, ln_122, ln_255, ln_300, ln_400, ln_490, ln_900, ln_1000, ln_1800, ln_1807, ln_1819, ln_1960, ln_2082, ln_2450, ln_2460, ln_2470, ln_2520, ln_2683, ln_2950, ln_9999, ln_11587, ln_12800, ln_65536, tg_0_4, tg_0_5, tg_0_6, tg_0_9, tg_0_14, tg_0_15, tg_0_16, tg_0_17, tg_4_1, tg_13_0, tg_19_1, tg_20_1, tg_21_1, c_I_s, c_L_s, c_V_s, r_sc_s, r_lg_s, p_sc_s, p_lg_s, p_rf_s, g_ar_n, g_la_n, s_ar_n, s_la_n, g_bl_n, nI_ad, nI_mul, nI_inj, nI_ltn, nI_len, nI_nem1, nI_ltm, ne_eq, not_true_eq_false, not_false_eq_true, ite_true, ite_false, Nat.not_lt_zero, Nat.zero_le, reduceIte, Nat.reduceEqDiff, Nat.reduceLT, Nat.reduceLeDiff, Nat.reduceAdd, Nat.reduceMul, reduceCtorEq, Nat.zero_ne_one, Nat.one_ne_zero, agr_c]; rfl
        · refine RepC.uV (σ := σ) _ _ hW.2.2.2.1 (fun q _ hq => ?_) ⟨rfl, rfl, rfl, rfl, rfl⟩ ⟨rfl, h.1.2.1, h.1.2.2.1⟩ ?_ h
          · simp at hq
            exact ((BU.af (by omega)).tr (BU.af (by omega))).tr (BU.sc (by omega))
          · refine ⟨fun q hq => ⟨?_, ?_⟩, hv.2⟩
            · show m_ar (w_ar (w_ar σ 6 0 v (nI d)) 6 1 v (nI s)) 6 0 q = nI (if q = v then d else v_fr (GV G) q)
              rw [m_ar_ar, if_neg (by simp), m_ar_ar]
              by_cases e : q = v
              · simp [e]
              · simp [e, (hv.1 q hq).1]
            · show m_ar (w_ar (w_ar σ 6 0 v (nI d)) 6 1 v (nI s)) 6 1 q = nI (if q = v then s else v_sg (GV G) q)
              rw [m_ar_ar, m_ar_ar]
              by_cases e : q = v
              · simp [e]
              · simp [e, (hv.1 q hq).2]
theorem PlR.cg0 {A A' : Nat → Int32} {N : Nat → Int64} {D : PD} (hD : WFD D) (hA : ∀ k, k < 3 ∨ (20 ≤ k ∧ k < 120) → A' k = A k) (h : PlR A N 0 0 D) : PlR A' N 0 0 D := by
  obtain ⟨⟨a, b, c⟩, d, e, f, g, k⟩ := h
  obtain ⟨⟨b1, b2, b3⟩, -, -⟩ := hD
  refine ⟨⟨?_, ?_, ?_⟩, fun v hv => ⟨?_, ?_, ?_⟩, fun v hv => ⟨?_, ?_, ?_, ?_⟩, f, g, k⟩
  · rw [hA _ (by omega)]; exact a
  · rw [hA _ (by omega)]; exact b
  · rw [hA _ (by omega)]; exact c
  · rw [hA _ (by omega)]; exact (d v hv).1
  · rw [hA _ (by omega)]; exact (d v hv).2.1
  · rw [hA _ (by omega)]; exact (d v hv).2.2
  · rw [hA _ (by omega)]; exact (e v hv).1
  · rw [hA _ (by omega)]; exact (e v hv).2.1
  · rw [hA _ (by omega)]; exact (e v hv).2.2.1
  · rw [hA _ (by omega)]; exact (e v hv).2.2.2
theorem isFrom_1 {n lo hi : Nat} {l m : Int64} (hn : n < 2147483648) (hl : l.toInt = lo) (hm : m.toInt = hi) (h1 : lo ≤ n) (h2 : n ≤ hi) (σ : Mm) : fX12_isFrom (nI n).toInt64 l m σ = some (1, σ) := by
  rw [isFrom_e, if_pos]
  rw [nI_iI, iI_t (by omega) (by omega)]; omega
theorem isFrom_0 {a : Int32} {n : Nat} {l m : Int64} (hn : n < 2147483647) (hl : l.toInt = 0) (hm : m.toInt = n) (h : a < 0 ∨ (¬ a < 0 ∧ nI (n + 1) ≤ a)) (σ : Mm) : fX12_isFrom a.toInt64 l m σ = some (0, σ) := by
  rw [isFrom_e, if_neg]
  rcases h with h | h
  · rw [Int32.lt_iff_toInt_lt] at h
    have : (0 : Int32).toInt = 0 := rfl
    omega
  · have := h.2
    rw [Int32.le_iff_toInt_le, nI_iI, iI_t (by omega) (by omega)] at this
    omega
theorem isDir_1 {n : Nat} (hn : n < 16) (σ : Mm) : fX12_isDirection (nI n) σ = some (1, σ) := by
  unfold fX12_isDirection
  rw [if_neg (nI_neg0 (by omega)), ln_16, if_neg (fun q => absurd ((nI_len (a := 16) (by decide) (by omega)).mp q) (by omega))]
theorem isDir_0 {a : Int32} (h : a < 0 ∨ (¬ a < 0 ∧ nI 16 ≤ a)) (σ : Mm) : fX12_isDirection a σ = some (0, σ) := by
  unfold fX12_isDirection
  rcases h with h | h
  · rw [if_pos h]
  · rw [if_neg h.1, if_pos (show (16 : Int32) ≤ a from h.2)]
theorem wind_r (a b c : Int32) (hW : WFG G) (h : RepR σ G) : OR (fX12_wind 31 a b c σ) (spW a b c G) := by
  have hv := h.sv
  have hd := hW.d.1
  unfold fX12_wind spW
  rcases ix_cases (n := d_p (GD G)) (by omega) a with ⟨ei, ha⟩ | ⟨v, hv6, rfl, ei⟩ <;> rw [ei]
  · rw [isPlace_r0 hW h ha]
    exact OR.rfs (x := 1) hW h (by decide)
  · rw [isPlace_r1 hW h hv6, c_I_s, if_neg (by decide)]
    rcases ix_cases (n := 16) (by decide) b with ⟨ej, hb⟩ | ⟨d, hd6, rfl, ej⟩ <;> rw [ej]
    · rw [isDir_0 hb]
      exact OR.rfs (x := 1) hW h (by decide)
    · rw [isDir_1 hd6, c_I_s, if_neg (by decide)]
      rcases ix_cases (n := 100) (by decide) c with ⟨ek, hc⟩ | ⟨s, hs6, rfl, ek⟩ <;> rw [ek]
      · rw [isFrom_0 (n := 99) (by decide) rfl rfl hc]
        exact OR.rfs (x := 1) hW h (by decide)
      · rw [isFrom_1 (lo := 0) (hi := 99) (by omega) rfl rfl (by omega) (by omega), c_I_s, if_neg (by decide)]
        refine ⟨w_sc (w_ar (w_ar σ 31 0 (10 + 2 * v) (nI d)) 31 0 (10 + 2 * v + 1) (nI s)) 31 2 0, ?_, ?_⟩
        · simp (disch := omega) only [ln_0, ln_1, ln_2, ln_3, ln_4, ln_5, ln_6, ln_7, ln_8, ln_9, ln_10, ln_11, ln_12, ln_13, ln_14, ln_15, ln_16, ln_17, ln_18, ln_19, ln_20, ln_21, ln_22, ln_23, ln_24, ln_25, ln_26, ln_27, ln_28, ln_29, ln_30, ln_31, ln_32, ln_48, ln_57, ln_59, ln_60, ln_61, ln_62, ln_70, ln_72, ln_73, ln_74, ln_88, ln_90, ln_92, ln_97, ln_99, ln_100, ln_119, ln_120, ln_122, ln_255, ln_300, ln_400, ln_490, ln_900, ln_1000, ln_1800, ln_1807, ln_1819, ln_1960, ln_2082, ln_2450, ln_2460, ln_2470, ln_2520, ln_2683, ln_2950, ln_9999, ln_11587, ln_12800, ln_65536, tg_0_4, tg_0_5, tg_0_6, tg_0_9, tg_0_14, tg_0_15, tg_0_16, tg_0_17, tg_4_1, tg_13_0, tg_19_1, tg_20_1, tg_21_1, c_I_s, c_L_s, c_V_s, r_sc_s, r_lg_s, p_sc_s, p_lg_s, p_rf_s, g_ar_n, g_la_n, s_ar_n, s_la_n, g_bl_n, nI_ad, nI_mul, nI_inj, nI_ltn, nI_len, nI_nem1, nI_ltm, ne_eq, not_true_eq_false, not_false_eq_true, ite_true, ite_false, Nat.not_lt_zero, Nat.zero_le, reduceIte, Nat.reduceEqDiff, Nat.reduceLT, Nat.reduceLeDiff, Nat.reduceAdd, Nat.reduceMul, reduceCtorEq, Nat.zero_ne_one, Nat.one_ne_zero, is_r]; rfl
        · have hA : ∀ k, m_ar (w_sc (w_ar (w_ar σ 31 0 (10 + 2 * v) (nI d)) 31 0 (10 + 2 * v + 1) (nI s)) 31 2 0) 31 0 k = if k = 10 + 2 * v + 1 then nI s else if k = 10 + 2 * v then nI d else m_ar σ 31 0 k := fun k => by
            rw [m_ar_sc, m_ar_ar, m_ar_ar]; simp
          refine RepR.uV (σ := σ) _ _ hW ⟨fun k hk => ?_, fun j hj => ?_, rfl, fun i h1 h2 => ?_, fun _ _ => rfl⟩ ⟨rfl, h.1.2.1, h.1.2.2.1⟩ ?_ ?_ h
          · rw [m_sc_sc, if_neg (by omega)]; rfl
          · funext i; rw [m_ar_sc, m_ar_ar, if_neg (by omega), m_ar_ar, if_neg (by omega)]
          · rw [hA, if_neg (by omega), if_neg (by omega)]
          · exact h.pl.cg0 hW.d (fun k hk => by rw [hA, if_neg (by omega), if_neg (by omega)])
          · have hN : ∀ k, k ≠ 10 + 2 * v + 1 → k ≠ 10 + 2 * v → m_ar (w_sc (w_ar (w_ar σ 31 0 (10 + 2 * v) (nI d)) 31 0 (10 + 2 * v + 1) (nI s)) 31 2 0) 31 0 k = m_ar σ 31 0 k := fun k h1 h2 => by rw [hA, if_neg h1, if_neg h2]
            refine ⟨fun q hq => ?_, fun q hq => ?_, fun q hq => ?_, ?_, ?_, ?_⟩
            · show _ = nI (if q = v then d else v_fr (GV G) q) ∧ _ = nI (if q = v then s else v_sg (GV G) q)
              by_cases e : q = v
              · subst e
                exact ⟨by rw [hA, if_neg (by omega), if_pos (by omega), if_pos rfl], by rw [hA, if_pos (by omega), if_pos rfl]⟩
              · rw [hN _ (by omega) (by omega), hN _ (by omega) (by omega), if_neg e, if_neg e]; exact hv.1 q hq
            · rw [hN _ (by omega) (by omega), hN _ (by omega) (by omega), hN _ (by omega) (by omega)]; exact hv.2.1 q hq
            · rw [hN _ (by omega) (by omega)]; exact hv.2.2.1 q hq
            · rw [hN _ (by omega) (by omega)]; exact hv.2.2.2.1
            · rw [hN _ (by omega) (by omega)]; exact hv.2.2.2.2.1
            · rw [hN _ (by omega) (by omega)]; exact hv.2.2.2.2.2
theorem wind_w (a b c : Int32) (hW : WFG G) : WFG (spW a b c G).2 := by
  unfold spW
  have hd := hW.d.1
  rcases ix_cases (n := d_p (GD G)) (by omega) a with ⟨ei, ha⟩ | ⟨v, hv6, rfl, ei⟩ <;> rw [ei]
  · exact hW
  · rcases ix_cases (n := 16) (by decide) b with ⟨ej, hb⟩ | ⟨d, hd6, rfl, ej⟩ <;> rw [ej]
    · exact hW
    · rcases ix_cases (n := 100) (by decide) c with ⟨ek, hc⟩ | ⟨s, hs6, rfl, ek⟩ <;> rw [ek]
      · exact hW
      · refine hW.uV _ ⟨fun q hq => ?_, hW.v.2⟩
        have := hW.v.1 q hq
        show (if q = v then d else v_fr (GV G) q) < 16 ∧ (if q = v then s else v_sg (GV G) q) ≤ 99
        split <;> omega
theorem wind_s (a : Int32) (b : Int32) (c : Int32) (σ : Mm) (h : Rel σ) : ok (fX11_wind 0 a b c σ) (fun q => ok (fX12_wind 31 a b c q.2) (fun q' => q'.1 = q.1 ∧ Rel q'.2)) :=
  simS (fc := fX11_wind 0 a b c) (fr := fX12_wind 31 a b c) (ks := [4, 11]) (by decide) (spW a b c) (fun σ G => wind_c a b c) (fun σ G => wind_r a b c) (fun G hW => wind_w a b c hW) (fun σ x τ e => F_sub (frX11_wind 0 a b c (by decide) σ e) (by decide)) (fun σ x τ e => F_sub (frX12_wind 31 a b c (by decide) σ e) (by decide)) σ h
/-- with one, or without it -/
def wiN (a i : Nat) (b : Bool) : Nat := if b then a ||| 2 ^ i else ndiff a (2 ^ i)
theorem wiN_lt {a i n : Nat} {b : Bool} (ha : a < 2 ^ n) (hi : i < n) : wiN a i b < 2 ^ n := by
  unfold wiN ndiff
  have h2 : 2 ^ i < 2 ^ n := Nat.pow_lt_pow_right (by decide) hi
  split
  · exact Nat.or_lt_two_pow ha h2
  · exact Nat.xor_lt_two_pow ha (Nat.and_lt_two_pow _ h2)
theorem wiN_bit (a i j : Nat) (b : Bool) : (wiN a i b).testBit j = if j = i then b else a.testBit j := by
  unfold wiN
  cases b
  · simp only [Bool.false_eq_true, if_false]
    rw [ndiff_bit, Nat.testBit_two_pow]
    by_cases h : j = i
    · simp [h]
    · have h' : ¬ i = j := fun e => h e.symm
      simp [h, h']
  · simp only [if_true]
    rw [Nat.testBit_or, Nat.testBit_two_pow]
    by_cases h : j = i
    · simp [h]
    · have h' : ¬ i = j := fun e => h e.symm
      simp [h, h']
theorem with_e {a i : Nat} (hi : i < 31) (x : Int32) (σ : Mm) : fX11_with (nI a) (nI i) x σ = some (nI (wiN a i (x ≠ 0)), σ) := by
  unfold fX11_with wiN
  rw [sh1 hi, andn_n, or_n]
  by_cases h : x = 0
  · simp [h]
  · simp [h]
theorem wiN_alt (a i : Nat) : ndiff a (2 ^ i) ||| 2 ^ i = wiN a i true := by
  apply Nat.eq_of_testBit_eq
  intro j
  rw [Nat.testBit_or, ndiff_bit, wiN_bit, Nat.testBit_two_pow]
  by_cases h : j = i
  · simp [h]
  · have h' : ¬ i = j := fun e => h e.symm
    simp [h, h']
theorem pw31 {n : Nat} (hn : n ≤ 31) {a : Nat} (ha : a < 2 ^ n) : a < 2147483648 := Nat.lt_of_lt_of_le ha (Nat.pow_le_pow_right (n := 2) (by decide) hn)
def spLv (V : SD) (i : Nat) (b : Bool) : SD := (V.1, V.2.1, V.2.2.1, (wiN (v_li V) i b, v_he V), v_qu V)
def spL (a b : Int32) (G : GS) : Int32 × GS := match ix (d_s (GD G)) a with
  | some i => (1, suV (0, g_t G, g_b G) (spLv (GV G) i (b ≠ 0)) G)
  | none => (0, stq 1 G)
theorem lift_c (a b : Int32) (hW : WFG G) (h : RepC σ G) : OC (fX11_lift 0 a b σ) (spL a b G) := by
  have hv := h.sv
  have hd := hW.d.1
  unfold fX11_lift spL
  rcases ix_cases (n := d_s (GD G)) (by omega) a with ⟨ei, ha⟩ | ⟨v, hv6, rfl, ei⟩ <;> rw [ei]
  · rw [isShaft_c0 hW h ha]
    exact OC.rfs hW h _
  · rw [isShaft_c1 hW h hv6, c_I_s, if_neg (by decide), tg_0_9, tg_4_1, r_sc_s, hv.2.2.2.1, with_e (by omega), c_I_s, p_sc_s]
    refine ⟨_, rfl, ?_⟩
    refine RepC.uV (σ := σ) _ _ hW.2.2.2.1 (fun q _ hq => ?_) ⟨rfl, rfl, rfl, rfl, rfl⟩ ⟨rfl, h.1.2.1, h.1.2.2.1⟩ ?_ h
    · simp at hq
      exact (BU.sc (by omega)).tr (BU.sc (by omega))
    · exact ⟨hv.1, hv.2.1, hv.2.2.1, rfl, hv.2.2.2.2⟩
theorem lift_r (a b : Int32) (hW : WFG G) (h : RepR σ G) : OR (fX12_lift 31 a b σ) (spL a b G) := by
  have hv := h.sv
  have hd := hW.d.1
  unfold fX12_lift spL
  rcases ix_cases (n := d_s (GD G)) (by omega) a with ⟨ei, ha⟩ | ⟨v, hv6, rfl, ei⟩ <;> rw [ei]
  · rw [isShaft_r0 hW h ha]
    exact OR.rfs (x := 1) hW h (by decide)
  · rw [isShaft_r1 hW h hv6, c_I_s, if_neg (by decide), show ∀ K : Int32 → Option (Int32 × Mm), g_ar σ 31 0 2950 4 K = g_ar σ 31 0 2950 (nI 4) K from fun _ => rfl, g_ar_n (by decide) (by decide), show m_ar σ 31 0 4 = nI (v_li (GV G)) from hv.2.2.2.1, sh1 (by omega), andn_n]
    have key : ∀ w : Nat, w = wiN (v_li (GV G)) v (b ≠ 0) → OR (s_ar σ 31 0 2950 (nI 4) (nI w) (fun σ10 => c_I (fX12_is 31 0 σ10) (fun x13 σ11 => b_z x13 σ11))) (1, suV (0, g_t G, g_b G) (spLv (GV G) v (b ≠ 0)) G) := by
      intro w hw
      rw [s_ar_n (by decide) (by decide)]
      refine ⟨_, rfl, ?_⟩
      have hN : ∀ k, k ≠ 4 → m_ar (w_sc (w_ar σ 31 0 4 (nI w)) 31 2 0) 31 0 k = m_ar σ 31 0 k := fun k h1 => by rw [m_ar_sc, m_ar_ar, if_neg (by omega)]
      refine RepR.uV (σ := σ) _ _ hW ⟨fun k hk => ?_, fun j hj => ?_, rfl, fun i h1 h2 => ?_, fun _ _ => rfl⟩ ⟨rfl, h.1.2.1, h.1.2.2.1⟩ ?_ ?_ h
      · rw [m_sc_sc, if_neg (by omega)]; rfl
      · funext i; rw [m_ar_sc, m_ar_ar, if_neg (by omega)]
      · exact hN i (by omega)
      · exact h.pl.cg0 hW.d (fun k hk => hN k (by omega))
      · refine ⟨fun q hq => ?_, fun q hq => ?_, fun q hq => ?_, ?_, ?_, ?_⟩
        · rw [hN _ (by omega), hN _ (by omega)]; exact hv.1 q hq
        · rw [hN _ (by omega), hN _ (by omega), hN _ (by omega)]; exact hv.2.1 q hq
        · rw [hN _ (by omega)]; exact hv.2.2.1 q hq
        · rw [hw]; rfl
        · rw [hN _ (by omega)]; exact hv.2.2.2.2.1
        · rw [hN _ (by omega)]; exact hv.2.2.2.2.2
    by_cases hb : b = 0
    · rw [if_pos hb, ln_0, or_n, Nat.or_zero]
      exact key _ (by simp [hb, wiN])
    · rw [if_neg hb, or_n]
      exact key _ (by rw [wiN_alt]; simp [hb])
theorem lift_w (a b : Int32) (hW : WFG G) : WFG (spL a b G).2 := by
  unfold spL
  have hd := hW.d.1
  rcases ix_cases (n := d_s (GD G)) (by omega) a with ⟨ei, ha⟩ | ⟨v, hv6, rfl, ei⟩ <;> rw [ei]
  · exact hW
  · exact hW.uV _ ⟨hW.v.1, hW.v.2.1, hW.v.2.2.1, wiN_lt hW.v.2.2.2.1 hv6, hW.v.2.2.2.2⟩
theorem lift_s (a : Int32) (b : Int32) (σ : Mm) (h : Rel σ) : ok (fX11_lift 0 a b σ) (fun q => ok (fX12_lift 31 a b q.2) (fun q' => q'.1 = q.1 ∧ Rel q'.2)) :=
  simS (fc := fX11_lift 0 a b) (fr := fX12_lift 31 a b) (ks := [4, 11]) (by decide) (spL a b) (fun σ G => lift_c a b) (fun σ G => lift_r a b) (fun G hW => lift_w a b hW) (fun σ x τ e => F_sub (frX11_lift 0 a b (by decide) σ e) (by decide)) (fun σ x τ e => F_sub (frX12_lift 31 a b (by decide) σ e) (by decide)) σ h
def spOv (V : SD) (i : Nat) (b : Bool) : SD := (V.1, V.2.1, V.2.2.1, (v_li V, wiN (v_he V) i b), v_qu V)
def spO (a b : Int32) (G : GS) : Int32 × GS := match ix (d_v (GD G)) a with
  | some i => (1, suV (0, g_t G, g_b G) (spOv (GV G) i (b ≠ 0)) G)
  | none => (0, stq 1 G)
theorem hold_c (a b : Int32) (hW : WFG G) (h : RepC σ G) : OC (fX11_hold 0 a b σ) (spO a b G) := by
  have hv := h.sv
  have hd := hW.d.1
  unfold fX11_hold spO
  rcases ix_cases (n := d_v (GD G)) (by omega) a with ⟨ei, ha⟩ | ⟨v, hv6, rfl, ei⟩ <;> rw [ei]
  · rw [isVane_c0 hW h ha]
    exact OC.rfs hW h _
  · rw [isVane_c1 hW h hv6, c_I_s, if_neg (by decide), tg_0_9, tg_4_1, r_sc_s, hv.2.2.2.2.1, with_e (by omega), c_I_s, p_sc_s]
    refine ⟨_, rfl, ?_⟩
    refine RepC.uV (σ := σ) _ _ hW.2.2.2.1 (fun q _ hq => ?_) ⟨rfl, rfl, rfl, rfl, rfl⟩ ⟨rfl, h.1.2.1, h.1.2.2.1⟩ ?_ h
    · simp at hq
      exact (BU.sc (by omega)).tr (BU.sc (by omega))
    · exact ⟨hv.1, hv.2.1, hv.2.2.1, hv.2.2.2.1, rfl, hv.2.2.2.2.2⟩
theorem hold_r (a b : Int32) (hW : WFG G) (h : RepR σ G) : OR (fX12_hold 31 a b σ) (spO a b G) := by
  have hv := h.sv
  have hd := hW.d.1
  unfold fX12_hold spO
  rcases ix_cases (n := d_v (GD G)) (by omega) a with ⟨ei, ha⟩ | ⟨v, hv6, rfl, ei⟩ <;> rw [ei]
  · rw [isVane_r0 hW h ha]
    exact OR.rfs (x := 1) hW h (by decide)
  · rw [isVane_r1 hW h hv6, c_I_s, if_neg (by decide), show ∀ K : Int32 → Option (Int32 × Mm), g_ar σ 31 0 2950 5 K = g_ar σ 31 0 2950 (nI 5) K from fun _ => rfl, g_ar_n (by decide) (by decide), show m_ar σ 31 0 5 = nI (v_he (GV G)) from hv.2.2.2.2.1, sh1 (by omega), andn_n]
    have key : ∀ w : Nat, w = wiN (v_he (GV G)) v (b ≠ 0) → OR (s_ar σ 31 0 2950 (nI 5) (nI w) (fun σ10 => c_I (fX12_is 31 0 σ10) (fun x13 σ11 => b_z x13 σ11))) (1, suV (0, g_t G, g_b G) (spOv (GV G) v (b ≠ 0)) G) := by
      intro w hw
      rw [s_ar_n (by decide) (by decide)]
      refine ⟨_, rfl, ?_⟩
      have hN : ∀ k, k ≠ 5 → m_ar (w_sc (w_ar σ 31 0 5 (nI w)) 31 2 0) 31 0 k = m_ar σ 31 0 k := fun k h1 => by rw [m_ar_sc, m_ar_ar, if_neg (by omega)]
      refine RepR.uV (σ := σ) _ _ hW ⟨fun k hk => ?_, fun j hj => ?_, rfl, fun i h1 h2 => ?_, fun _ _ => rfl⟩ ⟨rfl, h.1.2.1, h.1.2.2.1⟩ ?_ ?_ h
      · rw [m_sc_sc, if_neg (by omega)]; rfl
      · funext i; rw [m_ar_sc, m_ar_ar, if_neg (by omega)]
      · exact hN i (by omega)
      · exact h.pl.cg0 hW.d (fun k hk => hN k (by omega))
      · refine ⟨fun q hq => ?_, fun q hq => ?_, fun q hq => ?_, ?_, ?_, ?_⟩
        · rw [hN _ (by omega), hN _ (by omega)]; exact hv.1 q hq
        · rw [hN _ (by omega), hN _ (by omega), hN _ (by omega)]; exact hv.2.1 q hq
        · rw [hN _ (by omega)]; exact hv.2.2.1 q hq
        · rw [hN _ (by omega)]; exact hv.2.2.2.1
        · rw [hw]; rfl
        · rw [hN _ (by omega)]; exact hv.2.2.2.2.2
    by_cases hb : b = 0
    · rw [if_pos hb, ln_0, or_n, Nat.or_zero]
      exact key _ (by simp [hb, wiN])
    · rw [if_neg hb, or_n]
      exact key _ (by rw [wiN_alt]; simp [hb])
theorem hold_w (a b : Int32) (hW : WFG G) : WFG (spO a b G).2 := by
  unfold spO
  have hd := hW.d.1
  rcases ix_cases (n := d_v (GD G)) (by omega) a with ⟨ei, ha⟩ | ⟨v, hv6, rfl, ei⟩ <;> rw [ei]
  · exact hW
  · exact hW.uV _ ⟨hW.v.1, hW.v.2.1, hW.v.2.2.1, hW.v.2.2.2.1, wiN_lt hW.v.2.2.2.2.1 hv6, hW.v.2.2.2.2.2⟩
theorem hold_s (a : Int32) (b : Int32) (σ : Mm) (h : Rel σ) : ok (fX11_hold 0 a b σ) (fun q => ok (fX12_hold 31 a b q.2) (fun q' => q'.1 = q.1 ∧ Rel q'.2)) :=
  simS (fc := fX11_hold 0 a b) (fr := fX12_hold 31 a b) (ks := [4, 11]) (by decide) (spO a b) (fun σ G => hold_c a b) (fun σ G => hold_r a b) (fun G hW => hold_w a b hW) (fun σ x τ e => F_sub (frX11_hold 0 a b (by decide) σ e) (by decide)) (fun σ x τ e => F_sub (frX12_hold 31 a b (by decide) σ e) (by decide)) σ h
end O
