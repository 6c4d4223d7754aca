/-! PURE 19: aim, use, force, what is driven (class) -/
section WC
variable {σ τ : Mm} {p s v : Nat} {D : PD} {V : SD} {g : Nat → Int}
theorem wt_alt (hD : WFD D) (hV : WFV D V) (hv : v < d_v D) : (d_te D v * v_fr V (d_ho D v) + 8) / 16 ≤ d_te D v ∧ d_te D v * v_fr V (d_ho D v) ≤ 900 := by
  have hb := hD.2.1 v hv
  have hd := hD.1
  have hf := hV.1 (d_ho D v) (by omega)
  have h1 : d_te D v * v_fr V (d_ho D v) ≤ d_te D v * 15 := Nat.mul_le_mul_left _ (by omega)
  omega
theorem aim_l (hD : WFD D) (hV : WFV D V) (k1 : KD p = 2) (k2 : KD s = 4) : ∀ (n i : Nat) (σ : Mm), i ≤ d_v D → d_v D - i < n → m_rf σ 10 0 = some p → m_rf σ 10 1 = some s → PlC σ p D → StC σ s D V → (∀ v, v < i → m_ar σ 10 0 v = if clB D V v then -1 else nI (wtN D V v)) → ∃ τ, fX10_aim_2 10 n (nI i) σ = some τ ∧ WkC τ p s D V ∧ (∀ q, q ≠ 10 → BU q σ τ) ∧ ∀ k, m_sc τ 10 k = m_sc σ 10 k := by
  intro n
  induction n with
  | zero => intro i σ _ h; omega
  | succ n ih =>
    intro i σ hi hn e1 e2 hp hs hw
    have hd := hD.1
    have n1 : p ≠ 10 := fun e => by rw [e] at k1; revert k1; decide
    have n2 : s ≠ 10 := fun e => by rw [e] at k2; revert k2; decide
    rw [fX10_aim_2, r_rf_e e1 k1, r_sc_s, hp.1.2.1, ifle_n (by omega) (by omega)]
    by_cases c : d_v D ≤ i
    · rw [if_pos c]
      exact ⟨σ, rfl, ⟨⟨e1, e2, k1, k2⟩, hp, hs, fun v hv => hw v (by omega)⟩, fun _ _ => BU.rf, fun _ => rfl⟩
    · have hv : i < d_v D := by omega
      have hb := hD.2.1 i hv
      have hf := hV.1 (d_ho D i) (by omega)
      have hwa := wt_alt hD hV hv
      rw [if_neg c, r_rf_e e1 k1, g_ar_n (by omega) (by decide), (hp.2.1 i hv).1, r_rf_e e1 k1, g_ar_n (by omega) (by decide), (hp.2.1 i hv).2.1, r_rf_e e2 k2, g_ar_n (by omega) (by decide), (hs.1 _ (by omega)).1, r_rf_e e2 k2, g_ar_n (by omega) (by decide), (hs.1 _ (by omega)).2, nI_s, nI_mul, ln_8, ln_16, nI_ad, pk_div (by omega) (by decide) (by decide), show (0 : Int32) = nI 0 from rfl, ife_n (by omega) (by decide), ifl_n (by omega) (by omega)]
      have key : ∀ x : Int32, x = (if clB D V i then -1 else nI (wtN D V i)) → ∃ τ, s_ar σ 10 0 8 (nI i) x (fun σ13 => fX10_aim_2 10 n (nI (i + 1)) σ13) = some τ ∧ WkC τ p s D V ∧ (∀ q, q ≠ 10 → BU q σ τ) ∧ ∀ k, m_sc τ 10 k = m_sc σ 10 k := by
        intro x hx
        rw [s_ar_n (by omega) (by decide)]
        have hB : ∀ q, q ≠ 10 → BU q σ (w_ar σ 10 0 i x) := fun q hq => BU.af hq
        obtain ⟨τ, e, r1, r2, r3⟩ := ih (i + 1) (w_ar σ 10 0 i x) (by omega) (by omega) e1 e2 (hp.bu (hB p n1)) (hs.bu (hB s n2)) (fun v hv => by
          rw [m_ar_ar]
          by_cases c : v = i
          · rw [if_pos ⟨rfl, rfl, c⟩, hx, c]
          · rw [if_neg (fun z => c z.2.2)]; exact hw v (by omega))
        exact ⟨τ, e, r1, fun q hq => (hB q hq).tr (r2 q hq), fun k => r3 k⟩
      by_cases c2 : v_sg V (d_ho D i) = 0
      · rw [if_pos c2]
        exact key _ (by unfold clB; rw [beq_iff_eq.mpr c2]; rfl)
      · rw [if_neg c2]
        have hcl : clB D V i = false := by unfold clB; exact beq_eq_false_iff_ne.mpr c2
        by_cases c3 : (d_te D i * v_fr V (d_ho D i) + 8) / 16 < d_te D i
        · rw [if_pos c3]
          refine key _ ?_
          rw [hcl, if_neg (by decide)]; unfold wtN; rw [Nat.mod_eq_of_lt c3]
        · rw [if_neg c3]
          refine key _ ?_
          rw [hcl, if_neg (by decide)]; unfold wtN; rw [show (d_te D i * v_fr V (d_ho D i) + 8) / 16 = d_te D i by omega, Nat.mod_self]
theorem aim_c (hD : WFD D) (hV : WFV D V) (k1 : KD p = 2) (k2 : KD s = 4) (e1 : m_rf σ 10 0 = some p) (e2 : m_rf σ 10 1 = some s) (hp : PlC σ p D) (hs : StC σ s D V) : ∃ τ, fX10_aim 10 σ = some τ ∧ WkC τ p s D V ∧ (∀ q, q ≠ 10 → BU q σ τ) ∧ ∀ k, m_sc τ 10 k = m_sc σ 10 k := by
  have := hD.1
  exact aim_l hD hV k1 k2 FU 0 σ (by omega) (FU_gt (by omega)) e1 e2 hp hs (fun v hv => by omega)
theorem use_c (hD : WFD D) (hV : WFV D V) (k1 : KD p = 2) (k2 : KD s = 4) (hp : PlC σ p D) (hs : StC σ s D V) : ∃ τ, fX10_use 10 p s σ = some τ ∧ WkC τ p s D V ∧ (∀ q, q ≠ 10 → BU q σ τ) ∧ m_sc τ 10 5 = nI 0 ∧ m_sc τ 10 6 = nI 0 ∧ m_sc τ 10 7 = -1 ∧ m_sc τ 10 8 = -1 := by
  have n1 : p ≠ 10 := fun e => by rw [e] at k1; revert k1; decide
  have n2 : s ≠ 10 := fun e => by rw [e] at k2; revert k2; decide
  unfold fX10_use fX10_listenFor
  rw [p_rf_s, p_rf_s, p_sc_s, p_sc_s, p_sc_s, p_sc_s, c_V_s]
  have hB : ∀ q, q ≠ 10 → BU q σ (w_sc (w_sc (w_sc (w_sc (w_rf (w_rf σ 10 0 (some p)) 10 1 (some s)) 10 5 0) 10 6 0) 10 7 (-1)) 10 8 (-1)) := fun q hq => BU.scs hq (BU.scs hq (BU.scs hq (BU.scs hq ((BU.pr hq).tr (BU.pr hq)))))
  obtain ⟨τ, e, r1, r2, r3⟩ := aim_c hD hV k1 k2 (σ := w_sc (w_sc (w_sc (w_sc (w_rf (w_rf σ 10 0 (some p)) 10 1 (some s)) 10 5 0) 10 6 0) 10 7 (-1)) 10 8 (-1)) rfl rfl (hp.bu (hB p n1)) (hs.bu (hB s n2))
  rw [e, c_V_s]
  exact ⟨τ, rfl, r1, fun q hq => (hB q hq).tr (r2 q hq), (r3 5).trans rfl, (r3 6).trans rfl, (r3 7).trans rfl, (r3 8).trans rfl⟩
theorem rs_l (hD : WFD D) (hV : WFV D V) (h : WkC σ p s D V) : ∀ (n i : Nat), i ≤ d_v D → d_v D - i < n → fX10_rightSet_4 10 n (nI (bsN (rgB D V) i)) (nI i) σ = some (nI (bsN (rgB D V) (d_v D)), σ) := by
  intro n
  induction n with
  | zero => intro i _ h; omega
  | succ n ih =>
    intro i hi hn
    have hd := hD.1
    have h' := h
    obtain ⟨⟨e1, e2, k1, k2⟩, hp, hs, hw⟩ := h
    rw [fX10_rightSet_4, r_rf_e e1 k1, r_sc_s, hp.1.2.1, ifle_n (by omega) (by omega)]
    by_cases c : d_v D ≤ i
    · have : i = d_v D := by omega
      subst this
      rw [if_pos c]
    · rw [if_neg c, isRight_c hD hV h' (by omega), c_I_s, with_e (by omega), c_I_s, nI_s]
      have : wiN (bsN (rgB D V) i) i (decide ((if rgB D V i = true then (1 : Int32) else 0) ≠ 0)) = bsN (rgB D V) (i + 1) := by
        rw [bsN]; congr 1; cases rgB D V i <;> decide
      rw [this]
      exact ih (i + 1) (by omega) (by omega)
theorem rightSet_c (hD : WFD D) (hV : WFV D V) (h : WkC σ p s D V) : fX10_rightSet 10 σ = some (nI (bsN (rgB D V) (d_v D)), σ) := by
  have := hD.1
  exact rs_l hD hV h FU 0 (by omega) (FU_gt (by omega))
theorem mo_has {i : Nat} (hD : WFD D) (hi : i < d_v D) (σ : Mm) : fX11_has (nI (moN D g)) (nI i) σ = some (if g i = 0 then 0 else 1, σ) := by
  have hd := hD.1
  have hm : moN D g < 2147483648 := pw31 (n := d_v D) (by omega) (bsN_lt _ _)
  rw [has_e hm (by omega)]
  unfold moN
  rw [bsN_bit]
  by_cases c : g i = 0
  · simp [c, hi]
  · simp [c, hi]
theorem fo_l (hD : WFD D) (hV : WFV D V) (h : WkC σ p s D V) (hg : oneG g) (hS : SpC σ g) (hM : m_sc σ 10 4 = nI (moN D g)) : ∀ (n i : Nat), i ≤ d_v D → d_v D - i < n → fX10_force_4 10 n (iI (foZ D V g i)) (nI i) σ = some (iI (foZ D V g (d_v D)), σ) := by
  intro n
  induction n with
  | zero => intro i _ h; omega
  | succ n ih =>
    intro i hi hn
    have hd := hD.1
    have h' := h
    obtain ⟨⟨e1, e2, k1, k2⟩, hp, hs, hw⟩ := h
    rw [fX10_force_4, r_rf_e e1 k1, r_sc_s, hp.1.2.1, ifle_n (by omega) (by omega)]
    by_cases c : d_v D ≤ i
    · have : i = d_v D := by omega
      subst this
      rw [if_pos c]
    · have hv : i < d_v D := by omega
      have hb := hD.2.1 i hv
      rw [if_neg c, r_sc_s, hM, mo_has hD hv, c_I_s, nI_s]
      have ih := ih (i + 1) (by omega) (by omega)
      rw [foZ] at ih
      by_cases c2 : g i = 0
      · rw [if_pos c2, if_pos rfl]
        rw [if_pos c2, Int.add_zero] at ih
        exact ih
      · rw [if_neg c2, if_neg (by decide), gain_c hD hV h' hg hS hv, c_I_s, r_rf_e e2 k2, r_rf_e e1 k1, g_ar_n (by omega) (by decide), (hp.2.1 i hv).2.1, g_ar_n (by omega) (by decide), (hs.1 _ (by omega)).2, r_rf_e e1 k1, g_ar_n (by omega) (by decide), (hp.2.1 i hv).2.2, nI_iI (v_sg V (d_ho D i)), nI_iI (d_st D i), iI_mul, iI_sub, iI_add]
        rw [if_neg c2] at ih
        exact ih
theorem force_c (hD : WFD D) (hV : WFV D V) (h : WkC σ p s D V) (hg : oneG g) (hS : SpC σ g) (hM : m_sc σ 10 4 = nI (moN D g)) : fX10_force 10 σ = some (iI (foZ D V g (d_v D)), σ) := by
  have := hD.1
  exact fo_l hD hV h hg hS hM FU 0 (by omega) (FU_gt (by omega))
theorem ga_r (hD : WFD D) (hv : v < d_v D) : -60 ≤ gaZ D V g v ∧ gaZ D V g v ≤ 60 := by
  have hb := hD.2.1 v hv
  unfold gaZ faN
  split <;> omega
theorem fo_r (hD : WFD D) (hV : WFV D V) : ∀ i, i ≤ d_v D → -(6100 * i : Int) ≤ foZ D V g i ∧ foZ D V g i ≤ 6100 * i := by
  intro i
  induction i with
  | zero => intro _; simp [foZ]
  | succ i ih =>
    intro hi
    have ih := ih (by omega)
    have hd := hD.1
    have hb := hD.2.1 i (by omega)
    have hf := hV.1 (d_ho D i) (by omega)
    have hr := ga_r (V := V) (g := g) hD (show i < d_v D by omega)
    rw [foZ]
    split
    · omega
    · have h1 : gaZ D V g i * (v_sg V (d_ho D i) : Int) ≤ 60 * (v_sg V (d_ho D i) : Int) := Int.mul_le_mul_of_nonneg_right hr.2 (by omega)
      have h2 : -60 * (v_sg V (d_ho D i) : Int) ≤ gaZ D V g i * (v_sg V (d_ho D i) : Int) := Int.mul_le_mul_of_nonneg_right hr.1 (by omega)
      omega
theorem sw_1 : swZ D V v = 1 ∨ swZ D V v = -1 := by
  unfold swZ; split <;> simp
theorem isDriven_c (hD : WFD D) (hV : WFV D V) (h : WkC σ p s D V) (hv : v < d_v D) : ∃ τ, fX10_isDriven 10 (nI v) σ = some (if dvB D V v then 1 else 0, τ) ∧ W10 σ τ ∧ (dvB D V v = true → oneG (egZ D V v (swZ D V v)) ∧ SpC τ (egZ D V v (swZ D V v)) ∧ m_sc τ 10 4 = nI (moN D (egZ D V v (swZ D V v)))) := by
  have h' := h
  obtain ⟨⟨e1, e2, k1, k2⟩, hp, hs, hw⟩ := h
  have hd := hD.1
  unfold fX10_isDriven dvB
  rw [r_rf_e e2 k2, r_sc_s, hs.2.2.2.2.1, has_e (he_b hD hV) (by omega), c_I_s]
  cases (v_he V).testBit v
  · rw [if_pos (by decide), isRight_c hD hV h' hv, c_I_s]
    cases hr : rgB D V v
    · have hc : clB D V v = false := by unfold rgB at hr; cases hx : clB D V v <;> simp_all
      rw [if_pos (by decide), shorterWay_c hD hV h' hv hc, c_I_s]
      obtain ⟨τ, e, w, r1, r2, r3⟩ := engage_c hD hV h' hv sw_1
      rw [e, c_I_s]
      cases egB D V (egZ D V v (swZ D V v))
      · exact ⟨τ, rfl, w, fun q => by simp at q⟩
      · rw [if_neg (by decide), force_c hD hV (h'.w10 w) r1 r2 r3, c_I_s, show (0 : Int32) = iI 0 from rfl, ifle_i (by have := fo_r (g := egZ D V v (swZ D V v)) hD hV (d_v D) (Nat.le_refl _); omega) (by have := fo_r (g := egZ D V v (swZ D V v)) hD hV (d_v D) (Nat.le_refl _); omega) (by omega) (by omega)]
        by_cases c : foZ D V (egZ D V v (swZ D V v)) (d_v D) ≤ 0
        · rw [if_pos c]
          refine ⟨τ, ?_, w, fun q => ⟨r1, r2, r3⟩⟩
          rw [decide_eq_false (by omega)]; rfl
        · rw [if_neg c]
          refine ⟨τ, ?_, w, fun q => ⟨r1, r2, r3⟩⟩
          rw [decide_eq_true (by omega)]; rfl
    · exact ⟨σ, rfl, W10.rf, fun q => by simp at q⟩
  · exact ⟨σ, rfl, W10.rf, fun q => by simp at q⟩
end WC
