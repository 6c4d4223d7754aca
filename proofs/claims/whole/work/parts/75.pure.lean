/-! PURE 16: the works, what they read (class) -/
def WkC (σ : Mm) (p s : Nat) (D : PD) (V : SD) : Prop := (m_rf σ 10 0 = some p ∧ m_rf σ 10 1 = some s ∧ KD p = 2 ∧ KD s = 4) ∧ PlC σ p D ∧ StC σ s D V ∧ ∀ v, v < d_v D → m_ar σ 10 0 v = if clB D V v then -1 else nI (wtN D V v)
def SpC (σ : Mm) (g : Nat → Int) : Prop := ∀ v, v < 8 → m_ar σ 10 1 v = iI (g v)
def oneG (g : Nat → Int) : Prop := ∀ v, g v = -1 ∨ g v = 0 ∨ g v = 1
section WC
variable {σ : Mm} {p s v : Nat} {D : PD} {V : SD} {g : Nat → Int}
theorem isRight_c (hD : WFD D) (hV : WFV D V) (h : WkC σ p s D V) (hv : v < d_v D) : fX10_isRight 10 (nI v) σ = some (if rgB D V v then 1 else 0, σ) := by
  obtain ⟨⟨e1, e2, k1, k2⟩, hp, hs, hw⟩ := h
  have hd := hD.1
  have hb := hD.2.1 v hv
  have hpt := hV.2.1 v hv
  have hwl := wt_lt (V := V) hD hv
  unfold fX10_isRight rgB
  rw [g_ar_n (by omega) (by decide), g_ar_n (by omega) (by decide), hw v hv]
  cases hc : clB D V v
  · simp only [Bool.false_eq_true, if_false, Bool.false_or]
    rw [if_neg (nI_nem (by omega)), r_rf_e e2 k2, g_ar_n (by omega) (by decide), (hs.2.1 v hv).1]
    by_cases c : v_pt V v = wtN D V v
    · rw [if_pos (by rw [c]), if_pos (by simp [c])]
    · rw [if_neg (fun z => c ((nI_inj (by omega) (by omega)).mp z).symm), if_neg (by simp [c])]
  · simp
theorem gap_c {q : Nat} (hD : WFD D) (hV : WFV D V) (h : WkC σ p s D V) (hv : v < d_v D) (hc : clB D V v = false) (hq : q < d_te D v) : fX10_gap 10 (nI v) (nI q) σ = some (nI (faN D V v q), σ) := by
  obtain ⟨⟨e1, e2, k1, k2⟩, hp, hs, hw⟩ := h
  have hd := hD.1
  have hb := hD.2.1 v hv
  have hwl := wt_lt (V := V) hD hv
  have hwv := hw v hv
  rw [hc, if_neg (by decide)] at hwv
  unfold fX10_gap
  rw [g_ar_n (by omega) (by decide), g_ar_n (by omega) (by decide), g_ar_n (by omega) (by decide), hwv, r_rf_e e1 k1, r_rf_e e1 k1, g_ar_n (by omega) (by decide), (hp.2.1 v hv).1, fa_e hwl hq, ifle_n (by omega) (by omega), g_ar_n (by omega) (by decide), (hp.2.1 v hv).1]
  by_cases c : wtN D V v ≤ q
  · rw [if_pos c, nI_sub c, nI_sub (by omega), ifle_n (by omega) (by omega)]
    by_cases c2 : d_te D v - (q - wtN D V v) ≤ q - wtN D V v
    · rw [if_pos c2]; congr 3; split <;> omega
    · rw [if_neg c2]; congr 3; split <;> omega
  · rw [if_neg c, nI_sub (by omega), nI_sub (by omega), ifle_n (by omega) (by omega)]
    by_cases c2 : d_te D v - (wtN D V v - q) ≤ wtN D V v - q
    · rw [if_pos c2]; congr 3; split <;> omega
    · rw [if_neg c2]; congr 3; split <;> omega
theorem gapNow_c (hD : WFD D) (hV : WFV D V) (h : WkC σ p s D V) (hv : v < d_v D) : fX10_gapNow 10 (nI v) σ = some (nI (if clB D V v then 0 else faN D V v (v_pt V v)), σ) := by
  have h' := h
  obtain ⟨⟨e1, e2, k1, k2⟩, hp, hs, hw⟩ := h
  have hd := hD.1
  have hb := hD.2.1 v hv
  have hwl := wt_lt (V := V) hD hv
  unfold fX10_gapNow
  rw [g_ar_n (by omega) (by decide), hw v hv]
  cases hc : clB D V v
  · simp only [Bool.false_eq_true, if_false]
    rw [if_neg (nI_nem (by omega)), r_rf_e e2 k2, g_ar_n (by omega) (by decide), (hs.2.1 v hv).1, gap_c hD hV h' hv hc (hV.2.1 v hv)]
    rfl
  · simp; rfl
theorem shorterWay_c (hD : WFD D) (hV : WFV D V) (h : WkC σ p s D V) (hv : v < d_v D) (hc : clB D V v = false) : fX10_shorterWay 10 (nI v) σ = some (iI (swZ D V v), σ) := by
  obtain ⟨⟨e1, e2, k1, k2⟩, hp, hs, hw⟩ := h
  have hd := hD.1
  have hb := hD.2.1 v hv
  have hwl := wt_lt (V := V) hD hv
  have hpt := hV.2.1 v hv
  have hwv := hw v hv
  rw [hc, if_neg (by decide)] at hwv
  unfold fX10_shorterWay swZ
  rw [tr_e hwl hpt, g_ar_n (by omega) (by decide), hwv, r_rf_e e2 k2, g_ar_n (by omega) (by decide), (hs.2.1 v hv).1]
  by_cases c : v_pt V v ≤ wtN D V v
  · rw [if_pos c, nI_sub c, if_pos (i_nlt (nI_neg0 (by omega))), r_rf_e e1 k1, g_ar_n (by omega) (by decide), (hp.2.1 v hv).1, nI_sub (by omega), ifl_n (by omega) (by omega)]
    by_cases c2 : d_te D v - (wtN D V v - v_pt V v) < wtN D V v - v_pt V v
    · rw [if_pos c2, if_neg (by omega)]; rfl
    · rw [if_neg c2, if_pos (by omega)]; rfl
  · have e3 : ¬ 0 ≤ nI (wtN D V v) - nI (v_pt V v) := by
      rw [show (0 : Int32) = nI 0 from rfl, le_sub (by omega) (by omega) (by omega)]; omega
    have e4 : nI (wtN D V v) - nI (v_pt V v) + nI (d_te D v) = nI (wtN D V v + d_te D v - v_pt V v) := by
      rw [nI_iI, nI_iI, nI_iI, nI_iI, iI_sub, iI_add]; congr 1; omega
    rw [if_neg c, if_neg e3, r_rf_e e1 k1, g_ar_n (by omega) (by decide), r_rf_e e1 k1, g_ar_n (by omega) (by decide), (hp.2.1 v hv).1, e4, nI_sub (by omega), ifl_n (by omega) (by omega)]
    by_cases c2 : d_te D v - (wtN D V v + d_te D v - v_pt V v) < wtN D V v + d_te D v - v_pt V v
    · rw [if_pos c2, if_neg (by omega)]; rfl
    · rw [if_neg c2, if_pos (by omega)]; rfl
theorem tbs_c (hD : WFD D) (hV : WFV D V) (h : WkC σ p s D V) (hg : oneG g) (hS : SpC σ g) (hv : v < d_v D) : fX10_toothBehindStep 10 (nI v) σ = some (nI (tnN D V v (g v)), σ) := by
  obtain ⟨⟨e1, e2, k1, k2⟩, hp, hs, hw⟩ := h
  have hd := hD.1
  have hb := hD.2.1 v hv
  have hpt := hV.2.1 v hv
  have hgv := hg v
  unfold fX10_toothBehindStep
  rw [tn_e hpt (by omega) hgv, r_rf_e e2 k2, g_ar_n (by omega) (by decide), (hs.2.1 v hv).1, g_ar_n (by omega) (by decide), hS v (by omega), nI_iI (v_pt V v), iI_add, show (0 : Int32) = iI 0 from rfl, ifle_i (by omega) (by omega) (by omega) (by omega)]
  by_cases c : (v_pt V v : Int) + g v < 0
  · rw [if_neg (by omega), if_pos c, r_rf_e e1 k1, g_ar_n (by omega) (by decide), (hp.2.1 v hv).1, ln_1, nI_sub (by omega)]
  · rw [if_pos (by omega), if_neg c, r_rf_e e1 k1, g_ar_n (by omega) (by decide), (hp.2.1 v hv).1, nI_iI (d_te D v), ifl_i (by omega) (by omega) (by omega) (by omega)]
    by_cases c2 : (v_pt V v : Int) + g v < d_te D v
    · rw [if_pos c2, if_pos c2, nI_iI, Int.toNat_of_nonneg (by omega)]
    · rw [if_neg c2, if_neg c2]; rfl
theorem gain_c (hD : WFD D) (hV : WFV D V) (h : WkC σ p s D V) (hg : oneG g) (hS : SpC σ g) (hv : v < d_v D) : fX10_gain 10 (nI v) σ = some (iI (gaZ D V g v), σ) := by
  have h' := h
  obtain ⟨⟨e1, e2, k1, k2⟩, hp, hs, hw⟩ := h
  have hd := hD.1
  have hb := hD.2.1 v hv
  have hwl := wt_lt (V := V) hD hv
  unfold fX10_gain gaZ
  rw [g_ar_n (by omega) (by decide), hw v hv]
  cases hc : clB D V v
  · simp only [Bool.false_eq_true, if_false]
    rw [if_neg (nI_nem (by omega)), r_rf_e e2 k2, g_ar_n (by omega) (by decide), (hs.2.1 v hv).1, gap_c hD hV h' hv hc (hV.2.1 v hv), c_I_s, tbs_c hD hV h' hg hS hv, c_I_s, gap_c hD hV h' hv hc (tn_lt (by omega)), c_I_s, nI_iI, nI_iI, iI_sub]
  · simp; rfl
theorem plch_c {k : Nat} (hD : WFD D) (h : WkC σ p s D V) (hS : SpC σ g) (hk : k < d_s D) : fX10_playChange 10 (nI k) σ = some (iI (g (d_fs D k) - (if d_be D k then 1 else -1) * g (d_sn D k)), σ) := by
  obtain ⟨⟨e1, e2, k1, k2⟩, hp, hs, hw⟩ := h
  have hd := hD.1
  have hb := hD.2.2 k hk
  obtain ⟨f1, f2, f3, f4⟩ := hp.2.2.1 k hk
  unfold fX10_playChange
  rw [r_rf_e e1 k1, g_ar_n (by omega) (by decide), f1, g_ar_n (by omega) (by decide), hS _ (by omega), r_rf_e e1 k1, g_ar_n (by omega) (by decide), f3, r_rf_e e1 k1, g_ar_n (by omega) (by decide), f2, g_ar_n (by omega) (by decide), hS _ (by omega)]
  cases d_be D k
  · simp only [Bool.false_eq_true, if_false]
    rw [show (-1 : Int32) = iI (-1) from rfl, iI_mul, iI_sub]
  · simp only [if_true]
    rw [show (1 : Int32) = iI 1 from rfl, iI_mul, iI_sub]
theorem inb_c {k : Nat} {z : Int} (hD : WFD D) (h : WkC σ p s D V) (hk : k < d_s D) (h1 : -1000 ≤ z) (h2 : z ≤ 1000) : fX10_isInBounds 10 (nI k) (iI z) σ = some (if z < 0 ∨ (d_sl D k : Int) < z then 0 else 1, σ) := by
  obtain ⟨⟨e1, e2, k1, k2⟩, hp, hs, hw⟩ := h
  have hd := hD.1
  have hb := hD.2.2 k hk
  obtain ⟨f1, f2, f3, f4⟩ := hp.2.2.1 k hk
  unfold fX10_isInBounds
  rw [show (0 : Int32) = iI 0 from rfl, ifl_i (by omega) (by omega) (by omega) (by omega)]
  by_cases c : z < 0
  · rw [if_pos c, if_pos (Or.inl c)]
  · rw [if_neg c, r_rf_e e1 k1, g_ar_n (by omega) (by decide), f4, nI_iI, ifl_i (by omega) (by omega) (by omega) (by omega)]
    by_cases c2 : (d_sl D k : Int) < z
    · rw [if_pos c2, if_pos (Or.inr c2)]
    · rw [if_neg c2, if_neg (by omega)]
end WC
