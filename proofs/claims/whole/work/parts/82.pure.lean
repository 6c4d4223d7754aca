/-! PURE 23: the works, what they read (reference) -/
theorem ln_2453 : (2453 : Int32) = nI 2453 := rfl
theorem ln_2454 : (2454 : Int32) = nI 2454 := rfl
theorem ln_2455 : (2455 : Int32) = nI 2455 := rfl
def WkR (σ : Mm) (D : PD) (V : SD) : Prop := (m_ar σ 31 0 0 = nI (d_p D) ∧ m_ar σ 31 0 1 = nI (d_v D) ∧ m_ar σ 31 0 2 = nI (d_s D)) ∧
  (∀ v, v < d_v D → m_ar σ 31 0 (2470 + 6 * v + 0) = nI (d_te D v) ∧ m_ar σ 31 0 (2470 + 6 * v + 1) = nI (d_ho D v) ∧ m_ar σ 31 0 (2470 + 6 * v + 2) = nI (d_st D v)) ∧
  (∀ s, s < d_s D → m_ar σ 31 0 (2520 + 5 * s + 0) = nI (d_fs D s) ∧ m_ar σ 31 0 (2520 + 5 * s + 1) = nI (d_sn D s) ∧ m_ar σ 31 0 (2520 + 5 * s + 2) = (if d_be D s then 1 else 0) ∧ m_ar σ 31 0 (2520 + 5 * s + 3) = nI (d_sl D s)) ∧
  (∀ q, q < 4 → m_ar σ 31 0 (2460 + 2 * q) = nI (v_fr V q) ∧ m_ar σ 31 0 (2460 + 2 * q + 1) = nI (v_sg V q)) ∧
  (∀ v, v < d_v D → m_ar σ 31 0 (2470 + 6 * v + 3) = nI (v_pt V v) ∧ m_ar σ 31 0 (2470 + 6 * v + 4) = v_tn V v ∧ m_ar σ 31 0 (2470 + 6 * v + 5) = v_sk V v) ∧
  (∀ k, k < d_s D → m_ar σ 31 0 (2520 + 5 * k + 4) = nI (v_py V k)) ∧ m_ar σ 31 0 2454 = nI (v_li V) ∧ m_ar σ 31 0 2455 = nI (v_he V)
def SpR (σ : Mm) (g : Nat → Int) : Prop := ∀ v, v < 8 → m_ar σ 31 8 v = iI (g v)
section WR
variable {σ : Mm} {v : Nat} {D : PD} {V : SD} {g : Nat → Int}
theorem vaneAt_n {k : Nat} (hv : v < 8) (hk : k < 6) : fX12_vaneAt 31 (nI v) (nI k) σ = some (m_ar σ 31 0 (2470 + 6 * v + k), σ) := by
  unfold fX12_vaneAt
  rw [ln_2470, ln_6, nI_mul, nI_ad, nI_ad, g_ar_n (by omega) (by decide)]
theorem shaftAt_n {k : Nat} (hv : v < 10) (hk : k < 5) : fX12_shaftAt 31 (nI v) (nI k) σ = some (m_ar σ 31 0 (2520 + 5 * v + k), σ) := by
  unfold fX12_shaftAt
  rw [ln_2520, ln_5, nI_mul, nI_ad, nI_ad, g_ar_n (by omega) (by decide)]
theorem va0 (hD : WFD D) (h : WkR σ D V) (hv : v < d_v D) : fX12_vaneAt 31 (nI v) 0 σ = some (nI (d_te D v), σ) := by
  have hd := hD.1
  have := vaneAt_n (σ := σ) (v := v) (k := 0) (by omega) (by omega)
  rw [(h.2.1 v hv).1] at this; exact this
theorem va1 (hD : WFD D) (h : WkR σ D V) (hv : v < d_v D) : fX12_vaneAt 31 (nI v) 1 σ = some (nI (d_ho D v), σ) := by
  have hd := hD.1
  have := vaneAt_n (σ := σ) (v := v) (k := 1) (by omega) (by omega)
  rw [(h.2.1 v hv).2.1] at this; exact this
theorem va2 (hD : WFD D) (h : WkR σ D V) (hv : v < d_v D) : fX12_vaneAt 31 (nI v) 2 σ = some (nI (d_st D v), σ) := by
  have hd := hD.1
  have := vaneAt_n (σ := σ) (v := v) (k := 2) (by omega) (by omega)
  rw [(h.2.1 v hv).2.2] at this; exact this
theorem va3 (hD : WFD D) (h : WkR σ D V) (hv : v < d_v D) : fX12_vaneAt 31 (nI v) 3 σ = some (nI (v_pt V v), σ) := by
  have hd := hD.1
  have := vaneAt_n (σ := σ) (v := v) (k := 3) (by omega) (by omega)
  rw [(h.2.2.2.2.1 v hv).1] at this; exact this
theorem va5 (hD : WFD D) (h : WkR σ D V) (hv : v < d_v D) : fX12_vaneAt 31 (nI v) 5 σ = some (v_sk V v, σ) := by
  have hd := hD.1
  have := vaneAt_n (σ := σ) (v := v) (k := 5) (by omega) (by omega)
  rw [(h.2.2.2.2.1 v hv).2.2] at this; exact this
theorem sa0 (hD : WFD D) (h : WkR σ D V) (hv : v < d_s D) : fX12_shaftAt 31 (nI v) 0 σ = some (nI (d_fs D v), σ) := by
  have hd := hD.1
  have := shaftAt_n (σ := σ) (v := v) (k := 0) (by omega) (by omega)
  rw [(h.2.2.1 v hv).1] at this; exact this
theorem sa1 (hD : WFD D) (h : WkR σ D V) (hv : v < d_s D) : fX12_shaftAt 31 (nI v) 1 σ = some (nI (d_sn D v), σ) := by
  have hd := hD.1
  have := shaftAt_n (σ := σ) (v := v) (k := 1) (by omega) (by omega)
  rw [(h.2.2.1 v hv).2.1] at this; exact this
theorem sa2 (hD : WFD D) (h : WkR σ D V) (hv : v < d_s D) : fX12_shaftAt 31 (nI v) 2 σ = some (if d_be D v then 1 else 0, σ) := by
  have hd := hD.1
  have := shaftAt_n (σ := σ) (v := v) (k := 2) (by omega) (by omega)
  rw [(h.2.2.1 v hv).2.2.1] at this; exact this
theorem sa3 (hD : WFD D) (h : WkR σ D V) (hv : v < d_s D) : fX12_shaftAt 31 (nI v) 3 σ = some (nI (d_sl D v), σ) := by
  have hd := hD.1
  have := shaftAt_n (σ := σ) (v := v) (k := 3) (by omega) (by omega)
  rw [(h.2.2.1 v hv).2.2.2] at this; exact this
theorem sa4 (hD : WFD D) (h : WkR σ D V) (hv : v < d_s D) : fX12_shaftAt 31 (nI v) 4 σ = some (nI (v_py V v), σ) := by
  have hd := hD.1
  have := shaftAt_n (σ := σ) (v := v) (k := 4) (by omega) (by omega)
  rw [h.2.2.2.2.2.1 v hv] at this; exact this
theorem isCalm_r (hD : WFD D) (hV : WFV D V) (h : WkR σ D V) (hv : v < d_v D) : fX12_isCalm 31 (nI v) σ = some (if clB D V v then 1 else 0, σ) := by
  have hd := hD.1
  have hb := hD.2.1 v hv
  have hf := hV.1 (d_ho D v) (by omega)
  unfold fX12_isCalm clB
  rw [va1 hD h hv, c_I_s, ln_2460, ln_2, nI_mul, nI_ad, ln_1, nI_ad, g_ar_n (by omega) (by decide), (h.2.2.2.1 _ (by omega)).2, ln_0, ife_n (by omega) (by decide)]
  by_cases c : v_sg V (d_ho D v) = 0
  · rw [if_pos c, beq_iff_eq.mpr c]; rfl
  · rw [if_neg c, beq_eq_false_iff_ne.mpr c]; rfl
theorem wantOf_r (hD : WFD D) (hV : WFV D V) (h : WkR σ D V) (hv : v < d_v D) : fX12_wantOf 31 (nI v) σ = some (nI (wtN D V v), σ) := by
  have hd := hD.1
  have hb := hD.2.1 v hv
  have hf := hV.1 (d_ho D v) (by omega)
  have hwa := wt_alt hD hV hv
  unfold fX12_wantOf wtN
  rw [va0 hD h hv, c_I_s, va1 hD h hv, c_I_s, ln_2460, ln_2, nI_mul, nI_ad, g_ar_n (by omega) (by decide), (h.2.2.2.1 _ (by omega)).1, va0 hD h hv, c_I_s, n_z_e (fun z => by rw [nI_eq0 (by omega)] at z; omega), ln_8, ln_16, nI_mul, nI_ad, pk_div (by omega) (by decide) (by decide), pk_rem (by omega) (by omega) (by omega)]
theorem isRight_r (hD : WFD D) (hV : WFV D V) (h : WkR σ D V) (hv : v < d_v D) : fX12_isRight 31 (nI v) σ = some (if rgB D V v then 1 else 0, σ) := by
  have hd := hD.1
  have hb := hD.2.1 v hv
  have hpt := hV.2.1 v hv
  have hwl := wt_lt (V := V) hD hv
  unfold fX12_isRight rgB
  rw [isCalm_r hD hV h hv, c_I_s]
  cases clB D V v
  · rw [if_pos (by decide), va3 hD h hv, c_I_s, wantOf_r hD hV h hv, c_I_s, ife_n (by omega) (by omega)]
    by_cases c : v_pt V v = wtN D V v
    · rw [if_pos c, if_pos (by simp [c])]
    · rw [if_neg c, if_neg (by simp [c])]
  · rfl
theorem toRight_r {q : Nat} (hD : WFD D) (hV : WFV D V) (h : WkR σ D V) (hv : v < d_v D) (hq : q < d_te D v) : fX12_toRight 31 (nI v) (nI q) σ = some (nI (trN D V v q), σ) := by
  have hb := hD.2.1 v hv
  have hwl := wt_lt (V := V) hD hv
  unfold fX12_toRight trN
  have e4 : nI (wtN D V v) - nI q + nI (d_te D v) = nI (wtN D V v + d_te D v - q) := by
    rw [nI_iI, nI_iI, nI_iI, nI_iI, iI_sub, iI_add]; congr 1; omega
  rw [va0 hD h hv, c_I_s, wantOf_r hD hV h hv, c_I_s, n_z_e (fun z => by rw [nI_eq0 (by omega)] at z; omega), e4, pk_rem (by omega) (by omega) (by omega)]
theorem tr_lt {q : Nat} (hD : WFD D) (hv : v < d_v D) : trN D V v q < d_te D v := Nat.mod_lt _ (by have := hD.2.1 v hv; omega)
theorem farFrom_r {q : Nat} (hD : WFD D) (hV : WFV D V) (h : WkR σ D V) (hv : v < d_v D) (hq : q < d_te D v) : fX12_farFrom 31 (nI v) (nI q) σ = some (nI (faN D V v q), σ) := by
  have hb := hD.2.1 v hv
  have ht := tr_lt (V := V) (q := q) hD hv
  unfold fX12_farFrom faN
  rw [toRight_r hD hV h hv hq, c_I_s, va0 hD h hv, c_I_s, nI_sub (by omega), ifle_n (by omega) (by omega)]
  by_cases c : d_te D v - trN D V v q ≤ trN D V v q
  · rw [if_pos c, Nat.min_eq_right c]
  · rw [if_neg c, Nat.min_eq_left (by omega)]
theorem turned_r {z : Int} (hD : WFD D) (hV : WFV D V) (h : WkR σ D V) (hv : v < d_v D) (hz : z = -1 ∨ z = 0 ∨ z = 1) : fX12_turned 31 (nI v) (iI z) σ = some (nI (tnN D V v z), σ) := by
  have hb := hD.2.1 v hv
  have hpt := hV.2.1 v hv
  unfold fX12_turned
  have e4 : nI (v_pt V v) + iI z + nI (d_te D v) = nI (v_pt V v + z + d_te D v).toNat := by
    rw [nI_iI, nI_iI, iI_add, iI_add, nI_iI, Int.toNat_of_nonneg (by omega)]
  rw [va3 hD h hv, c_I_s, va0 hD h hv, c_I_s, va0 hD h hv, c_I_s, n_z_e (fun z => by rw [nI_eq0 (by omega)] at z; omega), e4, pk_rem (by omega) (by omega) (by omega)]
  congr 3
  unfold tnN
  rw [Int.toNat_emod (by omega) (by omega)]
  rfl
theorem playBehind_r {k : Nat} (hD : WFD D) (h : WkR σ D V) (hS : SpR σ g) (hk : k < d_s D) : fX12_playBehind 31 (nI k) σ = some (iI (pbZ D V g k), σ) := by
  have hd := hD.1
  have hb := hD.2.2 k hk
  unfold fX12_playBehind pbZ
  rw [sa1 hD h hk, c_I_s, g_ar_n (by omega) (by decide), hS _ (by omega), sa4 hD h hk, c_I_s, sa0 hD h hk, c_I_s, g_ar_n (by omega) (by decide), hS _ (by omega), sa2 hD h hk, c_I_s, nI_iI, iI_add]
  cases d_be D k
  · rw [if_neg (by decide), iI_add]
    simp only [Bool.false_eq_true, if_false]
    rw [show (v_py V k : Int) + g (d_fs D k) + g (d_sn D k) = v_py V k + (g (d_fs D k) - -1 * g (d_sn D k)) by omega]
  · rw [if_pos rfl, iI_neg, iI_add]
    simp only [if_true]
    rw [show (v_py V k : Int) + g (d_fs D k) + -g (d_sn D k) = v_py V k + (g (d_fs D k) - 1 * g (d_sn D k)) by omega]
theorem isOut_r {k : Nat} (hD : WFD D) (hV : WFV D V) (h : WkR σ D V) (hg : oneG g) (hS : SpR σ g) (hk : k < d_s D) : fX12_isOut 31 (nI k) σ = some (if ouB D V g k then 1 else 0, σ) := by
  have hr := pb_r hV hD hg hk
  have hb := hD.2.2 k hk
  unfold fX12_isOut ouB
  rw [playBehind_r hD h hS hk, c_I_s, ln_0, show nI 0 = iI 0 from rfl, ifl_i (by omega) (by omega) (by omega) (by omega), playBehind_r hD h hS hk, c_I_s, sa3 hD h hk, c_I_s, nI_iI (d_sl D k), ifle_i (by omega) (by omega) (by omega) (by omega)]
  by_cases c1 : pbZ D V g k < 0
  · rw [if_pos c1, decide_eq_true c1]; rfl
  · rw [if_neg c1, decide_eq_false c1]
    by_cases c2 : (d_sl D k : Int) < pbZ D V g k
    · rw [if_neg (by omega), decide_eq_true c2]; rfl
    · rw [if_pos (by omega), decide_eq_false c2]; rfl
theorem isJoining_r {k : Nat} (hD : WFD D) (hV : WFV D V) (h : WkR σ D V) (hk : k < d_s D) : fX12_isJoining 31 (nI k) σ = some (if joB V k then 1 else 0, σ) := by
  have hd := hD.1
  unfold fX12_isJoining joB
  rw [ln_2454, g_ar_n (by decide) (by decide), h.2.2.2.2.2.2.1, has_n (li_b hD hV) (by omega)]
  cases (v_li V).testBit k <;> rfl
theorem rightSet_l (hD : WFD D) (hV : WFV D V) (h : WkR σ D V) : ∀ (n i : Nat), i ≤ d_v D → d_v D - i < n → fX12_rightSet_4 31 n (nI (bsN (rgB D V) i)) (nI i) σ = some (nI (bsN (rgB D V) (d_v D)), σ) := by
  intro n
  induction n with
  | zero => intro i _ h; omega
  | succ n ih =>
    intro i hi hn
    have hd := hD.1
    rw [fX12_rightSet_4, show g_ar σ 31 0 2950 (1 : Int32) = g_ar σ 31 0 2950 (nI 1) from rfl, g_ar_n (by decide) (by decide), h.1.2.1, ifle_n (by omega) (by omega)]
    by_cases c : d_v D ≤ i
    · have : i = d_v D := by omega
      subst this
      rw [if_pos c]
    · rw [if_neg c, isRight_r hD hV h (by omega), c_I_s, nI_s]
      have ih := ih (i + 1) (by omega) (by omega)
      rw [bsN] at ih
      cases hr : rgB D V i
      · rw [hr] at ih
        rw [if_pos (by decide), show (0 : Int32) = nI 0 from rfl, or_n, Nat.or_zero]
        have e : wiN (bsN (rgB D V) i) i false = bsN (rgB D V) i := by
          apply Nat.eq_of_testBit_eq
          intro j
          rw [wiN_bit]
          by_cases cj : j = i
          · rw [if_pos cj, cj, bsN_bit]; simp
          · rw [if_neg cj]
        rw [e] at ih
        exact ih
      · rw [hr] at ih
        rw [if_neg (by decide), sh1 (by omega), or_n]
        have e : wiN (bsN (rgB D V) i) i true = bsN (rgB D V) i ||| 2 ^ i := rfl
        rw [e] at ih
        exact ih
theorem rightSet_r (hD : WFD D) (hV : WFV D V) (h : WkR σ D V) : fX12_rightSet 31 σ = some (nI (bsN (rgB D V) (d_v D)), σ) := by
  have := hD.1
  exact rightSet_l hD hV h FU 0 (by omega) (FU_gt (by omega))
theorem shorter_r (hD : WFD D) (hV : WFV D V) (h : WkR σ D V) (hv : v < d_v D) : fX12_shorter 31 (nI v) σ = some (iI (swZ D V v), σ) := by
  have hb := hD.2.1 v hv
  have ht := tr_lt (V := V) (q := v_pt V v) hD hv
  unfold fX12_shorter swZ
  rw [va3 hD h hv, c_I_s, toRight_r hD hV h hv (hV.2.1 v hv), c_I_s, va0 hD h hv, c_I_s, nI_sub (by omega), ifl_n (by omega) (by omega)]
  by_cases c : d_te D v - trN D V v (v_pt V v) < trN D V v (v_pt V v)
  · rw [if_pos c, if_neg (by omega)]; rfl
  · rw [if_neg c, if_pos (by omega)]; rfl
end WR
