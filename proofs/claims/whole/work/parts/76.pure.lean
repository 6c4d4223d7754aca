/-! PURE 17: what is dragged (class) -/
theorem has_e {a i : Nat} (ha : a < 2147483648) (hi : i < 31) (σ : Mm) : fX11_has (nI a) (nI i) σ = some (if a.testBit i then 1 else 0, σ) := by
  unfold fX11_has
  rw [has_n ha hi]
  cases a.testBit i <;> rfl
theorem iI_0 {z : Int} (h1 : -1000000 ≤ z) (h2 : z ≤ 1000000) : iI z = 0 ↔ z = 0 := by
  rw [show (0 : Int32) = iI 0 from rfl, iI_eq (by omega) (by omega) (by omega) (by omega)]
section WC
variable {σ : Mm} {p s v : Nat} {D : PD} {V : SD} {g : Nat → Int}
theorem li_b (hD : WFD D) (hV : WFV D V) : v_li V < 2147483648 := pw31 (n := d_s D) (by have := hD.1; omega) hV.2.2.2.1
theorem he_b (hD : WFD D) (hV : WFV D V) : v_he V < 2147483648 := pw31 (n := d_v D) (by have := hD.1; omega) hV.2.2.2.2.1
theorem pb_r {k : Nat} (hV : WFV D V) (hD : WFD D) (hg : oneG g) (hk : k < d_s D) : -2 ≤ pbZ D V g k ∧ pbZ D V g k ≤ 11 := by
  have h1 := hV.2.2.1 k hk
  have h2 := hD.2.2 k hk
  have h3 := hg (d_fs D k)
  have h4 := hg (d_sn D k)
  unfold pbZ
  cases d_be D k <;> simp <;> omega
/-- a shaft's play behind the step: in bounds? -/
theorem pbb_c {k : Nat} (hD : WFD D) (hV : WFV D V) (h : WkC σ p s D V) (hg : oneG g) (hS : SpC σ g) (hk : k < d_s D) {α : Type} (K : Int32 → Mm → Option α) : r_rf σ 10 1 4 (fun q14 => g_ar σ q14 5 10 (nI k) (fun x15 => c_I (fX10_playChange 10 (nI k) σ) (fun x18 σ16 => c_I (fX10_isInBounds 10 (nI k) (x15 + x18) σ16) K))) = K (if ouB D V g k then 0 else 1) σ := by
  have h' := h
  obtain ⟨⟨e1, e2, k1, k2⟩, hp, hs, hw⟩ := h
  have hd := hD.1
  have hr := pb_r hV hD hg hk
  rw [r_rf_e e2 k2, g_ar_n (by omega) (by decide), hs.2.2.1 k hk, plch_c hD h' hS hk, c_I_s, nI_iI (v_py V k), iI_add, show (v_py V k : Int) + (g (d_fs D k) - (if d_be D k then 1 else -1) * g (d_sn D k)) = pbZ D V g k from rfl, inb_c hD h' hk (by omega) (by omega), c_I_s]
  congr 1
  unfold ouB
  by_cases c1 : pbZ D V g k < 0 <;> by_cases c2 : (d_sl D k : Int) < pbZ D V g k <;> simp [c1, c2]
theorem ds65_1 {k : Nat} (hD : WFD D) (hV : WFV D V) (h : WkC σ p s D V) (hg : oneG g) (hS : SpC σ g) (hk : k < d_s D) (K : Int32 → Mm → Option (Int32 × Mm)) : fX10_draggingShaft_65 10 K (nI k) 1 σ = if (joB V k && ouB D V g k) = true then some (nI k, σ) else K (nI (k + 1)) σ := by
  have h' := h
  obtain ⟨⟨e1, e2, k1, k2⟩, hp, hs, hw⟩ := h
  have hd := hD.1
  unfold fX10_draggingShaft_65 joB
  rw [if_neg (by decide), r_rf_e e2 k2, r_sc_s, hs.2.2.2.1, has_e (li_b hD hV) (by omega), c_I_s, nI_s]
  cases (v_li V).testBit k
  · simp only [Bool.false_eq_true, if_false, if_true, Bool.not_false, Bool.true_and]
    rw [pbb_c hD hV h' hg hS hk]
    cases ouB D V g k <;> rfl
  · rfl
theorem ds65_0 {k : Nat} (K : Int32 → Mm → Option (Int32 × Mm)) : fX10_draggingShaft_65 10 K (nI k) 0 σ = K (nI (k + 1)) σ := by
  unfold fX10_draggingShaft_65
  rw [if_pos rfl, nI_s]
theorem ds_step {k n : Nat} (hD : WFD D) (hV : WFV D V) (h : WkC σ p s D V) (hg : oneG g) (hS : SpC σ g) (hk : k < d_s D) : fX10_draggingShaft_2 10 (n + 1) (nI k) σ = if drB D V g k = true then some (nI k, σ) else fX10_draggingShaft_2 10 n (nI (k + 1)) σ := by
  have h' := h
  obtain ⟨⟨e1, e2, k1, k2⟩, hp, hs, hw⟩ := h
  have hd := hD.1
  have hb := hD.2.2 k hk
  obtain ⟨f1, f2, f3, f4⟩ := hp.2.2.1 k hk
  have g1 := hg (d_fs D k)
  have g2 := hg (d_sn D k)
  rw [fX10_draggingShaft_2, r_rf_e e1 k1, r_sc_s, hp.1.2.2, ifle_n (by omega) (by omega), if_neg (by omega), r_rf_e e1 k1, g_ar_n (by omega) (by decide), f1, g_ar_n (by omega) (by decide), hS _ (by omega)]
  unfold fX10_draggingShaft_35 drB
  rw [r_rf_e e1 k1, r_rf_e e1 k1, g_ar_n (by omega) (by decide), g_ar_n (by omega) (by decide), f2, g_ar_n (by omega) (by decide), g_ar_n (by omega) (by decide), hS _ (by omega)]
  by_cases c1 : g (d_fs D k) = 0
  · have d1 : (g (d_fs D k) == 0) = true := beq_iff_eq.mpr c1
    rw [if_pos (by rw [c1]; rfl)]
    by_cases c2 : g (d_sn D k) = 0
    · have d2 : (g (d_sn D k) == 0) = true := beq_iff_eq.mpr c2
      rw [if_pos (by rw [c2]; rfl), if_pos rfl, ds65_0, d1, d2]
      simp
    · have d2 : (g (d_sn D k) == 0) = false := beq_eq_false_iff_ne.mpr c2
      rw [if_neg (by rw [iI_0 (by omega) (by omega)]; exact c2), if_neg (by decide), ds65_1 hD hV h' hg hS hk, d1, d2]
      simp
  · have d1 : (g (d_fs D k) == 0) = false := beq_eq_false_iff_ne.mpr c1
    rw [if_neg (by rw [iI_0 (by omega) (by omega)]; exact c1)]
    by_cases c2 : g (d_sn D k) = 0
    · have d2 : (g (d_sn D k) == 0) = true := beq_iff_eq.mpr c2
      rw [if_pos (by rw [c2]; rfl), if_neg (by decide), ds65_1 hD hV h' hg hS hk, d1, d2]
      simp
    · have d2 : (g (d_sn D k) == 0) = false := beq_eq_false_iff_ne.mpr c2
      rw [if_neg (by rw [iI_0 (by omega) (by omega)]; exact c2), if_pos rfl, ds65_0, d1, d2]
      simp
def oI (x : Option Nat) : Int32 := match x with
  | none => -1
  | some k => nI k
theorem ds_l (hD : WFD D) (hV : WFV D V) (h : WkC σ p s D V) (hg : oneG g) (hS : SpC σ g) : ∀ (n k : Nat), k ≤ d_s D → d_s D - k < n → fX10_draggingShaft_2 10 n (nI k) σ = some (oI (ffF (drB D V g) (d_s D - k) k), σ) := by
  intro n
  induction n with
  | zero => intro k _ h; omega
  | succ n ih =>
    intro k hk hn
    have hd := hD.1
    by_cases c : k < d_s D
    · rw [ds_step hD hV h hg hS c, show d_s D - k = (d_s D - (k + 1)) + 1 by omega, ffF]
      by_cases c2 : drB D V g k = true
      · rw [if_pos c2, if_pos c2]; rfl
      · rw [if_neg c2, if_neg c2]; exact ih (k + 1) (by omega) (by omega)
    · have : k = d_s D := by omega
      subst this
      obtain ⟨⟨e1, e2, k1, k2⟩, hp, hs, hw⟩ := h
      rw [fX10_draggingShaft_2, r_rf_e e1 k1, r_sc_s, hp.1.2.2, ifle_n (by omega) (by omega), if_pos (Nat.le_refl _), Nat.sub_self]
      rfl
theorem ds_c (hD : WFD D) (hV : WFV D V) (h : WkC σ p s D V) (hg : oneG g) (hS : SpC σ g) : fX10_draggingShaft 10 σ = some (oI (fsF (drB D V g) (d_s D)), σ) := by
  unfold fX10_draggingShaft fsF
  have := hD.1
  exact ds_l hD hV h hg hS FU 0 (by omega) (FU_gt (by omega))
theorem ib_l (hD : WFD D) (hV : WFV D V) (h : WkC σ p s D V) (hg : oneG g) (hS : SpC σ g) : ∀ (n k : Nat), k ≤ d_s D → d_s D - k < n → fX10_isAllPlayInBounds_2 10 n (nI k) σ = some (if (ffF (fun s => joB V s && ouB D V g s) (d_s D - k) k).isNone then 1 else 0, σ) := by
  intro n
  induction n with
  | zero => intro k _ h; omega
  | succ n ih =>
    intro k hk hn
    have hd := hD.1
    have h' := h
    obtain ⟨⟨e1, e2, k1, k2⟩, hp, hs, hw⟩ := h
    rw [fX10_isAllPlayInBounds_2, r_rf_e e1 k1, r_sc_s, hp.1.2.2, ifle_n (by omega) (by omega)]
    by_cases c : k < d_s D
    · rw [if_neg (by omega), r_rf_e e2 k2, r_sc_s, hs.2.2.2.1, has_e (li_b hD hV) (by omega), c_I_s, nI_s, show d_s D - k = (d_s D - (k + 1)) + 1 by omega, ffF]
      have ih := ih (k + 1) (by omega) (by omega)
      unfold joB at ih ⊢
      cases hl : (v_li V).testBit k
      · simp only [Bool.false_eq_true, if_false, if_true, Bool.not_false, Bool.true_and]
        rw [pbb_c hD hV h' hg hS c]
        cases ouB D V g k
        · simp only [Bool.false_eq_true, if_false]
          rw [if_neg (by decide)]; exact ih
        · rfl
      · simp only [if_true, Bool.not_true, Bool.false_and, Bool.false_eq_true, if_false]
        rw [if_neg (by decide)]; exact ih
    · have : k = d_s D := by omega
      subst this
      rw [if_pos (Nat.le_refl _), Nat.sub_self]
      rfl
theorem ib_c (hD : WFD D) (hV : WFV D V) (h : WkC σ p s D V) (hg : oneG g) (hS : SpC σ g) : fX10_isAllPlayInBounds 10 σ = some (if (fsF (fun s => joB V s && ouB D V g s) (d_s D)).isNone then 1 else 0, σ) := by
  unfold fX10_isAllPlayInBounds fsF
  have := hD.1
  exact ib_l hD hV h hg hS FU 0 (by omega) (FU_gt (by omega))
end WC
