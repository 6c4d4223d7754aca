/-! PURE 22: quarters (class) -/
abbrev MTq : Type := SD × CT
def q1S (D : PD) (n : Nat) (M : MTq) : MTq := if dvB D M.1 n then (mvF D M.1 (egZ D M.1 n (swZ D M.1 n)), mvC D M.1 (egZ D M.1 n (swZ D M.1 n)) (d_v D) M.2) else M
def qtS (D : PD) : Nat → MTq → MTq
  | 0, M => M
  | n + 1, M => q1S D n (qtS D n M)
/-- a quarter -/
def qtM (D : PD) (M : MTq) : MTq := qtS D (d_v D) M
def qnM (D : PD) : Nat → MTq → MTq
  | 0, M => M
  | n + 1, M => qnM D n (qtM D M)
/-- how many quarters until all stands still -/
def cqN (D : PD) : Nat → MTq → Nat
  | 0, _ => 0
  | n + 1, M => if (qtM D M).2.1 = M.2.1 then 0 else cqN D n (qtM D M) + 1
section WC
variable {σ τ : Mm} {p s v : Nat} {D : PD} {V : SD} {g : Nat → Int} {sk : Int32} {C : CT} {M : MTq}
theorem ad_keep {k i : Nat} (h : drB D V g k = true) (hi : g i ≠ 0) : adZ D g k i = g i := by
  unfold adZ
  have h1 := dr_1 h
  rw [if_neg]
  intro e
  by_cases c : g (d_fs D k) = 0
  · rw [if_pos c] at e; exact hi (by rw [e]; exact c)
  · rw [if_neg c] at e
    rcases h1 with h1 | h1
    · exact c h1.1
    · exact hi (by rw [e]; exact h1.2)
theorem en_keep {i : Nat} : ∀ (n : Nat) (g : Nat → Int), g i ≠ 0 → enZ D V n g i = g i := by
  intro n
  induction n with
  | zero => intro g _; rfl
  | succ n ih =>
    intro g h
    rw [enZ]
    cases hf : fsF (drB D V g) (d_s D) with
    | none => rfl
    | some k =>
      obtain ⟨-, -, hdr, -⟩ := ffF_some _ _ _ _ hf
      have := ad_keep hdr h
      dsimp only
      rw [ih _ (by rw [this]; exact h), this]
theorem eg_keep {t : Int} (ht : t ≠ 0) : egZ D V v t v = t := by
  have : beZ v t v = t := by unfold beZ; rw [if_pos rfl]
  have h : enZ D V 8 (beZ v t) v = beZ v t v := en_keep (D := D) (V := V) (i := v) 8 (beZ v t) (by rw [this]; exact ht)
  show enZ D V 8 (beZ v t) v = t
  exact h.trans this
theorem mvC_ge : ∀ j, C.1 ≤ (mvC D V g j C).1 := by
  intro j
  induction j with
  | zero => exact Nat.le_refl _
  | succ j ih =>
    rw [mvC]
    by_cases c : g j = 0
    · rw [if_pos c]; exact ih
    · rw [if_neg c]
      by_cases c2 : tnN D V j (g j) = 0
      · rw [if_pos c2]; exact Nat.le_succ_of_le ih
      · rw [if_neg c2]; exact Nat.le_succ_of_le ih
theorem mvC_gt (hv : v < d_v D) (h0 : g v ≠ 0) : ∀ j, v < j → C.1 < (mvC D V g j C).1 := by
  intro j
  induction j with
  | zero => intro h; omega
  | succ j ih =>
    intro h
    have h2 := mvC_ge (D := D) (V := V) (g := g) (C := C)
    rw [mvC]
    by_cases c : v = j
    · subst c
      rw [if_neg h0]
      have := h2 v
      by_cases c2 : tnN D V v (g v) = 0
      · rw [if_pos c2]; exact Nat.lt_succ_of_le this
      · rw [if_neg c2]; exact Nat.lt_succ_of_le this
    · have := ih (by omega)
      by_cases c1 : g j = 0
      · rw [if_pos c1]; exact this
      · rw [if_neg c1]
        by_cases c2 : tnN D V j (g j) = 0
        · rw [if_pos c2]; exact Nat.lt_succ_of_lt this
        · rw [if_neg c2]; exact Nat.lt_succ_of_lt this
theorem sw_0 : swZ D V v ≠ 0 := by
  unfold swZ; split <;> decide
theorem q1_t (hv : v < d_v D) : (q1S D v M).2.1 = M.2.1 → q1S D v M = M := by
  unfold q1S
  split
  · intro h
    have : M.2.1 < (mvC D M.1 (egZ D M.1 v (swZ D M.1 v)) (d_v D) M.2).1 := mvC_gt hv (by rw [eg_keep sw_0]; exact sw_0) _ hv
    exact absurd h (by show ¬ (mvC D M.1 (egZ D M.1 v (swZ D M.1 v)) (d_v D) M.2).1 = _; omega)
  · exact fun _ => rfl
theorem q1_le : M.2.1 ≤ (q1S D v M).2.1 ∧ (q1S D v M).2.1 ≤ M.2.1 + d_v D ∧ (q1S D v M).2.2.1 ≤ M.2.2.1 + d_v D := by
  unfold q1S
  split
  · have h1 := mvC_le (D := D) (V := M.1) (g := egZ D M.1 v (swZ D M.1 v)) M.2 (d_v D)
    refine ⟨?_, h1.2, h1.1⟩
    exact mvC_ge (d_v D)
  · omega
theorem qt_le : ∀ n, M.2.1 ≤ (qtS D n M).2.1 ∧ (qtS D n M).2.1 ≤ M.2.1 + n * d_v D ∧ (qtS D n M).2.2.1 ≤ M.2.2.1 + n * d_v D := by
  intro n
  induction n with
  | zero => simp [qtS]
  | succ n ih =>
    rw [qtS, Nat.succ_mul]
    have := q1_le (D := D) (v := n) (M := qtS D n M)
    omega
theorem qt_t : ∀ n, n ≤ d_v D → (qtS D n M).2.1 = M.2.1 → qtS D n M = M := by
  intro n
  induction n with
  | zero => exact fun _ _ => rfl
  | succ n ih =>
    intro hn h
    rw [qtS] at h ⊢
    have h1 := q1_le (D := D) (v := n) (M := qtS D n M)
    have h2 := (qt_le (D := D) (M := M) n).1
    have h3 : (qtS D n M).2.1 = M.2.1 := by omega
    rw [q1_t (by omega) (by omega), ih (by omega) h3]
theorem qt_still (h : (qtM D M).2.1 = M.2.1) : qtM D M = M := qt_t _ (Nat.le_refl _) h
theorem qn_still (h : (qtM D M).2.1 = M.2.1) : ∀ n, qnM D n M = M := by
  intro n
  induction n with
  | zero => rfl
  | succ n ih => rw [qnM, qt_still h, ih]
theorem qtM_le (hD : WFD D) : (qtM D M).2.1 ≤ M.2.1 + 64 ∧ (qtM D M).2.2.1 ≤ M.2.2.1 + 64 := by
  have h := qt_le (D := D) (M := M) (d_v D)
  have : d_v D * d_v D ≤ 8 * 8 := Nat.mul_le_mul hD.1.2.1 hD.1.2.1
  unfold qtM
  omega
def WGs (s : Nat) (σ τ : Mm) : Prop := ∀ q, q ≠ 10 → q ≠ s → BU q σ τ

theorem CtC.w10 (h : CtC σ sk C) (w : W10 σ τ) : CtC τ sk C := ⟨(w.2.2.2 5 (by decide)).trans h.1, (w.2.2.2 6 (by decide)).trans h.2.1, (w.2.2.2 7 (by decide)).trans h.2.2.1, (w.2.2.2 8 (by decide)).trans h.2.2.2⟩
theorem dv_eg (h : dvB D V v = true) : egB D V (egZ D V v (swZ D V v)) = true := by
  unfold dvB at h
  simp only [Bool.and_eq_true] at h
  exact h.1.2
theorem gq_15 (hD : WFD D) (a : Int32) (K : Int32 → Mm → Option (Int32 × Mm)) (x y : Int32) : ∀ (n i : Nat) (M : MTq) (σ : Mm), i ≤ d_v D → d_v D - i < n → WFV D (qtS D i M).1 → WkC σ p s D (qtS D i M).1 → CtC σ sk (qtS D i M).2 → M.2.2.1 + 64 < 1000000000 → ∃ τ, fX10_goOn_15 10 a K n x y (nI i) σ = fX10_goOn_46 10 a K x y τ ∧ WFV D (qtM D M).1 ∧ WkC τ p s D (qtM D M).1 ∧ CtC τ sk (qtM D M).2 ∧ WGs s σ τ := by
  intro n
  induction n with
  | zero => intro i M σ _ h; omega
  | succ n ih =>
    intro i M σ hi hn hV h hc hC
    have hd := hD.1
    have h' := h
    obtain ⟨⟨e1, e2, k1, k2⟩, hp, hs, hw⟩ := h
    have n2 : s ≠ 10 := fun e => by rw [e] at k2; revert k2; decide
    rw [fX10_goOn_15, r_rf_e e1 k1, r_sc_s, hp.1.2.1, ifle_n (by omega) (by omega)]
    by_cases c : d_v D ≤ i
    · have : i = d_v D := by omega
      subst this
      rw [if_pos c]
      exact ⟨σ, rfl, hV, h', hc, fun _ _ _ => BU.rf⟩
    · have hv : i < d_v D := by omega
      obtain ⟨τ, e, w, r⟩ := isDriven_c hD hV h' hv
      have h64 : i * d_v D ≤ 64 := Nat.le_trans (Nat.mul_le_mul (show i ≤ 8 by omega) hd.2.1) (by decide)
      have hle := (qt_le (D := D) (M := M) i).2.2
      rw [if_neg c, e, c_I_s, nI_s]
      by_cases cd : dvB D (qtS D i M).1 i = true
      · rw [if_pos cd, if_neg (by decide)]
        obtain ⟨r1, r2, r3⟩ := r cd
        obtain ⟨ω, f, q1, q2, q3, q4⟩ := move_c hD hV (h'.w10 w) r1 r2 r3 (dv_eg cd) (by omega) (hc.w10 w)
        rw [f, c_V_s]
        have eq1 : qtS D (i + 1) M = (mvF D (qtS D i M).1 (egZ D (qtS D i M).1 i (swZ D (qtS D i M).1 i)), mvC D (qtS D i M).1 (egZ D (qtS D i M).1 i (swZ D (qtS D i M).1 i)) (d_v D) (qtS D i M).2) := by
          rw [qtS, q1S, if_pos cd]
        obtain ⟨π, f2, t1, t2, t3, t4⟩ := ih (i + 1) M ω (by omega) (by omega) (by rw [eq1]; exact q4) (by rw [eq1]; exact q1) (by rw [eq1]; exact q3) hC
        exact ⟨π, f2, t1, t2, t3, fun q h1 h2 => ((w.1 q h1).tr (q2.1 q h1 h2)).tr (t4 q h1 h2)⟩
      · rw [if_neg cd, if_pos rfl]
        have eq1 : qtS D (i + 1) M = qtS D i M := by rw [qtS, q1S, if_neg cd]
        obtain ⟨π, f2, t1, t2, t3, t4⟩ := ih (i + 1) M τ (by omega) (by omega) (by rw [eq1]; exact hV) (by rw [eq1]; exact h'.w10 w) (by rw [eq1]; exact hc.w10 w) hC
        exact ⟨π, f2, t1, t2, t3, fun q h1 h2 => (w.1 q h1).tr (t4 q h1 h2)⟩
theorem gq_2 (hD : WFD D) (Q : Nat) (hQ : Q < 1000000) : ∀ (n i : Nat) (M : MTq) (σ : Mm), i ≤ Q → Q - i < n → WFV D M.1 → WkC σ p s D M.1 → CtC σ sk M.2 → M.2.2.1 + 64 * (Q - i) < 1000000000 → M.2.1 + 64 * (Q - i) < 1000000000 → ∃ τ, fX10_goOn_2 10 (nI Q) n (nI i) σ = some (nI (i + cqN D (Q - i) M), τ) ∧ WFV D (qnM D (Q - i) M).1 ∧ WkC τ p s D (qnM D (Q - i) M).1 ∧ CtC τ sk (qnM D (Q - i) M).2 ∧ WGs s σ τ := by
  intro n
  induction n with
  | zero => intro i M σ _ h; omega
  | succ n ih =>
    intro i M σ hi hn hV h hc hC1 hC2
    rw [fX10_goOn_2, ifle_n (by omega) (by omega)]
    by_cases c : Q ≤ i
    · have : i = Q := by omega
      subst this
      rw [if_pos c, Nat.sub_self]
      exact ⟨σ, rfl, hV, h, hc, fun _ _ _ => BU.rf⟩
    · have hd := hD.1
      rw [if_neg c, r_sc_s, hc.1]
      obtain ⟨τ, e, r1, r2, r3, r4⟩ := gq_15 (sk := sk) hD (nI Q) (fX10_goOn_2 10 (nI Q) n) (nI i) (nI M.2.1) FU 0 M σ (by omega) (FU_gt (by omega)) hV h hc (by omega)
      have hle := qtM_le (M := M) hD
      rw [show (0 : Int32) = nI 0 from rfl, e, fX10_goOn_46, r_sc_s, r3.1, ife_n (by omega) (by omega), nI_s, show Q - i = (Q - (i + 1)) + 1 by omega, cqN, qnM]
      by_cases c2 : (qtM D M).2.1 = M.2.1
      · rw [if_pos c2, if_pos c2]
        have es := qt_still c2
        rw [es] at r1 r2 r3
        refine ⟨τ, rfl, ?_, ?_, ?_, r4⟩
        · rw [es, qn_still c2]; exact r1
        · rw [es, qn_still c2]; exact r2
        · rw [es, qn_still c2]; exact r3
      · rw [if_neg c2, if_neg c2]
        obtain ⟨ω, f, t1, t2, t3, t4⟩ := ih (i + 1) (qtM D M) τ (by omega) (by omega) r1 r2 r3 (by omega) (by omega)
        refine ⟨ω, ?_, t1, t2, t3, fun q h1 h2 => (r4 q h1 h2).tr (t4 q h1 h2)⟩
        rw [f, show i + 1 + cqN D (Q - (i + 1)) (qtM D M) = i + (cqN D (Q - (i + 1)) (qtM D M) + 1) by omega]
theorem goOn_c {Q : Nat} (hD : WFD D) (hQ : Q < 1000) (hV : WFV D M.1) (h : WkC σ p s D M.1) (hc : CtC σ sk M.2) (h1 : M.2.2.1 < 500000000) (h2 : M.2.1 < 500000000) : ∃ τ, fX10_goOn 10 (nI Q) σ = some (nI (cqN D Q M), τ) ∧ WFV D (qnM D Q M).1 ∧ WkC τ p s D (qnM D Q M).1 ∧ CtC τ sk (qnM D Q M).2 ∧ WGs s σ τ := by
  obtain ⟨τ, e, r⟩ := gq_2 (sk := sk) hD Q (by omega) FU 0 M σ (by omega) (FU_gt (by omega)) hV h hc (by omega) (by omega)
  rw [Nat.zero_add] at e
  exact ⟨τ, e, r⟩
end WC
