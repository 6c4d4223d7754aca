/-! PURE 20: move (class) -/
abbrev CT : Type := Nat × Nat × (Nat → Nat)
/-- a move, as far as i shafts and j vanes -/
def mvS (D : PD) (V : SD) (g : Nat → Int) (i j : Nat) : SD := ((v_fr V, v_sg V), (fun v => if v < j ∧ g v ≠ 0 then tnN D V v (g v) else v_pt V v, fun v => if v < j ∧ g v ≠ 0 then v_tn V v + 1 else v_tn V v, fun v => if v < j ∧ g v ≠ 0 ∧ tnN D V v (g v) = 0 then v_sk V v + 1 else v_sk V v), (fun s => if s < i ∧ joB V s = true then (pbZ D V g s).toNat else v_py V s), (v_li V, v_he V), v_qu V)
/-- teeth, bells, who rang -/
def mvC (D : PD) (V : SD) (g : Nat → Int) : Nat → CT → CT
  | 0, C => C
  | n + 1, C => if g n = 0 then mvC D V g n C else if tnN D V n (g n) = 0 then ((mvC D V g n C).1 + 1, (mvC D V g n C).2.1 + 1, fun k => if k = (mvC D V g n C).2.1 then n else (mvC D V g n C).2.2 k) else ((mvC D V g n C).1 + 1, (mvC D V g n C).2)
def rgI (sk : Int32) (C : CT) : Int32 := match ix C.2.1 sk with
  | none => -1
  | some k => nI (C.2.2 k)
def CtC (σ : Mm) (sk : Int32) (C : CT) : Prop := m_sc σ 10 5 = nI C.1 ∧ m_sc σ 10 6 = nI C.2.1 ∧ m_sc σ 10 7 = sk ∧ m_sc σ 10 8 = rgI sk C
def W2 (s : Nat) (σ τ : Mm) : Prop := (∀ q, q ≠ 10 → q ≠ s → BU q σ τ) ∧ (∀ k, m_rf τ 10 k = m_rf σ 10 k) ∧ (m_ar τ 10 = m_ar σ 10) ∧ m_sc τ 10 4 = m_sc σ 10 4
section WC
variable {σ τ : Mm} {p s v : Nat} {D : PD} {V : SD} {g : Nat → Int}
theorem W2.rf : W2 s σ σ := ⟨fun _ _ _ => BU.rf, fun _ => rfl, rfl, rfl⟩
theorem W2.tr {ω : Mm} (h : W2 s σ τ) (h2 : W2 s τ ω) : W2 s σ ω := ⟨fun q hq hs => (h.1 q hq hs).tr (h2.1 q hq hs), fun k => (h2.2.1 k).trans (h.2.1 k), h2.2.2.1.trans h.2.2.1, h2.2.2.2.trans h.2.2.2⟩
theorem mvC_le (C : CT) : ∀ j, (mvC D V g j C).2.1 ≤ C.2.1 + j ∧ (mvC D V g j C).1 ≤ C.1 + j := by
  intro j
  induction j with
  | zero => exact ⟨Nat.le_refl _, Nat.le_refl _⟩
  | succ j ih =>
    rw [mvC]
    split
    · omega
    · split
      · show (mvC D V g j C).2.1 + 1 ≤ _ ∧ (mvC D V g j C).1 + 1 ≤ _; omega
      · show (mvC D V g j C).2.1 ≤ _ ∧ (mvC D V g j C).1 + 1 ≤ _; omega
theorem mv_wf {i j : Nat} (hD : WFD D) (hV : WFV D V) (hg : oneG g) (hib : ∀ k, k < d_s D → joB V k = true → ouB D V g k = false) : WFV D (mvS D V g i j) := by
  refine ⟨hV.1, fun v hv => ?_, fun k hk => ?_, hV.2.2.2⟩
  · have hb := hD.2.1 v hv
    show (if v < j ∧ g v ≠ 0 then tnN D V v (g v) else v_pt V v) < _
    split
    · exact tn_lt (by omega)
    · exact hV.2.1 v hv
  · show (if k < i ∧ joB V k = true then (pbZ D V g k).toNat else v_py V k) ≤ _
    split
    · rename_i c
      have := hib k hk c.2
      unfold ouB at this
      simp at this
      omega
    · exact hV.2.2.1 k hk
theorem mv1 (hD : WFD D) (hV : WFV D V) (hg : oneG g) (hib : ∀ k, k < d_s D → joB V k = true → ouB D V g k = false) : ∀ (n i : Nat) (σ : Mm), i ≤ d_s D → d_s D - i < n → WkC σ p s D (mvS D V g i 0) → SpC σ g → ∃ τ, fX10_move_2 10 n (nI i) σ = fX10_move_52 10 FU (0 : Int32) τ ∧ WkC τ p s D (mvS D V g (d_s D) 0) ∧ SpC τ g ∧ W2 s σ τ ∧ m_sc τ 10 = m_sc σ 10 := by
  intro n
  induction n with
  | zero => intro i σ _ h; omega
  | succ n ih =>
    intro i σ hi hn h hS
    have hd := hD.1
    have h' := h
    obtain ⟨⟨e1, e2, k1, k2⟩, hp, hs, hw⟩ := h
    have n1 : p ≠ 10 := fun e => by rw [e] at k1; revert k1; decide
    have n2 : s ≠ 10 := fun e => by rw [e] at k2; revert k2; decide
    have n3 : p ≠ s := fun e => by rw [e, k2] at k1; revert k1; decide
    rw [fX10_move_2, r_rf_e e1 k1, r_sc_s, hp.1.2.2, ifle_n (by omega) (by omega)]
    by_cases c : d_s D ≤ i
    · have : i = d_s D := by omega
      subst this
      rw [if_pos c]
      exact ⟨σ, rfl, h', hS, W2.rf, rfl⟩
    · have hk : i < d_s D := by omega
      rw [if_neg c, r_rf_e e2 k2, r_sc_s, hs.2.2.2.1, show v_li (mvS D V g i 0) = v_li V from rfl, has_e (li_b hD hV) (by omega), c_I_s, nI_s]
      have hwf := mv_wf (i := i) (j := 0) hD hV hg hib
      cases hl : (v_li V).testBit i
      · have hj : joB V i = true := by unfold joB; rw [hl]; rfl
        have ho := hib i hk hj
        have hr := pb_r hV hD hg hk
        unfold ouB at ho
        simp at ho
        rw [if_pos (by decide), r_rf_e e2 k2, g_ar_n (by omega) (by decide), hs.2.2.1 i hk, show v_py (mvS D V g i 0) i = v_py V i by show (if i < i ∧ joB V i = true then _ else v_py V i) = _; rw [if_neg (by omega)], plch_c hD h' hS hk, c_I_s, nI_iI (v_py V i), iI_add, show (v_py V i : Int) + (g (d_fs D i) - (if d_be D i then 1 else -1) * g (d_sn D i)) = pbZ D V g i from rfl, s_ar_n (by omega) (by decide)]
        have hB : ∀ q, q ≠ s → BU q σ (w_ar σ s 5 i (iI (pbZ D V g i))) := fun q hq => BU.af hq
        have hs' : StC (w_ar σ s 5 i (iI (pbZ D V g i))) s D (mvS D V g (i + 1) 0) := by
          refine ⟨fun q hq => ?_, fun v hv => ?_, fun k hk => ?_, hs.2.2.2⟩
          · rw [m_ar_ar, if_neg (by omega), m_ar_ar, if_neg (by omega)]; exact hs.1 q hq
          · rw [m_ar_ar, if_neg (by omega), m_ar_ar, if_neg (by omega), m_ar_ar, if_neg (by omega)]; exact hs.2.1 v hv
          · rw [m_ar_ar]
            show _ = nI (if k < i + 1 ∧ joB V k = true then (pbZ D V g k).toNat else v_py V k)
            by_cases ck : k = i
            · subst ck
              rw [if_pos ⟨rfl, rfl, rfl⟩, if_pos ⟨by omega, hj⟩, nI_iI, Int.toNat_of_nonneg (by omega)]
            · rw [if_neg (fun z => ck z.2.2), hs.2.2.1 k hk]
              show nI (if k < i ∧ joB V k = true then (pbZ D V g k).toNat else v_py V k) = _
              by_cases c3 : k < i ∧ joB V k = true
              · rw [if_pos c3, if_pos ⟨by omega, c3.2⟩]
              · rw [if_neg c3, if_neg (fun z => c3 ⟨by omega, z.2⟩)]
        have b10 := hB 10 (Ne.symm n2)
        obtain ⟨τ, e, r1, r2, r3, r4⟩ := ih (i + 1) (w_ar σ s 5 i (iI (pbZ D V g i))) (by omega) (by omega) ⟨⟨e1, e2, k1, k2⟩, hp.bu (hB p n3), hs', fun v hv => by rw [b10.2.2.1]; exact hw v hv⟩ (fun v hv => by rw [b10.2.2.1]; exact hS v hv)
        exact ⟨τ, e, r1, r2, W2.tr ⟨fun q _ hq => hB q hq, fun _ => rfl, by funext j; exact b10.2.2.1 j, rfl⟩ r3, r4⟩
      · have hj : joB V i = false := by unfold joB; rw [hl]; rfl
        rw [if_neg (by decide)]
        have hs' : StC σ s D (mvS D V g (i + 1) 0) := by
          refine ⟨hs.1, hs.2.1, fun k hk => ?_, hs.2.2.2⟩
          rw [hs.2.2.1 k hk]
          show nI (if k < i ∧ joB V k = true then (pbZ D V g k).toNat else v_py V k) = nI (if k < i + 1 ∧ joB V k = true then (pbZ D V g k).toNat else v_py V k)
          by_cases ck : k = i
          · subst ck; rw [hj]; simp
          · by_cases c3 : k < i ∧ joB V k = true
            · rw [if_pos c3, if_pos ⟨by omega, c3.2⟩]
            · rw [if_neg c3, if_neg (fun z => c3 ⟨by omega, z.2⟩)]
        exact ih (i + 1) σ (by omega) (by omega) ⟨⟨e1, e2, k1, k2⟩, hp, hs', hw⟩ hS
theorem rg_up {sk : Int32} {C : CT} (x : Nat) (hC : C.2.1 < 2000000000) (T : Nat) : rgI sk (T, C.2.1 + 1, fun k => if k = C.2.1 then x else C.2.2 k) = if nI C.2.1 = sk then nI x else rgI sk C := by
  unfold rgI
  dsimp only
  rcases ix_cases (n := C.2.1 + 1) (by omega) sk with ⟨e, h⟩ | ⟨k, hk, rfl, e⟩
  · rw [e]
    have hn : ¬ nI C.2.1 = sk := by
      rintro rfl
      rcases h with h | h
      · exact nI_neg0 (by omega) h
      · exact absurd ((nI_len (by omega) (by omega)).mp h.2) (by omega)
    rw [if_neg hn]
    rcases ix_cases (n := C.2.1) (by omega) sk with ⟨e', h'⟩ | ⟨k, hk, rfl, e'⟩
    · rw [e']
    · exfalso
      rcases h with h | h
      · exact nI_neg0 (by omega) h
      · exact absurd ((nI_len (by omega) (by omega)).mp h.2) (by omega)
  · rw [e]
    dsimp only
    by_cases c : k = C.2.1
    · rw [if_pos c, if_pos (by rw [c])]
    · rw [if_neg c, if_neg (fun z => c ((nI_inj (by omega) (by omega)).mp z).symm)]
      rcases ix_cases (n := C.2.1) (by omega) (nI k) with ⟨e', h'⟩ | ⟨k', hk', ek, e'⟩
      · exfalso
        rcases h' with h' | h'
        · exact nI_neg0 (by omega) h'
        · exact absurd ((nI_len (by omega) (by omega)).mp h'.2) (by omega)
      · rw [e', (nI_inj (by omega) (by omega)).mp ek]
end WC
