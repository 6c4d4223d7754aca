/-! PURE 21: move, quarters (class) -/
section WC
variable {σ τ : Mm} {p s v : Nat} {D : PD} {V : SD} {g : Nat → Int} {sk : Int32} {C : CT}
theorem mv_tn {i j : Nat} (z : Int) : tnN D (mvS D V g i j) j z = tnN D V j z := by
  unfold tnN
  rw [show v_pt (mvS D V g i j) j = v_pt V j by show (if j < j ∧ g j ≠ 0 then _ else v_pt V j) = _; rw [if_neg (by omega)]]
theorem mVane_c {i : Nat} (hD : WFD D) (hV : WFV D V) (hV1 : WFV D (mvS D V g i v)) (h : WkC σ p s D (mvS D V g i v)) (hg : oneG g) (hS : SpC σ g) (hC : C.2.1 < 2000000000) (hv : v < d_v D) (g0 : g v ≠ 0) (hc : CtC σ sk C) : ∃ τ, fX10_moveVane 10 (nI v) σ = some τ ∧ WkC τ p s D (mvS D V g i (v + 1)) ∧ SpC τ g ∧ W2 s σ τ ∧ CtC τ sk (if tnN D V v (g v) = 0 then (C.1 + 1, C.2.1 + 1, fun k => if k = C.2.1 then v else C.2.2 k) else (C.1 + 1, C.2)) := by
  have hd := hD.1
  have h' := h
  have hb := hD.2.1 v hv
  obtain ⟨⟨e1, e2, k1, k2⟩, hp, hs, hw⟩ := h
  have n1 : p ≠ 10 := fun e => by rw [e] at k1; revert k1; decide
  have n2 : s ≠ 10 := fun e => by rw [e] at k2; revert k2; decide
  have n3 : p ≠ s := fun e => by rw [e, k2] at k1; revert k1; decide
  obtain ⟨c1, c2, c3, c4⟩ := hc
  have htl : tnN D V v (g v) < d_te D v := tn_lt (by omega)
  have t3 : v_tn (mvS D V g i v) v = v_tn V v := by show (if v < v ∧ g v ≠ 0 then _ else v_tn V v) = _; rw [if_neg (by omega)]
  have t4 : v_sk (mvS D V g i v) v = v_sk V v := by show (if v < v ∧ g v ≠ 0 ∧ _ then _ else v_sk V v) = _; rw [if_neg (by omega)]
  unfold fX10_moveVane
  rw [r_rf_e e2 k2, tbs_c hD hV1 h' hg hS hv, mv_tn, c_I_s, s_ar_n (by omega) (by decide), r_rf_e (show m_rf (w_ar σ s 2 v (nI (tnN D V v (g v)))) 10 1 = some s from e2) k2, g_ar_n (by omega) (by decide), s_ar_n (by omega) (by decide), r_sc_s, p_sc_s]
  have hA : ∀ x y, m_ar (w_sc (w_ar (w_ar σ s 2 v (nI (tnN D V v (g v)))) s 3 v x) 10 5 y) s 2 v = nI (tnN D V v (g v)) := fun x y => by
    rw [m_ar_sc, m_ar_ar, if_neg (by omega), m_ar_ar, if_pos ⟨rfl, rfl, rfl⟩]
  have h33 : m_ar (w_ar σ s 2 v (nI (tnN D V v (g v)))) s 3 v = v_tn V v := by
    rw [m_ar_ar, if_neg (by omega), (hs.2.1 v hv).2.1, t3]
  have h55 : ∀ x, m_sc (w_ar (w_ar σ s 2 v (nI (tnN D V v (g v)))) s 3 v x) 10 5 = nI C.1 := fun _ => c1
  rw [h33, h55, nI_s]
  obtain ⟨σ1, hσ1⟩ : ∃ σ1, σ1 = w_sc (w_ar (w_ar σ s 2 v (nI (tnN D V v (g v)))) s 3 v (v_tn V v + 1)) 10 5 (nI (C.1 + 1)) := ⟨_, rfl⟩
  rw [← hσ1]
  have hB1 : ∀ q, q ≠ 10 → q ≠ s → BU q σ σ1 := fun q h1 h2 => by rw [hσ1]; exact BU.scs h1 ((BU.af h2).tr (BU.af h2))
  have a10 : m_ar σ1 10 = m_ar σ 10 := by
    rw [hσ1]; funext j k; rw [m_ar_sc, m_ar_ar, if_neg (by omega), m_ar_ar, if_neg (by omega)]
  have r10 : ∀ k, m_rf σ1 10 k = m_rf σ 10 k := fun k => by rw [hσ1]; rfl
  have aS : ∀ j k, m_ar σ1 s j k = if j = 3 ∧ k = v then v_tn V v + 1 else if j = 2 ∧ k = v then nI (tnN D V v (g v)) else m_ar σ s j k := fun j k => by
    rw [hσ1, m_ar_sc, m_ar_ar, m_ar_ar]; simp
  have sS : ∀ k, m_sc σ1 s k = m_sc σ s k := fun k => by rw [hσ1, m_sc_sc, if_neg (by omega)]; rfl
  have s10 : ∀ k, m_sc σ1 10 k = if k = 5 then nI (C.1 + 1) else m_sc σ 10 k := fun k => by rw [hσ1, m_sc_sc]; simp; rfl
  rw [r_rf_e ((r10 1).trans e2) k2, g_ar_n (by omega) (by decide), show m_ar σ1 s 2 v = nI (tnN D V v (g v)) by rw [aS]; simp, show (0 : Int32) = nI 0 from rfl, ife_n (by omega) (by decide)]
  -- the state, but for who struck
  have stOf : ∀ τ : Mm, (∀ j k, m_ar τ s j k = if j = 4 ∧ k = v ∧ tnN D V v (g v) = 0 then v_sk V v + 1 else m_ar σ1 s j k) → (∀ k, m_sc τ s k = m_sc σ1 s k) → StC τ s D (mvS D V g i (v + 1)) := by
    intro τ h1 h2
    refine ⟨fun q hq => ?_, fun k hk => ⟨?_, ?_, ?_⟩, fun k hk => ?_, ?_, ?_, ?_⟩
    · rw [h1, h1, if_neg (by omega), if_neg (by omega), aS, aS, if_neg (by omega), if_neg (by omega), if_neg (by omega), if_neg (by omega)]; exact hs.1 q hq
    · rw [h1, if_neg (by omega), aS, if_neg (by omega)]
      show _ = nI (if k < v + 1 ∧ g k ≠ 0 then tnN D V k (g k) else v_pt V k)
      by_cases c : k = v
      · subst c; rw [if_pos ⟨rfl, rfl⟩, if_pos ⟨by omega, g0⟩]
      · rw [if_neg (fun z => c z.2), (hs.2.1 k hk).1]
        show nI (if k < v ∧ g k ≠ 0 then tnN D V k (g k) else v_pt V k) = _
        by_cases c3 : k < v ∧ g k ≠ 0
        · rw [if_pos c3, if_pos ⟨by omega, c3.2⟩]
        · rw [if_neg c3, if_neg (fun z => c3 ⟨by omega, z.2⟩)]
    · rw [h1, if_neg (by omega), aS]
      show _ = (if k < v + 1 ∧ g k ≠ 0 then v_tn V k + 1 else v_tn V k)
      by_cases c : k = v
      · subst c; rw [if_pos ⟨rfl, rfl⟩, if_pos ⟨by omega, g0⟩]
      · rw [if_neg (fun z => c z.2), if_neg (by omega), (hs.2.1 k hk).2.1]
        show (if k < v ∧ g k ≠ 0 then v_tn V k + 1 else v_tn V k) = _
        by_cases c3 : k < v ∧ g k ≠ 0
        · rw [if_pos c3, if_pos ⟨by omega, c3.2⟩]
        · rw [if_neg c3, if_neg (fun z => c3 ⟨by omega, z.2⟩)]
    · rw [h1]
      show _ = (if k < v + 1 ∧ g k ≠ 0 ∧ tnN D V k (g k) = 0 then v_sk V k + 1 else v_sk V k)
      by_cases c : k = v
      · subst c
        by_cases c4 : tnN D V k (g k) = 0
        · rw [if_pos ⟨rfl, rfl, c4⟩, if_pos ⟨by omega, g0, c4⟩]
        · rw [if_neg (fun z => c4 z.2.2), if_neg (fun z => c4 z.2.2), aS, if_neg (by omega), if_neg (by omega), (hs.2.1 k hk).2.2, t4]
      · rw [if_neg (fun z => c z.2.1), aS, if_neg (by omega), if_neg (by omega), (hs.2.1 k hk).2.2]
        show (if k < v ∧ g k ≠ 0 ∧ tnN D V k (g k) = 0 then v_sk V k + 1 else v_sk V k) = _
        by_cases c3 : k < v ∧ g k ≠ 0 ∧ tnN D V k (g k) = 0
        · rw [if_pos c3, if_pos ⟨by omega, c3.2⟩]
        · rw [if_neg c3, if_neg (fun z => c3 ⟨by omega, z.2⟩)]
    · rw [h1, if_neg (by omega), aS, if_neg (by omega), if_neg (by omega)]; exact hs.2.2.1 k hk
    · rw [h2, sS]; exact hs.2.2.2.1
    · rw [h2, sS]; exact hs.2.2.2.2.1
    · rw [h2, sS]; exact hs.2.2.2.2.2
  by_cases ct : tnN D V v (g v) = 0
  · rw [if_pos ct, if_pos ct, r_rf_e ((r10 1).trans e2) k2, g_ar_n (by omega) (by decide), s_ar_n (by omega) (by decide), show m_ar σ1 s 4 v = v_sk V v by rw [aS, if_neg (by omega), if_neg (by omega), (hs.2.1 v hv).2.2, t4]]
    obtain ⟨σ2, hσ2⟩ : ∃ σ2, σ2 = w_ar σ1 s 4 v (v_sk V v + 1) := ⟨_, rfl⟩
    rw [← hσ2]
    have hB2 : ∀ q, q ≠ s → BU q σ1 σ2 := fun q h => by rw [hσ2]; exact BU.af h
    have b10 := hB2 10 (Ne.symm n2)
    have s2 : ∀ k, m_sc σ2 10 k = if k = 5 then nI (C.1 + 1) else m_sc σ 10 k := fun k => (b10.1 k).trans (s10 k)
    have fin : ∀ y, y = rgI sk (C.1 + 1, C.2.1 + 1, fun k => if k = C.2.1 then v else C.2.2 k) → ∀ τ, (∀ q, q ≠ 10 → BU q σ2 τ) → (∀ k, m_rf τ 10 k = m_rf σ2 10 k) → (m_ar τ 10 = m_ar σ2 10) → (∀ k, m_sc τ 10 k = if k = 6 then nI (C.2.1 + 1) else if k = 8 then y else m_sc σ2 10 k) → WkC τ p s D (mvS D V g i (v + 1)) ∧ SpC τ g ∧ W2 s σ τ ∧ CtC τ sk (C.1 + 1, C.2.1 + 1, fun k => if k = C.2.1 then v else C.2.2 k) := by
      intro y hy τ q1 q2 q3 q4
      have hh : m_ar τ 10 = m_ar σ 10 := by rw [q3]; funext j; rw [b10.2.2.1, a10]
      have hr : ∀ k, m_rf τ 10 k = m_rf σ 10 k := fun k => (q2 k).trans ((b10.2.2.2.2 k).trans (r10 k))
      have hq : ∀ q, q ≠ 10 → q ≠ s → BU q σ τ := fun q h1 h2 => ((hB1 q h1 h2).tr (hB2 q h2)).tr (q1 q h1)
      have bs := q1 s n2
      refine ⟨⟨⟨(hr 0).trans e1, (hr 1).trans e2, k1, k2⟩, hp.bu (hq p n1 n3), stOf τ (fun j k => ?_) (fun k => ?_), fun k hk => by rw [hh]; exact hw k hk⟩, fun k hk => by rw [hh]; exact hS k hk, ⟨hq, hr, hh, ?_⟩, ?_, ?_, ?_, ?_⟩
      · rw [bs.2.2.1, hσ2, m_ar_ar]
        by_cases c : j = 4 ∧ k = v
        · rw [if_pos ⟨rfl, c.1, c.2⟩, if_pos ⟨c.1, c.2, ct⟩]
        · rw [if_neg (fun z => c z.2), if_neg (fun z => c ⟨z.1, z.2.1⟩)]
      · rw [bs.1, hσ2]; rfl
      · rw [q4, s2]; simp
      · rw [q4, s2]; simp
      · rw [q4]; simp
      · rw [q4, s2]; simp; exact c3
      · rw [q4]; simp; exact hy
    have hu := rg_up (sk := sk) (C := C) v hC (C.1 + 1)
    rw [r_sc_s, r_sc_s, show m_sc σ2 10 6 = nI C.2.1 by rw [s2, if_neg (by decide)]; exact c2, show m_sc σ2 10 7 = sk by rw [s2, if_neg (by decide)]; exact c3]
    by_cases cs : nI C.2.1 = sk
    · rw [if_pos cs, p_sc_s, r_sc_s, p_sc_s, show m_sc (w_sc σ2 10 8 (nI v)) 10 6 = nI C.2.1 by rw [m_sc_sc, if_neg (by decide), s2, if_neg (by decide)]; exact c2, nI_s]
      refine ⟨_, rfl, fin (nI v) (by rw [hu, if_pos cs]) _ (fun q hq => BU.scs hq (BU.sc hq)) (fun _ => rfl) rfl (fun k => ?_)⟩
      rw [m_sc_sc, m_sc_sc]; simp
    · rw [if_neg cs, r_sc_s, p_sc_s, show m_sc σ2 10 6 = nI C.2.1 by rw [s2, if_neg (by decide)]; exact c2, nI_s]
      refine ⟨_, rfl, fin (rgI sk C) (by rw [hu, if_neg cs]) _ (fun q hq => BU.sc hq) (fun _ => rfl) rfl (fun k => ?_)⟩
      rw [m_sc_sc]
      by_cases k8 : k = 8
      · subst k8; simp; rw [s2, if_neg (by decide)]; exact c4
      · simp [k8]
  · rw [if_neg ct, if_neg ct]
    refine ⟨σ1, rfl, ⟨⟨(r10 0).trans e1, (r10 1).trans e2, k1, k2⟩, hp.bu (hB1 p n1 n3), stOf σ1 (fun j k => ?_) (fun _ => rfl), fun k hk => by rw [a10]; exact hw k hk⟩, fun k hk => by rw [a10]; exact hS k hk, ⟨hB1, r10, a10, ?_⟩, ?_, ?_, ?_, ?_⟩
    · rw [if_neg (fun z => ct z.2.2)]
    · rw [s10]; simp
    · rw [s10]; simp
    · rw [s10]; simp; exact c2
    · rw [s10]; simp; exact c3
    · rw [s10]; simp; exact c4
theorem mv2 (hD : WFD D) (hV : WFV D V) (hg : oneG g) (hib : ∀ k, k < d_s D → joB V k = true → ouB D V g k = false) (hC : C.2.1 < 1000000000) : ∀ (n i : Nat) (σ : Mm), i ≤ d_v D → d_v D - i < n → WkC σ p s D (mvS D V g (d_s D) i) → SpC σ g → m_sc σ 10 4 = nI (moN D g) → CtC σ sk (mvC D V g i C) → ∃ τ, fX10_move_52 10 n (nI i) σ = some τ ∧ WkC τ p s D (mvS D V g (d_s D) (d_v D)) ∧ W2 s σ τ ∧ CtC τ sk (mvC D V g (d_v D) C) := by
  intro n
  induction n with
  | zero => intro i σ _ h; omega
  | succ n ih =>
    intro i σ hi hn h hS hM hc
    have hd := hD.1
    have h' := h
    obtain ⟨⟨e1, e2, k1, k2⟩, hp, hs, hw⟩ := h
    rw [fX10_move_52, r_rf_e e1 k1, r_sc_s, hp.1.2.1, ifle_n (by omega) (by omega)]
    by_cases c : d_v D ≤ i
    · have : i = d_v D := by omega
      subst this
      rw [if_pos c]
      exact ⟨σ, rfl, h', W2.rf, hc⟩
    · have hv : i < d_v D := by omega
      rw [if_neg c, r_sc_s, hM, mo_has hD hv, c_I_s, nI_s]
      by_cases g0 : g i = 0
      · rw [if_pos g0, if_pos rfl]
        refine ih (i + 1) σ (by omega) (by omega) ⟨⟨e1, e2, k1, k2⟩, hp, ?_, hw⟩ hS hM (by rw [mvC, if_pos g0]; exact hc)
        refine ⟨hs.1, fun k hk => ?_, hs.2.2⟩
        have := hs.2.1 k hk
        have ee : ∀ {β : Type} (x y : β), (if k < i + 1 ∧ g k ≠ 0 then x else y) = if k < i ∧ g k ≠ 0 then x else y := by
          intro β x y
          by_cases c3 : k < i ∧ g k ≠ 0
          · rw [if_pos c3, if_pos ⟨by omega, c3.2⟩]
          · rw [if_neg c3, if_neg (fun z => c3 ⟨by have : k ≠ i := fun q => z.2 (by rw [q]; exact g0); omega, z.2⟩)]
        have ef : ∀ {β : Type} (P : Prop) [Decidable P] (x y : β), (if k < i + 1 ∧ g k ≠ 0 ∧ P then x else y) = if k < i ∧ g k ≠ 0 ∧ P then x else y := by
          intro β P _ x y
          by_cases c3 : k < i ∧ g k ≠ 0 ∧ P
          · rw [if_pos c3, if_pos ⟨by omega, c3.2⟩]
          · rw [if_neg c3, if_neg (fun z => c3 ⟨by have : k ≠ i := fun q => z.2.1 (by rw [q]; exact g0); omega, z.2⟩)]
        show _ = nI (if k < i + 1 ∧ g k ≠ 0 then tnN D V k (g k) else v_pt V k) ∧ _ = (if k < i + 1 ∧ g k ≠ 0 then v_tn V k + 1 else v_tn V k) ∧ _ = (if k < i + 1 ∧ g k ≠ 0 ∧ tnN D V k (g k) = 0 then v_sk V k + 1 else v_sk V k)
        rw [ee, ee, ef]
        exact this
      · rw [if_neg g0, if_neg (by decide)]
        have hle := (mvC_le (D := D) (V := V) (g := g) C i).1
        obtain ⟨τ, e, r1, r2, r3, r4⟩ := mVane_c hD hV (mv_wf hD hV hg hib) h' hg hS (by omega) hv g0 hc
        rw [e, c_V_s]
        obtain ⟨ω, f, q1, q2, q3⟩ := ih (i + 1) τ (by omega) (by omega) r1 r2 (r3.2.2.2.trans hM) (by rw [mvC, if_neg g0]; exact r4)
        exact ⟨ω, f, q1, r3.tr q2, q3⟩
/-- a whole move -/
def mvF (D : PD) (V : SD) (g : Nat → Int) : SD := mvS D V g (d_s D) (d_v D)
theorem mv0 : mvS D V g 0 0 = V := by
  unfold mvS
  simp only [Nat.not_lt_zero, false_and, if_false]
  rfl
theorem eg_ib (h : egB D V g = true) : ∀ k, k < d_s D → joB V k = true → ouB D V g k = false := by
  intro k hk hj
  unfold egB at h
  simp only [Bool.and_eq_true, Option.isNone_iff_eq_none] at h
  have := (ffF_none _ _ _).mp h.2 k (by omega) (by omega)
  rw [hj] at this
  simpa using this
theorem move_c (hD : WFD D) (hV : WFV D V) (h : WkC σ p s D V) (hg : oneG g) (hS : SpC σ g) (hM : m_sc σ 10 4 = nI (moN D g)) (he : egB D V g = true) (hC : C.2.1 < 1000000000) (hc : CtC σ sk C) : ∃ τ, fX10_move 10 σ = some τ ∧ WkC τ p s D (mvF D V g) ∧ W2 s σ τ ∧ CtC τ sk (mvC D V g (d_v D) C) ∧ WFV D (mvF D V g) := by
  have hd := hD.1
  have hib := eg_ib he
  unfold fX10_move
  obtain ⟨τ1, e1, r1, r2, r3, r4⟩ := mv1 hD hV hg hib FU 0 σ (by omega) (FU_gt (by omega)) (by rw [mv0]; exact h) hS
  rw [show (0 : Int32) = nI 0 from rfl, e1]
  obtain ⟨τ, e, q1, q2, q3⟩ := mv2 (C := C) (sk := sk) hD hV hg hib hC FU 0 τ1 (by omega) (FU_gt (by omega)) r1 r2 (by rw [r4]; exact hM) (by unfold CtC; rw [r4]; exact hc)
  exact ⟨τ, e, q1, r3.tr q2, q3, mv_wf hD hV hg hib⟩
end WC
