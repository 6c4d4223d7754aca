/-! PURE 18: engage (class) -/
/-- of the works only steps and what moves are written -/
def W10 (σ τ : Mm) : Prop := (∀ q, q ≠ 10 → BU q σ τ) ∧ (∀ k, m_rf τ 10 k = m_rf σ 10 k) ∧ m_ar τ 10 0 = m_ar σ 10 0 ∧ ∀ k, k ≠ 4 → m_sc τ 10 k = m_sc σ 10 k
section WC
variable {σ τ : Mm} {p s v : Nat} {D : PD} {V : SD} {g : Nat → Int}
theorem W10.rf : W10 σ σ := ⟨fun _ _ => BU.rf, fun _ => rfl, rfl, fun _ _ => rfl⟩
theorem W10.tr {ω : Mm} (h : W10 σ τ) (h2 : W10 τ ω) : W10 σ ω := ⟨fun q hq => (h.1 q hq).tr (h2.1 q hq), fun k => (h2.2.1 k).trans (h.2.1 k), h2.2.2.1.trans h.2.2.1, fun k hk => (h2.2.2.2 k hk).trans (h.2.2.2 k hk)⟩
theorem W10.st (i : Nat) (x : Int32) : W10 σ (w_ar σ 10 1 i x) := ⟨fun q hq => BU.af hq, fun _ => rfl, by funext k; rw [m_ar_ar, if_neg (by omega)], fun _ _ => rfl⟩
theorem W10.mo (x : Int32) : W10 σ (w_sc σ 10 4 x) := ⟨fun q hq => BU.sc hq, fun _ => rfl, rfl, fun k hk => by rw [m_sc_sc, if_neg (by omega)]⟩
theorem WkC.w10 (h : WkC σ p s D V) (w : W10 σ τ) : WkC τ p s D V := by
  obtain ⟨⟨e1, e2, k1, k2⟩, hp, hs, hw⟩ := h
  have n1 : p ≠ 10 := fun e => by rw [e] at k1; revert k1; decide
  have n2 : s ≠ 10 := fun e => by rw [e] at k2; revert k2; decide
  exact ⟨⟨(w.2.1 0).trans e1, (w.2.1 1).trans e2, k1, k2⟩, hp.bu (w.1 p n1), hs.bu (w.1 s n2), fun v hv => by rw [w.2.2.1]; exact hw v hv⟩
theorem SpC.up {i : Nat} {z : Int} (h : SpC σ g) : SpC (w_ar σ 10 1 i (iI z)) (fun k => if k = i then z else g k) := by
  intro v hv
  show _ = iI (if v = i then z else g v)
  rw [m_ar_ar]
  by_cases c : v = i
  · rw [if_pos ⟨rfl, rfl, c⟩, if_pos c]
  · rw [if_neg (fun z => c z.2.2), if_neg c]; exact h v hv
/-- exactly one of a dragging shaft's vanes turns; the other is dragged along -/
theorem dr_1 {k : Nat} (h : drB D V g k = true) : (g (d_fs D k) = 0 ∧ g (d_sn D k) ≠ 0) ∨ (g (d_fs D k) ≠ 0 ∧ g (d_sn D k) = 0) := by
  unfold drB at h
  by_cases c1 : g (d_fs D k) = 0
  · by_cases c2 : g (d_sn D k) = 0
    · rw [c1, c2] at h; simp at h
    · exact Or.inl ⟨c1, c2⟩
  · by_cases c2 : g (d_sn D k) = 0
    · exact Or.inr ⟨c1, c2⟩
    · rw [beq_eq_false_iff_ne.mpr c1, beq_eq_false_iff_ne.mpr c2] at h; simp at h
theorem ad_one {k : Nat} (hg : oneG g) (h : drB D V g k = true) : oneG (adZ D g k) := by
  intro i
  unfold adZ
  have h1 := dr_1 h
  have g1 := hg (d_fs D k)
  have g2 := hg (d_sn D k)
  obtain ⟨o, ho⟩ : ∃ o, o = if g (d_fs D k) = 0 then d_fs D k else d_sn D k := ⟨_, rfl⟩
  rw [← ho]
  by_cases c : i = o
  · rw [if_pos c]; cases d_be D k <;> simp <;> omega
  · rw [if_neg c]; exact hg i
theorem mo_ad {k : Nat} (hD : WFD D) (hk : k < d_s D) (hg : oneG g) (h : drB D V g k = true) : moN D (adZ D g k) = moN D g ||| 2 ^ (if g (d_fs D k) = 0 then d_fs D k else d_sn D k) := by
  have hb := hD.2.2 k hk
  have h1 := dr_1 h
  have g1 := hg (d_fs D k)
  have g2 := hg (d_sn D k)
  apply Nat.eq_of_testBit_eq
  intro j
  unfold moN
  rw [Nat.testBit_or, bsN_bit, bsN_bit, Nat.testBit_two_pow]
  unfold adZ
  obtain ⟨o, ho⟩ : ∃ o, o = if g (d_fs D k) = 0 then d_fs D k else d_sn D k := ⟨_, rfl⟩
  rw [← ho]
  have ho2 : o < d_v D := by rw [ho]; split <;> omega
  by_cases c : j = o
  · have h0 : ((if d_be D k = true then 1 else -1) * (g (d_fs D k) + g (d_sn D k)) : Int) ≠ 0 := by cases d_be D k <;> simp <;> omega
    rw [c]; simp [ho2, h0]
  · have c' : ¬ o = j := fun e => c e.symm
    simp [c, c']
theorem en156 (hD : WFD D) (hV : WFV D V) (h : WkC σ p s D V) (hg : oneG g) (hS : SpC σ g) (hM : m_sc σ 10 4 = nI (moN D g)) (a b : Int32) : fX10_engage_156 10 a b σ = some (if egB D V g then 1 else 0, σ) := by
  have h' := h
  obtain ⟨⟨e1, e2, k1, k2⟩, hp, hs, hw⟩ := h
  have hd := hD.1
  unfold fX10_engage_156 egB
  have hm : moN D g < 2147483648 := pw31 (n := d_v D) (by omega) (bsN_lt _ _)
  have hx : moN D g &&& v_he V < 2147483648 := Nat.lt_of_le_of_lt Nat.and_le_left hm
  rw [r_sc_s, hM, r_rf_e e2 k2, r_sc_s, hs.2.2.2.2.1, and_n, show (0 : Int32) = nI 0 from rfl, ife_n hx (by decide), ib_c hD hV h' hg hS, c_I_s]
  by_cases c : moN D g &&& v_he V = 0
  · rw [if_pos c, beq_iff_eq.mpr c]
    cases (fsF (fun s => joB V s && ouB D V g s) (d_s D)).isNone <;> rfl
  · rw [if_neg c, beq_eq_false_iff_ne.mpr c]; rfl
theorem en43 (hD : WFD D) (hV : WFV D V) (a b : Int32) : ∀ (n r : Nat) (g : Nat → Int) (σ : Mm), r ≤ 8 → 8 - r < n → WkC σ p s D V → oneG g → SpC σ g → m_sc σ 10 4 = nI (moN D g) → ∃ τ, fX10_engage_43 10 a b n (oI (fsF (drB D V g) (d_s D))) (nI r) σ = some (if egB D V (enZ D V (8 - r) g) then 1 else 0, τ) ∧ W10 σ τ ∧ oneG (enZ D V (8 - r) g) ∧ SpC τ (enZ D V (8 - r) g) ∧ m_sc τ 10 4 = nI (moN D (enZ D V (8 - r) g)) := by
  intro n
  induction n with
  | zero => intro r g σ _ h; omega
  | succ n ih =>
    intro r g σ hr hn h hg hS hM
    have hd := hD.1
    rw [fX10_engage_43, ln_8, ifle_n (by omega) (by omega)]
    by_cases c : 8 ≤ r
    · have : r = 8 := by omega
      subst this
      rw [if_pos c, en156 hD hV h hg hS hM]
      exact ⟨σ, rfl, W10.rf, hg, hS, hM⟩
    · rw [if_neg c, show 8 - r = (8 - (r + 1)) + 1 by omega, enZ]
      cases hf : fsF (drB D V g) (d_s D) with
      | none =>
        rw [show oI none = -1 from rfl, if_pos rfl, en156 hD hV h hg hS hM]
        exact ⟨σ, rfl, W10.rf, hg, hS, hM⟩
      | some k =>
        obtain ⟨-, hk, hdr, -⟩ := ffF_some _ _ _ _ hf
        have hk : k < d_s D := by omega
        have hb := hD.2.2 k hk
        have h' := h
        obtain ⟨⟨e1, e2, k1, k2⟩, hp, hs, hw⟩ := h
        obtain ⟨f1, f2, f3, f4⟩ := hp.2.2.1 k hk
        have g1 := hg (d_fs D k)
        have g2 := hg (d_sn D k)
        have hs1 : m_ar σ p 9 k = iI (if d_be D k then 1 else -1) := by rw [f3]; cases d_be D k <;> rfl
        have hd1 := dr_1 hdr
        rw [show oI (some k) = nI k from rfl, if_neg (nI_nem (by omega)), r_rf_e e1 k1, g_ar_n (by omega) (by decide), f1, r_rf_e e1 k1, g_ar_n (by omega) (by decide), f2, r_rf_e e1 k1, g_ar_n (by omega) (by decide), hs1, g_ar_n (by omega) (by decide), hS _ (by omega), g_ar_n (by omega) (by decide), hS _ (by omega), g_ar_n (by omega) (by decide), hS _ (by omega), iI_add, iI_mul, nI_s]
        have key : ∀ o, o = (if g (d_fs D k) = 0 then d_fs D k else d_sn D k) → o < 8 → ∃ τ, s_ar σ 10 1 8 (nI o) (iI ((if d_be D k then 1 else -1) * (g (d_fs D k) + g (d_sn D k)))) (fun σ22 => r_sc σ22 10 4 (fun x23 => p_sc σ22 10 4 (x23 ||| ((1 : Int32) <<< (nI o &&& 31))) (fun σ24 => c_I (fX10_draggingShaft 10 σ24) (fun x27 σ25 => (fX10_engage_43 10 a b n) x27 (nI (r + 1)) σ25)))) = some (if egB D V (enZ D V (8 - (r + 1)) (adZ D g k)) then 1 else 0, τ) ∧ W10 σ τ ∧ oneG (enZ D V (8 - (r + 1)) (adZ D g k)) ∧ SpC τ (enZ D V (8 - (r + 1)) (adZ D g k)) ∧ m_sc τ 10 4 = nI (moN D (enZ D V (8 - (r + 1)) (adZ D g k))) := by
          intro o ho ho8
          rw [s_ar_n ho8 (by decide), r_sc_s, p_sc_s, show ∀ x, m_sc (w_ar σ 10 1 o x) 10 4 = nI (moN D g) from fun _ => hM, sh1 (by omega), or_n]
          have w1 : W10 σ (w_sc (w_ar σ 10 1 o (iI ((if d_be D k then 1 else -1) * (g (d_fs D k) + g (d_sn D k))))) 10 4 (nI (moN D g ||| 2 ^ o))) := (W10.st _ _).tr (W10.mo _)
          have hg' := ad_one hg hdr
          have hS' : SpC (w_sc (w_ar σ 10 1 o (iI ((if d_be D k then 1 else -1) * (g (d_fs D k) + g (d_sn D k))))) 10 4 (nI (moN D g ||| 2 ^ o))) (adZ D g k) := by
            intro v hv
            rw [m_ar_sc]
            have := SpC.up (i := o) (z := (if d_be D k then 1 else -1) * (g (d_fs D k) + g (d_sn D k))) hS v hv
            rw [this]
            unfold adZ
            rw [ho]
          have hM' : m_sc (w_sc (w_ar σ 10 1 o (iI ((if d_be D k then 1 else -1) * (g (d_fs D k) + g (d_sn D k))))) 10 4 (nI (moN D g ||| 2 ^ o))) 10 4 = nI (moN D (adZ D g k)) := by
            rw [mo_ad hD hk hg hdr, ← ho]; rfl
          rw [ds_c hD hV (h'.w10 w1) hg' hS', c_I_s]
          obtain ⟨τ, e, w2, r1, r2, r3⟩ := ih (r + 1) (adZ D g k) _ (by omega) (by omega) (h'.w10 w1) hg' hS' hM'
          exact ⟨τ, e, w1.tr w2, r1, r2, r3⟩
        by_cases c0 : g (d_fs D k) = 0
        · rw [if_pos (by rw [c0]; rfl)]
          exact key _ (by rw [if_pos c0]) (by omega)
        · rw [if_neg (by rw [iI_0 (by omega) (by omega)]; exact c0)]
          exact key _ (by rw [if_neg c0]) (by omega)
theorem en2 (a b : Int32) : ∀ (n i : Nat) (σ : Mm), i ≤ 8 → 8 - i < n → (∀ k, k < i → m_ar σ 10 1 k = 0) → ∃ τ, fX10_engage_2 10 a b n (nI i) σ = fX10_engage_21 10 a b τ ∧ W10 σ τ ∧ SpC τ (fun _ => 0) := by
  intro n
  induction n with
  | zero => intro i σ _ h; omega
  | succ n ih =>
    intro i σ hi hn h
    rw [fX10_engage_2, ln_8, ifle_n (by omega) (by omega)]
    by_cases c : 8 ≤ i
    · rw [if_pos c]
      exact ⟨σ, rfl, W10.rf, fun v hv => h v (by omega)⟩
    · rw [if_neg c, s_ar_n (by omega) (by decide), nI_s]
      obtain ⟨τ, e, w, hS⟩ := ih (i + 1) (w_ar σ 10 1 i 0) (by omega) (by omega) (fun k hk => by
        rw [m_ar_ar]
        by_cases c : k = i
        · simp [c]
        · rw [if_neg (fun z => c z.2.2)]; exact h k (by omega))
      exact ⟨τ, e, (W10.st _ _).tr w, hS⟩
theorem engage_c {t : Int} (hD : WFD D) (hV : WFV D V) (h : WkC σ p s D V) (hv : v < d_v D) (ht : t = 1 ∨ t = -1) : ∃ τ, fX10_engage 10 (nI v) (iI t) σ = some (if egB D V (egZ D V v t) then 1 else 0, τ) ∧ W10 σ τ ∧ oneG (egZ D V v t) ∧ SpC τ (egZ D V v t) ∧ m_sc τ 10 4 = nI (moN D (egZ D V v t)) := by
  have hd := hD.1
  unfold fX10_engage
  obtain ⟨τ1, e1, w1, s1⟩ := en2 (nI v) (iI t) FU 0 σ (by omega) (FU_gt (by omega)) (fun k hk => by omega)
  rw [show (0 : Int32) = nI 0 from rfl, e1]
  unfold fX10_engage_21
  rw [s_ar_n (by omega) (by decide), p_sc_s, sh1 (by omega)]
  have w2 : W10 σ (w_sc (w_ar τ1 10 1 v (iI t)) 10 4 (nI (2 ^ v))) := w1.tr ((W10.st _ _).tr (W10.mo _))
  have hg : oneG (beZ v t) := by intro i; unfold beZ; split <;> omega
  have hS : SpC (w_sc (w_ar τ1 10 1 v (iI t)) 10 4 (nI (2 ^ v))) (beZ v t) := fun i hi => SpC.up (i := v) (z := t) s1 i hi
  have hM : m_sc (w_sc (w_ar τ1 10 1 v (iI t)) 10 4 (nI (2 ^ v))) 10 4 = nI (moN D (beZ v t)) := by
    have : moN D (beZ v t) = 2 ^ v := by
      apply Nat.eq_of_testBit_eq
      intro j
      unfold moN
      rw [bsN_bit, Nat.testBit_two_pow]
      unfold beZ
      by_cases c : j = v
      · have : t ≠ 0 := by omega
        rw [c]; simp [hv, this]
      · have c' : ¬ v = j := fun e => c e.symm
        simp [c, c']
    rw [this]; rfl
  rw [ds_c hD hV (h.w10 w2) hg hS, c_I_s]
  obtain ⟨τ, e, w3, r⟩ := en43 hD hV (nI v) (iI t) FU 0 (beZ v t) _ (by omega) (FU_gt (by omega)) (h.w10 w2) hg hS hM
  exact ⟨τ, e, w2.tr w3, r⟩
end WC
