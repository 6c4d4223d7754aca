/-! PURE 25: moves and quarters (reference) -/
def CtR (σ : Mm) (C : CT) : Prop := m_sc σ 31 27 = nI C.1 ∧ m_sc σ 31 26 = nI C.2.1 ∧ ∀ k, k < C.2.1 → k < 12800 → m_ar σ 31 9 k = nI (C.2.2 k)
def RH (σ τ : Mm) : Prop := RT σ τ ∧ m_ar τ 31 8 = m_ar σ 31 8 ∧ m_ar τ 31 0 2453 = m_ar σ 31 0 2453 ∧ m_sc τ 31 28 = m_sc σ 31 28
section WR
variable {σ τ ω : Mm} {v : Nat} {D : PD} {V : SD} {g : Nat → Int} {C : CT} {M : MTq}
theorem RH.rf : RH σ σ := ⟨RT.rf, rfl, rfl, rfl⟩
theorem RH.tr (h : RH σ τ) (h2 : RH τ ω) : RH σ ω := ⟨h.1.tr h2.1, h2.2.1.trans h.2.1, h2.2.2.1.trans h.2.2.1, h2.2.2.2.trans h.2.2.2⟩
theorem SpR.rh (h : SpR σ g) (w : RH σ τ) : SpR τ g := fun v hv => by rw [w.2.1]; exact h v hv
theorem un_lo {k : Nat} (h : k < 2470) : ¬ UN σ k := by
  rintro (⟨v, -, -, e⟩ | ⟨v, -, -, e⟩) <;> omega
theorem RT.wu {k : Nat} {x : Int32} (hk : 2453 ≤ k) (h6 : k ≠ 2456) (hu : ¬ UN σ k) : RT σ (w_ar σ 31 0 k x) := ⟨fun _ _ => rfl, fun _ => rfl, fun j h0 _ _ => by funext i; rw [m_ar_ar, if_neg (fun z => h0 z.2.1)], fun i hi => by
  rw [m_ar_ar, if_neg]
  rintro ⟨-, -, rfl⟩
  rcases hi with hi | hi | hi
  · omega
  · omega
  · exact hu hi, fun _ => rfl⟩
theorem RT.w0 {k : Nat} {x : Int32} (hk : 2453 ≤ k) (h6 : k ≠ 2456) (h7 : k < 2470 := by omega) : RT σ (w_ar σ 31 0 k x) := RT.wu hk h6 (un_lo h7)
theorem RH.wu {k : Nat} {x : Int32} (hk : 2457 ≤ k) (hu : ¬ UN σ k) : RH σ (w_ar σ 31 0 k x) := ⟨RT.wu (by omega) (by omega) hu, by funext i; rw [m_ar_ar, if_neg (by omega)], by rw [m_ar_ar, if_neg (by omega)], rfl⟩
theorem RH.w0 {k : Nat} {x : Int32} (hk : 2457 ≤ k) (h7 : k < 2470 := by omega) : RH σ (w_ar σ 31 0 k x) := RH.wu hk (un_lo h7)
theorem un_v {d i : Nat} (h : m_ar σ 31 0 1 = nI d) (hd : d ≤ 8) (hi : i < d) {j : Nat} (hj : j = 3 ∨ j = 4 ∨ j = 5) : ¬ UN σ (2470 + 6 * i + j) := by
  rintro (⟨v, hv, h1, e⟩ | ⟨v, -, -, e⟩)
  · rw [h, nI_len (by omega) (by omega)] at h1; omega
  · omega
theorem un_s {d i : Nat} (h : m_ar σ 31 0 2 = nI d) (hd : d ≤ 10) (hi : i < d) : ¬ UN σ (2520 + 5 * i + 4) := by
  rintro (⟨v, hv, h1, e⟩ | ⟨v, hv, h1, e⟩)
  · omega
  · rw [h, nI_len (by omega) (by omega)] at h1; omega
theorem RT.s {k : Nat} {x : Int32} (hk : 26 ≤ k) (hk2 : k ≤ 29) : RT σ (w_sc σ 31 k x) := ⟨fun i hi => by rw [m_sc_sc, if_neg (by omega)], fun _ => rfl, fun _ _ _ _ => rfl, fun _ _ => rfl, fun _ => rfl⟩
theorem RH.s {k : Nat} {x : Int32} (hk : 26 ≤ k) (hk2 : k ≤ 27) : RH σ (w_sc σ 31 k x) := ⟨RT.s hk (by omega), rfl, rfl, by rw [m_sc_sc, if_neg (by omega)]⟩
theorem RH.w9 {k : Nat} {x : Int32} : RH σ (w_ar σ 31 9 k x) := ⟨⟨fun _ _ => rfl, fun _ => rfl, fun j _ _ h9 => by funext i; rw [m_ar_ar, if_neg (fun z => h9 z.2.1)], fun i _ => by rw [m_ar_ar, if_neg (by omega)], fun _ => rfl⟩, by funext i; rw [m_ar_ar, if_neg (by omega)], by rw [m_ar_ar, if_neg (by omega)], rfl⟩
theorem ta1 (hD : WFD D) (hV : WFV D V) (hg : oneG g) (hib : ∀ k, k < d_s D → joB V k = true → ouB D V g k = false) : ∀ (n i : Nat) (σ : Mm), i ≤ d_s D → d_s D - i < n → WkR σ D (mvS D V g i 0) → SpR σ g → ∃ τ, fX12_turnsAll_2 31 n (nI i) σ = fX12_turnsAll_47 31 FU (0 : Int32) τ ∧ WkR τ D (mvS D V g (d_s D) 0) ∧ SpR τ g ∧ RH σ τ ∧ (∀ k, m_sc τ 31 k = m_sc σ 31 k) ∧ m_ar τ 31 9 = m_ar σ 31 9 := by
  intro n
  induction n with
  | zero => intro i σ _ h; omega
  | succ n ih =>
    intro i σ hi hn h hS
    have hd := hD.1
    rw [fX12_turnsAll_2, show g_ar σ 31 0 2950 (2 : Int32) = g_ar σ 31 0 2950 (nI 2) from rfl, g_ar_n (by decide) (by decide), h.1.2.2, ifle_n (by omega) (by omega)]
    by_cases c : d_s D ≤ i
    · have : i = d_s D := by omega
      subst this
      rw [if_pos c]
      exact ⟨σ, rfl, h, hS, RH.rf, fun _ => rfl, rfl⟩
    · have hk : i < d_s D := by omega
      have hwf := mv_wf (i := i) (j := 0) hD hV hg hib
      rw [if_neg c, isJoining_r hD hwf h hk, c_I_s, nI_s, show joB (mvS D V g i 0) i = joB V i from rfl]
      cases hj : joB V i
      · rw [if_pos (by decide)]
        obtain ⟨h1, h2, h3, h4, h5, h6, h7⟩ := h
        refine ih (i + 1) σ (by omega) (by omega) ⟨h1, h2, h3, h4, h5, fun k hk => ?_, h7⟩ hS
        rw [h6 k hk]
        show nI (if k < i ∧ joB V k = true then (pbZ D V g k).toNat else v_py V k) = nI (if k < i + 1 ∧ joB V k = true then (pbZ D V g k).toNat else v_py V k)
        by_cases ck : k = i
        · subst ck; rw [hj]; simp
        · by_cases c3 : k < i ∧ joB V k = true
          · rw [if_pos c3, if_pos ⟨by omega, c3.2⟩]
          · rw [if_neg c3, if_neg (fun z => c3 ⟨by omega, z.2⟩)]
      · have ho := hib i hk hj
        have hr := pb_r hV hD hg hk
        unfold ouB at ho
        simp at ho
        rw [if_neg (by decide), playBehind_r hD h hS hk, c_I_s, show pbZ D (mvS D V g i 0) g i = pbZ D V g i by
          unfold pbZ; rw [show v_py (mvS D V g i 0) i = v_py V i by show (if i < i ∧ joB V i = true then _ else v_py V i) = _; rw [if_neg (by omega)]], show ((2520 : Int32) + (5 : Int32) * nI i) + (4 : Int32) = nI (2520 + 5 * i + 4) by rw [ln_2520, ln_5, nI_mul, nI_ad, ln_4, nI_ad], s_ar_n (by omega) (by decide)]
        have w1 : RH σ (w_ar σ 31 0 (2520 + 5 * i + 4) (iI (pbZ D V g i))) := RH.wu (by omega) (un_s h.1.2.2 (by omega) hk)
        obtain ⟨h1, h2, h3, h4, h5, h6, h7⟩ := h
        have hw : WkR (w_ar σ 31 0 (2520 + 5 * i + 4) (iI (pbZ D V g i))) D (mvS D V g (i + 1) 0) := by
          refine ⟨⟨?_, ?_, ?_⟩, fun v hv => ⟨?_, ?_, ?_⟩, fun s hs => ⟨?_, ?_, ?_, ?_⟩, fun q hq => ⟨?_, ?_⟩, fun v hv => ⟨?_, ?_, ?_⟩, fun k hk => ?_, ?_, ?_⟩
          all_goals rw [m_ar_ar]
          · rw [if_neg (by omega)]; exact h1.1
          · rw [if_neg (by omega)]; exact h1.2.1
          · rw [if_neg (by omega)]; exact h1.2.2
          · rw [if_neg (by omega)]; exact (h2 v hv).1
          · rw [if_neg (by omega)]; exact (h2 v hv).2.1
          · rw [if_neg (by omega)]; exact (h2 v hv).2.2
          · rw [if_neg (by omega)]; exact (h3 s hs).1
          · rw [if_neg (by omega)]; exact (h3 s hs).2.1
          · rw [if_neg (by omega)]; exact (h3 s hs).2.2.1
          · rw [if_neg (by omega)]; exact (h3 s hs).2.2.2
          · rw [if_neg (by omega)]; exact (h4 q hq).1
          · rw [if_neg (by omega)]; exact (h4 q hq).2
          · rw [if_neg (by omega)]; exact (h5 v hv).1
          · rw [if_neg (by omega)]; exact (h5 v hv).2.1
          · rw [if_neg (by omega)]; exact (h5 v hv).2.2
          · show _ = nI (if k < i + 1 ∧ joB V k = true then (pbZ D V g k).toNat else v_py V k)
            by_cases ck : k = i
            · subst ck
              rw [if_pos ⟨rfl, rfl, rfl⟩, if_pos ⟨by omega, hj⟩, nI_iI, Int.toNat_of_nonneg (by omega)]
            · rw [if_neg (by omega), h6 k hk]
              show nI (if k < i ∧ joB V k = true then (pbZ D V g k).toNat else v_py V k) = _
              by_cases c3 : k < i ∧ joB V k = true
              · rw [if_pos c3, if_pos ⟨by omega, c3.2⟩]
              · rw [if_neg c3, if_neg (fun z => c3 ⟨by omega, z.2⟩)]
          · rw [if_neg (by omega)]; exact h7.1
          · rw [if_neg (by omega)]; exact h7.2
        obtain ⟨τ, e, r1, r2, r3, r4, r5⟩ := ih (i + 1) (w_ar σ 31 0 (2520 + 5 * i + 4) (iI (pbZ D V g i))) (by omega) (by omega) hw (hS.rh w1)
        exact ⟨τ, e, r1, r2, w1.tr r3, r4, by rw [r5]; funext k; rw [m_ar_ar, if_neg (by omega)]⟩
theorem wk_mv {s i : Nat} (hD : WFD D) (hi : i < d_v D) (g0 : g i ≠ 0) (h : WkR σ D (mvS D V g s i)) (hA : ∀ k, m_ar τ 31 0 k = if k = 2470 + 6 * i + 3 then nI (tnN D V i (g i)) else if k = 2470 + 6 * i + 4 then v_tn V i + 1 else if k = 2470 + 6 * i + 5 ∧ tnN D V i (g i) = 0 then v_sk V i + 1 else m_ar σ 31 0 k) : WkR τ D (mvS D V g s (i + 1)) := by
  have hd := hD.1
  obtain ⟨h1, h2, h3, h4, h5, h6, h7⟩ := h
  have ho : ∀ k, (∀ j, j = 3 ∨ j = 4 ∨ j = 5 → k ≠ 2470 + 6 * i + j) → m_ar τ 31 0 k = m_ar σ 31 0 k := fun k hk => by
    rw [hA, if_neg (hk 3 (by omega)), if_neg (hk 4 (by omega)), if_neg (fun z => hk 5 (by omega) z.1)]
  refine ⟨⟨?_, ?_, ?_⟩, fun v hv => ⟨?_, ?_, ?_⟩, fun s hs => ⟨?_, ?_, ?_, ?_⟩, fun q hq => ⟨?_, ?_⟩, fun v hv => ⟨?_, ?_, ?_⟩, fun k hk => ?_, ?_, ?_⟩
  · rw [ho _ (fun j hj => by omega)]; exact h1.1
  · rw [ho _ (fun j hj => by omega)]; exact h1.2.1
  · rw [ho _ (fun j hj => by omega)]; exact h1.2.2
  · rw [ho _ (fun j hj => by omega)]; exact (h2 v hv).1
  · rw [ho _ (fun j hj => by omega)]; exact (h2 v hv).2.1
  · rw [ho _ (fun j hj => by omega)]; exact (h2 v hv).2.2
  · rw [ho _ (fun j hj => by omega)]; exact (h3 s hs).1
  · rw [ho _ (fun j hj => by omega)]; exact (h3 s hs).2.1
  · rw [ho _ (fun j hj => by omega)]; exact (h3 s hs).2.2.1
  · rw [ho _ (fun j hj => by omega)]; exact (h3 s hs).2.2.2
  · rw [ho _ (fun j hj => by omega)]; exact (h4 q hq).1
  · rw [ho _ (fun j hj => by omega)]; exact (h4 q hq).2
  · show _ = nI (if v < i + 1 ∧ g v ≠ 0 then tnN D V v (g v) else v_pt V v)
    by_cases c : v = i
    · subst c; rw [hA, if_pos rfl, if_pos ⟨by omega, g0⟩]
    · rw [ho _ (fun j hj => by omega), (h5 v hv).1]
      show nI (if v < i ∧ g v ≠ 0 then tnN D V v (g v) else v_pt V v) = _
      by_cases c3 : v < i ∧ g v ≠ 0
      · rw [if_pos c3, if_pos ⟨by omega, c3.2⟩]
      · rw [if_neg c3, if_neg (fun z => c3 ⟨by omega, z.2⟩)]
  · show _ = (if v < i + 1 ∧ g v ≠ 0 then v_tn V v + 1 else v_tn V v)
    by_cases c : v = i
    · subst c; rw [hA, if_neg (by omega), if_pos rfl, if_pos ⟨by omega, g0⟩]
    · rw [ho _ (fun j hj => by omega), (h5 v hv).2.1]
      show (if v < i ∧ g v ≠ 0 then v_tn V v + 1 else v_tn V v) = _
      by_cases c3 : v < i ∧ g v ≠ 0
      · rw [if_pos c3, if_pos ⟨by omega, c3.2⟩]
      · rw [if_neg c3, if_neg (fun z => c3 ⟨by omega, z.2⟩)]
  · show _ = (if v < i + 1 ∧ g v ≠ 0 ∧ tnN D V v (g v) = 0 then v_sk V v + 1 else v_sk V v)
    have hs5 := (h5 v hv).2.2
    have e5 : v_sk (mvS D V g s i) v = if v < i ∧ g v ≠ 0 ∧ tnN D V v (g v) = 0 then v_sk V v + 1 else v_sk V v := rfl
    rw [e5] at hs5
    by_cases c : v = i
    · subst c
      rw [hA, if_neg (by omega), if_neg (by omega)]
      by_cases c4 : tnN D V v (g v) = 0
      · rw [if_pos ⟨rfl, c4⟩, if_pos ⟨by omega, g0, c4⟩]
      · rw [if_neg (fun z => c4 z.2), if_neg (fun z => c4 z.2.2), hs5, if_neg (by omega)]
    · rw [ho _ (fun j hj => by omega), hs5]
      by_cases c3 : v < i ∧ g v ≠ 0 ∧ tnN D V v (g v) = 0
      · rw [if_pos c3, if_pos ⟨by omega, c3.2⟩]
      · rw [if_neg c3, if_neg (fun z => c3 ⟨by omega, z.2⟩)]
  · rw [ho _ (fun j hj => by omega)]; exact h6 k hk
  · rw [ho _ (fun j hj => by omega)]; exact h7.1
  · rw [ho _ (fun j hj => by omega)]; exact h7.2
theorem wk_mv0 {s i : Nat} (g0 : g i = 0) (h : WkR σ D (mvS D V g s i)) : WkR σ D (mvS D V g s (i + 1)) := by
  obtain ⟨h1, h2, h3, h4, h5, h6, h7⟩ := h
  refine ⟨h1, h2, h3, h4, fun k hk => ?_, h6, h7⟩
  have := h5 k hk
  have ee : ∀ {β : Type} (x y : β), (if k < i + 1 ∧ g k ≠ 0 then x else y) = if k < i ∧ g k ≠ 0 then x else y := by
    intro β x y
    by_cases c3 : k < i ∧ g k ≠ 0
    · rw [if_pos c3, if_pos ⟨by omega, c3.2⟩]
    · rw [if_neg c3, if_neg (fun z => c3 ⟨by have : k ≠ i := fun q => z.2 (by rw [q]; exact g0); omega, z.2⟩)]
  have ef : ∀ {β : Type} (P : Prop) [Decidable P] (x y : β), (if k < i + 1 ∧ g k ≠ 0 ∧ P then x else y) = if k < i ∧ g k ≠ 0 ∧ P then x else y := by
    intro β P _ x y
    by_cases c3 : k < i ∧ g k ≠ 0 ∧ P
    · rw [if_pos c3, if_pos ⟨by omega, c3.2⟩]
    · rw [if_neg c3, if_neg (fun z => c3 ⟨by have : k ≠ i := fun q => z.2.1 (by rw [q]; exact g0); omega, z.2⟩)]
  show _ = nI (if k < i + 1 ∧ g k ≠ 0 then tnN D V k (g k) else v_pt V k) ∧ _ = (if k < i + 1 ∧ g k ≠ 0 then v_tn V k + 1 else v_tn V k) ∧ _ = (if k < i + 1 ∧ g k ≠ 0 ∧ tnN D V k (g k) = 0 then v_sk V k + 1 else v_sk V k)
  rw [ee, ee, ef]
  exact this
theorem ta2 (hD : WFD D) (hV : WFV D V) (hg : oneG g) (hib : ∀ k, k < d_s D → joB V k = true → ouB D V g k = false) (hC : C.2.1 < 1000000000) : ∀ (n i : Nat) (σ : Mm), i ≤ d_v D → d_v D - i < n → WkR σ D (mvS D V g (d_s D) i) → SpR σ g → CtR σ (mvC D V g i C) → ∃ τ, fX12_turnsAll_47 31 n (nI i) σ = some τ ∧ WkR τ D (mvS D V g (d_s D) (d_v D)) ∧ RH σ τ ∧ CtR τ (mvC D V g (d_v D) C) := by
  intro n
  induction n with
  | zero => intro i σ _ h; omega
  | succ n ih =>
    intro i σ hi hn h hS hc
    have hd := hD.1
    have h' := h
    rw [fX12_turnsAll_47, show g_ar σ 31 0 2950 (1 : Int32) = g_ar σ 31 0 2950 (nI 1) from rfl, g_ar_n (by decide) (by decide), h.1.2.1, ifle_n (by omega) (by omega)]
    by_cases c : d_v D ≤ i
    · have : i = d_v D := by omega
      subst this
      rw [if_pos c]
      exact ⟨σ, rfl, h, RH.rf, hc⟩
    · have hv : i < d_v D := by omega
      have hb := hD.2.1 i hv
      have gi := hg i
      rw [if_neg c, g_ar_n (by omega) (by decide), hS _ (by omega), nI_s]
      by_cases g0 : g i = 0
      · rw [if_pos (by rw [g0]; rfl)]
        exact ih (i + 1) σ (by omega) (by omega) (wk_mv0 g0 h) hS (by rw [mvC, if_pos g0]; exact hc)
      · have hwf := mv_wf (i := d_s D) (j := i) hD hV hg hib
        have hle := (mvC_le (D := D) (V := V) (g := g) C i).1
        have htl : tnN D V i (g i) < d_te D i := tn_lt (by omega)
        obtain ⟨h1, h2, h3, h4, h5, h6, h7⟩ := h
        obtain ⟨f3, f4, f5⟩ := h5 i hv
        have t4 : v_tn (mvS D V g (d_s D) i) i = v_tn V i := by show (if i < i ∧ g i ≠ 0 then _ else v_tn V i) = _; rw [if_neg (by omega)]
        have t5 : v_sk (mvS D V g (d_s D) i) i = v_sk V i := by show (if i < i ∧ g i ≠ 0 ∧ _ then _ else v_sk V i) = _; rw [if_neg (by omega)]
        rw [t4] at f4
        rw [t5] at f5
        obtain ⟨c1, c2, c3⟩ := hc
        rw [if_neg (by rw [iI_0 (by omega) (by omega)]; exact g0), g_ar_n (by omega) (by decide), hS _ (by omega), turned_r hD hwf h' hv gi, mv_tn, c_I_s,
          show ((2470 : Int32) + (6 : Int32) * nI i) + (3 : Int32) = nI (2470 + 6 * i + 3) by rw [ln_2470, ln_6, nI_mul, nI_ad, ln_3, nI_ad],
          show ((2470 : Int32) + (6 : Int32) * nI i) + (4 : Int32) = nI (2470 + 6 * i + 4) by rw [ln_2470, ln_6, nI_mul, nI_ad, ln_4, nI_ad],
          show ((2470 : Int32) + (6 : Int32) * nI i) + (5 : Int32) = nI (2470 + 6 * i + 5) by rw [ln_2470, ln_6, nI_mul, nI_ad, ln_5, nI_ad],
          s_ar_n (by omega) (by decide), g_ar_n (by omega) (by decide), m_ar_ar, if_neg (by omega), f4, s_ar_n (by omega) (by decide), r_sc_s, p_sc_s, g_ar_n (by omega) (by decide)]
        obtain ⟨σ1, hσ1⟩ : ∃ σ1, σ1 = w_sc (w_ar (w_ar σ 31 0 (2470 + 6 * i + 3) (nI (tnN D V i (g i)))) 31 0 (2470 + 6 * i + 4) (v_tn V i + 1)) 31 27 (nI ((mvC D V g i C).1 + 1)) := ⟨_, rfl⟩
        rw [show m_sc (w_ar (w_ar σ 31 0 (2470 + 6 * i + 3) (nI (tnN D V i (g i)))) 31 0 (2470 + 6 * i + 4) (v_tn V i + 1)) 31 27 = nI (mvC D V g i C).1 from c1, nI_s, ← hσ1]
        have A1 : ∀ k, m_ar σ1 31 0 k = if k = 2470 + 6 * i + 3 then nI (tnN D V i (g i)) else if k = 2470 + 6 * i + 4 then v_tn V i + 1 else m_ar σ 31 0 k := fun k => by
          rw [hσ1, m_ar_sc, m_ar_ar, m_ar_ar]
          by_cases e4 : k = 2470 + 6 * i + 4
          · rw [if_pos ⟨rfl, rfl, e4⟩, if_neg (by omega), if_pos e4]
          · rw [if_neg (fun z => e4 z.2.2), if_neg e4]
            by_cases e3 : k = 2470 + 6 * i + 3
            · rw [if_pos ⟨rfl, rfl, e3⟩, if_pos e3]
            · rw [if_neg (fun z => e3 z.2.2), if_neg e3]
        have w1 : RH σ σ1 := by rw [hσ1]; exact ((RH.wu (by omega) (un_v h1.2.1 (by omega) hv (by omega))).tr (RH.wu (by omega) (un_v (d := d_v D) (by rw [m_ar_ar, if_neg (by omega)]; exact h1.2.1) (by omega) hv (by omega)))).tr (RH.s (by omega) (by omega))
        have s26 : m_sc σ1 31 26 = nI (mvC D V g i C).2.1 := by rw [hσ1, m_sc_sc, if_neg (by decide)]; exact c2
        have s27 : m_sc σ1 31 27 = nI ((mvC D V g i C).1 + 1) := by rw [hσ1, m_sc_sc, if_pos ⟨rfl, rfl⟩]
        have a9 : m_ar σ1 31 9 = m_ar σ 31 9 := by
          rw [hσ1]; funext k; rw [m_ar_sc, m_ar_ar, if_neg (by omega), m_ar_ar, if_neg (by omega)]
        rw [show m_ar σ1 31 0 (2470 + 6 * i + 3) = nI (tnN D V i (g i)) by rw [A1, if_pos rfl], ln_0, ifle_n (by omega) (by decide)]
        by_cases ct : tnN D V i (g i) = 0
        · rw [if_pos (by omega), g_ar_n (by omega) (by decide), s_ar_n (by omega) (by decide), show m_ar σ1 31 0 (2470 + 6 * i + 5) = v_sk V i by rw [A1, if_neg (by omega), if_neg (by omega)]; exact f5]
          obtain ⟨σ2, hσ2⟩ : ∃ σ2, σ2 = w_ar σ1 31 0 (2470 + 6 * i + 5) (v_sk V i + 1) := ⟨_, rfl⟩
          rw [← hσ2]
          have w2 : RH σ1 σ2 := by rw [hσ2]; exact RH.wu (by omega) (un_v (d := d_v D) (by rw [A1, if_neg (by omega), if_neg (by omega)]; exact h1.2.1) (by omega) hv (by omega))
          have A2 : ∀ k, m_ar σ2 31 0 k = if k = 2470 + 6 * i + 3 then nI (tnN D V i (g i)) else if k = 2470 + 6 * i + 4 then v_tn V i + 1 else if k = 2470 + 6 * i + 5 ∧ tnN D V i (g i) = 0 then v_sk V i + 1 else m_ar σ 31 0 k := fun k => by
            rw [hσ2, m_ar_ar, A1]
            by_cases e5 : k = 2470 + 6 * i + 5
            · rw [if_pos ⟨rfl, rfl, e5⟩, if_neg (by omega), if_neg (by omega), if_pos ⟨e5, ct⟩]
            · rw [if_neg (fun z => e5 z.2.2)]
              rw [if_neg (show ¬ (k = 2470 + 6 * i + 5 ∧ _) from fun z => e5 z.1)]
          have q26 : m_sc σ2 31 26 = nI (mvC D V g i C).2.1 := by rw [hσ2]; exact s26
          have q27 : m_sc σ2 31 27 = nI ((mvC D V g i C).1 + 1) := by rw [hσ2]; exact s27
          have q9 : m_ar σ2 31 9 = m_ar σ 31 9 := by rw [hσ2, ← a9]; funext k; rw [m_ar_ar, if_neg (by omega)]
          have hcn : mvC D V g (i + 1) C = ((mvC D V g i C).1 + 1, (mvC D V g i C).2.1 + 1, fun k => if k = (mvC D V g i C).2.1 then i else (mvC D V g i C).2.2 k) := by rw [mvC, if_neg g0, if_pos ct]
          rw [r_sc_s, q26, ln_12800, ifle_n (by decide) (by omega)]
          by_cases cb : 12800 ≤ (mvC D V g i C).2.1
          · rw [if_pos cb, r_sc_s, p_sc_s, q26, nI_s]
            have w3 : RH σ2 (w_sc σ2 31 26 (nI ((mvC D V g i C).2.1 + 1))) := RH.s (by omega) (by omega)
            obtain ⟨τ, e, r1, r2, r3⟩ := ih (i + 1) (w_sc σ2 31 26 (nI ((mvC D V g i C).2.1 + 1))) (by omega) (by omega) (wk_mv hD hv g0 h' A2) (hS.rh ((w1.tr w2).tr w3)) (by
              rw [hcn]
              refine ⟨?_, ?_, fun k hk1 hk2 => ?_⟩
              · rw [m_sc_sc, if_neg (by decide)]; exact q27
              · rw [m_sc_sc, if_pos ⟨rfl, rfl⟩]
              · have : k ≠ (mvC D V g i C).2.1 := by omega
                show _ = nI (if k = (mvC D V g i C).2.1 then i else (mvC D V g i C).2.2 k)
                rw [if_neg this, m_ar_sc, q9]
                exact c3 k (by have : k < (mvC D V g i C).2.1 + 1 := hk1; omega) hk2)
            exact ⟨τ, e, r1, ((w1.tr w2).tr w3).tr r2, r3⟩
          · rw [if_neg cb, r_sc_s, q26, s_ar_n (by omega) (by decide), r_sc_s, p_sc_s, show m_sc (w_ar σ2 31 9 (mvC D V g i C).2.1 (nI i)) 31 26 = nI (mvC D V g i C).2.1 from q26, nI_s]
            have w3 : RH σ2 (w_sc (w_ar σ2 31 9 (mvC D V g i C).2.1 (nI i)) 31 26 (nI ((mvC D V g i C).2.1 + 1))) := RH.w9.tr (RH.s (by omega) (by omega))
            obtain ⟨τ, e, r1, r2, r3⟩ := ih (i + 1) (w_sc (w_ar σ2 31 9 (mvC D V g i C).2.1 (nI i)) 31 26 (nI ((mvC D V g i C).2.1 + 1))) (by omega) (by omega) (wk_mv hD hv g0 h' (fun k => by rw [m_ar_sc, m_ar_ar, if_neg (by omega)]; exact A2 k)) (hS.rh ((w1.tr w2).tr w3)) (by
              rw [hcn]
              refine ⟨?_, ?_, fun k hk1 hk2 => ?_⟩
              · rw [m_sc_sc, if_neg (by decide)]; exact q27
              · rw [m_sc_sc, if_pos ⟨rfl, rfl⟩]
              · show _ = nI (if k = (mvC D V g i C).2.1 then i else (mvC D V g i C).2.2 k)
                rw [m_ar_sc, m_ar_ar]
                by_cases ck : k = (mvC D V g i C).2.1
                · rw [if_pos ⟨rfl, rfl, ck⟩, if_pos ck]
                · rw [if_neg (fun z => ck z.2.2), if_neg ck, q9]
                  exact c3 k (by have : k < (mvC D V g i C).2.1 + 1 := hk1; omega) hk2)
            exact ⟨τ, e, r1, ((w1.tr w2).tr w3).tr r2, r3⟩
        · have hcn : mvC D V g (i + 1) C = ((mvC D V g i C).1 + 1, (mvC D V g i C).2) := by rw [mvC, if_neg g0, if_neg ct]
          rw [if_neg (by omega)]
          obtain ⟨τ, e, r1, r2, r3⟩ := ih (i + 1) σ1 (by omega) (by omega) (wk_mv hD hv g0 h' (fun k => by
            rw [A1]
            rw [if_neg (show ¬ (k = 2470 + 6 * i + 5 ∧ tnN D V i (g i) = 0) from fun z => ct z.2)])) (hS.rh w1) (by
              rw [hcn]
              exact ⟨s27, s26, fun k hk1 hk2 => by rw [a9]; exact c3 k hk1 hk2⟩)
          exact ⟨τ, e, r1, w1.tr r2, r3⟩
theorem turnsAll_r (hD : WFD D) (hV : WFV D V) (h : WkR σ D V) (hg : oneG g) (hS : SpR σ g) (he : egB D V g = true) (hC : C.2.1 < 1000000000) (hc : CtR σ C) : ∃ τ, fX12_turnsAll 31 σ = some τ ∧ WkR τ D (mvF D V g) ∧ RH σ τ ∧ CtR τ (mvC D V g (d_v D) C) ∧ WFV D (mvF D V g) := by
  have hd := hD.1
  have hib := eg_ib he
  unfold fX12_turnsAll
  obtain ⟨τ1, e1, r1, r2, r3, r4, r5⟩ := ta1 hD hV hg hib FU 0 σ (by omega) (FU_gt (by omega)) (by rw [mv0]; exact h) hS
  obtain ⟨τ, e, q1, q2, q3⟩ := ta2 (C := C) hD hV hg hib hC FU 0 τ1 (by omega) (FU_gt (by omega)) r1 r2 (by unfold CtR; rw [r4, r4, r5]; exact hc)
  exact ⟨τ, e1.trans e, q1, r3.tr q2, q3, mv_wf hD hV hg hib⟩
/-! quarters -/
theorem fs_succ (p : Nat → Bool) : ∀ n, fsF p (n + 1) = match fsF p n with
    | some j => some j
    | none => if p n then some n else none := by
  intro n
  cases hx : fsF p n with
  | none =>
    have hn := (ffF_none _ _ _).mp hx
    dsimp only
    by_cases c : p n = true
    · rw [if_pos c]
      cases hy : fsF p (n + 1) with
      | none => have := (ffF_none _ _ _).mp hy n (by omega) (by omega); rw [c] at this; cases this
      | some j =>
        obtain ⟨-, h2, h3, -⟩ := ffF_some _ _ _ _ hy
        by_cases e : j = n
        · rw [e]
        · rw [hn j (by omega) (by omega)] at h3; cases h3
    · rw [if_neg c]
      refine (ffF_none _ _ _).mpr (fun j _ h2 => ?_)
      by_cases e : j = n
      · rw [e]; cases hp : p n
        · rfl
        · exact absurd hp c
      · exact hn j (by omega) (by omega)
  | some j =>
    obtain ⟨-, h2, h3, h4⟩ := ffF_some _ _ _ _ hx
    dsimp only
    cases hy : fsF p (n + 1) with
    | none => have := (ffF_none _ _ _).mp hy j (by omega) (by omega); rw [h3] at this; cases this
    | some i =>
      obtain ⟨-, i2, i3, i4⟩ := ffF_some _ _ _ _ hy
      by_cases e1 : i < j
      · rw [h4 i (by omega) e1] at i3; cases i3
      · by_cases e2 : j < i
        · rw [i4 j (by omega) e2] at h3; cases h3
        · rw [show i = j by omega]
/-- until the first is driven nothing moves -/
theorem qt_fs : ∀ n, fsF (dvB D M.1) n = none → qtS D n M = M := by
  intro n
  induction n with
  | zero => exact fun _ => rfl
  | succ n ih =>
    intro h
    rw [fs_succ] at h
    cases hx : fsF (dvB D M.1) n with
    | some j => rw [hx] at h; cases h
    | none =>
      rw [hx] at h
      dsimp only at h
      have hp : ¬ dvB D M.1 n = true := fun e => by rw [if_pos e] at h; cases h
      rw [qtS, ih hx, q1S, if_neg hp]
theorem fq_e : ∀ n, fsF (fun v => dvB D (qtS D v M).1 v) n = fsF (dvB D M.1) n := by
  intro n
  induction n with
  | zero => rfl
  | succ n ih =>
    rw [fs_succ, fs_succ, ih]
    cases hx : fsF (dvB D M.1) n with
    | some j => rfl
    | none => dsimp only; rw [qt_fs n hx]
theorem qt_iff : (qtM D M).2.1 = M.2.1 ↔ fsF (dvB D M.1) (d_v D) = none := by
  constructor
  · intro h
    cases hx : fsF (dvB D M.1) (d_v D) with
    | none => rfl
    | some j =>
      exfalso
      obtain ⟨-, h2, h3, h4⟩ := ffF_some _ _ _ _ hx
      have hj : fsF (dvB D M.1) j = none := (ffF_none _ _ _).mpr (fun i _ hi => h4 i (by omega) (by omega))
      have e := qt_fs j hj
      have key : ∀ n, j < n → n ≤ d_v D → M.2.1 < (qtS D n M).2.1 := by
        intro n
        induction n with
        | zero => intro h; omega
        | succ n ih =>
          intro h1 h5
          have hq := (q1_le (D := D) (v := n) (M := qtS D n M)).1
          rw [qtS]
          by_cases c : j = n
          · subst c
            have : M.2.1 < (q1S D j (qtS D j M)).2.1 := by
              rw [e, q1S, if_pos h3]
              exact mvC_gt (v := j) (by omega) (by rw [eg_keep sw_0]; exact sw_0) _ (by omega)
            exact this
          · have := ih (by omega) (by omega)
            omega
      have := key (d_v D) (by omega) (Nat.le_refl _)
      unfold qtM at h
      omega
  · intro h
    unfold qtM
    rw [qt_fs _ h]
theorem quarterGoes_l (hD : WFD D) (hC : M.2.2.1 + 64 < 1000000000) {q : Int32} : ∀ (n i : Nat) (σ : Mm), i ≤ d_v D → d_v D - i < n → WFV D (qtS D i M).1 → WkR σ D (qtS D i M).1 → CtR σ (qtS D i M).2 → m_sc σ 31 28 = oI (fsF (fun v => dvB D (qtS D v M).1 v) i) → m_ar σ 31 0 2453 = q → ∃ τ, fX12_quarterGoes_7 31 n (nI i) σ = fX12_quarterGoes_91 31 τ ∧ WFV D (qtM D M).1 ∧ WkR τ D (qtM D M).1 ∧ CtR τ (qtM D M).2 ∧ RT σ τ ∧ m_sc τ 31 28 = oI (fsF (fun v => dvB D (qtS D v M).1 v) (d_v D)) ∧ m_ar τ 31 0 2453 = q := by
  intro n
  induction n with
  | zero => intro i σ _ h; omega
  | succ n ih =>
    intro i σ hi hn hV h hc hf hq
    have hd := hD.1
    rw [fX12_quarterGoes_7, show g_ar σ 31 0 2950 (1 : Int32) = g_ar σ 31 0 2950 (nI 1) from rfl, g_ar_n (by decide) (by decide), h.1.2.1, ifle_n (by omega) (by omega)]
    by_cases c : d_v D ≤ i
    · have : i = d_v D := by omega
      subst this
      rw [if_pos c]
      exact ⟨σ, rfl, hV, h, hc, RT.rf, hf, hq⟩
    · have hv : i < d_v D := by omega
      have h64 : i * d_v D ≤ 64 := Nat.le_trans (Nat.mul_le_mul (show i ≤ 8 by omega) hd.2.1) (by decide)
      have hle := (qt_le (D := D) (M := M) i).2.2
      have skip : dvB D (qtS D i M).1 i = false → ∀ τ, WkR τ D (qtS D i M).1 → CtR τ (qtS D i M).2 → RT σ τ → m_sc τ 31 28 = m_sc σ 31 28 → m_ar τ 31 0 2453 = m_ar σ 31 0 2453 → ∃ ω, fX12_quarterGoes_7 31 n (nI (i + 1)) τ = fX12_quarterGoes_91 31 ω ∧ WFV D (qtM D M).1 ∧ WkR ω D (qtM D M).1 ∧ CtR ω (qtM D M).2 ∧ RT σ ω ∧ m_sc ω 31 28 = oI (fsF (fun v => dvB D (qtS D v M).1 v) (d_v D)) ∧ m_ar ω 31 0 2453 = q := by
        intro hdv τ k1 k2 k3 k4 k5
        have eq1 : qtS D (i + 1) M = qtS D i M := by rw [qtS, q1S, if_neg (by rw [hdv]; decide)]
        obtain ⟨ω, e, r1, r2, r3, r4, r5, r6⟩ := ih (i + 1) τ (by omega) (by omega) (by rw [eq1]; exact hV) (by rw [eq1]; exact k1) (by rw [eq1]; exact k2) (by
          rw [k4, hf, fs_succ]
          cases fsF (fun v => dvB D (qtS D v M).1 v) i with
          | some j => rfl
          | none => dsimp only; rw [hdv]; rfl) (k5.trans hq)
        exact ⟨ω, e, r1, r2, r3, k3.tr r4, r5, r6⟩
      rw [if_neg c, ln_2455, g_ar_n (by decide) (by decide), h.2.2.2.2.2.2.2, has_n (he_b hD hV) (by omega), nI_s]
      cases hh : (v_he (qtS D i M).1).testBit i
      · rw [if_neg (by decide), isRight_r hD hV h hv, c_I_s]
        cases hr : rgB D (qtS D i M).1 i
        · rw [if_pos (by decide), shorter_r hD hV h hv, c_I_s]
          obtain ⟨τ, e, w, o1, o2⟩ := dragsBy_r hD hV h hv sw_1
          rw [e, c_I_s]
          have hcτ : CtR τ (qtS D i M).2 := ⟨(w.1 27).trans hc.1, (w.1 26).trans hc.2.1, fun k h1 h2 => by rw [w.2.2.1 9 (by decide)]; exact hc.2.2 k h1 h2⟩
          cases hb : egB D (qtS D i M).1 (egZ D (qtS D i M).1 i (swZ D (qtS D i M).1 i))
          · rw [if_pos (by decide)]
            exact skip (by unfold dvB; rw [hb]; simp) τ (h.rg w) hcτ w.t (w.1 28) (by rw [w.2.2.1 0 (by decide)])
          · rw [if_neg (by decide), isStronger_r hD hV (h.rg w) o1 o2 hv hr (eg_keep sw_0), c_I_s]
            by_cases cf : 0 < foZ D (qtS D i M).1 (egZ D (qtS D i M).1 i (swZ D (qtS D i M).1 i)) (d_v D)
            · have hdv : dvB D (qtS D i M).1 i = true := by unfold dvB; rw [hb, hh, hr, decide_eq_true cf]; rfl
              rw [if_pos cf, if_neg (by decide)]
              obtain ⟨ω, f, t1, t2, t3, t4⟩ := turnsAll_r hD hV (h.rg w) o1 o2 hb (by omega) hcτ
              rw [f, c_V_s, r_sc_s, show m_sc ω 31 28 = m_sc σ 31 28 from t2.2.2.2.trans (w.1 28), hf]
              have eq1 : qtS D (i + 1) M = (mvF D (qtS D i M).1 (egZ D (qtS D i M).1 i (swZ D (qtS D i M).1 i)), mvC D (qtS D i M).1 (egZ D (qtS D i M).1 i (swZ D (qtS D i M).1 i)) (d_v D) (qtS D i M).2) := by
                rw [qtS, q1S, if_pos hdv]
              have q53 : m_ar ω 31 0 2453 = q := (t2.2.2.1.trans (by rw [w.2.2.1 0 (by decide)])).trans hq
              have hfs := fs_succ (fun v => dvB D (qtS D v M).1 v) i
              cases hx : fsF (fun v => dvB D (qtS D v M).1 v) i with
              | none =>
                rw [hx] at hfs
                dsimp only at hfs
                rw [hdv, if_pos rfl] at hfs
                rw [show oI none = -1 from rfl, if_pos rfl, p_sc_s]
                obtain ⟨π, f2, u1, u2, u3, u4, u5, u6⟩ := ih (i + 1) (w_sc ω 31 28 (nI i)) (by omega) (by omega) (by rw [eq1]; exact t4) (by rw [eq1]; exact t1) (by
                  rw [eq1]
                  exact ⟨by rw [m_sc_sc, if_neg (by decide)]; exact t3.1, by rw [m_sc_sc, if_neg (by decide)]; exact t3.2.1, t3.2.2⟩) (by rw [hfs, m_sc_sc, if_pos ⟨rfl, rfl⟩]; rfl) q53
                exact ⟨π, f2, u1, u2, u3, ((w.t.tr t2.1).tr (RT.s (by omega) (by omega))).tr u4, u5, u6⟩
              | some j =>
                rw [hx] at hfs
                dsimp only at hfs
                obtain ⟨-, hj, -, -⟩ := ffF_some _ _ _ _ hx
                rw [show oI (some j) = nI j from rfl, if_neg (nI_nem (by omega))]
                obtain ⟨π, f2, u1, u2, u3, u4, u5, u6⟩ := ih (i + 1) ω (by omega) (by omega) (by rw [eq1]; exact t4) (by rw [eq1]; exact t1) (by rw [eq1]; exact t3) (by rw [hfs, t2.2.2.2, w.1 28, hf, hx]) q53
                exact ⟨π, f2, u1, u2, u3, (w.t.tr t2.1).tr u4, u5, u6⟩
            · rw [if_neg cf, if_pos (by decide)]
              exact skip (by unfold dvB; rw [decide_eq_false cf]; simp) τ (h.rg w) hcτ w.t (w.1 28) (by rw [w.2.2.1 0 (by decide)])
        · rw [if_neg (by decide)]
          exact skip (by unfold dvB; rw [hr]; simp) σ h hc RT.rf rfl rfl
      · rw [if_pos (by decide)]
        exact skip (by unfold dvB; rw [hh]; rfl) σ h hc RT.rf rfl rfl
theorem WkR.cg (h : WkR σ D V) (hD : WFD D) (hA : ∀ k, k ≠ 2453 → m_ar τ 31 0 k = m_ar σ 31 0 k) : WkR τ D V := by
  have hd := hD.1
  obtain ⟨h1, h2, h3, h4, h5, h6, h7⟩ := h
  refine ⟨⟨?_, ?_, ?_⟩, fun v hv => ⟨?_, ?_, ?_⟩, fun s hs => ⟨?_, ?_, ?_, ?_⟩, fun q hq => ⟨?_, ?_⟩, fun v hv => ⟨?_, ?_, ?_⟩, fun k hk => ?_, ?_, ?_⟩
  all_goals rw [hA _ (by omega)]
  · exact h1.1
  · exact h1.2.1
  · exact h1.2.2
  · exact (h2 v hv).1
  · exact (h2 v hv).2.1
  · exact (h2 v hv).2.2
  · exact (h3 s hs).1
  · exact (h3 s hs).2.1
  · exact (h3 s hs).2.2.1
  · exact (h3 s hs).2.2.2
  · exact (h4 q hq).1
  · exact (h4 q hq).2
  · exact (h5 v hv).1
  · exact (h5 v hv).2.1
  · exact (h5 v hv).2.2
  · exact h6 k hk
  · exact h7.1
  · exact h7.2
theorem quarterGoes_r {q : Nat} (hD : WFD D) (hV : WFV D M.1) (h : WkR σ D M.1) (hc : CtR σ M.2) (hC : M.2.2.1 + 64 < 1000000000) (hq : m_ar σ 31 0 2453 = nI q) (hq9 : q ≤ 9999) : ∃ τ, fX12_quarterGoes 31 σ = some (if (fsF (dvB D M.1) (d_v D)).isNone then 0 else 1, τ) ∧ WFV D (qtM D M).1 ∧ WkR τ D (qtM D M).1 ∧ CtR τ (qtM D M).2 ∧ RT σ τ ∧ m_sc τ 31 28 = oI (fsF (dvB D M.1) (d_v D)) ∧ m_ar τ 31 0 2453 = nI (min (q + 1) 9999) := by
  have hd := hD.1
  unfold fX12_quarterGoes
  rw [p_sc_s]
  obtain ⟨τ, e, r1, r2, r3, r4, r5, r6⟩ := quarterGoes_l (M := M) hD hC FU 0 (w_sc σ 31 28 (-1)) (by omega) (FU_gt (by omega)) hV h ⟨by rw [m_sc_sc, if_neg (by decide)]; exact hc.1, by rw [m_sc_sc, if_neg (by decide)]; exact hc.2.1, hc.2.2⟩ (by rw [m_sc_sc, if_pos ⟨rfl, rfl⟩]; rfl) (show m_ar (w_sc σ 31 28 (-1)) 31 0 2453 = nI q from hq)
  rw [fq_e] at r5
  have w0 : RT σ τ := (RT.s (by omega) (by omega)).tr r4
  have fin : ∀ ω, m_sc ω 31 28 = oI (fsF (dvB D M.1) (d_v D)) → r_sc ω 31 28 (fun x24 => if x24 = (-1 : Int32) then (some ((0 : Int32), ω)) else (some ((1 : Int32), ω))) = some (if (fsF (dvB D M.1) (d_v D)).isNone then 0 else 1, ω) := by
    intro ω hω
    rw [r_sc_s, hω]
    cases hx : fsF (dvB D M.1) (d_v D) with
    | none => rfl
    | some j =>
      obtain ⟨-, hj, -, -⟩ := ffF_some _ _ _ _ hx
      rw [show oI (some j) = nI j from rfl, if_neg (nI_nem (by omega))]; rfl
  rw [show (0 : Int32) = nI 0 from rfl, e]
  unfold fX12_quarterGoes_91
  rw [ln_2453, g_ar_n (by decide) (by decide), r6, ln_9999, ifle_n (by decide) (by omega)]
  by_cases c : 9999 ≤ q
  · rw [if_pos c]
    exact ⟨τ, fin τ r5, r1, r2, r3, w0, r5, by rw [r6]; congr 1; omega⟩
  · rw [if_neg c, g_ar_n (by decide) (by decide), r6, s_ar_n (by decide) (by decide), nI_s]
    refine ⟨_, fin (w_ar τ 31 0 2453 (nI (q + 1))) r5, r1, r2.cg hD (fun k hk => by rw [m_ar_ar, if_neg (fun z => hk z.2.2)]), ⟨r3.1, r3.2.1, fun k h1 h2 => by rw [m_ar_ar, if_neg (by omega)]; exact r3.2.2 k h1 h2⟩, w0.tr (RT.w0 (by omega) (by omega)), r5, ?_⟩
    rw [m_ar_ar, if_pos ⟨rfl, rfl, rfl⟩]; congr 1; omega
theorem min_q (q a : Nat) : min (min (q + 1) 9999 + a) 9999 = min (q + (a + 1)) 9999 := by
  simp only [Nat.min_def]
  repeat' split
  all_goals omega
theorem goesBy_l (hD : WFD D) (Q : Nat) (hQ : Q < 1000000) : ∀ (n i : Nat) (M : MTq) (q : Nat) (σ : Mm), i ≤ Q → Q - i < n → WFV D M.1 → WkR σ D M.1 → CtR σ M.2 → M.2.2.1 + 64 * (Q - i) < 1000000000 → m_ar σ 31 0 2453 = nI q → q ≤ 9999 → ∃ τ, fX12_goesBy_2 31 (nI Q) n (nI i) σ = some τ ∧ WFV D (qnM D (Q - i) M).1 ∧ WkR τ D (qnM D (Q - i) M).1 ∧ CtR τ (qnM D (Q - i) M).2 ∧ RT σ τ ∧ m_ar τ 31 0 2453 = nI (min (q + (Q - i)) 9999) := by
  intro n
  induction n with
  | zero => intro i M q σ _ h; omega
  | succ n ih =>
    intro i M q σ hi hn hV h hc hC hq hq9
    rw [fX12_goesBy_2, ifle_n (by omega) (by omega)]
    by_cases c : Q ≤ i
    · have : i = Q := by omega
      subst this
      rw [if_pos c, Nat.sub_self]
      exact ⟨σ, rfl, hV, h, hc, RT.rf, by rw [hq]; congr 1; omega⟩
    · obtain ⟨τ, e, r1, r2, r3, r4, r5, r6⟩ := quarterGoes_r hD hV h hc (by omega) hq hq9
      have hle := qtM_le (M := M) hD
      rw [if_neg c, e, c_I_s, nI_s]
      have hp : ∀ (x : Int32), (x = 0 ∨ x = 1) → p_bz τ 31 29 x (fun σ4 => fX12_goesBy_2 31 (nI Q) n (nI (i + 1)) σ4) = fX12_goesBy_2 31 (nI Q) n (nI (i + 1)) (w_sc τ 31 29 x) := fun x hx => by
        unfold p_bz; rw [if_pos hx]
      rw [hp _ (by cases (fsF (dvB D M.1) (d_v D)).isNone <;> simp)]
      obtain ⟨ω, f, t1, t2, t3, t4, t5⟩ := ih (i + 1) (qtM D M) (min (q + 1) 9999) (w_sc τ 31 29 (if (fsF (dvB D M.1) (d_v D)).isNone then 0 else 1)) (by omega) (by omega) r1 r2 ⟨by rw [m_sc_sc, if_neg (by decide)]; exact r3.1, by rw [m_sc_sc, if_neg (by decide)]; exact r3.2.1, r3.2.2⟩ (by omega) r6 (by omega)
      rw [show Q - i = (Q - (i + 1)) + 1 by omega, qnM]
      have em := min_q q (Q - (i + 1))
      exact ⟨ω, f, t1, t2, t3, (r4.tr (RT.s (by omega) (by omega))).tr t4, t5.trans (congrArg nI em)⟩
theorem goesBy_r {Q q : Nat} (hD : WFD D) (hQ : Q < 1000) (hV : WFV D M.1) (h : WkR σ D M.1) (hc : CtR σ M.2) (hC : M.2.2.1 < 500000000) (hq : m_ar σ 31 0 2453 = nI q) (hq9 : q ≤ 9999) : ∃ τ, fX12_goesBy 31 (nI Q) σ = some τ ∧ WFV D (qnM D Q M).1 ∧ WkR τ D (qnM D Q M).1 ∧ CtR τ (qnM D Q M).2 ∧ RT σ τ ∧ m_ar τ 31 0 2453 = nI (min (q + Q) 9999) :=
  goesBy_l hD Q (by omega) FU 0 M q σ (by omega) (FU_gt (by omega)) hV h hc (by omega) hq hq9
end WR
