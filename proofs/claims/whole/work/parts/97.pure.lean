/-! PURE 38: orders carried out (class) -/
/-- what a run of the class holds -/
def RcC (σ : Mm) (p g : Nat) (D : PD) (O : OD) (S : RS) : Prop := (m_rf σ 13 1 = some p ∧ m_rf σ 13 2 = some g ∧ m_rf σ 13 3 = some 10 ∧ KD p = 2 ∧ KD g = 5) ∧ OrC σ g O ∧ WkC σ p 14 D S.1.1 ∧ CtC σ (-1) S.1.2 ∧ (m_sc σ 13 5 = nI S.2.1.1 ∧ m_sc σ 13 6 = nI S.2.1.2.1 ∧ m_sc σ 13 8 = nI S.2.1.2.2.1 ∧ m_sc σ 13 7 = if S.2.1.2.2.2 then 1 else 0) ∧ ∀ o, o < 60 → m_ar σ 13 0 o = nI (S.2.2.2 o)
/-- what a run of the class leaves -/
def W13 (σ τ : Mm) : Prop := (∀ q, q ≠ 10 → q ≠ 13 → q ≠ 14 → BU q σ τ) ∧ m_sc τ 13 9 = m_sc σ 13 9 ∧ m_sc τ 13 11 = m_sc σ 13 11 ∧ ∀ j, j ≠ 0 → m_ar τ 13 j = m_ar σ 13 j
section O
variable {σ τ ω : Mm} {v : Nat} {D : PD} {V : SD} {O : OD} {S : RS} {M : MTq} {L p g : Nat} {G : GS}
theorem W13.rf : W13 σ σ := ⟨fun _ _ _ _ => BU.rf, rfl, rfl, fun _ _ => rfl⟩
theorem W13.tr (h : W13 σ τ) (h2 : W13 τ ω) : W13 σ ω := ⟨fun q a b c => (h.1 q a b c).tr (h2.1 q a b c), h2.2.1.trans h.2.1, h2.2.2.1.trans h.2.2.1, fun j hj => (h2.2.2.2 j hj).trans (h.2.2.2 j hj)⟩
theorem W13.w (h : WGs 14 σ τ) : W13 σ τ := by
  have b := h 13 (by decide) (by decide)
  exact ⟨fun q a _ c => h q a c, b.1 9, b.1 11, fun j _ => by funext i; exact congrFun (b.2.2.1 j) i⟩
/-- a change of works and its state alone -/
theorem RcC.wk (h : RcC σ p g D O S) (w : WGs 14 σ τ) {M : MTq} (hw : WkC τ p 14 D M.1) (hc : CtC τ (-1) M.2) : RcC τ p g D O (M, S.2) := by
  obtain ⟨⟨a1, a2, a3, k1, k2⟩, ho, -, -, hs, hr⟩ := h
  have b := w 13 (by decide) (by decide)
  have n1 : g ≠ 10 := fun e => by rw [e] at k2; revert k2; decide
  have n2 : g ≠ 14 := fun e => by rw [e] at k2; revert k2; decide
  refine ⟨⟨(b.2.2.2.2 1).trans a1, (b.2.2.2.2 2).trans a2, (b.2.2.2.2 3).trans a3, k1, k2⟩, ho.bu (w g n1 n2), hw, hc, ?_, fun o h60 => ?_⟩
  · rw [b.1, b.1, b.1, b.1]; exact hs
  · rw [b.2.2.1]; exact hr o h60
theorem blow1_c {q d t : Nat} (hD : WFD D) (hV : WFV D V) (h : WkC σ p 14 D V) (hq : q < 4) (hd : d < 16) (ht : t ≤ 99) : ∃ τ, fX10_blow 10 (nI q) (nI d) (nI t) σ = some τ ∧ WkC τ p 14 D (vW V q d t) ∧ WGs 14 σ τ ∧ ∀ k, m_sc τ 10 k = m_sc σ 10 k := by
  obtain ⟨⟨e1, e2, k1, k2⟩, hp, hs, hw⟩ := h
  have n3 : p ≠ 14 := fun e => by rw [e] at k1; revert k1; decide
  unfold fX10_blow
  rw [r_rf_e e2 k2, s_ar_n hq (by decide), r_rf_e (show m_rf (w_ar σ 14 0 q (nI d)) 10 1 = some 14 from e2) k2, s_ar_n hq (by decide)]
  obtain ⟨σ1, hσ⟩ : ∃ σ1, σ1 = w_ar (w_ar σ 14 0 q (nI d)) 14 1 q (nI t) := ⟨_, rfl⟩
  rw [← hσ]
  have b1 : ∀ i, i ≠ 14 → BU i σ σ1 := fun i hi => by rw [hσ]; exact (BU.af hi).tr (BU.af hi)
  have A : ∀ j i, m_ar σ1 14 j i = if j = 1 ∧ i = q then nI t else if j = 0 ∧ i = q then nI d else m_ar σ 14 j i := fun j i => by
    rw [hσ, m_ar_ar, m_ar_ar]; simp
  have hs' : StC σ1 14 D (vW V q d t) := by
    refine ⟨fun i hi => ⟨?_, ?_⟩, fun v hv => ?_, fun k hk => ?_, ?_, ?_, ?_⟩
    · rw [A, if_neg (by omega)]
      show _ = nI (if i = q then d else v_fr V i)
      by_cases e : i = q
      · rw [if_pos ⟨rfl, e⟩, if_pos e]
      · rw [if_neg (fun z => e z.2), if_neg e]; exact (hs.1 i hi).1
    · rw [A]
      show _ = nI (if i = q then t else v_sg V i)
      by_cases e : i = q
      · rw [if_pos ⟨rfl, e⟩, if_pos e]
      · rw [if_neg (fun z => e z.2), if_neg (by omega), if_neg e]; exact (hs.1 i hi).2
    · rw [A, A, A, if_neg (by omega), if_neg (by omega), if_neg (by omega), if_neg (by omega), if_neg (by omega), if_neg (by omega)]; exact hs.2.1 v hv
    · rw [A, if_neg (by omega), if_neg (by omega)]; exact hs.2.2.1 k hk
    · rw [hσ]; exact hs.2.2.2.1
    · rw [hσ]; exact hs.2.2.2.2.1
    · rw [hσ]; exact hs.2.2.2.2.2
  have b10 := b1 10 (by decide)
  obtain ⟨τ, f, r1, r2, r3⟩ := aim_c (σ := σ1) hD (vW_wf hV hd ht) k1 k2 ((b10.2.2.2.2 0).trans e1) ((b10.2.2.2.2 1).trans e2) (hp.bu (b1 p n3)) hs'
  rw [f, c_V_s]
  exact ⟨τ, rfl, r1, fun i h1 h2 => (b1 i h2).tr (r2 i h1), fun k => (r3 k).trans (b10.1 k)⟩
/-- the number drawn is written -/
theorem RcC.dr {x : Nat} (h : RcC σ p g D O S) : RcC (w_sc σ 13 5 (nI x)) p g D O (S.1, (x, S.2.1.2), S.2.2) := by
  obtain ⟨a, ho, hw, hc, ⟨s1, s2, s3, s4⟩, hr⟩ := h
  have n1 : p ≠ 13 := fun e => by have := a.2.2.2.1; rw [e] at this; revert this; decide
  have n2 : g ≠ 13 := fun e => by have := a.2.2.2.2; rw [e] at this; revert this; decide
  have b : ∀ q, q ≠ 13 → BU q σ (w_sc σ 13 5 (nI x)) := fun q hq => BU.sc hq
  refine ⟨a, ho.bu (b g n2), ⟨hw.1, hw.2.1.bu (b p n1), hw.2.2.1.bu (b 14 (by decide)), hw.2.2.2⟩, hc.sc (by decide), ⟨by rw [m_sc_sc, if_pos ⟨rfl, rfl⟩], by rw [m_sc_sc, if_neg (by decide)]; exact s2, by rw [m_sc_sc, if_neg (by decide)]; exact s3, by rw [m_sc_sc, if_neg (by decide)]; exact s4⟩, hr⟩
theorem W13.s {k : Nat} {x : Int32} (h9 : k ≠ 9) (h11 : k ≠ 11) : W13 σ (w_sc σ 13 k x) := ⟨fun q _ b _ => BU.sc b, by rw [m_sc_sc, if_neg (fun z => h9 z.2.symm)], by rw [m_sc_sc, if_neg (fun z => h11 z.2.symm)], fun _ _ => rfl⟩
theorem dw_l {s : Nat} (hD : WFD D) (hs : s ≤ 99) {M0 : MTq} {d0 : Nat} {R : (Nat × Nat × Bool) × Nat × (Nat → Nat)} (hV0 : WFV D M0.1) (hd0 : d0 < 65536) : ∀ (n i : Nat) (σ : Mm), i ≤ d_p D → d_p D - i < n → RcC σ p g D O ((guF D s i M0 d0).1, ((guF D s i M0 d0).2, R.1), R.2) → ∃ τ, fX3_drawWinds_2 13 (nI s) n (nI i) σ = some τ ∧ RcC τ p g D O ((guF D s (d_p D) M0 d0).1, ((guF D s (d_p D) M0 d0).2, R.1), R.2) ∧ W13 σ τ := by
  intro n
  induction n with
  | zero => intro i σ _ h; omega
  | succ n ih =>
    intro i σ hi hn h
    have hd := hD.1
    have h' := h
    obtain ⟨⟨a1, a2, a3, k1, k2⟩, ho, hw, hc, hss, hr⟩ := h
    have hp := hw.2.1
    rw [fX3_drawWinds_2, r_rf_e a1 k1, r_sc_s, hp.1.1, ifle_n (by omega) (by omega)]
    by_cases c : d_p D ≤ i
    · have : i = d_p D := by omega
      subst this
      rw [if_pos c]
      exact ⟨σ, rfl, h', W13.rf⟩
    · have hg := gu_wf (s := s) hV0 hs hd0 i
      obtain ⟨x, hx⟩ : ∃ x, x = ((guF D s i M0 d0).2 * 2683 + 11587) % 65536 := ⟨_, rfl⟩
      have hx6 : x < 65536 := by rw [hx]; exact Nat.mod_lt _ (by decide)
      have e1 : m_sc σ 13 5 = nI (guF D s i M0 d0).2 := hss.1
      rw [if_neg c, r_sc_s, e1, ln_2683, ln_11587, ln_65536, nI_mul, nI_ad, pk_rem (by omega) (by decide) (by decide), ← hx, p_sc_s, r_rf_e (show m_rf (w_sc σ 13 5 (nI x)) 13 3 = some 10 from a3) (by decide), r_sc_s, m_sc_sc, if_pos ⟨rfl, rfl⟩, ln_8, ln_16, pk_div (by omega) (by decide) (by decide), pk_rem (by omega) (by decide) (by decide), nI_s]
      have h2 := h'.dr (x := x)
      obtain ⟨τ, f, r1, r2, r3⟩ := blow1_c (q := i) (d := x / 8 % 16) (t := s) hD hg.1 h2.2.2.1 (by omega) (Nat.mod_lt _ (by decide)) hs
      rw [f, c_V_s]
      have h3 := h2.wk r2 (M := (vW (guF D s i M0 d0).1.1 i (x / 8 % 16) s, (guF D s i M0 d0).1.2)) r1 (h2.2.2.2.1.ms r3)
      obtain ⟨ω, f2, g1, g2⟩ := ih (i + 1) τ (by omega) (by omega) (by rw [guF, ← hx]; exact h3)
      exact ⟨ω, f2, g1, ((W13.s (by decide) (by decide)).tr (W13.w r2)).tr g2⟩
/-! what a row does -/
theorem OrC.at {r : Nat} (hg : o_g O = true) (h : OrC σ g O) (hr : r < o_r O) : m_ar σ g 0 r = nI (o_k O r) ∧ (o_k O r ≠ 17 → o_k O r ≠ 11 → o_k O r ≠ 20 → o_k O r ≠ 21 → o_k O r ≠ 22 → m_ar σ g 1 r = nI (o_w O r)) ∧ (o_k O r = 10 ∨ o_k O r = 18 → m_ar σ g 2 r = nI (o_h O r)) ∧ (o_k O r = 10 ∨ o_k O r = 17 ∨ o_k O r = 11 ∨ o_k O r = 20 ∨ o_k O r = 16 ∨ (o_k O r = 18 ∧ o_h O r ≠ 19) → m_ar σ g 3 r = nI (o_n O r)) ∧ (o_k O r = 18 ∨ o_k O r = 20 ∨ o_k O r = 21 → m_ar σ g 4 r = nI (o_p O r)) := (h.2 hg).2.2 r hr
theorem kd_b {r : Nat} (hO : WFr D O r) : o_k O r = 10 ∨ o_k O r = 11 ∨ o_k O r = 12 ∨ o_k O r = 13 ∨ o_k O r = 14 ∨ o_k O r = 15 ∨ o_k O r = 16 ∨ o_k O r = 17 ∨ o_k O r = 18 ∨ o_k O r = 20 ∨ o_k O r = 21 ∨ o_k O r = 22 := by
  rcases hO with h | h | h | h | h | h | h | h | h | h <;> omega
/-- 14's set of lifted, of held -/
theorem RcC.li {l : Nat} (h : RcC σ p g D O S) : RcC (w_sc σ 14 6 (nI l)) p g D O ((vL S.1.1 l, S.1.2), S.2) := by
  have n1 : ∀ q, q ≠ 10 → q ≠ 14 → BU q σ (w_sc σ 14 6 (nI l)) := fun q _ b => BU.sc b
  exact h.wk n1 (M := (vL S.1.1 l, S.1.2)) h.2.2.1.vL (h.2.2.2.1.sc (by decide))
theorem RcC.he {l : Nat} (h : RcC σ p g D O S) : RcC (w_sc σ 14 7 (nI l)) p g D O ((vH S.1.1 l, S.1.2), S.2) := by
  have n1 : ∀ q, q ≠ 10 → q ≠ 14 → BU q σ (w_sc σ 14 7 (nI l)) := fun q _ b => BU.sc b
  exact h.wk n1 (M := (vH S.1.1 l, S.1.2)) h.2.2.1.vH (h.2.2.2.1.sc (by decide))
theorem RcC.qu {x : Nat} (h : RcC σ p g D O S) : RcC (w_sc σ 13 6 (nI x)) p g D O (S.1, (S.2.1.1, x, S.2.1.2.2), S.2.2) := by
  obtain ⟨a, ho, hw, hc, ⟨s1, s2, s3, s4⟩, hr⟩ := h
  have n1 : p ≠ 13 := fun e => by have := a.2.2.2.1; rw [e] at this; revert this; decide
  have n2 : g ≠ 13 := fun e => by have := a.2.2.2.2; rw [e] at this; revert this; decide
  have b : ∀ q, q ≠ 13 → BU q σ (w_sc σ 13 6 (nI x)) := fun q hq => BU.sc hq
  refine ⟨a, ho.bu (b g n2), ⟨hw.1, hw.2.1.bu (b p n1), hw.2.2.1.bu (b 14 (by decide)), hw.2.2.2⟩, hc.sc (by decide), ⟨by rw [m_sc_sc, if_neg (by decide)]; exact s1, by rw [m_sc_sc, if_pos ⟨rfl, rfl⟩], by rw [m_sc_sc, if_neg (by decide)]; exact s3, by rw [m_sc_sc, if_neg (by decide)]; exact s4⟩, hr⟩
theorem RcC.dn {x : Nat} (h : RcC σ p g D O S) : RcC (w_sc σ 13 8 (nI x)) p g D O (S.1, (S.2.1.1, S.2.1.2.1, x, S.2.1.2.2.2), S.2.2) := by
  obtain ⟨a, ho, hw, hc, ⟨s1, s2, s3, s4⟩, hr⟩ := h
  have n1 : p ≠ 13 := fun e => by have := a.2.2.2.1; rw [e] at this; revert this; decide
  have n2 : g ≠ 13 := fun e => by have := a.2.2.2.2; rw [e] at this; revert this; decide
  have b : ∀ q, q ≠ 13 → BU q σ (w_sc σ 13 8 (nI x)) := fun q hq => BU.sc hq
  refine ⟨a, ho.bu (b g n2), ⟨hw.1, hw.2.1.bu (b p n1), hw.2.2.1.bu (b 14 (by decide)), hw.2.2.2⟩, hc.sc (by decide), ⟨by rw [m_sc_sc, if_neg (by decide)]; exact s1, by rw [m_sc_sc, if_neg (by decide)]; exact s2, by rw [m_sc_sc, if_pos ⟨rfl, rfl⟩], by rw [m_sc_sc, if_neg (by decide)]; exact s4⟩, hr⟩
theorem RcC.cu (h : RcC σ p g D O S) : RcC (w_sc σ 13 7 1) p g D O (S.1, (S.2.1.1, S.2.1.2.1, S.2.1.2.2.1, true), S.2.2) := by
  obtain ⟨a, ho, hw, hc, ⟨s1, s2, s3, s4⟩, hr⟩ := h
  have n1 : p ≠ 13 := fun e => by have := a.2.2.2.1; rw [e] at this; revert this; decide
  have n2 : g ≠ 13 := fun e => by have := a.2.2.2.2; rw [e] at this; revert this; decide
  have b : ∀ q, q ≠ 13 → BU q σ (w_sc σ 13 7 1) := fun q hq => BU.sc hq
  refine ⟨a, ho.bu (b g n2), ⟨hw.1, hw.2.1.bu (b p n1), hw.2.2.1.bu (b 14 (by decide)), hw.2.2.2⟩, hc.sc (by decide), ⟨by rw [m_sc_sc, if_neg (by decide)]; exact s1, by rw [m_sc_sc, if_neg (by decide)]; exact s2, by rw [m_sc_sc, if_neg (by decide)]; exact s3, by rw [m_sc_sc, if_pos ⟨rfl, rfl⟩]; rfl⟩, hr⟩
theorem RcC.ro {i x : Nat} (h : RcC σ p g D O S) : RcC (w_ar σ 13 0 i (nI x)) p g D O (S.1, S.2.1, S.2.2.1, fun o => if o = i then x else S.2.2.2 o) := by
  obtain ⟨a, ho, hw, hc, hs, hr⟩ := h
  have n1 : p ≠ 13 := fun e => by have := a.2.2.2.1; rw [e] at this; revert this; decide
  have n2 : g ≠ 13 := fun e => by have := a.2.2.2.2; rw [e] at this; revert this; decide
  have b : ∀ q, q ≠ 13 → BU q σ (w_ar σ 13 0 i (nI x)) := fun q hq => BU.af hq
  have b10 := b 10 (by decide)
  refine ⟨a, ho.bu (b g n2), ⟨hw.1, hw.2.1.bu (b p n1), hw.2.2.1.bu (b 14 (by decide)), fun v hv => by rw [b10.2.2.1]; exact hw.2.2.2 v hv⟩, hc, hs, fun o h60 => ?_⟩
  rw [m_ar_ar]
  show _ = nI (if o = i then x else S.2.2.2 o)
  by_cases e : o = i
  · rw [if_pos ⟨rfl, rfl, e⟩, if_pos e]
  · rw [if_neg (fun z => e z.2.2), if_neg e]; exact hr o h60
theorem W13.ro {i : Nat} {x : Int32} : W13 σ (w_ar σ 13 0 i x) := ⟨fun q _ b _ => BU.af b, rfl, rfl, fun j hj => by funext k; rw [m_ar_ar, if_neg (fun z => hj z.2.1)]⟩
theorem RcC.rw_ {k : Nat} (h : RcC σ p g D O S) : RcC σ p g D O (S.1, S.2.1, k, S.2.2.2) := h
theorem perform_c {r : Nat} (hD : WFD D) (hO : WFO D O) (hg : o_g O = true) (hr : r < o_r O) (hI : RI D O S) (h21 : o_k O r ≠ 21) (h : RcC σ p g D O S) : ∃ τ, fX3_perform 13 (nI r) σ = some τ ∧ RcC τ p g D O ((pfM D O r S.1 S.2.1.1).1, ((pfM D O r S.1 S.2.1.1).2, S.2.1.2.1 + (if o_k O r = 11 then o_n O r else 0), S.2.1.2.2), S.2.2.1, fun o => if o_k O r = 20 ∧ o = r then o_n O r else S.2.2.2 o) ∧ W13 σ τ := by
  obtain ⟨-, o60, hrow, -⟩ := hO hg
  have hrw := hrow r hr
  have hd := hD.1
  obtain ⟨⟨a1, a2, a3, k1, k2⟩, ho, hw, hc, hss, hrr⟩ := h
  have h : RcC σ p g D O S := ⟨⟨a1, a2, a3, k1, k2⟩, ho, hw, hc, hss, hrr⟩
  obtain ⟨f0, f1, f2, f3, f4⟩ := ho.at hg hr
  have hk := kd_b hrw
  unfold fX3_perform
  rw [r_rf_e a2 k2, g_ar_n (by omega) (by decide), r_rf_e a2 k2, g_ar_n (by omega) (by decide), r_rf_e a2 k2, g_ar_n (by omega) (by decide)]
  rcases hk with e | e | e | e | e | e | e | e | e | e | e | e
  · rw [e] at f0
    rw [f0]
    have ep : pfM D O r S.1 S.2.1.1 = ((vW S.1.1 (o_w O r) (o_h O r) (o_n O r), S.1.2), S.2.1.1) := by unfold pfM; rw [if_pos e]
    rw [ep]
    have er : (fun o => if o_k O r = 20 ∧ o = r then o_n O r else S.2.2.2 o) = S.2.2.2 := by funext o; rw [if_neg (fun z => by omega)]
    rw [er]
    rw [if_neg (show ¬ o_k O r = 11 by omega), Nat.add_zero]
    rw [if_pos (show nI 10 = (10 : Int32) from rfl)]
    have hx : o_w O r < d_p D ∧ o_h O r < 16 ∧ o_n O r ≤ 99 := by rcases hrw with h | h | h | h | h | h | h | h | h | h <;> omega
    obtain ⟨τ, f, r1, r2, r3⟩ := blow1_c (q := o_w O r) (d := o_h O r) (t := o_n O r) hD hI.1 hw (by omega) hx.2.1 hx.2.2
    rw [r_rf_e a3 (by decide), r_rf_e a2 k2, g_ar_n (by omega) (by decide), f1 (by omega) (by omega) (by omega) (by omega) (by omega), f2 (by omega), f3 (by omega), f, c_V_s]
    exact ⟨τ, rfl, h.wk r2 (M := (vW S.1.1 (o_w O r) (o_h O r) (o_n O r), S.1.2)) r1 (hc.ms r3), W13.w r2⟩
  · rw [e] at f0
    rw [f0]
    have ep : pfM D O r S.1 S.2.1.1 = (qnM D (o_n O r) S.1, S.2.1.1) := by unfold pfM; rw [if_neg (by omega), if_pos e]
    rw [ep]
    have er : (fun o => if o_k O r = 20 ∧ o = r then o_n O r else S.2.2.2 o) = S.2.2.2 := by funext o; rw [if_neg (fun z => by omega)]
    rw [er]
    rw [if_pos e]
    rw [if_neg (show ¬ nI 11 = (10 : Int32) by decide), if_pos (show nI 11 = (11 : Int32) from rfl)]
    have hx : o_n O r ≤ 99 := by rcases hrw with h | h | h | h | h | h | h | h | h | h <;> omega
    obtain ⟨τ, f, r1, r2, r3, r4⟩ := goOn_c (M := S.1) (Q := o_n O r) (sk := -1) hD (by omega) hI.1 hw hc (by have := hI.2.1; have := hI.2.2.1; omega) (by have := hI.2.1; have := hI.2.2.1; omega)
    have h2 := h.wk r4 (M := qnM D (o_n O r) S.1) r2 r3
    rw [r_rf_e a3 (by decide), f3 (by omega), f, c_I_s, r_sc_s, p_sc_s, h2.2.2.2.2.1.2.1, nI_ad]
    exact ⟨_, rfl, h2.qu, (W13.w r4).tr (W13.s (by decide) (by decide))⟩
  · rw [e] at f0
    rw [f0]
    have ep : pfM D O r S.1 S.2.1.1 = ((vL S.1.1 (wiN (v_li S.1.1) (o_w O r) true), S.1.2), S.2.1.1) := by unfold pfM; rw [if_neg (by omega), if_neg (by omega), if_pos e]
    rw [ep]
    have er : (fun o => if o_k O r = 20 ∧ o = r then o_n O r else S.2.2.2 o) = S.2.2.2 := by funext o; rw [if_neg (fun z => by omega)]
    rw [er]
    rw [if_neg (show ¬ o_k O r = 11 by omega), Nat.add_zero]
    rw [if_neg (show ¬ nI 12 = (10 : Int32) by decide), if_neg (show ¬ nI 12 = (11 : Int32) by decide), if_pos (show nI 12 = (12 : Int32) from rfl)]
    have hx : o_w O r < d_s D := by rcases hrw with h | h | h | h | h | h | h | h | h | h <;> omega
    rw [show tg 13 0 = 14 from rfl, r_sc_s, hw.2.2.1.2.2.2.1, r_rf_e a2 k2, g_ar_n (by omega) (by decide), f0, if_pos (show nI 12 = (12 : Int32) from rfl), f1 (by omega) (by omega) (by omega) (by omega) (by omega), with_e (by omega), c_I_s, p_sc_s, show decide ((1 : Int32) ≠ 0) = true from rfl]
    exact ⟨_, rfl, h.li, W13.w (fun q _ b => BU.sc b)⟩
  · rw [e] at f0
    rw [f0]
    have ep : pfM D O r S.1 S.2.1.1 = ((vL S.1.1 (wiN (v_li S.1.1) (o_w O r) false), S.1.2), S.2.1.1) := by unfold pfM; rw [if_neg (by omega), if_neg (by omega), if_neg (by omega), if_pos e]
    rw [ep]
    have er : (fun o => if o_k O r = 20 ∧ o = r then o_n O r else S.2.2.2 o) = S.2.2.2 := by funext o; rw [if_neg (fun z => by omega)]
    rw [er]
    rw [if_neg (show ¬ o_k O r = 11 by omega), Nat.add_zero]
    rw [if_neg (show ¬ nI 13 = (10 : Int32) by decide), if_neg (show ¬ nI 13 = (11 : Int32) by decide), if_neg (show ¬ nI 13 = (12 : Int32) by decide), if_pos (show nI 13 = (13 : Int32) from rfl)]
    have hx : o_w O r < d_s D := by rcases hrw with h | h | h | h | h | h | h | h | h | h <;> omega
    rw [show tg 13 0 = 14 from rfl, r_sc_s, hw.2.2.1.2.2.2.1, r_rf_e a2 k2, g_ar_n (by omega) (by decide), f0, if_neg (show ¬ nI 13 = (12 : Int32) by decide), f1 (by omega) (by omega) (by omega) (by omega) (by omega), with_e (by omega), c_I_s, p_sc_s, show decide ((0 : Int32) ≠ 0) = false from rfl]
    exact ⟨_, rfl, h.li, W13.w (fun q _ b => BU.sc b)⟩
  · rw [e] at f0
    rw [f0]
    have ep : pfM D O r S.1 S.2.1.1 = ((vH S.1.1 (wiN (v_he S.1.1) (o_w O r) true), S.1.2), S.2.1.1) := by unfold pfM; rw [if_neg (by omega), if_neg (by omega), if_neg (by omega), if_neg (by omega), if_pos e]
    rw [ep]
    have er : (fun o => if o_k O r = 20 ∧ o = r then o_n O r else S.2.2.2 o) = S.2.2.2 := by funext o; rw [if_neg (fun z => by omega)]
    rw [er]
    rw [if_neg (show ¬ o_k O r = 11 by omega), Nat.add_zero]
    rw [if_neg (show ¬ nI 14 = (10 : Int32) by decide), if_neg (show ¬ nI 14 = (11 : Int32) by decide), if_neg (show ¬ nI 14 = (12 : Int32) by decide), if_neg (show ¬ nI 14 = (13 : Int32) by decide), if_pos (show nI 14 = (14 : Int32) from rfl)]
    have hx : o_w O r < d_v D := by rcases hrw with h | h | h | h | h | h | h | h | h | h <;> omega
    rw [show tg 13 0 = 14 from rfl, r_sc_s, hw.2.2.1.2.2.2.2.1, r_rf_e a2 k2, g_ar_n (by omega) (by decide), f0, if_pos (show nI 14 = (14 : Int32) from rfl), f1 (by omega) (by omega) (by omega) (by omega) (by omega), with_e (by omega), c_I_s, p_sc_s, show decide ((1 : Int32) ≠ 0) = true from rfl]
    exact ⟨_, rfl, h.he, W13.w (fun q _ b => BU.sc b)⟩
  · rw [e] at f0
    rw [f0]
    have ep : pfM D O r S.1 S.2.1.1 = ((vH S.1.1 (wiN (v_he S.1.1) (o_w O r) false), S.1.2), S.2.1.1) := by unfold pfM; rw [if_neg (by omega), if_neg (by omega), if_neg (by omega), if_neg (by omega), if_neg (by omega), if_pos e]
    rw [ep]
    have er : (fun o => if o_k O r = 20 ∧ o = r then o_n O r else S.2.2.2 o) = S.2.2.2 := by funext o; rw [if_neg (fun z => by omega)]
    rw [er]
    rw [if_neg (show ¬ o_k O r = 11 by omega), Nat.add_zero]
    rw [if_neg (show ¬ nI 15 = (10 : Int32) by decide), if_neg (show ¬ nI 15 = (11 : Int32) by decide), if_neg (show ¬ nI 15 = (12 : Int32) by decide), if_neg (show ¬ nI 15 = (13 : Int32) by decide), if_neg (show ¬ nI 15 = (14 : Int32) by decide), if_pos (show nI 15 = (15 : Int32) from rfl)]
    have hx : o_w O r < d_v D := by rcases hrw with h | h | h | h | h | h | h | h | h | h <;> omega
    rw [show tg 13 0 = 14 from rfl, r_sc_s, hw.2.2.1.2.2.2.2.1, r_rf_e a2 k2, g_ar_n (by omega) (by decide), f0, if_neg (show ¬ nI 15 = (14 : Int32) by decide), f1 (by omega) (by omega) (by omega) (by omega) (by omega), with_e (by omega), c_I_s, p_sc_s, show decide ((0 : Int32) ≠ 0) = false from rfl]
    exact ⟨_, rfl, h.he, W13.w (fun q _ b => BU.sc b)⟩
  · rw [e] at f0
    rw [f0]
    have ep : pfM D O r S.1 S.2.1.1 = ((tuS D (o_w O r) 1 (o_n O r) S.1).2, S.2.1.1) := by unfold pfM; rw [if_neg (by omega), if_neg (by omega), if_neg (by omega), if_neg (by omega), if_neg (by omega), if_neg (by omega), if_pos e]
    rw [ep]
    have er : (fun o => if o_k O r = 20 ∧ o = r then o_n O r else S.2.2.2 o) = S.2.2.2 := by funext o; rw [if_neg (fun z => by omega)]
    rw [er]
    rw [if_neg (show ¬ o_k O r = 11 by omega), Nat.add_zero]
    rw [if_neg (show ¬ nI 16 = (10 : Int32) by decide), if_neg (show ¬ nI 16 = (11 : Int32) by decide), if_neg (show ¬ nI 16 = (12 : Int32) by decide), if_neg (show ¬ nI 16 = (13 : Int32) by decide), if_neg (show ¬ nI 16 = (14 : Int32) by decide), if_neg (show ¬ nI 16 = (15 : Int32) by decide), if_pos (show nI 16 = (16 : Int32) from rfl)]
    have hx : o_w O r < d_v D ∧ 1 ≤ o_n O r ∧ o_n O r ≤ 99 := by rcases hrw with h | h | h | h | h | h | h | h | h | h <;> omega
    obtain ⟨τ, f, r2, r3, r4⟩ := tu_lc (v := o_w O r) (t := 1) (p := p) (s := 14) (sk := -1) (N := o_n O r) hD (by decide) hx.1 (nI (o_n O r)) (by omega) FU 0 S.1 σ (by omega) (FU_gt (by omega)) hI.1 hw hc (by have := hI.2.1; have := hI.2.2.1; omega)
    have f' : fX10_turnByHand 10 (nI (o_w O r)) (nI (o_n O r)) σ = some (nI (0 + (tuS D (o_w O r) 1 (o_n O r - 0) S.1).1), τ) := by
      unfold fX10_turnByHand
      have hz : (0 : Int32) ≤ nI (o_n O r) := i_nlt (nI_neg0 (by omega))
      rw [if_pos hz, if_pos hz]
      exact f
    rw [r_rf_e a3 (by decide), f1 (by omega) (by omega) (by omega) (by omega) (by omega), f3 (by omega), f', c_I_s]
    exact ⟨τ, rfl, h.wk r4 (M := (tuS D (o_w O r) 1 (o_n O r) S.1).2) r2 r3, W13.w r4⟩
  · rw [e] at f0
    rw [f0]
    have ep : pfM D O r S.1 S.2.1.1 = guF D (o_n O r) (d_p D) S.1 S.2.1.1 := by unfold pfM; rw [if_neg (by omega), if_neg (by omega), if_neg (by omega), if_neg (by omega), if_neg (by omega), if_neg (by omega), if_neg (by omega), if_pos e]
    rw [ep]
    have er : (fun o => if o_k O r = 20 ∧ o = r then o_n O r else S.2.2.2 o) = S.2.2.2 := by funext o; rw [if_neg (fun z => by omega)]
    rw [er]
    rw [if_neg (show ¬ o_k O r = 11 by omega), Nat.add_zero]
    rw [if_neg (show ¬ nI 17 = (10 : Int32) by decide), if_neg (show ¬ nI 17 = (11 : Int32) by decide), if_neg (show ¬ nI 17 = (12 : Int32) by decide), if_neg (show ¬ nI 17 = (13 : Int32) by decide), if_neg (show ¬ nI 17 = (14 : Int32) by decide), if_neg (show ¬ nI 17 = (15 : Int32) by decide), if_neg (show ¬ nI 17 = (16 : Int32) by decide), if_pos (show nI 17 = (17 : Int32) from rfl)]
    have hx : o_n O r ≤ 99 := by rcases hrw with h | h | h | h | h | h | h | h | h | h <;> omega
    obtain ⟨τ, f, r1, r2⟩ := dw_l (s := o_n O r) (M0 := S.1) (d0 := S.2.1.1) (R := (S.2.1.2, S.2.2)) hD hx hI.1 hI.2.2.2.1 FU 0 σ (by omega) (FU_gt (by omega)) h
    have f' : fX3_drawWinds 13 (nI (o_n O r)) σ = some τ := f
    rw [f3 (by omega), f', c_V_s]
    exact ⟨τ, rfl, r1, r2⟩
  · rw [e] at f0
    rw [f0]
    have ep : pfM D O r S.1 S.2.1.1 = (S.1, S.2.1.1) := by unfold pfM; rw [if_neg (by omega), if_neg (by omega), if_neg (by omega), if_neg (by omega), if_neg (by omega), if_neg (by omega), if_neg (by omega), if_neg (by omega)]
    rw [ep]
    have er : (fun o => if o_k O r = 20 ∧ o = r then o_n O r else S.2.2.2 o) = S.2.2.2 := by funext o; rw [if_neg (fun z => by omega)]
    rw [er]
    rw [if_neg (show ¬ o_k O r = 11 by omega), Nat.add_zero]
    rw [if_neg (show ¬ nI 18 = (10 : Int32) by decide), if_neg (show ¬ nI 18 = (11 : Int32) by decide), if_neg (show ¬ nI 18 = (12 : Int32) by decide), if_neg (show ¬ nI 18 = (13 : Int32) by decide), if_neg (show ¬ nI 18 = (14 : Int32) by decide), if_neg (show ¬ nI 18 = (15 : Int32) by decide), if_neg (show ¬ nI 18 = (16 : Int32) by decide), if_neg (show ¬ nI 18 = (17 : Int32) by decide), if_neg (show ¬ nI 18 = (20 : Int32) by decide)]
    exact ⟨σ, rfl, h, W13.rf⟩
  · rw [e] at f0
    rw [f0]
    have ep : pfM D O r S.1 S.2.1.1 = (S.1, S.2.1.1) := by unfold pfM; rw [if_neg (by omega), if_neg (by omega), if_neg (by omega), if_neg (by omega), if_neg (by omega), if_neg (by omega), if_neg (by omega), if_neg (by omega)]
    rw [ep]
    rw [if_neg (show ¬ o_k O r = 11 by omega), Nat.add_zero]
    rw [if_neg (show ¬ nI 20 = (10 : Int32) by decide), if_neg (show ¬ nI 20 = (11 : Int32) by decide), if_neg (show ¬ nI 20 = (12 : Int32) by decide), if_neg (show ¬ nI 20 = (13 : Int32) by decide), if_neg (show ¬ nI 20 = (14 : Int32) by decide), if_neg (show ¬ nI 20 = (15 : Int32) by decide), if_neg (show ¬ nI 20 = (16 : Int32) by decide), if_neg (show ¬ nI 20 = (17 : Int32) by decide), if_pos (show nI 20 = (20 : Int32) from rfl)]
    rw [s_ar_n (by omega) (by decide), f3 (by omega)]
    refine ⟨_, rfl, ?_, W13.ro⟩
    have er : (fun o => if o_k O r = 20 ∧ o = r then o_n O r else S.2.2.2 o) = fun o => if o = r then o_n O r else S.2.2.2 o := by
      funext o
      by_cases eo : o = r
      · rw [if_pos ⟨e, eo⟩, if_pos eo]
      · rw [if_neg (fun z => eo z.2), if_neg eo]
    rw [er]
    exact h.ro
  · exact absurd e h21
  · rw [e] at f0
    rw [f0]
    have ep : pfM D O r S.1 S.2.1.1 = (S.1, S.2.1.1) := by unfold pfM; rw [if_neg (by omega), if_neg (by omega), if_neg (by omega), if_neg (by omega), if_neg (by omega), if_neg (by omega), if_neg (by omega), if_neg (by omega)]
    rw [ep]
    have er : (fun o => if o_k O r = 20 ∧ o = r then o_n O r else S.2.2.2 o) = S.2.2.2 := by funext o; rw [if_neg (fun z => by omega)]
    rw [er]
    rw [if_neg (show ¬ o_k O r = 11 by omega), Nat.add_zero]
    rw [if_neg (show ¬ nI 22 = (10 : Int32) by decide), if_neg (show ¬ nI 22 = (11 : Int32) by decide), if_neg (show ¬ nI 22 = (12 : Int32) by decide), if_neg (show ¬ nI 22 = (13 : Int32) by decide), if_neg (show ¬ nI 22 = (14 : Int32) by decide), if_neg (show ¬ nI 22 = (15 : Int32) by decide), if_neg (show ¬ nI 22 = (16 : Int32) by decide), if_neg (show ¬ nI 22 = (17 : Int32) by decide), if_neg (show ¬ nI 22 = (20 : Int32) by decide)]
    exact ⟨σ, rfl, h, W13.rf⟩
theorem isSo_c {r : Nat} (hD : WFD D) (hO : WFO D O) (hg : o_g O = true) (hr : r < o_r O) (hI : WFV D S.1.1) (h18 : o_k O r = 18) (h : RcC σ p g D O S) : fX3_isSo 13 (nI r) σ = some (if soB D O r S.1.1 then 1 else 0, σ) := by
  obtain ⟨-, o60, hrow, -⟩ := hO hg
  have hrw := hrow r hr
  have hd := hD.1
  obtain ⟨⟨a1, a2, a3, k1, k2⟩, ho, hw, hc, hss, hrr⟩ := h
  obtain ⟨f0, f1, f2, f3, f4⟩ := ho.at hg hr
  have hx : o_w O r < d_v D ∧ (o_h O r = 19 ∨ ((o_h O r = 60 ∨ o_h O r = 62 ∨ o_h O r = 61) ∧ o_n O r ≤ 60)) := by rcases hrw with h | h | h | h | h | h | h | h | h | h <;> first | omega | exact ⟨h.2.1, h.2.2.1⟩
  have hpt := hI.2.1 _ hx.1
  have hb := hD.2.1 _ hx.1
  unfold fX3_isSo soB
  rw [r_rf_e a2 k2, g_ar_n (by omega) (by decide), f1 (by omega) (by omega) (by omega) (by omega) (by omega), show tg 13 0 = 14 from rfl, g_ar_n (by omega) (by decide), (hw.2.2.1.2.1 _ hx.1).1, r_rf_e a2 k2, g_ar_n (by omega) (by decide), f2 (by omega), ln_60, ln_61, ln_62, ife_n (by omega) (by decide), ife_n (by omega) (by decide), ife_n (by omega) (by decide)]
  by_cases c1 : o_h O r = 60
  · rw [if_pos c1, if_pos c1, r_rf_e a2 k2, g_ar_n (by omega) (by decide), f3 (by omega), ifle_n (by omega) (by omega)]
    by_cases c : o_n O r ≤ v_pt S.1.1 (o_w O r)
    · rw [if_pos c, decide_eq_false (by omega)]; rfl
    · rw [if_neg c, decide_eq_true (by omega)]; rfl
  · rw [if_neg c1, if_neg c1]
    by_cases c2 : o_h O r = 61
    · rw [if_pos c2, if_pos c2, r_rf_e a2 k2, g_ar_n (by omega) (by decide), f3 (by omega), ife_n (by omega) (by omega)]
      by_cases c : v_pt S.1.1 (o_w O r) = o_n O r
      · rw [if_pos c, decide_eq_true c]; rfl
      · rw [if_neg c, decide_eq_false c]; rfl
    · rw [if_neg c2, if_neg c2]
      by_cases c3 : o_h O r = 62
      · rw [if_pos c3, if_pos c3, r_rf_e a2 k2, g_ar_n (by omega) (by decide), f3 (by omega), ifle_n (by omega) (by omega)]
        by_cases c : v_pt S.1.1 (o_w O r) ≤ o_n O r
        · rw [if_pos c, decide_eq_false (by omega)]; rfl
        · rw [if_neg c, decide_eq_true (by omega)]; rfl
      · rw [if_neg c3, if_neg c3, r_rf_e a3 (by decide), isRight_c hD hI hw hx.1, c_I_s]
        cases rgB D S.1.1 (o_w O r) <;> rfl
theorem behindStep_c {r : Nat} (hD : WFD D) (hO : WFO D O) (hg : o_g O = true) (hr : r < o_r O) (hI : WFV D S.1.1) (h : RcC σ p g D O S) : fX3_rowBehindStep 13 (nI r) σ = some (nI (nxN D O r S.1.1), σ) := by
  have hO' := hO
  obtain ⟨-, o60, hrow, -⟩ := hO hg
  have hrw := hrow r hr
  have hk := kd_b hrw
  have h' := h
  obtain ⟨⟨a1, a2, a3, k1, k2⟩, ho, hw, hc, hss, hrr⟩ := h
  obtain ⟨f0, f1, f2, f3, f4⟩ := ho.at hg hr
  unfold fX3_rowBehindStep nxN
  rw [r_rf_e a2 k2, g_ar_n (by omega) (by decide), f0, ln_22, ife_n (by omega) (by decide)]
  by_cases c : o_k O r = 22
  · rw [if_pos c, if_pos c, r_rf_e a2 k2, r_sc_s, (ho.2 hg).2.1]
  · rw [if_neg c, if_neg c, r_rf_e a2 k2, g_ar_n (by omega) (by decide), f0, ln_18, ife_n (by omega) (by decide)]
    by_cases c2 : o_k O r = 18
    · rw [if_pos c2, if_pos c2, isSo_c hD hO' hg hr hI c2 h', c_I_s]
      cases soB D O r S.1.1
      · rw [if_neg (show ¬ (false = true) by decide), if_pos rfl, r_rf_e a2 k2, g_ar_n (by omega) (by decide), f4 (by omega), nI_s]; rfl
      · rw [if_pos rfl, if_neg (by decide), nI_s]; rfl
    · rw [if_neg c2, if_neg c2, nI_s]
theorem behindEnd_c (hO : WFO D O) (hg : o_g O = true) (hI : RI D O S) (hr : S.2.2.1 < o_r O) (h21 : o_k O S.2.2.1 = 21) (h : RcC σ p g D O S) : ∃ τ, fX3_rowBehindEnd 13 (nI S.2.2.1) σ = some (nI (stR D O S).2.2.1, τ) ∧ RcC τ p g D O (stR D O S) ∧ W13 σ τ := by
  obtain ⟨-, o60, hrow, -⟩ := hO hg
  have hrw := hrow _ hr
  have h' := h
  obtain ⟨⟨a1, a2, a3, k1, k2⟩, ho, hw, hc, hss, hrr⟩ := h
  obtain ⟨f0, f1, f2, f3, f4⟩ := ho.at hg hr
  have hp : o_p O S.2.2.1 < S.2.2.1 := by
    rcases hrw with h | h | h | h | h | h | h | h | h | h <;> omega
  obtain ⟨g0, -⟩ := ho.at hg (show o_p O S.2.2.1 < o_r O by omega)
  have hk2 := kd_b (hrow (o_p O S.2.2.1) (by omega))
  have h99 := hI.2.2.2.2.2 (o_p O S.2.2.1) (by omega)
  unfold fX3_rowBehindEnd stR
  rw [if_pos h21, r_rf_e a2 k2, g_ar_n (by omega) (by decide), f4 (by omega), r_rf_e a2 k2, g_ar_n (by omega) (by decide), g0, ln_20, ife_n (by omega) (by decide)]
  by_cases c : o_k O (o_p O S.2.2.1) = 20
  · rw [if_pos c, g_ar_n (by omega) (by decide), hrr _ (by omega), show (1 : Int32) = nI 1 from rfl, ifle_n (by omega) (by decide)]
    by_cases c2 : 1 < S.2.2.2 (o_p O S.2.2.1)
    · rw [if_neg (by omega), if_pos (show o_k O (o_p O S.2.2.1) = 20 ∧ 1 < S.2.2.2 (o_p O S.2.2.1) from ⟨c, c2⟩), g_ar_n (by omega) (by decide), hrr _ (by omega), nI_sub (by omega), s_ar_n (by omega) (by decide), nI_ad]
      refine ⟨_, rfl, ?_, W13.ro⟩
      have er : (fun o => if o = o_p O S.2.2.1 then S.2.2.2 o - 1 else S.2.2.2 o) = fun o => if o = o_p O S.2.2.1 then S.2.2.2 (o_p O S.2.2.1) - 1 else S.2.2.2 o := by
        funext o
        by_cases e : o = o_p O S.2.2.1
        · rw [if_pos e, if_pos e, e]
        · rw [if_neg e, if_neg e]
      rw [er]
      exact h'.ro
    · rw [if_pos (by omega), if_neg (show ¬ (o_k O (o_p O S.2.2.1) = 20 ∧ 1 < S.2.2.2 (o_p O S.2.2.1)) from fun z => c2 z.2), nI_ad]
      exact ⟨σ, rfl, h', W13.rf⟩
  · rw [if_neg c, if_neg (show ¬ (o_k O (o_p O S.2.2.1) = 20 ∧ 1 < S.2.2.2 (o_p O S.2.2.1)) from fun z => c z.1), nI_s]
    exact ⟨σ, rfl, h', W13.rf⟩
theorem co73 (hD : WFD D) (hO : WFO D O) (hg : o_g O = true) {a b : Nat} {y : Int32} : ∀ (n r f : Nat) (S S' : RS) (σ : Mm), n + r ≤ 1000000 → n < f → RI D O S → RcC σ p g D O S → rnR D O n S = some S' → ∃ τ, fX3_carryOut_73 13 a y b f (nI S.2.2.1) (nI r) σ = some τ ∧ RcC τ p g D O S' ∧ W13 σ τ := by
  intro n
  induction n with
  | zero => intro r f S S' σ _ _ _ _ h; cases h
  | succ n ih =>
    intro r f S S' σ hr hf hI h hrn
    obtain ⟨f', rfl⟩ : ∃ f', f = f' + 1 := ⟨f - 1, by omega⟩
    obtain ⟨-, o60, hrow, -⟩ := hO hg
    have h' := h
    obtain ⟨⟨a1, a2, a3, k1, k2⟩, ho, hw, hc, hss, hrr⟩ := h
    have hrl := hI.2.2.2.2.1
    rw [rnR] at hrn
    rw [fX3_carryOut_73, show (1000000 : Int32) = nI 1000000 from rfl, ifle_n (by decide) (by omega), if_neg (by omega), r_rf_e a2 k2, r_sc_s, (ho.2 hg).2.1, ifle_n (by omega) (by omega)]
    by_cases c : o_r O ≤ S.2.2.1
    · rw [if_pos c] at hrn ⊢
      cases hrn
      exact ⟨σ, rfl, h', W13.rf⟩
    · have hlt : S.2.2.1 < o_r O := by omega
      rw [if_neg c] at hrn
      have hI2 := st_I hD hO hg hI hlt
      obtain ⟨f0, -⟩ := ho.at hg hlt
      have hk := kd_b (hrow _ hlt)
      rw [if_neg c, r_rf_e a2 k2, g_ar_n (by omega) (by decide), f0, ln_21, ife_n (by omega) (by decide), nI_s]
      by_cases c2 : o_k O S.2.2.1 = 21
      · rw [if_pos c2]
        obtain ⟨τ, e, r1, r2⟩ := behindEnd_c hO hg hI hlt c2 h'
        rw [e, c_I_s]
        obtain ⟨ω, f2, g1, g2⟩ := ih (r + 1) f' (stR D O S) S' τ (by omega) (by omega) hI2 r1 hrn
        exact ⟨ω, f2, g1, r2.tr g2⟩
      · have h400 := hI.2.2.1
        rw [if_neg c2, r_sc_s, hss.2.2.1, ln_400, ifle_n (by decide) (by omega)]
        by_cases c3 : S.2.1.2.2.1 < 400
        · rw [if_neg (by omega), r_sc_s, hss.2.2.1, p_sc_s, nI_s]
          have h3 := h'.dn (x := S.2.1.2.2.1 + 1)
          have hI3 : RI D O (S.1, (S.2.1.1, S.2.1.2.1, S.2.1.2.2.1 + 1, S.2.1.2.2.2), S.2.2) := ⟨hI.1, ⟨by have := hI.2.1.1; show S.1.2.1 ≤ 10000 * (S.2.1.2.2.1 + 1); omega, by have := hI.2.1.2; show S.1.2.2.1 ≤ 10000 * (S.2.1.2.2.1 + 1); omega⟩, c3, hI.2.2.2⟩
          obtain ⟨τ, e, r1, r2⟩ := perform_c hD hO hg hlt hI3 c2 h3
          have es : stR D O S = ((pfM D O S.2.2.1 S.1 S.2.1.1).1, ((pfM D O S.2.2.1 S.1 S.2.1.1).2, S.2.1.2.1 + (if o_k O S.2.2.1 = 11 then o_n O S.2.2.1 else 0), S.2.1.2.2.1 + 1, S.2.1.2.2.2), nxN D O S.2.2.1 (pfM D O S.2.2.1 S.1 S.2.1.1).1.1, fun o => if o_k O S.2.2.1 = 20 ∧ o = S.2.2.1 then o_n O S.2.2.1 else S.2.2.2 o) := by
            unfold stR; rw [if_neg c2, if_pos c3]
          have hwf := (pf_wf (M := S.1) (d := S.2.1.1) hD (hrow _ hlt) hI.1 hI.2.2.2.1).1
          have e6 := behindStep_c hD hO hg hlt (S := ((pfM D O S.2.2.1 S.1 S.2.1.1).1, ((pfM D O S.2.2.1 S.1 S.2.1.1).2, S.2.1.2.1 + (if o_k O S.2.2.1 = 11 then o_n O S.2.2.1 else 0), S.2.1.2.2.1 + 1, S.2.1.2.2.2), S.2.2.1, fun o => if o_k O S.2.2.1 = 20 ∧ o = S.2.2.1 then o_n O S.2.2.1 else S.2.2.2 o)) hwf r1
          rw [e, c_V_s, e6, c_I_s]
          obtain ⟨ω, f2, g1, g2⟩ := ih (r + 1) f' (stR D O S) S' τ (by omega) (by omega) hI2 (by rw [es]; exact r1) hrn
          rw [es] at f2
          exact ⟨ω, f2, g1, ((W13.s (by decide) (by decide)).tr r2).tr g2⟩
        · rw [if_pos (by omega), p_bz_y (Or.inr rfl), r_rf_e (show m_rf (w_sc σ 13 7 1) 13 2 = some g from a2) k2, r_sc_s]
          have h3 := h'.cu
          rw [(h3.2.1.2 hg).2.1]
          have es : stR D O S = (S.1, (S.2.1.1, S.2.1.2.1, S.2.1.2.2.1, true), o_r O, S.2.2.2) := by
            unfold stR; rw [if_neg c2, if_neg c3]
          obtain ⟨ω, f2, g1, g2⟩ := ih (r + 1) f' (stR D O S) S' (w_sc σ 13 7 1) (by omega) (by omega) hI2 (by rw [es]; exact h3) hrn
          rw [es] at f2
          exact ⟨ω, f2, g1, (W13.s (by decide) (by decide)).tr g2⟩
end O
