/-! PURE 40: run, odds (reference) -/
def RX (σ τ : Mm) : Prop := (∀ k, k < 26 ∨ k = 42 ∨ k = 44 → m_sc τ 31 k = m_sc σ 31 k) ∧ (∀ k, m_lg τ 31 k = m_lg σ 31 k) ∧ (∀ j, j ≠ 0 → j ≠ 8 → j ≠ 9 → j ≠ 14 → m_ar τ 31 j = m_ar σ 31 j) ∧ (∀ i, i < 2450 → m_ar τ 31 0 i = m_ar σ 31 0 i) ∧ ∀ j, m_la τ 31 j = m_la σ 31 j
def RcR (σ : Mm) (D : PD) (O : OD) (S : RS) : Prop := WkR σ D S.1.1 ∧ CtR σ S.1.2 ∧ (∃ q, q ≤ 9999 ∧ m_ar σ 31 0 2453 = nI q) ∧ OrR (m_ar σ 31 0) 0 O ∧ (m_sc σ 31 35 = nI S.2.1.1 ∧ m_sc σ 31 37 = nI S.2.1.2.1 ∧ m_sc σ 31 36 = nI S.2.1.2.2.1 ∧ m_sc σ 31 38 = if S.2.1.2.2.2 then 1 else 0) ∧ ∀ o, o < 60 → m_ar σ 31 14 o = nI (S.2.2.2 o - 1)
section O
variable {σ τ ω : Mm} {v : Nat} {D : PD} {V : SD} {O : OD} {S : RS} {M : MTq} {C : CT} {L p g : Nat} {G : GS}
theorem RX.rf : RX σ σ := ⟨fun _ _ => rfl, fun _ => rfl, fun _ _ _ _ _ => rfl, fun _ _ => rfl, fun _ => rfl⟩
theorem RX.tr (h : RX σ τ) (h2 : RX τ ω) : RX σ ω := ⟨fun k q => (h2.1 k q).trans (h.1 k q), fun k => (h2.2.1 k).trans (h.2.1 k), fun j a b c d => (h2.2.2.1 j a b c d).trans (h.2.2.1 j a b c d), fun i hi => (h2.2.2.2.1 i hi).trans (h.2.2.2.1 i hi), fun j => (h2.2.2.2.2 j).trans (h.2.2.2.2 j)⟩
theorem RB.x (h : RB σ τ) : RX σ τ := ⟨fun k hk => h.1 k (by omega), h.2.1, fun j a b c _ => h.2.2.1 j a b c, h.2.2.2.1, h.2.2.2.2⟩
theorem RT.x (h : RT σ τ) : RX σ τ := h.b.x
theorem RX.s {k : Nat} {x : Int32} (hk : 26 ≤ k) (h2 : k ≠ 42) (h4 : k ≠ 44) : RX σ (w_sc σ 31 k x) := ⟨fun i hi => by rw [m_sc_sc, if_neg (by omega)], fun _ => rfl, fun _ _ _ _ _ => rfl, fun _ _ => rfl, fun _ => rfl⟩
theorem RX.r {i : Nat} {x : Int32} : RX σ (w_ar σ 31 14 i x) := ⟨fun _ _ => rfl, fun _ => rfl, fun j _ _ _ d => by funext k; rw [m_ar_ar, if_neg (fun z => d z.2.1)], fun k _ => by rw [m_ar_ar, if_neg (by omega)], fun _ => rfl⟩
theorem OrR.c0 {A A' : Nat → Int32} (hO : WFO D O) (hA : ∀ k, k < 490 → A' k = A k) (h : OrR A 0 O) : OrR A' 0 O := OrR.cg (i := 0) hO (fun k _ hk => hA k (by omega)) h
theorem RcR.rt (hO : WFO D O) (h : RcR σ D O S) (w : RT σ τ) {M : MTq} (hk : WkR τ D M.1) (hc : CtR τ M.2) (hq : ∃ q, q ≤ 9999 ∧ m_ar τ 31 0 2453 = nI q) : RcR τ D O (M, S.2) := by
  obtain ⟨-, -, -, ho, hs, hr⟩ := h
  refine ⟨hk, hc, hq, ho.c0 hO (fun k hk => w.2.2.2.1 k (by omega)), ?_, fun o h60 => ?_⟩
  · rw [w.1 35 (by omega), w.1 36 (by omega), w.1 37 (by omega), w.1 38 (by omega)]; exact hs
  · rw [w.2.2.1 14 (by decide) (by decide) (by decide)]; exact hr o h60
theorem blows1_r {q d t : Nat} (hD : WFD D) (h : WkR σ D V) (hc : CtR σ C) (hq : q < 4) : ∃ τ, fX12_blows 31 (nI q) (nI d) (nI t) σ = some τ ∧ WkR τ D (vW V q d t) ∧ RH σ τ ∧ CtR τ C := by
  unfold fX12_blows
  rw [ln_2460, ln_2, nI_mul, nI_ad, ln_1, nI_ad, s_ar_n (by omega) (by decide), s_ar_n (by omega) (by decide)]
  refine ⟨_, rfl, ?_, (RH.w0 (by omega)).tr (RH.w0 (by omega)), (hc.w0).w0⟩
  refine h.chg hD _ rfl rfl (fun k hk => by rw [m_ar_ar, if_neg (by omega), m_ar_ar, if_neg (by omega)]) (fun i hi => ⟨?_, ?_⟩) (by rw [m_ar_ar, if_neg (by omega), m_ar_ar, if_neg (by omega)]; exact h.2.2.2.2.2.2.1) (by rw [m_ar_ar, if_neg (by omega), m_ar_ar, if_neg (by omega)]; exact h.2.2.2.2.2.2.2)
  · rw [m_ar_ar, if_neg (by omega), m_ar_ar]
    show _ = nI (if i = q then d else v_fr V i)
    by_cases e : i = q
    · rw [if_pos ⟨rfl, rfl, by omega⟩, if_pos e]
    · rw [if_neg (by omega), if_neg e]; exact (h.2.2.2.1 i hi).1
  · rw [m_ar_ar]
    show _ = nI (if i = q then t else v_sg V i)
    by_cases e : i = q
    · rw [if_pos ⟨rfl, rfl, by omega⟩, if_pos e]
    · rw [if_neg (by omega), m_ar_ar, if_neg (by omega), if_neg e]; exact (h.2.2.2.1 i hi).2
theorem isP_w (hD : WFD D) (h : WkR σ D V) (hv : v < d_p D) : fX12_isPlace 31 (nI v) σ = some (1, σ) := by
  have hd := hD.1
  unfold fX12_isPlace
  rw [if_neg (nI_neg0 (by omega)), show g_ar σ 31 0 2950 (0 : Int32) = g_ar σ 31 0 2950 (nI 0) from rfl, g_ar_n (by decide) (by decide), h.1.1, ifle_n (by omega) (by omega), if_neg (by omega)]
theorem isV_w (hD : WFD D) (h : WkR σ D V) (hv : v < d_v D) : fX12_isVane 31 (nI v) σ = some (1, σ) := by
  have hd := hD.1
  unfold fX12_isVane
  rw [if_neg (nI_neg0 (by omega)), show g_ar σ 31 0 2950 (1 : Int32) = g_ar σ 31 0 2950 (nI 1) from rfl, g_ar_n (by decide) (by decide), h.1.2.1, ifle_n (by omega) (by omega), if_neg (by omega)]
theorem isS_w (hD : WFD D) (h : WkR σ D V) (hv : v < d_s D) : fX12_isShaft 31 (nI v) σ = some (1, σ) := by
  have hd := hD.1
  unfold fX12_isShaft
  rw [if_neg (nI_neg0 (by omega)), show g_ar σ 31 0 2950 (2 : Int32) = g_ar σ 31 0 2950 (nI 2) from rfl, g_ar_n (by decide) (by decide), h.1.2.2, ifle_n (by omega) (by omega), if_neg (by omega)]
theorem RcR.dr {x : Nat} (h : RcR σ D O S) : RcR (w_sc σ 31 35 (nI x)) D O (S.1, (x, S.2.1.2), S.2.2) := by
  obtain ⟨hk, hc, hq, ho, ⟨s1, s2, s3, s4⟩, hr⟩ := h
  exact ⟨hk, ⟨by rw [m_sc_sc, if_neg (by decide)]; exact hc.1, by rw [m_sc_sc, if_neg (by decide)]; exact hc.2.1, hc.2.2⟩, hq, ho, ⟨by rw [m_sc_sc, if_pos ⟨rfl, rfl⟩], by rw [m_sc_sc, if_neg (by decide)]; exact s2, by rw [m_sc_sc, if_neg (by decide)]; exact s3, by rw [m_sc_sc, if_neg (by decide)]; exact s4⟩, hr⟩
theorem RcR.qu {x : Nat} (h : RcR σ D O S) : RcR (w_sc σ 31 37 (nI x)) D O (S.1, (S.2.1.1, x, S.2.1.2.2), S.2.2) := by
  obtain ⟨hk, hc, hq, ho, ⟨s1, s2, s3, s4⟩, hr⟩ := h
  exact ⟨hk, ⟨by rw [m_sc_sc, if_neg (by decide)]; exact hc.1, by rw [m_sc_sc, if_neg (by decide)]; exact hc.2.1, hc.2.2⟩, hq, ho, ⟨by rw [m_sc_sc, if_neg (by decide)]; exact s1, by rw [m_sc_sc, if_pos ⟨rfl, rfl⟩], by rw [m_sc_sc, if_neg (by decide)]; exact s3, by rw [m_sc_sc, if_neg (by decide)]; exact s4⟩, hr⟩
theorem RcR.dn {x : Nat} (h : RcR σ D O S) : RcR (w_sc σ 31 36 (nI x)) D O (S.1, (S.2.1.1, S.2.1.2.1, x, S.2.1.2.2.2), S.2.2) := by
  obtain ⟨hk, hc, hq, ho, ⟨s1, s2, s3, s4⟩, hr⟩ := h
  exact ⟨hk, ⟨by rw [m_sc_sc, if_neg (by decide)]; exact hc.1, by rw [m_sc_sc, if_neg (by decide)]; exact hc.2.1, hc.2.2⟩, hq, ho, ⟨by rw [m_sc_sc, if_neg (by decide)]; exact s1, by rw [m_sc_sc, if_neg (by decide)]; exact s2, by rw [m_sc_sc, if_pos ⟨rfl, rfl⟩], by rw [m_sc_sc, if_neg (by decide)]; exact s4⟩, hr⟩
theorem RcR.cu (h : RcR σ D O S) : RcR (w_sc σ 31 38 1) D O (S.1, (S.2.1.1, S.2.1.2.1, S.2.1.2.2.1, true), S.2.2) := by
  obtain ⟨hk, hc, hq, ho, ⟨s1, s2, s3, s4⟩, hr⟩ := h
  exact ⟨hk, ⟨by rw [m_sc_sc, if_neg (by decide)]; exact hc.1, by rw [m_sc_sc, if_neg (by decide)]; exact hc.2.1, hc.2.2⟩, hq, ho, ⟨by rw [m_sc_sc, if_neg (by decide)]; exact s1, by rw [m_sc_sc, if_neg (by decide)]; exact s2, by rw [m_sc_sc, if_neg (by decide)]; exact s3, by rw [m_sc_sc, if_pos ⟨rfl, rfl⟩]; rfl⟩, hr⟩
theorem RcR.tb {x : Int32} (h : RcR σ D O S) : RcR (w_sc σ 31 43 x) D O S := by
  obtain ⟨hk, hc, hq, ho, ⟨s1, s2, s3, s4⟩, hr⟩ := h
  exact ⟨hk, ⟨by rw [m_sc_sc, if_neg (by decide)]; exact hc.1, by rw [m_sc_sc, if_neg (by decide)]; exact hc.2.1, hc.2.2⟩, hq, ho, ⟨by rw [m_sc_sc, if_neg (by decide)]; exact s1, by rw [m_sc_sc, if_neg (by decide)]; exact s2, by rw [m_sc_sc, if_neg (by decide)]; exact s3, by rw [m_sc_sc, if_neg (by decide)]; exact s4⟩, hr⟩
theorem RcR.ro {i x : Nat} (h : RcR σ D O S) : RcR (w_ar σ 31 14 i (nI (x - 1))) D O (S.1, S.2.1, S.2.2.1, fun o => if o = i then x else S.2.2.2 o) := by
  obtain ⟨hk, hc, hq, ho, hs, hr⟩ := h
  have e0 : m_ar (w_ar σ 31 14 i (nI (x - 1))) 31 0 = m_ar σ 31 0 := by funext k; rw [m_ar_ar, if_neg (by omega)]
  refine ⟨by unfold WkR; rw [e0]; exact hk, ⟨hc.1, hc.2.1, fun k h1 h2 => by rw [m_ar_ar, if_neg (by omega)]; exact hc.2.2 k h1 h2⟩, by rw [e0]; exact hq, by rw [e0]; exact ho, hs, fun o h60 => ?_⟩
  rw [m_ar_ar]
  show _ = nI ((if o = i then x else S.2.2.2 o) - 1)
  by_cases e : o = i
  · rw [if_pos ⟨rfl, rfl, e⟩, if_pos e]
  · rw [if_neg (fun z => e z.2.2), if_neg e]; exact hr o h60
theorem d94_l {s : Nat} {x : Int32} (hD : WFD D) (hO : WFO D O) (hs : s ≤ 99) {M0 : MTq} {d0 : Nat} {R : (Nat × Nat × Bool) × Nat × (Nat → Nat)} (hV0 : WFV D M0.1) (hd0 : d0 < 65536) : ∀ (n i : Nat) (σ : Mm), i ≤ d_p D → d_p D - i < n → RcR σ D O ((guF D s i M0 d0).1, ((guF D s i M0 d0).2, R.1), R.2) → ∃ τ, fX12_does_94 31 x n (nI s) (nI i) σ = some τ ∧ RcR τ D O ((guF D s (d_p D) M0 d0).1, ((guF D s (d_p D) M0 d0).2, R.1), R.2) ∧ RX σ τ := by
  intro n
  induction n with
  | zero => intro i σ _ h; omega
  | succ n ih =>
    intro i σ hi hn h
    have hd := hD.1
    have h' := h
    obtain ⟨hk, hc, hq, ho, hss, hr⟩ := h
    rw [fX12_does_94, show g_ar σ 31 0 2950 (0 : Int32) = g_ar σ 31 0 2950 (nI 0) from rfl, g_ar_n (by decide) (by decide), hk.1.1, ifle_n (by omega) (by omega)]
    by_cases c : d_p D ≤ i
    · have : i = d_p D := by omega
      subst this
      rw [if_pos c]
      exact ⟨σ, rfl, h', RX.rf⟩
    · have hg := gu_wf (s := s) hV0 hs hd0 i
      obtain ⟨y, hy⟩ : ∃ y, y = ((guF D s i M0 d0).2 * 2683 + 11587) % 65536 := ⟨_, rfl⟩
      have hy6 : y < 65536 := by rw [hy]; exact Nat.mod_lt _ (by decide)
      have e1 : m_sc σ 31 35 = nI (guF D s i M0 d0).2 := hss.1
      unfold fX12_draw
      rw [if_neg c, r_sc_s, e1, ln_2683, ln_11587, ln_65536, nI_mul, nI_ad, pk_rem (by omega) (by decide) (by decide), ← hy, p_sc_s, r_sc_s, m_sc_sc, if_pos ⟨rfl, rfl⟩, ln_8, ln_16, pk_div (by omega) (by decide) (by decide), pk_rem (by omega) (by decide) (by decide), c_I_s, nI_s]
      have h2 := h'.dr (x := y)
      obtain ⟨τ, f, r1, r2, r3⟩ := blows1_r (q := i) (d := y / 8 % 16) (t := s) hD h2.1 h2.2.1 (by omega)
      rw [f, c_V_s]
      have h3 := h2.rt hO r2.1 (M := (vW (guF D s i M0 d0).1.1 i (y / 8 % 16) s, (guF D s i M0 d0).1.2)) r1 r3 (by obtain ⟨q, q1, q2⟩ := h2.2.2.1; exact ⟨q, q1, r2.2.2.1.trans q2⟩)
      obtain ⟨ω, f2, g1, g2⟩ := ih (i + 1) τ (by omega) (by omega) (by rw [guF, ← hy]; exact h3)
      exact ⟨ω, f2, g1, ((RX.s (by omega) (by omega) (by omega)).tr r2.1.x).tr g2⟩
theorem OrR.at {r : Nat} (hg : o_g O = true) (h : OrR (m_ar σ 31 0) 0 O) (hr : r < o_r O) : m_ar σ 31 0 (120 + 6 * r) = o_c (o_k O r) (o_h O r) ∧ (o_k O r = 10 → m_ar σ 31 0 (120 + 6 * r + 1) = nI (o_w O r) ∧ m_ar σ 31 0 (120 + 6 * r + 2) = nI (o_h O r) ∧ m_ar σ 31 0 (120 + 6 * r + 3) = nI (o_n O r)) ∧ (o_k O r = 17 ∨ o_k O r = 11 ∨ o_k O r = 20 → m_ar σ 31 0 (120 + 6 * r + 1) = nI (o_n O r)) ∧ (o_k O r = 12 ∨ o_k O r = 13 ∨ o_k O r = 14 ∨ o_k O r = 15 ∨ o_k O r = 16 ∨ o_k O r = 18 → m_ar σ 31 0 (120 + 6 * r + 1) = nI (o_w O r)) ∧
  (o_k O r = 16 ∨ (o_k O r = 18 ∧ o_h O r ≠ 19) → m_ar σ 31 0 (120 + 6 * r + 2) = nI (o_n O r)) ∧ (o_k O r = 18 ∧ o_h O r ≠ 19 → m_ar σ 31 0 (120 + 6 * r + 5) = nI (o_h O r)) ∧ (o_k O r = 18 ∨ o_k O r = 20 ∨ o_k O r = 21 → m_ar σ 31 0 (120 + 6 * r + 4) = nI (o_p O r)) := by
  have := h.2 hg r hr
  rw [show 0 + 120 + 6 * r = 120 + 6 * r by omega, show 0 + 121 + 6 * r = 120 + 6 * r + 1 by omega, show 0 + 122 + 6 * r = 120 + 6 * r + 2 by omega, show 0 + 123 + 6 * r = 120 + 6 * r + 3 by omega, show 0 + 124 + 6 * r = 120 + 6 * r + 4 by omega, show 0 + 125 + 6 * r = 120 + 6 * r + 5 by omega] at this
  exact this
theorem RcR.li {l : Nat} (hD : WFD D) (hO : WFO D O) (h : RcR σ D O S) : RcR (w_ar σ 31 0 2454 (nI l)) D O ((vL S.1.1 l, S.1.2), S.2) :=
  h.rt hO (RT.w0 (by omega) (by omega)) (M := (vL S.1.1 l, S.1.2)) (h.1.vL hD) h.2.1.w0 (by obtain ⟨q, q1, q2⟩ := h.2.2.1; exact ⟨q, q1, by rw [m_ar_ar, if_neg (by decide)]; exact q2⟩)
theorem RcR.he {l : Nat} (hD : WFD D) (hO : WFO D O) (h : RcR σ D O S) : RcR (w_ar σ 31 0 2455 (nI l)) D O ((vH S.1.1 l, S.1.2), S.2) :=
  h.rt hO (RT.w0 (by omega) (by omega)) (M := (vH S.1.1 l, S.1.2)) (h.1.vH hD) h.2.1.w0 (by obtain ⟨q, q1, q2⟩ := h.2.2.1; exact ⟨q, q1, by rw [m_ar_ar, if_neg (by decide)]; exact q2⟩)
theorem does_r {r : Nat} (hD : WFD D) (hO : WFO D O) (hg : o_g O = true) (hr : r < o_r O) (hI : RI D O S) (h21 : o_k O r ≠ 21) (h : RcR σ D O S) : ∃ τ, fX12_does 31 (nI (120 + 6 * r)) σ = some τ ∧ RcR τ D O ((pfM D O r S.1 S.2.1.1).1, ((pfM D O r S.1 S.2.1.1).2, S.2.1.2.1 + (if o_k O r = 11 then o_n O r else 0), S.2.1.2.2), S.2.2) ∧ RX σ τ := by
  obtain ⟨-, o60, hrow, -⟩ := hO hg
  have hrw := hrow r hr
  have hd := hD.1
  have h' := h
  obtain ⟨hk, hc, ⟨q, hq9, hq⟩, ho, hss, hrr⟩ := h
  obtain ⟨f0, f1, f2, f3, f4, f5, f6⟩ := OrR.at hg ho hr
  have hkk := kd_b hrw
  unfold fX12_does
  rw [ln_1, nI_ad, g_ar_n (by omega) (by decide), g_ar_n (by omega) (by decide)]
  rcases hkk with e | e | e | e | e | e | e | e | e | e | e | e
  · have ep : pfM D O r S.1 S.2.1.1 = ((vW S.1.1 (o_w O r) (o_h O r) (o_n O r), S.1.2), S.2.1.1) := by unfold pfM; rw [if_pos e]
    rw [ep]
    rw [if_neg (show ¬ o_k O r = 11 by omega), Nat.add_zero]
    have f0 : m_ar σ 31 0 (120 + 6 * r) = 10 := by rw [f0, e]; rfl
    rw [f0, if_pos (show (10 : Int32) = 10 from rfl)]
    have hx : o_w O r < d_p D ∧ o_h O r < 16 ∧ o_n O r ≤ 99 := by rcases hrw with h | h | h | h | h | h | h | h | h | h <;> omega
    obtain ⟨g1, g2, g3⟩ := f1 e
    rw [g1, isP_w hD hk hx.1, c_I_s, if_neg (by decide), ln_2, nI_ad, g_ar_n (by omega) (by decide), g2, ln_3, nI_ad, g_ar_n (by omega) (by decide), g3]
    obtain ⟨τ, f, r1, r2, r3⟩ := blows1_r (q := o_w O r) (d := o_h O r) (t := o_n O r) hD hk hc (by omega)
    rw [f, c_V_s]
    exact ⟨τ, rfl, h'.rt hO r2.1 (M := (vW S.1.1 (o_w O r) (o_h O r) (o_n O r), S.1.2)) r1 r3 ⟨q, hq9, r2.2.2.1.trans hq⟩, r2.1.x⟩
  · have ep : pfM D O r S.1 S.2.1.1 = (qnM D (o_n O r) S.1, S.2.1.1) := by unfold pfM; rw [if_neg (by omega), if_pos e]
    rw [ep]
    rw [if_pos e]
    have f0 : m_ar σ 31 0 (120 + 6 * r) = 12 := by rw [f0, e]; rfl
    rw [f0, if_neg (show ¬ (12 : Int32) = 10 by decide), if_neg (show ¬ (12 : Int32) = 11 by decide), if_pos (show (12 : Int32) = 12 from rfl)]
    have hx : o_n O r ≤ 99 := by rcases hrw with h | h | h | h | h | h | h | h | h | h <;> omega
    obtain ⟨τ, f, r1, r2, r3, r4, r5⟩ := goesBy_r (M := S.1) (Q := o_n O r) hD (by omega) hI.1 hk hc (by have := hI.2.1; have := hI.2.2.1; omega) hq hq9
    have h2 := h'.rt hO r4 (M := qnM D (o_n O r) S.1) r2 r3 ⟨_, Nat.min_le_right _ _, r5⟩
    rw [f2 (by omega), f, c_V_s, r_sc_s, p_sc_s, h2.2.2.2.2.1.2.1, nI_ad]
    exact ⟨_, rfl, h2.qu, r4.x.tr (RX.s (by omega) (by omega) (by omega))⟩
  · have ep : pfM D O r S.1 S.2.1.1 = ((vL S.1.1 (wiN (v_li S.1.1) (o_w O r) true), S.1.2), S.2.1.1) := by unfold pfM; rw [if_neg (by omega), if_neg (by omega), if_pos e]
    rw [ep]
    rw [if_neg (show ¬ o_k O r = 11 by omega), Nat.add_zero]
    have f0 : m_ar σ 31 0 (120 + 6 * r) = 13 := by rw [f0, e]; rfl
    rw [f0, if_neg (show ¬ (13 : Int32) = 10 by decide), if_neg (show ¬ (13 : Int32) = 11 by decide), if_neg (show ¬ (13 : Int32) = 12 by decide), if_pos (show (13 : Int32) = 13 from rfl)]
    have hx : o_w O r < d_s D := by rcases hrw with h | h | h | h | h | h | h | h | h | h <;> omega
    rw [f3 (by omega), isS_w hD hk hx, c_I_s, if_neg (by decide), ln_2454, g_ar_n (by decide) (by decide), hk.2.2.2.2.2.2.1, s_ar_n (by decide) (by decide)]
    rw [show nI 1 = (1 : Int32) from rfl, sh1 (by omega), or_n]
    exact ⟨_, rfl, h'.li hD hO, (RT.w0 (by omega) (by omega)).x⟩
  · have ep : pfM D O r S.1 S.2.1.1 = ((vL S.1.1 (wiN (v_li S.1.1) (o_w O r) false), S.1.2), S.2.1.1) := by unfold pfM; rw [if_neg (by omega), if_neg (by omega), if_neg (by omega), if_pos e]
    rw [ep]
    rw [if_neg (show ¬ o_k O r = 11 by omega), Nat.add_zero]
    have f0 : m_ar σ 31 0 (120 + 6 * r) = 14 := by rw [f0, e]; rfl
    rw [f0, if_neg (show ¬ (14 : Int32) = 10 by decide), if_neg (show ¬ (14 : Int32) = 11 by decide), if_neg (show ¬ (14 : Int32) = 12 by decide), if_neg (show ¬ (14 : Int32) = 13 by decide), if_pos (show (14 : Int32) = 14 from rfl)]
    have hx : o_w O r < d_s D := by rcases hrw with h | h | h | h | h | h | h | h | h | h <;> omega
    rw [f3 (by omega), isS_w hD hk hx, c_I_s, if_neg (by decide), ln_2454, g_ar_n (by decide) (by decide), hk.2.2.2.2.2.2.1, s_ar_n (by decide) (by decide)]
    rw [show nI 1 = (1 : Int32) from rfl, sh1 (by omega), andn_n]
    exact ⟨_, rfl, h'.li hD hO, (RT.w0 (by omega) (by omega)).x⟩
  · have ep : pfM D O r S.1 S.2.1.1 = ((vH S.1.1 (wiN (v_he S.1.1) (o_w O r) true), S.1.2), S.2.1.1) := by unfold pfM; rw [if_neg (by omega), if_neg (by omega), if_neg (by omega), if_neg (by omega), if_pos e]
    rw [ep]
    rw [if_neg (show ¬ o_k O r = 11 by omega), Nat.add_zero]
    have f0 : m_ar σ 31 0 (120 + 6 * r) = 15 := by rw [f0, e]; rfl
    rw [f0, if_neg (show ¬ (15 : Int32) = 10 by decide), if_neg (show ¬ (15 : Int32) = 11 by decide), if_neg (show ¬ (15 : Int32) = 12 by decide), if_neg (show ¬ (15 : Int32) = 13 by decide), if_neg (show ¬ (15 : Int32) = 14 by decide), if_pos (show (15 : Int32) = 15 from rfl)]
    have hx : o_w O r < d_v D := by rcases hrw with h | h | h | h | h | h | h | h | h | h <;> omega
    rw [f3 (by omega), isV_w hD hk hx, c_I_s, if_neg (by decide), ln_2455, g_ar_n (by decide) (by decide), hk.2.2.2.2.2.2.2, s_ar_n (by decide) (by decide)]
    rw [show nI 1 = (1 : Int32) from rfl, sh1 (by omega), or_n]
    exact ⟨_, rfl, h'.he hD hO, (RT.w0 (by omega) (by omega)).x⟩
  · have ep : pfM D O r S.1 S.2.1.1 = ((vH S.1.1 (wiN (v_he S.1.1) (o_w O r) false), S.1.2), S.2.1.1) := by unfold pfM; rw [if_neg (by omega), if_neg (by omega), if_neg (by omega), if_neg (by omega), if_neg (by omega), if_pos e]
    rw [ep]
    rw [if_neg (show ¬ o_k O r = 11 by omega), Nat.add_zero]
    have f0 : m_ar σ 31 0 (120 + 6 * r) = 16 := by rw [f0, e]; rfl
    rw [f0, if_neg (show ¬ (16 : Int32) = 10 by decide), if_neg (show ¬ (16 : Int32) = 11 by decide), if_neg (show ¬ (16 : Int32) = 12 by decide), if_neg (show ¬ (16 : Int32) = 13 by decide), if_neg (show ¬ (16 : Int32) = 14 by decide), if_neg (show ¬ (16 : Int32) = 15 by decide), if_pos (show (16 : Int32) = 16 from rfl)]
    have hx : o_w O r < d_v D := by rcases hrw with h | h | h | h | h | h | h | h | h | h <;> omega
    rw [f3 (by omega), isV_w hD hk hx, c_I_s, if_neg (by decide), ln_2455, g_ar_n (by decide) (by decide), hk.2.2.2.2.2.2.2, s_ar_n (by decide) (by decide)]
    rw [show nI 1 = (1 : Int32) from rfl, sh1 (by omega), andn_n]
    exact ⟨_, rfl, h'.he hD hO, (RT.w0 (by omega) (by omega)).x⟩
  · have ep : pfM D O r S.1 S.2.1.1 = ((tuS D (o_w O r) 1 (o_n O r) S.1).2, S.2.1.1) := by unfold pfM; rw [if_neg (by omega), if_neg (by omega), if_neg (by omega), if_neg (by omega), if_neg (by omega), if_neg (by omega), if_pos e]
    rw [ep]
    rw [if_neg (show ¬ o_k O r = 11 by omega), Nat.add_zero]
    have f0 : m_ar σ 31 0 (120 + 6 * r) = 17 := by rw [f0, e]; rfl
    rw [f0, if_neg (show ¬ (17 : Int32) = 10 by decide), if_neg (show ¬ (17 : Int32) = 11 by decide), if_neg (show ¬ (17 : Int32) = 12 by decide), if_neg (show ¬ (17 : Int32) = 13 by decide), if_neg (show ¬ (17 : Int32) = 14 by decide), if_neg (show ¬ (17 : Int32) = 15 by decide), if_neg (show ¬ (17 : Int32) = 16 by decide), if_pos (show (17 : Int32) = 17 from rfl)]
    have hx : o_w O r < d_v D ∧ 1 ≤ o_n O r ∧ o_n O r ≤ 99 := by rcases hrw with h | h | h | h | h | h | h | h | h | h <;> omega
    have hz : (0 : Int32) ≤ nI (o_n O r) := i_nlt (nI_neg0 (by omega))
    obtain ⟨τ, f, r2, r3, r4, r5⟩ := tu_lr (v := o_w O r) (t := 1) (x := nI (o_n O r)) (N := o_n O r) hD (by decide) hx.1 (by rw [if_pos rfl]; exact hz) (by omega) FU 0 S.1 σ (by omega) (FU_gt (by omega)) hI.1 hk hc (by have := hI.2.1; have := hI.2.2.1; omega) hq
    have f' : fX12_turnsBy 31 (nI (o_w O r)) (nI (o_n O r)) σ = some (nI (0 + (tuS D (o_w O r) 1 (o_n O r - 0) S.1).1), τ) := by
      unfold fX12_turnsBy
      rw [if_pos hz]
      exact f
    have h2 := h'.rt hO r4 (M := (tuS D (o_w O r) 1 (o_n O r) S.1).2) r2 r3 ⟨q, hq9, r5⟩
    rw [f3 (by omega), isV_w hD hk hx.1, c_I_s, if_neg (by decide), ln_2, nI_ad, g_ar_n (by omega) (by decide), f4 (by omega), f', c_I_s, p_sc_s]
    exact ⟨_, rfl, h2.tb, r4.x.tr (RX.s (by omega) (by omega) (by omega))⟩
  · have ep : pfM D O r S.1 S.2.1.1 = guF D (o_n O r) (d_p D) S.1 S.2.1.1 := by unfold pfM; rw [if_neg (by omega), if_neg (by omega), if_neg (by omega), if_neg (by omega), if_neg (by omega), if_neg (by omega), if_neg (by omega), if_pos e]
    rw [ep]
    rw [if_neg (show ¬ o_k O r = 11 by omega), Nat.add_zero]
    have f0 : m_ar σ 31 0 (120 + 6 * r) = 11 := by rw [f0, e]; rfl
    rw [f0, if_neg (show ¬ (11 : Int32) = 10 by decide), if_pos (show (11 : Int32) = 11 from rfl)]
    have hx : o_n O r ≤ 99 := by rcases hrw with h | h | h | h | h | h | h | h | h | h <;> omega
    rw [f2 (by omega)]
    exact d94_l (x := nI (120 + 6 * r)) (s := o_n O r) (M0 := S.1) (d0 := S.2.1.1) (R := (S.2.1.2, S.2.2)) hD hO hx hI.1 hI.2.2.2.1 FU 0 σ (by omega) (FU_gt (by omega)) h'
  · have ep : pfM D O r S.1 S.2.1.1 = (S.1, S.2.1.1) := by unfold pfM; rw [if_neg (by omega), if_neg (by omega), if_neg (by omega), if_neg (by omega), if_neg (by omega), if_neg (by omega), if_neg (by omega), if_neg (by omega)]
    rw [ep]
    rw [if_neg (show ¬ o_k O r = 11 by omega), Nat.add_zero]
    by_cases c19 : o_h O r = 19
    · have f0 : m_ar σ 31 0 (120 + 6 * r) = 1819 := by rw [f0, e, c19]; rfl
      rw [f0, if_neg (show ¬ (1819 : Int32) = 10 by decide), if_neg (show ¬ (1819 : Int32) = 11 by decide), if_neg (show ¬ (1819 : Int32) = 12 by decide), if_neg (show ¬ (1819 : Int32) = 13 by decide), if_neg (show ¬ (1819 : Int32) = 14 by decide), if_neg (show ¬ (1819 : Int32) = 15 by decide), if_neg (show ¬ (1819 : Int32) = 16 by decide), if_neg (show ¬ (1819 : Int32) = 17 by decide)]
      exact ⟨σ, rfl, h', RX.rf⟩
    · have f0 : m_ar σ 31 0 (120 + 6 * r) = 1807 := by rw [f0, e]; unfold o_c; simp [c19]
      rw [f0, if_neg (show ¬ (1807 : Int32) = 10 by decide), if_neg (show ¬ (1807 : Int32) = 11 by decide), if_neg (show ¬ (1807 : Int32) = 12 by decide), if_neg (show ¬ (1807 : Int32) = 13 by decide), if_neg (show ¬ (1807 : Int32) = 14 by decide), if_neg (show ¬ (1807 : Int32) = 15 by decide), if_neg (show ¬ (1807 : Int32) = 16 by decide), if_neg (show ¬ (1807 : Int32) = 17 by decide)]
      exact ⟨σ, rfl, h', RX.rf⟩
  · have ep : pfM D O r S.1 S.2.1.1 = (S.1, S.2.1.1) := by unfold pfM; rw [if_neg (by omega), if_neg (by omega), if_neg (by omega), if_neg (by omega), if_neg (by omega), if_neg (by omega), if_neg (by omega), if_neg (by omega)]
    rw [ep]
    rw [if_neg (show ¬ o_k O r = 11 by omega), Nat.add_zero]
    have f0 : m_ar σ 31 0 (120 + 6 * r) = 20 := by rw [f0, e]; rfl
    rw [f0, if_neg (show ¬ (20 : Int32) = 10 by decide), if_neg (show ¬ (20 : Int32) = 11 by decide), if_neg (show ¬ (20 : Int32) = 12 by decide), if_neg (show ¬ (20 : Int32) = 13 by decide), if_neg (show ¬ (20 : Int32) = 14 by decide), if_neg (show ¬ (20 : Int32) = 15 by decide), if_neg (show ¬ (20 : Int32) = 16 by decide), if_neg (show ¬ (20 : Int32) = 17 by decide)]
    exact ⟨σ, rfl, h', RX.rf⟩
  · exact absurd e h21
  · have ep : pfM D O r S.1 S.2.1.1 = (S.1, S.2.1.1) := by unfold pfM; rw [if_neg (by omega), if_neg (by omega), if_neg (by omega), if_neg (by omega), if_neg (by omega), if_neg (by omega), if_neg (by omega), if_neg (by omega)]
    rw [ep]
    rw [if_neg (show ¬ o_k O r = 11 by omega), Nat.add_zero]
    have f0 : m_ar σ 31 0 (120 + 6 * r) = 22 := by rw [f0, e]; rfl
    rw [f0, if_neg (show ¬ (22 : Int32) = 10 by decide), if_neg (show ¬ (22 : Int32) = 11 by decide), if_neg (show ¬ (22 : Int32) = 12 by decide), if_neg (show ¬ (22 : Int32) = 13 by decide), if_neg (show ¬ (22 : Int32) = 14 by decide), if_neg (show ¬ (22 : Int32) = 15 by decide), if_neg (show ¬ (22 : Int32) = 16 by decide), if_neg (show ¬ (22 : Int32) = 17 by decide)]
    exact ⟨σ, rfl, h', RX.rf⟩
theorem holdsNow_r {r : Nat} (hD : WFD D) (hO : WFO D O) (hg : o_g O = true) (hr : r < o_r O) (hI : WFV D S.1.1) (h18 : o_k O r = 18) (h : RcR σ D O S) : fX12_holdsNow 31 (nI (120 + 6 * r)) σ = some (if soB D O r S.1.1 then 1 else 0, σ) := by
  obtain ⟨-, o60, hrow, -⟩ := hO hg
  have hrw := hrow r hr
  have hd := hD.1
  obtain ⟨hk, hc, ⟨q, hq9, hq⟩, ho, hss, hrr⟩ := h
  obtain ⟨f0, f1, f2, f3, f4, f5, f6⟩ := OrR.at hg ho hr
  have hx : o_w O r < d_v D ∧ (o_h O r = 19 ∨ ((o_h O r = 60 ∨ o_h O r = 62 ∨ o_h O r = 61) ∧ o_n O r ≤ 60)) := by rcases hrw with h | h | h | h | h | h | h | h | h | h <;> first | omega | exact ⟨h.2.1, h.2.2.1⟩
  have hpt := hI.2.1 _ hx.1
  have hb := hD.2.1 _ hx.1
  unfold fX12_holdsNow
  rw [ln_1, nI_ad, g_ar_n (by omega) (by decide), f3 (by omega), isV_w hD hk hx.1, c_I_s, if_neg (by decide), g_ar_n (by omega) (by decide), f0, h18]
  by_cases c19 : o_h O r = 19
  · have hso : soB D O r S.1.1 = rgB D S.1.1 (o_w O r) := by unfold soB; rw [c19]; rfl
    rw [hso, c19, if_pos (show o_c 18 19 = 1819 from rfl), isRight_r hD hI hk hx.1, c_I_s]
    cases rgB D S.1.1 (o_w O r) <;> rfl
  · unfold soB
    have e18 : o_c 18 (o_h O r) = 1807 := by unfold o_c; simp [c19]
    rw [e18, if_neg (show ¬ (1807 : Int32) = 1819 by decide), va3 hD hk hx.1, c_I_s, ln_5, nI_ad, g_ar_n (by omega) (by decide), f5 ⟨h18, c19⟩, ln_60, ife_n (by omega) (by decide), ln_2, nI_ad, g_ar_n (by omega) (by decide), f4 (by omega), g_ar_n (by omega) (by decide), f5 ⟨h18, c19⟩, ln_62, ife_n (by omega) (by decide), g_ar_n (by omega) (by decide), f4 (by omega), g_ar_n (by omega) (by decide), f4 (by omega), ifle_n (by omega) (by omega), ifle_n (by omega) (by omega), ife_n (by omega) (by omega)]
    by_cases c1 : o_h O r = 60
    · rw [if_pos c1, if_pos c1]
      by_cases c : o_n O r ≤ v_pt S.1.1 (o_w O r)
      · rw [if_pos c, decide_eq_false (by omega)]; rfl
      · rw [if_neg c, decide_eq_true (by omega)]; rfl
    · rw [if_neg c1, if_neg c1]
      by_cases c2 : o_h O r = 61
      · rw [if_pos c2, if_neg (by omega)]
        by_cases c : v_pt S.1.1 (o_w O r) = o_n O r
        · rw [if_pos c, decide_eq_true c]; rfl
        · rw [if_neg c, decide_eq_false c]; rfl
      · have c3 : o_h O r = 62 := by omega
        rw [if_neg c2, if_pos c3, if_pos c3]
        by_cases c : v_pt S.1.1 (o_w O r) ≤ o_n O r
        · rw [if_pos c, decide_eq_false (by omega)]; rfl
        · rw [if_neg c, decide_eq_true (by omega)]; rfl
theorem ix120 (r : Nat) : (120 : Int32) + (6 : Int32) * nI r = nI (120 + 6 * r) := by
  rw [ln_120, ln_6, nI_mul, nI_ad]
theorem oc_21 {k h : Nat} (hk : k = 10 ∨ k = 11 ∨ k = 12 ∨ k = 13 ∨ k = 14 ∨ k = 15 ∨ k = 16 ∨ k = 17 ∨ k = 18 ∨ k = 20 ∨ k = 21 ∨ k = 22) : (o_c k h = 21 ↔ k = 21) ∧ (o_c k h = 20 ↔ k = 20) ∧ (o_c k h = 22 ↔ k = 22) ∧ (o_c k h < 1800 ↔ k ≠ 18) := by
  by_cases c : h = 19
  · rcases hk with rfl | rfl | rfl | rfl | rfl | rfl | rfl | rfl | rfl | rfl | rfl | rfl <;> (subst c; decide)
  · rcases hk with rfl | rfl | rfl | rfl | rfl | rfl | rfl | rfl | rfl | rfl | rfl | rfl <;> (unfold o_c; simp [c]; try decide)
theorem bhe_l (hD : WFD D) (hO : WFO D O) (hg : o_g O = true) {x : Int32} : ∀ (n f : Nat) (S S' : RS) (σ : Mm), n < f → RI D O S → RcR σ D O S → rnR D O n S = some S' → ∃ τ S2 n2, fX12_behindEnds_2 31 x f (nI S.2.2.1) σ = some (nI S2.2.2.1, τ) ∧ RcR τ D O S2 ∧ RX σ τ ∧ RI D O S2 ∧ rnR D O n2 S2 = some S' ∧ n2 ≤ n ∧ (o_r O ≤ S2.2.2.1 ∨ o_k O S2.2.2.1 ≠ 21) := by
  intro n
  induction n with
  | zero => intro f S S' σ _ _ _ h; cases h
  | succ n ih =>
    intro f S S' σ hf hI h hrn
    obtain ⟨f', rfl⟩ : ∃ f', f = f' + 1 := ⟨f - 1, by omega⟩
    obtain ⟨-, o60, hrow, -⟩ := hO hg
    have h' := h
    obtain ⟨hk, hc, hq, ho, hss, hrr⟩ := h
    have hrl := hI.2.2.2.2.1
    have e6 : m_ar σ 31 0 6 = nI (o_r O) := by have := ho.1; rw [hg] at this; exact this
    rw [fX12_behindEnds_2, show g_ar σ 31 0 2950 (6 : Int32) = g_ar σ 31 0 2950 (nI 6) from rfl, g_ar_n (by decide) (by decide), e6, ifle_n (by omega) (by omega)]
    by_cases c : o_r O ≤ S.2.2.1
    · rw [if_pos c]
      exact ⟨σ, S, n + 1, rfl, h', RX.rf, hI, hrn, Nat.le_refl _, Or.inl c⟩
    · have hlt : S.2.2.1 < o_r O := by omega
      have hrw := hrow _ hlt
      have hkd := kd_b hrw
      obtain ⟨f0, f1, f2, f3, f4, f5, f6⟩ := OrR.at hg ho hlt
      rw [if_neg c, ix120, g_ar_n (by omega) (by decide), f0]
      by_cases c2 : o_k O S.2.2.1 = 21
      · have hp : o_p O S.2.2.1 < S.2.2.1 := by
          rcases hrw with h | h | h | h | h | h | h | h | h | h <;> omega
        have hkp := kd_b (hrow (o_p O S.2.2.1) (by omega))
        obtain ⟨g0, -⟩ := OrR.at hg ho (show o_p O S.2.2.1 < o_r O by omega)
        have h99 := hI.2.2.2.2.2 (o_p O S.2.2.1) (by omega)
        have hI2 := st_I hD hO hg hI hlt
        rw [rnR, if_neg c] at hrn
        rw [if_pos ((oc_21 hkd).1.mpr c2), ln_4, nI_ad, g_ar_n (by omega) (by decide), f6 (by omega), ix120, g_ar_n (by omega) (by decide), g0]
        have b76 : ∀ s0 : Int32, (s0 = 0 ∧ ¬ (o_k O (o_p O S.2.2.1) = 20 ∧ 1 < S.2.2.2 (o_p O S.2.2.1))) ∨ (s0 = 1 ∧ (o_k O (o_p O S.2.2.1) = 20 ∧ 1 < S.2.2.2 (o_p O S.2.2.1))) → ∃ τ S2 n2, fX12_behindEnds_76 31 x (fX12_behindEnds_2 31 x f') (nI S.2.2.1) (nI (o_p O S.2.2.1)) s0 σ = some (nI S2.2.2.1, τ) ∧ RcR τ D O S2 ∧ RX σ τ ∧ RI D O S2 ∧ rnR D O n2 S2 = some S' ∧ n2 ≤ n + 1 ∧ (o_r O ≤ S2.2.2.1 ∨ o_k O S2.2.2.1 ≠ 21) := by
          intro s0 hs0
          unfold fX12_behindEnds_76
          rw [g_ar_n (by omega) (by decide), hrr _ (by omega)]
          rcases hs0 with ⟨rfl, hn0⟩ | ⟨rfl, hn1⟩
          · rw [if_pos rfl, s_ar_n (by omega) (by decide), if_pos rfl, show nI (S.2.2.2 (o_p O S.2.2.1) - 1) - (0 : Int32) = nI (S.2.2.2 (o_p O S.2.2.1) - 1) from nI_sub (b := 0) (Nat.zero_le _), nI_s]
            have es : stR D O S = (S.1, S.2.1, S.2.2.1 + 1, S.2.2.2) := by unfold stR; rw [if_pos c2, if_neg hn0]
            have h2 := h'.ro (i := o_p O S.2.2.1) (x := S.2.2.2 (o_p O S.2.2.1))
            have er : (fun o => if o = o_p O S.2.2.1 then S.2.2.2 (o_p O S.2.2.1) else S.2.2.2 o) = S.2.2.2 := by
              funext o
              by_cases e : o = o_p O S.2.2.1
              · rw [if_pos e, e]
              · rw [if_neg e]
            rw [er] at h2
            obtain ⟨τ, S2, n2, g1, g2, g3, g4, g5, g6, g7⟩ := ih f' (stR D O S) S' (w_ar σ 31 14 (o_p O S.2.2.1) (nI (S.2.2.2 (o_p O S.2.2.1) - 1))) (by omega) hI2 (by rw [es]; exact h2) hrn
            rw [es] at g1
            exact ⟨τ, S2, n2, g1, g2, RX.r.tr g3, g4, g5, by omega, g7⟩
          · rw [if_neg (by decide), s_ar_n (by omega) (by decide), if_neg (by decide), show nI (S.2.2.2 (o_p O S.2.2.1) - 1) - (1 : Int32) = nI (S.2.2.2 (o_p O S.2.2.1) - 1 - 1) from nI_sub (b := 1) (by omega), nI_s]
            have es : stR D O S = (S.1, S.2.1, o_p O S.2.2.1 + 1, fun o => if o = o_p O S.2.2.1 then S.2.2.2 o - 1 else S.2.2.2 o) := by unfold stR; rw [if_pos c2, if_pos hn1]
            have h2 := h'.ro (i := o_p O S.2.2.1) (x := S.2.2.2 (o_p O S.2.2.1) - 1)
            have er : (fun o => if o = o_p O S.2.2.1 then S.2.2.2 (o_p O S.2.2.1) - 1 else S.2.2.2 o) = fun o => if o = o_p O S.2.2.1 then S.2.2.2 o - 1 else S.2.2.2 o := by
              funext o
              by_cases e : o = o_p O S.2.2.1
              · rw [if_pos e, if_pos e, e]
              · rw [if_neg e, if_neg e]
            rw [er] at h2
            obtain ⟨τ, S2, n2, g1, g2, g3, g4, g5, g6, g7⟩ := ih f' (stR D O S) S' (w_ar σ 31 14 (o_p O S.2.2.1) (nI (S.2.2.2 (o_p O S.2.2.1) - 1 - 1))) (by omega) hI2 (by rw [es]; exact h2) hrn
            rw [es] at g1
            exact ⟨τ, S2, n2, g1, g2, RX.r.tr g3, g4, g5, by omega, g7⟩
        by_cases c3 : o_k O (o_p O S.2.2.1) = 20
        · rw [if_pos ((oc_21 hkp).2.1.mpr c3), g_ar_n (by omega) (by decide), hrr _ (by omega), show (0 : Int32) = nI 0 from rfl, ifle_n (by omega) (by decide)]
          by_cases c4 : 1 < S.2.2.2 (o_p O S.2.2.1)
          · rw [if_neg (by omega)]
            exact b76 1 (Or.inr ⟨rfl, c3, c4⟩)
          · rw [if_pos (by omega)]
            exact b76 0 (Or.inl ⟨rfl, fun z => c4 z.2⟩)
        · rw [if_neg (fun z => c3 ((oc_21 hkp).2.1.mp z))]
          exact b76 0 (Or.inl ⟨rfl, fun z => c3 z.1⟩)
      · rw [if_neg (fun z => c2 ((oc_21 hkd).1.mp z))]
        exact ⟨σ, S, n + 1, rfl, h', RX.rf, hI, hrn, Nat.le_refl _, Or.inr c2⟩
theorem rn26 (hD : WFD D) (hO : WFO D O) (hg : o_g O = true) {x : Int32} : ∀ (f n : Nat) (S S' : RS) (σ : Mm), n < f → n < 1000000 → RI D O S → RcR σ D O S → rnR D O n S = some S' → (o_r O ≤ S.2.2.1 ∨ o_k O S.2.2.1 ≠ 21) → ∃ τ, fX12_runs_26 31 x f (nI S.2.2.1) σ = some τ ∧ RcR τ D O S' ∧ RX σ τ := by
  intro f
  induction f with
  | zero => intro n S S' σ h; omega
  | succ f ih =>
    intro n S S' σ hn hn6 hI h hrn h21
    obtain ⟨n, rfl⟩ : ∃ m, n = m + 1 := by
      cases n with
      | zero => cases hrn
      | succ m => exact ⟨m, rfl⟩
    obtain ⟨-, o60, hrow, -⟩ := hO hg
    have h' := h
    obtain ⟨hk, hc, hq, ho, hss, hrr⟩ := h
    have hrl := hI.2.2.2.2.1
    have h400 := hI.2.2.1
    have e6 : m_ar σ 31 0 6 = nI (o_r O) := by have := ho.1; rw [hg] at this; exact this
    rw [rnR] at hrn
    rw [fX12_runs_26, show g_ar σ 31 0 2950 (6 : Int32) = g_ar σ 31 0 2950 (nI 6) from rfl, g_ar_n (by decide) (by decide), e6, ifle_n (by omega) (by omega)]
    by_cases c : o_r O ≤ S.2.2.1
    · rw [if_pos c] at hrn ⊢
      cases hrn
      exact ⟨σ, rfl, h', RX.rf⟩
    · have hlt : S.2.2.1 < o_r O := by omega
      have c2 : o_k O S.2.2.1 ≠ 21 := h21.resolve_left c
      have hrw := hrow _ hlt
      have hkd := kd_b hrw
      have hI2 := st_I hD hO hg hI hlt
      rw [if_neg c] at hrn
      rw [if_neg c, r_sc_s, hss.2.2.1, ln_400, ife_n (by omega) (by decide)]
      by_cases c3 : S.2.1.2.2.1 < 400
      · have es : stR D O S = ((pfM D O S.2.2.1 S.1 S.2.1.1).1, ((pfM D O S.2.2.1 S.1 S.2.1.1).2, S.2.1.2.1 + (if o_k O S.2.2.1 = 11 then o_n O S.2.2.1 else 0), S.2.1.2.2.1 + 1, S.2.1.2.2.2), nxN D O S.2.2.1 (pfM D O S.2.2.1 S.1 S.2.1.1).1.1, fun o => if o_k O S.2.2.1 = 20 ∧ o = S.2.2.1 then o_n O S.2.2.1 else S.2.2.2 o) := by
          unfold stR; rw [if_neg c2, if_pos c3]
        have h3 := h'.dn (x := S.2.1.2.2.1 + 1)
        have hI3 : RI D O (S.1, (S.2.1.1, S.2.1.2.1, S.2.1.2.2.1 + 1, S.2.1.2.2.2), S.2.2) := ⟨hI.1, ⟨by have := hI.2.1.1; show S.1.2.1 ≤ 10000 * (S.2.1.2.2.1 + 1); omega, by have := hI.2.1.2; show S.1.2.2.1 ≤ 10000 * (S.2.1.2.2.1 + 1); omega⟩, c3, hI.2.2.2⟩
        obtain ⟨f0, -⟩ := OrR.at hg h3.2.2.2.1 hlt
        rw [if_neg (by omega), r_sc_s, hss.2.2.1, p_sc_s, nI_s, ix120, g_ar_n (by omega) (by decide), f0]
        by_cases c22 : o_k O S.2.2.1 = 22
        · rw [if_pos ((oc_21 hkd).2.2.1.mpr c22)]
          have enx : nxN D O S.2.2.1 (pfM D O S.2.2.1 S.1 S.2.1.1).1.1 = o_r O := by unfold nxN; rw [if_pos c22]
          have epf : pfM D O S.2.2.1 S.1 S.2.1.1 = (S.1, S.2.1.1) := by
            unfold pfM
            rw [if_neg (by omega), if_neg (by omega), if_neg (by omega), if_neg (by omega), if_neg (by omega), if_neg (by omega), if_neg (by omega), if_neg (by omega)]
          cases n with
          | zero => cases hrn
          | succ m =>
            rw [rnR, if_pos (by rw [es]; show o_r O ≤ nxN D O S.2.2.1 _; omega)] at hrn
            cases hrn
            refine ⟨_, rfl, ?_, RX.s (by omega) (by omega) (by omega)⟩
            rw [es, epf, if_neg (show ¬ o_k O S.2.2.1 = 11 by omega), Nat.add_zero]
            have er : (fun o => if o_k O S.2.2.1 = 20 ∧ o = S.2.2.1 then o_n O S.2.2.1 else S.2.2.2 o) = S.2.2.2 := by funext o; rw [if_neg (fun z => by omega)]
            rw [er]
            exact h3
        · rw [if_neg (fun z => c22 ((oc_21 hkd).2.2.1.mp z))]
          obtain ⟨τ, e, r1, r2⟩ := does_r hD hO hg hlt hI3 c2 h3
          obtain ⟨g0, -, g2, -⟩ := OrR.at hg r1.2.2.2.1 hlt
          have hwf := (pf_wf (M := S.1) (d := S.2.1.1) hD hrw hI.1 hI.2.2.2.1).1
          rw [e, c_V_s, g_ar_n (by omega) (by decide), g0]
          have go : ∀ τ2, RcR τ2 D O (stR D O S) → RX σ τ2 → ∃ ω, fX12_runs_115 31 x (fX12_runs_26 31 x f) (nI S.2.2.1) (nI (120 + 6 * S.2.2.1)) τ2 = some ω ∧ RcR ω D O S' ∧ RX σ ω := by
            intro τ2 t1 t2
            have t1' := t1
            rw [es] at t1'
            obtain ⟨k0, -, -, -, -, -, k6⟩ := OrR.at hg t1.2.2.2.1 hlt
            obtain ⟨ω2, S2, n2, v1, v2, v3, v4, v5, v6, v7⟩   := bhe_l (x := nI (nxN D O S.2.2.1 (pfM D O S.2.2.1 S.1 S.2.1.1).1.1)) hD hO hg n FU (stR D O S) S' τ2 (FU_gt (by omega)) hI2 t1 hrn
            rw [es] at v1
            have v1 : fX12_behindEnds 31 (nI (nxN D O S.2.2.1 (pfM D O S.2.2.1 S.1 S.2.1.1).1.1)) τ2 = some (nI S2.2.2.1, ω2) := v1
            obtain ⟨ω3, w1, w2, w3⟩ := ih n2 S2 S' ω2 (by omega) (by omega) v4 v2 v5 v7
            have fin : c_I (fX12_behindEnds 31 (nI (nxN D O S.2.2.1 (pfM D O S.2.2.1 S.1 S.2.1.1).1.1)) τ2) (fun x21 σ19 => fX12_runs_26 31 x f x21 σ19) = some ω3 := by rw [v1, c_I_s]; exact w1
            unfold fX12_runs_115
            rw [g_ar_n (by omega) (by decide), k0]
            by_cases c18 : o_k O S.2.2.1 = 18
            · have hs := holdsNow_r hD hO hg hlt hwf c18 t1'
              rw [if_neg (fun z => ((oc_21 hkd).2.2.2.mp z) c18), hs, c_I_s]
              have enx : nxN D O S.2.2.1 (pfM D O S.2.2.1 S.1 S.2.1.1).1.1 = if soB D O S.2.2.1 (pfM D O S.2.2.1 S.1 S.2.1.1).1.1 then S.2.2.1 + 1 else o_p O S.2.2.1 + 1 := by unfold nxN; rw [if_neg c22, if_pos c18]
              rw [enx] at fin
              cases hso : soB D O S.2.2.1 (pfM D O S.2.2.1 S.1 S.2.1.1).1.1
              · rw [hso] at fin
                have hso' : soB D O S.2.2.1 ((pfM D O S.2.2.1 S.1 S.2.1.1).1, ((pfM D O S.2.2.1 S.1 S.2.1.1).2, S.2.1.2.1 + (if o_k O S.2.2.1 = 11 then o_n O S.2.2.1 else 0), S.2.1.2.2.1 + 1, S.2.1.2.2.2), nxN D O S.2.2.1 (pfM D O S.2.2.1 S.1 S.2.1.1).1.1, fun o => if o_k O S.2.2.1 = 20 ∧ o = S.2.2.1 then o_n O S.2.2.1 else S.2.2.2 o).1.1 = false := hso
                rw [if_pos (show (if false = true then (1 : Int32) else 0) = 0 from rfl), ln_4, nI_ad, g_ar_n (by omega) (by decide), k6 (by omega), nI_s]
                exact ⟨ω3, fin, w2, (t2.tr v3).tr w3⟩
              · rw [hso] at fin
                rw [if_neg (show ¬ (if true = true then (1 : Int32) else 0) = 0 by decide), nI_s]
                exact ⟨ω3, fin, w2, (t2.tr v3).tr w3⟩
            · have enx : nxN D O S.2.2.1 (pfM D O S.2.2.1 S.1 S.2.1.1).1.1 = S.2.2.1 + 1 := by unfold nxN; rw [if_neg c22, if_neg c18]
              rw [enx] at fin
              rw [if_pos ((oc_21 hkd).2.2.2.mpr c18), nI_s]
              exact ⟨ω3, fin, w2, (t2.tr v3).tr w3⟩
          by_cases c20 : o_k O S.2.2.1 = 20
          · have hx : 1 ≤ o_n O S.2.2.1 := by rcases hrw with h | h | h | h | h | h | h | h | h | h <;> omega
            rw [if_pos ((oc_21 hkd).2.1.mpr c20), ln_1, nI_ad, g_ar_n (by omega) (by decide), g2 (by omega), nI_sub (by omega), s_ar_n (by omega) (by decide)]
            have h5 := r1.ro (i := S.2.2.1) (x := o_n O S.2.2.1)
            refine go _ ?_ (((RX.s (by omega) (by omega) (by omega)).tr r2).tr RX.r)
            rw [es]
            have er : (fun o => if o_k O S.2.2.1 = 20 ∧ o = S.2.2.1 then o_n O S.2.2.1 else S.2.2.2 o) = fun o => if o = S.2.2.1 then o_n O S.2.2.1 else S.2.2.2 o := by
              funext o
              by_cases eo : o = S.2.2.1
              · rw [if_pos ⟨c20, eo⟩, if_pos eo]
              · rw [if_neg (fun z => eo z.2), if_neg eo]
            rw [er]
            exact h5
          · rw [if_neg (fun z => c20 ((oc_21 hkd).2.1.mp z))]
            refine go _ ?_ ((RX.s (by omega) (by omega) (by omega)).tr r2)
            rw [es]
            have er : (fun o => if o_k O S.2.2.1 = 20 ∧ o = S.2.2.1 then o_n O S.2.2.1 else S.2.2.2 o) = S.2.2.2 := by funext o; rw [if_neg (fun z => c20 z.1)]
            rw [er]
            exact r1
      · have es : stR D O S = (S.1, (S.2.1.1, S.2.1.2.1, S.2.1.2.2.1, true), o_r O, S.2.2.2) := by
          unfold stR; rw [if_neg c2, if_neg c3]
        rw [if_pos (by omega), p_sc_s]
        cases n with
        | zero => cases hrn
        | succ m =>
          rw [rnR, if_pos (by rw [es]; exact Nat.le_refl _)] at hrn
          cases hrn
          refine ⟨_, rfl, ?_, RX.s (by omega) (by omega) (by omega)⟩
          rw [es]
          exact h'.cu
theorem runs_r {x : Nat} (hW : WFG G) (h : RepR σ G) (hg : o_g (GO G) = true) (hx : x < 65536) : ∃ τ, fX12_runs 31 (nI x) σ = some τ ∧ RcR τ (GD G) (GO G) (rnS (GD G) (GO G) (GV G) (g_d G) x) ∧ RX σ τ := by
  have hO := hW.o
  obtain ⟨hrn, hI, -⟩ := rn_ok (x := x) hW.d hO hg hW.v hW.2.2.2.2.2.2 hx
  obtain ⟨τ, e, wk, rb, qu, hc, -⟩ := bg1_r hW h
  unfold fX12_runs
  rw [e, c_V_s, p_sc_s, p_sc_s, p_sc_s, p_sc_s]
  obtain ⟨σ4, hσ4⟩ : ∃ σ4, σ4 = w_sc (w_sc (w_sc (w_sc τ 31 35 (nI x)) 31 36 0) 31 37 0) 31 38 0 := ⟨_, rfl⟩
  rw [← hσ4]
  have ho : OrR (m_ar σ 31 0) 0 (GO G) := h.2.2.2.1.2.2
  have hR : RcR σ4 (GD G) (GO G) (S0 (GV G) (g_d G) x) := by
    refine ⟨by rw [hσ4]; exact wk, ?_, ⟨v_qu (GV G), hW.v.2.2.2.2.2, by rw [hσ4]; exact qu⟩, ?_, ?_, fun o h60 => ?_⟩
    · rw [hσ4]
      exact ⟨by rw [m_sc_sc, if_neg (by decide), m_sc_sc, if_neg (by decide), m_sc_sc, if_neg (by decide), m_sc_sc, if_neg (by decide)]; exact hc.1, by rw [m_sc_sc, if_neg (by decide), m_sc_sc, if_neg (by decide), m_sc_sc, if_neg (by decide), m_sc_sc, if_neg (by decide)]; exact hc.2.1, hc.2.2⟩
    · rw [hσ4]
      exact ho.c0 hO (fun k hk => rb.2.2.2.1 k (by omega))
    · rw [hσ4]; exact ⟨rfl, rfl, rfl, rfl⟩
    · rw [hσ4]
      show m_ar τ 31 14 o = _
      rw [rb.2.2.1 14 (by decide) (by decide) (by decide)]; exact h.2.2.2.2.2.2 o h60
  have h0 : o_r (GO G) ≤ (S0 (GV G) (g_d G) x).2.2.1 ∨ o_k (GO G) (S0 (GV G) (g_d G) x).2.2.1 ≠ 21 := by
    show o_r (GO G) ≤ 0 ∨ o_k (GO G) 0 ≠ 21
    by_cases c : o_r (GO G) ≤ 0
    · exact Or.inl c
    · right
      intro e21
      have hrw := (hO hg).2.2.1 0 (by omega)
      rcases hrw with h | h | h | h | h | h | h | h | h | h <;> omega
  obtain ⟨ω, f, g1, g2⟩ := rn26 (x := nI x) hW.d hO hg FU 90001 (S0 (GV G) (g_d G) x) _ σ4 (FU_gt (by decide)) (by decide) hI hR hrn h0
  refine ⟨ω, f, g1, RX.tr ?_ g2⟩
  rw [hσ4]
  exact (((rb.x.tr (RX.s (by omega) (by omega) (by omega))).tr (RX.s (by omega) (by omega) (by omega))).tr (RX.s (by omega) (by omega) (by omega))).tr (RX.s (by omega) (by omega) (by omega))
theorem RepR.uR (t : Int32 × Int64 × Int64) (r : Option (Nat × (Nat → Int32) × (Nat → Int32))) (d : Nat → Nat) (hW : WFG G) (h1 : ∀ k, k = 10 ∨ k = 16 ∨ k = 17 ∨ k = 44 → m_sc τ 31 k = m_sc σ 31 k) (h2 : ∀ j, j = 2 ∨ j = 3 ∨ j = 5 → m_ar τ 31 j = m_ar σ 31 j) (h3 : m_la τ 31 4 = m_la σ 31 4) (h4 : ∀ i, i < 1960 → m_ar τ 31 0 i = m_ar σ 31 0 i) (h5 : ∀ i, i < 88 → m_la τ 31 1 i = m_la σ 31 1 i) (z0 : m_sc τ 31 2 = t.1 ∧ m_lg τ 31 3 = t.2.1 ∧ m_lg τ 31 4 = t.2.2) (hr : RnR τ r) (hd : ∀ o, o < 60 → m_ar τ 31 14 o = nI (d o - 1)) (q : RepR σ G) : RepR τ (suD t r d G) := by
  obtain ⟨⟨-, -, -, a4, a5⟩, q2, q3, q4, q5, q6, q7⟩ := q
  refine ⟨⟨z0.1, z0.2.1, z0.2.2, (h1 _ (by decide)).trans a4, (h1 _ (by decide)).trans a5⟩, fun t ht => ?_, ?_, q4.cg hW.2.2.1 (fun k _ hk => h4 k (by omega)) (fun k _ hk => h5 k (by omega)), ⟨(h1 _ (by decide)).trans q5.1, fun i hi => ?_⟩, hr, hd⟩
  · have := q2 t ht
    show TrR τ t (g_y G t)
    cases hy : g_y G t with
    | none => rw [hy] at this; show m_ar τ 31 3 t = -1; rw [h2 _ (by decide)]; exact this
    | some y => rw [hy] at this; refine ⟨?_, ?_, fun k hk => ?_⟩ <;> first | (rw [h2 _ (by decide)]; first | exact this.1 | exact this.2.1) | (rw [h3]; exact this.2.2 k hk)
  · rw [h1 _ (by decide), h2 _ (by decide)]; exact q3
  · have h3 : g_m G ≤ 3 := hW.2.2.2.1
    have hi' : i < g_m G := hi
    exact (q5.2 i hi).cg (hW.2.2.2.2.1 i hi) (fun k _ hk => h4 k (by omega)) (fun k _ hk => h5 k (by omega))
theorem RepR.r13 (hW : WFG G) (h : RepR σ G) (w : RX σ τ) (hd : ∀ o, o < 60 → m_ar τ 31 14 o = nI (S.2.2.2 o - 1)) : RepR τ (suD G.1 (g_r G) S.2.2.2 G) := by
  refine RepR.uR (σ := σ) _ _ _ hW (fun k hk => w.1 k (by omega)) (fun j hj => w.2.2.1 j (by omega) (by omega) (by omega) (by omega)) (w.2.2.2.2 4) (fun i hi => w.2.2.2.1 i (by omega)) (fun i _ => by rw [w.2.2.2.2 1]) ⟨(w.1 2 (by omega)).trans h.1.1, (w.2.1 3).trans h.1.2.1, (w.2.1 4).trans h.1.2.2.1⟩ ?_ hd h
  have hr := h.2.2.2.2.2.1
  cases e : g_r G with
  | none => rw [e] at hr; exact (w.1 42 (by omega)).trans hr
  | some r => rw [e] at hr; exact ⟨(w.1 42 (by omega)).trans hr.1, fun k hk => by rw [w.2.2.1 15 (by decide) (by decide) (by decide) (by decide)]; exact hr.2.1 k hk, fun k hk => by rw [w.2.2.1 16 (by decide) (by decide) (by decide) (by decide)]; exact hr.2.2 k hk⟩
theorem from0_0 {n : Nat} {m : Int64} {a : Int32} (hn : n < 2147483647) (hm : m.toInt = n) (ha : a < 0 ∨ (¬ a < 0 ∧ nI (n + 1) ≤ a)) : fX12_isFrom a.toInt64 (0 : Int64) m σ = some (0, σ) := by
  rw [isFrom_e, if_neg]
  rintro ⟨h1, h2⟩
  have e1 : (0 : Int64).toInt = 0 := rfl
  have e2 : (0 : Int32).toInt = 0 := rfl
  have e3 : (nI (n + 1)).toInt = (n + 1 : Nat) := by rw [nI_iI]; exact iI_t (by omega) (by omega)
  rcases ha with ha | ⟨-, ha⟩
  · rw [Int32.lt_iff_toInt_lt] at ha; omega
  · rw [Int32.le_iff_toInt_le] at ha; omega
theorem from0_1 {n q : Nat} {m : Int64} (hn : n < 2147483647) (hm : m.toInt = n) (hq : q ≤ n) : fX12_isFrom (nI q).toInt64 (0 : Int64) m σ = some (1, σ) := by
  rw [isFrom_e, if_pos]
  have e1 : (0 : Int64).toInt = 0 := rfl
  have e3 : (nI q).toInt = q := by rw [nI_iI]; exact iI_t (by omega) (by omega)
  omega
theorem ru103 {x : Int32} : ∀ (n i : Nat) (σ : Mm), i ≤ 8 → 8 - i < n → ∃ τ, fX12_run_103 31 x n (nI i) σ = c_I (fX12_gives 31 (m_sc σ 31 36) τ) (fun x30 σ28 => some (x30, σ28)) ∧ (∀ k, i ≤ k → k < 8 → m_ar τ 31 16 k = m_ar σ 31 0 (2470 + 6 * k + 3)) ∧ (∀ k, k < i → m_ar τ 31 16 k = m_ar σ 31 16 k) ∧ (∀ j, j ≠ 16 → m_ar τ 31 j = m_ar σ 31 j) ∧ (∀ k, m_sc τ 31 k = m_sc σ 31 k) ∧ (∀ k, m_lg τ 31 k = m_lg σ 31 k) ∧ ∀ j, m_la τ 31 j = m_la σ 31 j := by
  intro n
  induction n with
  | zero => intro i σ _ h; omega
  | succ n ih =>
    intro i σ hi hn
    rw [fX12_run_103, ln_8, ifle_n (by decide) (by omega)]
    by_cases c : 8 ≤ i
    · rw [if_pos c]
      exact ⟨σ, rfl, fun k h1 h2 => by omega, fun _ _ => rfl, fun _ _ => rfl, fun _ => rfl, fun _ => rfl, fun _ => rfl⟩
    · have e3 : fX12_vaneAt 31 (nI i) (3 : Int32) σ = _ := vaneAt_n (σ := σ) (v := i) (k := 3) (by omega) (by omega)
      rw [if_neg c, e3, c_I_s, s_ar_n (by omega) (by decide), nI_s]
      obtain ⟨τ, f, r1, r2, r3, r4, r5, r6⟩ := ih (i + 1) (w_ar σ 31 16 i (m_ar σ 31 0 (2470 + 6 * i + 3))) (by omega) (by omega)
      refine ⟨τ, f, fun k h1 h2 => ?_, fun k hk => ?_, fun j hj => ?_, r4, r5, r6⟩
      · by_cases e : k = i
        · rw [e, r2 i (by omega), m_ar_ar, if_pos ⟨rfl, rfl, rfl⟩]
        · rw [r1 k (by omega) h2, m_ar_ar, if_neg (by omega)]
      · rw [r2 k (by omega), m_ar_ar, if_neg (by omega)]
      · rw [r3 j hj]; funext k; rw [m_ar_ar, if_neg (fun z => hj z.2.1)]
theorem run_r (a : Int32) (hW : WFG G) (h : RepR σ G) : OR (fX12_run 31 a σ) (spRu a G) := by
  have hd := hW.d.1
  unfold fX12_run spRu
  rcases ix_cases (n := 10000) (by decide) a with ⟨ei, ha⟩ | ⟨x, hx, rfl, ei⟩ <;> rw [ei]
  · rw [from0_0 (n := 9999) (by decide) rfl ha, c_I_s, if_pos rfl]
    exact OR.non hW h _
  · dsimp only
    have ho : OrR (m_ar σ 31 0) 0 (GO G) := h.2.2.2.1.2.2
    rw [from0_1 (n := 9999) (by decide) rfl (by omega), c_I_s, if_neg (by decide), show g_ar σ 31 0 2950 (6 : Int32) = g_ar σ 31 0 2950 (nI 6) from rfl, g_ar_n (by decide) (by decide), show m_ar σ 31 0 6 = _ from ho.1]
    cases hg : o_g (GO G)
    · rw [if_pos (show (if false = true then nI (o_r (GO G)) else (-1 : Int32)) = -1 from rfl), if_neg (by decide)]
      exact OR.non hW h _
    · have hrr := (hW.o hg).2.1
      rw [if_neg (show ¬ (if true = true then nI (o_r (GO G)) else (-1 : Int32)) = -1 from nI_nem (by omega)), if_pos rfl]
      obtain ⟨τ, f, r1, r2⟩ := runs_r (x := x) hW h hg (by omega)
      obtain ⟨-, -, hI⟩ := rn_ok (x := x) hW.d hW.o hg hW.v hW.2.2.2.2.2.2 (by omega)
      generalize hS : rnS (GD G) (GO G) (GV G) (g_d G) x = S at *
      obtain ⟨hk, hc, hq, ho2, ⟨s1, s2, s3, s4⟩, hr⟩ := r1
      rw [f, c_V_s, r_sc_s, s2, show ∀ y, s_ar τ 31 15 5 (0 : Int32) y = s_ar τ 31 15 5 (nI 0) y from fun _ => rfl, s_ar_n (by decide) (by decide), r_sc_s]
      obtain ⟨τ1, h1⟩ : ∃ τ1, τ1 = w_ar τ 31 15 0 (nI S.2.1.2.1) := ⟨_, rfl⟩
      rw [← h1, show m_sc τ1 31 27 = nI S.1.2.1 by rw [h1]; exact hc.1, show ∀ y, s_ar τ1 31 15 5 (1 : Int32) y = s_ar τ1 31 15 5 (nI 1) y from fun _ => rfl, s_ar_n (by decide) (by decide), r_sc_s]
      obtain ⟨τ2, h2⟩ : ∃ τ2, τ2 = w_ar τ1 31 15 1 (nI S.1.2.1) := ⟨_, rfl⟩
      rw [← h2, show m_sc τ2 31 26 = nI S.1.2.2.1 by rw [h2, h1]; exact hc.2.1, show ∀ y, s_ar τ2 31 15 5 (2 : Int32) y = s_ar τ2 31 15 5 (nI 2) y from fun _ => rfl, s_ar_n (by decide) (by decide)]
      obtain ⟨τ3, h3⟩ : ∃ τ3, τ3 = w_ar τ2 31 15 2 (nI S.1.2.2.1) := ⟨_, rfl⟩
      have a3 : ∀ j, j ≠ 15 → m_ar τ3 31 j = m_ar τ 31 j := fun j hj => by
        rw [h3, h2, h1]; funext k; rw [m_ar_ar, if_neg (fun z => hj z.2.1), m_ar_ar, if_neg (fun z => hj z.2.1), m_ar_ar, if_neg (fun z => hj z.2.1)]
      have hk3 : WkR τ3 (GD G) S.1.1 := by unfold WkR; rw [a3 0 (by decide)]; exact hk
      rw [← h3, rightSet_r hW.d hI.1 hk3, c_I_s, show ∀ y, s_ar τ3 31 15 5 (3 : Int32) y = s_ar τ3 31 15 5 (nI 3) y from fun _ => rfl, s_ar_n (by decide) (by decide), r_sc_s]
      obtain ⟨τ4, h4⟩ : ∃ τ4, τ4 = w_ar τ3 31 15 3 (nI (bsN (rgB (GD G) S.1.1) (d_v (GD G)))) := ⟨_, rfl⟩
      rw [← h4, show m_sc τ4 31 38 = (if S.2.1.2.2.2 then 1 else 0) by rw [h4, h3, h2, h1]; exact s4, show ∀ y, s_ar τ4 31 15 5 (4 : Int32) y = s_ar τ4 31 15 5 (nI 4) y from fun _ => rfl, s_ar_n (by decide) (by decide)]
      obtain ⟨τ5, h5⟩ : ∃ τ5, τ5 = w_ar τ4 31 15 4 (if S.2.1.2.2.2 then 1 else 0) := ⟨_, rfl⟩
      have a5 : ∀ j, j ≠ 15 → m_ar τ5 31 j = m_ar τ 31 j := fun j hj => by
        rw [h5, h4, ← a3 j hj]; funext k; rw [m_ar_ar, if_neg (fun z => hj z.2.1), m_ar_ar, if_neg (fun z => hj z.2.1)]
      have T5 : ∀ k, k < 5 → m_ar τ5 31 15 k = teI (GD G) S k := fun k hk5 => by
        rw [h5, m_ar_ar, h4, m_ar_ar, h3, m_ar_ar, h2, m_ar_ar, h1, m_ar_ar]
        unfold teI
        have hk5 : k = 0 ∨ k = 1 ∨ k = 2 ∨ k = 3 ∨ k = 4 := by omega
        rcases hk5 with rfl | rfl | rfl | rfl | rfl <;> simp
      have s5 : ∀ k, m_sc τ5 31 k = m_sc τ 31 k := fun k => by rw [h5, h4, h3, h2, h1]; rfl
      have l5 : ∀ k, m_lg τ5 31 k = m_lg τ 31 k := fun k => by rw [h5, h4, h3, h2, h1]; rfl
      have q5 : ∀ j, m_la τ5 31 j = m_la τ 31 j := fun j => by rw [h5, h4, h3, h2, h1]; rfl
      rw [← h5, show g_ar τ5 31 0 2950 (1 : Int32) = g_ar τ5 31 0 2950 (nI 1) from rfl, g_ar_n (by decide) (by decide), show m_ar τ5 31 0 1 = nI (d_v (GD G)) by rw [a5 0 (by decide)]; exact hk.1.2.1, p_sc_s]
      obtain ⟨ω, f6, c1, c2, c3, c4, c5, c6⟩ := ru103 (x := nI x) FU 0 (w_sc τ5 31 42 (nI (d_v (GD G)))) (by omega) (FU_gt (by omega))
      refine Eq.mpr (congrArg (fun z => OR z _) f6) ?_
      rw [show m_sc (w_sc τ5 31 42 (nI (d_v (GD G)))) 31 36 = nI S.2.1.2.2.1 by rw [m_sc_sc, if_neg (by decide), s5]; exact s3]
      refine ⟨_, rfl, ?_⟩
      have sc : ∀ k, m_sc ω 31 k = if k = 42 then nI (d_v (GD G)) else m_sc τ 31 k := fun k => by
        rw [c4, m_sc_sc, s5]; simp
      refine RepR.uR (σ := σ) _ _ _ hW (fun k hk => ?_) (fun j hj => ?_) ?_ (fun i hi => ?_) (fun i _ => ?_) ⟨rfl, ?_, ?_⟩ ⟨?_, fun k hk => ?_, fun v hv => ?_⟩ (fun o h60 => ?_) h
      · rw [m_sc_sc, if_neg (by omega), sc, if_neg (by omega)]; exact r2.1 k (by omega)
      · show m_ar ω 31 j = _
        rw [c3 j (by omega)]
        show m_ar τ5 31 j = _
        rw [a5 j (by omega)]; exact r2.2.2.1 j (by omega) (by omega) (by omega) (by omega)
      · show m_la ω 31 4 = _
        rw [c6]
        show m_la τ5 31 4 = _
        rw [q5]; exact r2.2.2.2.2 4
      · show m_ar ω 31 0 i = _
        rw [c3 0 (by decide)]
        show m_ar τ5 31 0 i = _
        rw [a5 0 (by decide)]; exact r2.2.2.2.1 i (by omega)
      · show m_la ω 31 1 i = _
        rw [c6]
        show m_la τ5 31 1 i = _
        rw [q5, r2.2.2.2.2 1]
      · show m_lg ω 31 3 = _
        rw [c5]
        show m_lg τ5 31 3 = _
        rw [l5]; exact (r2.2.1 3).trans h.1.2.1
      · show m_lg ω 31 4 = _
        rw [c5]
        show m_lg τ5 31 4 = _
        rw [l5]; exact (r2.2.1 4).trans h.1.2.2.1
      · rw [m_sc_sc, if_neg (by decide), sc, if_pos rfl]
      · show m_ar ω 31 15 k = _
        rw [c3 15 (by decide)]
        exact T5 k hk
      · have hv : v < d_v (GD G) := hv
        show m_ar ω 31 16 v = _
        rw [c1 v (Nat.zero_le _) (by omega)]
        show m_ar τ5 31 0 (2470 + 6 * v + 3) = _
        rw [a5 0 (by decide)]; exact (hk.2.2.2.2.1 v hv).1
      · show m_ar ω 31 14 o = _
        rw [c3 14 (by decide)]
        show m_ar τ5 31 14 o = _
        rw [a5 14 (by decide)]; exact hr o h60
theorem od_lr {x N : Nat} (hW : WFG G) (hg : o_g (GO G) = true) (hv : v < d_v (GD G)) (hx : x + N ≤ 10000) (hN : N ≤ 20) : ∀ (n i : Nat) (σ : Mm), i ≤ N → N - i < n → RepR σ (suD G.1 (g_r G) (odF (GD G) (GO G) (GV G) v x i (g_d G)).2 G) → ∃ τ, fX12_odds_73 31 (nI v) (nI x) (nI N) n (nI (odF (GD G) (GO G) (GV G) v x i (g_d G)).1) (nI i) σ = c_I (fX12_tellsBy 31 (nI (odF (GD G) (GO G) (GV G) v x N (g_d G)).1).toInt64 (nI N).toInt64 τ) (fun x33 σ31 => b_z x33 σ31) ∧ RepR τ (suD G.1 (g_r G) (odF (GD G) (GO G) (GV G) v x N (g_d G)).2 G) := by
  intro n
  induction n with
  | zero => intro i σ _ h; omega
  | succ n ih =>
    intro i σ hi hn h
    rw [fX12_odds_73, ifle_n (by omega) (by omega)]
    by_cases c : N ≤ i
    · have : i = N := by omega
      subst this
      rw [if_pos c]
      exact ⟨σ, rfl, h⟩
    · have hob := od_b (v := v) (x := x) hW.d hW.o hg hW.v hW.2.2.2.2.2.2 i (by omega)
      have hW2 : WFG (suD G.1 (g_r G) (odF (GD G) (GO G) (GV G) v x i (g_d G)).2 G) := suD_w hW hob.2
      obtain ⟨τ, f, r1, r2⟩ := runs_r (x := x + i) hW2 h hg (by omega)
      obtain ⟨-, -, hI⟩ := rn_ok (x := x + i) hW.d hW.o hg hW.v hob.2 (by omega)
      have r1 : RcR τ (GD G) (GO G) (rnS (GD G) (GO G) (GV G) (odF (GD G) (GO G) (GV G) v x i (g_d G)).2 (x + i)) := r1
      have h2 := h.r13 hW2 r2 r1.2.2.2.2.2
      have h2 : RepR τ (suD G.1 (g_r G) (odF (GD G) (GO G) (GV G) v x (i + 1) (g_d G)).2 G) := h2
      obtain ⟨ω, f2, g1⟩ := ih (i + 1) τ (by omega) (by omega) h2
      rw [if_neg c, nI_ad, f, c_V_s, isRight_r hW.d hI.1 r1.1 hv, c_I_s, nI_s]
      refine ⟨ω, ?_, g1⟩
      rw [← f2, odF]
      cases rgB (GD G) (rnS (GD G) (GO G) (GV G) (odF (GD G) (GO G) (GV G) v x i (g_d G)).2 (x + i)).1.1 v
      · rw [if_pos (show (if false = true then (1 : Int32) else 0) = 0 from rfl), show nI (odF (GD G) (GO G) (GV G) v x i (g_d G)).1 + (0 : Int32) = nI ((odF (GD G) (GO G) (GV G) v x i (g_d G)).1 + 0) from nI_ad _ 0]; rfl
      · rw [if_neg (show ¬ (if true = true then (1 : Int32) else 0) = 0 by decide), nI_s]; rfl
theorem odds_r (a b c : Int32) (hW : WFG G) (h : RepR σ G) : OR (fX12_odds 31 a b c σ) (spOd a b c G) := by
  have hd := hW.d.1
  unfold fX12_odds spOd
  rcases ix_cases (n := d_v (GD G)) (by omega) a with ⟨ei, ha⟩ | ⟨v, hv, rfl, ei⟩ <;> rw [ei]
  · rw [isVane_r0 hW h ha, c_I_s, if_pos rfl]
    exact OR.rfs hW h (by decide)
  · rw [isVane_r1 hW h hv, c_I_s, if_neg (by decide)]
    dsimp only
    rcases ix_cases (n := 10000) (by decide) b with ⟨ej, hb⟩ | ⟨x, hx, rfl, ej⟩ <;> rw [ej]
    · rw [from0_0 (n := 9999) (by decide) rfl hb, c_I_s, if_pos rfl]
      exact OR.rfs hW h (by decide)
    · rw [from0_1 (n := 9999) (by decide) rfl (by omega), c_I_s, if_neg (by decide)]
      dsimp only
      rcases sx_cases (n := 20) (by decide) c with ⟨ek, hc⟩ | ⟨n, hn1, hn, rfl, ek⟩ <;> rw [ek]
      · rw [from1_0 (n := 20) (by decide) rfl hc, c_I_s, if_pos rfl]
        exact OR.rfs hW h (by decide)
      · have ho : OrR (m_ar σ 31 0) 0 (GO G) := h.2.2.2.1.2.2
        dsimp only
        rw [from1_1 (n := 20) (by decide) rfl hn1 hn, c_I_s, if_neg (by decide), nI_ad, show nI (x + n) - (1 : Int32) = nI (x + n - 1) from nI_sub (b := 1) (by omega), ln_9999, ifle_n (by omega) (by decide)]
        by_cases c1 : 10000 < x + n
        · rw [if_pos c1, if_neg (by omega)]; exact OR.rfs hW h (by decide)
        · rw [if_neg c1, if_pos (by omega), show g_ar σ 31 0 2950 (6 : Int32) = g_ar σ 31 0 2950 (nI 6) from rfl, g_ar_n (by decide) (by decide), show m_ar σ 31 0 6 = _ from ho.1]
          cases hg : o_g (GO G)
          · rw [if_pos (show (if false = true then nI (o_r (GO G)) else (-1 : Int32)) = -1 from rfl), if_neg (by decide)]
            exact OR.rfs hW h (by decide)
          · have hrr := (hW.o hg).2.1
            rw [if_neg (show ¬ (if true = true then nI (o_r (GO G)) else (-1 : Int32)) = -1 from nI_nem (by omega)), if_pos rfl]
            obtain ⟨τ, f, h2⟩ := od_lr (x := x) (N := n) hW hg hv (by omega) hn FU 0 σ (by omega) (FU_gt (by omega)) h
            have hob := od_b (v := v) (x := x) hW.d hW.o hg hW.v hW.2.2.2.2.2.2 n (by omega)
            refine Eq.mpr (congrArg (fun z => OR z _) f) ?_
            rw [nI_l (by omega), nI_l (by omega), frac_r (by omega) hn1 (by omega) (Or.inl rfl), c_I_s]
            refine ⟨_, rfl, ?_⟩
            have hW2 : WFG (suD G.1 (g_r G) (odF (GD G) (GO G) (GV G) v x n (g_d G)).2 G) := suD_w hW hob.2
            have := RepR.upd (G := suD G.1 (g_r G) (odF (GD G) (GO G) (GV G) v x n (g_d G)).2 G) (σ := τ) (τ := w_sc (w_lg (w_lg τ 31 3 (lN (odF (GD G) (GO G) (GV G) v x n (g_d G)).1 / lN (Nat.gcd (odF (GD G) (GO G) (GV G) v x n (g_d G)).1 n))) 31 4 (lN n / lN (Nat.gcd (odF (GD G) (GO G) (GV G) v x n (g_d G)).1 n))) 31 2 0) (0, lN (odF (GD G) (GO G) (GV G) v x n (g_d G)).1 / lN (Nat.gcd (odF (GD G) (GO G) (GV G) v x n (g_d G)).1 n), lN n / lN (Nat.gcd (odF (GD G) (GO G) (GV G) v x n (g_d G)).1 n)) hW2 ⟨fun k hk => (by rw [m_sc_sc, if_neg (by omega)]; rfl), fun _ _ => rfl, rfl, fun _ _ => rfl, fun _ _ => rfl⟩ ⟨rfl, rfl, rfl⟩ h2
            exact this

theorem run_s (a : Int32) (σ : Mm) (h : Rel σ) : ok (fX11_run 0 a σ) (fun q => ok (fX12_run 31 a q.2) (fun q' => q'.1 = q.1 ∧ Rel q'.2)) :=
  simS (fc := fX11_run 0 a) (fr := fX12_run 31 a) (ks := [0, 1, 2, 3, 4, 5, 6, 7, 8, 9, 10, 11]) (by decide) (spRu a) (fun σ G => run_c a) (fun σ G => run_r a) (fun G hW => run_w a hW) (fun σ x τ ee => F_sub (frX11_run 0 a (by decide) σ ee) (by decide)) (fun σ x τ ee => F_sub (frX12_run 31 a (by decide) σ ee) (by decide)) σ h
theorem odds_s (a : Int32) (b : Int32) (c : Int32) (σ : Mm) (h : Rel σ) : ok (fX11_odds 0 a b c σ) (fun q => ok (fX12_odds 31 a b c q.2) (fun q' => q'.1 = q.1 ∧ Rel q'.2)) :=
  simS (fc := fX11_odds 0 a b c) (fr := fX12_odds 31 a b c) (ks := [0, 1, 2, 3, 4, 5, 6, 7, 8, 9, 10, 11]) (by decide) (spOd a b c) (fun σ G => odds_c a b c) (fun σ G => odds_r a b c) (fun G hW => odds_w a b c hW) (fun σ x τ ee => F_sub (frX11_odds 0 a b c (by decide) σ ee) (by decide)) (fun σ x τ ee => F_sub (frX12_odds 31 a b c (by decide) σ ee) (by decide)) σ h
end O
