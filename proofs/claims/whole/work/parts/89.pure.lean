/-! PURE 30: wrong, holding, heaviest -/
theorem nd_lt {a b n : Nat} (h : a < 2 ^ n) : ndiff a b < 2 ^ n := by
  apply Nat.lt_pow_two_of_testBit
  intro i hi
  rw [ndiff_bit, Nat.testBit_lt_two_pow (Nat.lt_of_lt_of_le h (Nat.pow_le_pow_right (by decide) hi))]
  rfl
def wrN (D : PD) (s : Nat) : Nat → MTq → Nat
  | 0, _ => 0
  | n + 1, M => pcN (ndiff s (bsN (rgB D (qtM D M).1) (d_v D))) 16 + wrN D s n (qtM D M)
/-- another set of those that are held; of those that are lifted -/
def vH (V : SD) (h : Nat) : SD := (V.1, V.2.1, V.2.2.1, (v_li V, h), v_qu V)
def vL (V : SD) (l : Nat) : SD := (V.1, V.2.1, V.2.2.1, (l, v_he V), v_qu V)
section O
variable {σ τ : Mm} {v : Nat} {D : PD} {V : SD} {g : Nat → Int} {C : CT} {M : MTq} {G : GS}
theorem pow8 {n : Nat} (h : n ≤ 8) : 2 ^ n ≤ 256 := Nat.pow_le_pow_right (n := 2) (by decide) h
theorem wr_still {s : Nat} (h : (qtM D M).2.1 = M.2.1) : ∀ n, wrN D s n M = n * pcN (ndiff s (bsN (rgB D M.1) (d_v D))) 16 := by
  intro n
  induction n with
  | zero => rw [wrN, Nat.zero_mul]
  | succ n ih => rw [wrN, qt_still h, ih, Nat.succ_mul, Nat.add_comm]
theorem wq_l {p s : Nat} {S : Nat} {sk : Int32} (hD : WFD D) (hS : S < 2 ^ d_v D) {Q : Nat} (hQ : Q < 1000) : ∀ (n i B : Nat) (M : MTq) (σ : Mm), i ≤ Q → Q - i < n → WFV D M.1 → WkC σ p s D M.1 → CtC σ sk M.2 → M.2.2.1 + 64 * (Q - i) < 400000000 → M.2.1 + 64 * (Q - i) < 400000000 → ∃ τ, fX10_wrongQuarters_5 10 (nI S) (nI Q) n (nI B) (nI i) σ = some (nI (B + wrN D S (Q - i) M), τ) ∧ WGs s σ τ := by
  intro n
  induction n with
  | zero => intro i B M σ _ h; omega
  | succ n ih =>
    intro i B M σ hi hn hV h hc hC1 hC2
    have hd := hD.1
    have hp8 := pow8 hd.2.1
    rw [fX10_wrongQuarters_5, ifle_n (by omega) (by omega)]
    by_cases c : Q ≤ i
    · have : i = Q := by omega
      subst this
      rw [if_pos c, Nat.sub_self]
      exact ⟨σ, rfl, fun _ _ _ => BU.rf⟩
    · obtain ⟨τ, e, r1, r2, r3, r4⟩ := goOn_c (Q := 1) (sk := sk) hD (by decide) hV h hc (by omega) (by omega)
      have hle := qtM_le (M := M) hD
      have eq : qnM D 1 M = qtM D M := rfl
      rw [eq] at r1 r2 r3
      have hnd : ndiff S (bsN (rgB D (qtM D M).1) (d_v D)) < 65536 := Nat.lt_of_lt_of_le (nd_lt hS) (by omega)
      have hw : ∀ s0, fX10_wrongQuarters_24 10 (nI S) (nI Q) (fX10_wrongQuarters_5 10 (nI S) (nI Q) n) (nI B) (nI i) s0 τ = if s0 = 0 then fX10_wrongQuarters_5 10 (nI S) (nI Q) n (nI (B + pcN (ndiff S (bsN (rgB D (qtM D M).1) (d_v D))) 16)) (nI (i + 1)) τ else some (nI (B + pcN (ndiff S (bsN (rgB D (qtM D M).1) (d_v D))) 16 * (Q - i)), τ) := by
        intro s0
        unfold fX10_wrongQuarters_24
        rw [rightSet_c hD r1 r2, c_I_s, andn_n, bc_e hnd, c_I_s, nI_ad, nI_s, nI_sub (by omega), nI_mul, nI_ad]
      rw [if_neg c, show (1 : Int32) = nI 1 from rfl, e, c_I_s, show nI 1 = (1 : Int32) from rfl, hw, hw, show Q - i = (Q - (i + 1)) + 1 by omega, wrN]
      by_cases c2 : (qtM D M).2.1 = M.2.1
      · have ec : cqN D 1 M = 0 := by rw [cqN, if_pos c2]
        rw [ec, if_pos (show nI 0 = 0 from rfl), if_neg (by decide)]
        refine ⟨τ, ?_, r4⟩
        rw [qt_still c2, wr_still c2, Nat.mul_succ, Nat.mul_comm]
        congr 3
        omega
      · have ec : cqN D 1 M = 1 := by rw [cqN, if_neg c2]; rfl
        rw [ec, if_neg (show ¬ nI 1 = 0 by decide), if_pos rfl]
        obtain ⟨ω, f, w⟩ := ih (i + 1) (B + pcN (ndiff S (bsN (rgB D (qtM D M).1) (d_v D))) 16) (qtM D M) τ (by omega) (by omega) r1 r2 r3 (by omega) (by omega)
        refine ⟨ω, ?_, fun q h1 h2 => (r4 q h1 h2).tr (w q h1 h2)⟩
        rw [f, Nat.add_assoc]
theorem wrongQuarters_c {p s : Nat} {S : Nat} {sk : Int32} {Q : Nat} (hD : WFD D) (hS : S < 2 ^ d_v D) (hQ : Q ≤ 400) (hV : WFV D V) (h : WkC σ p s D V) (hc : CtC σ sk C0) : ∃ τ, fX10_wrongQuarters 10 (nI S) (nI Q) σ = some (nI (wrN D S Q (V, C0)), τ) ∧ WGs s σ τ := by
  obtain ⟨τ, e, w⟩ := wq_l (p := p) (s := s) (sk := sk) hD hS (Q := Q) (by omega) FU 0 0 (V, C0) σ (by omega) (FU_gt (by omega)) hV h hc (by show 0 + 64 * (Q - 0) < _; omega) (by show 0 + 64 * (Q - 0) < _; omega)
  rw [Nat.zero_add, Nat.sub_zero] at e
  exact ⟨τ, e, w⟩
theorem wo28 {x S : Nat} {a1 a2 v4 v5 : Int32} {K : Int32 → Int32 → Mm → Option (Int32 × Mm)} (hD : WFD D) (h : WkR σ D V) (hx : x < 2147483648) (ha : a1 &&& (v5 ^^^ (-1 : Int32)) = nI x) : ∀ (n i : Nat), i ≤ d_v D → d_v D - i < n → fX12_wrongOf_28 31 a1 a2 K n (nI (S + pcN x i)) v4 v5 (nI i) σ = K (nI (S + pcN x (d_v D))) (v4 + 1) σ := by
  intro n
  induction n with
  | zero => intro i _ h; omega
  | succ n ih =>
    intro i hi hn
    have hd := hD.1
    rw [fX12_wrongOf_28, show g_ar σ 31 0 2950 (1 : Int32) = g_ar σ 31 0 2950 (nI 1) from rfl, g_ar_n (by decide) (by decide), h.1.2.1, ifle_n (by omega) (by omega)]
    by_cases c : d_v D ≤ i
    · have : i = d_v D := by omega
      subst this
      rw [if_pos c]
    · have ih := ih (i + 1) (by omega) (by omega)
      rw [if_neg c, ha, has_n hx (by omega), nI_s]
      rw [pcN] at ih
      cases hb : x.testBit i <;> rw [hb] at ih
      · rw [if_neg (by decide)] at ih ⊢
        rw [show (0 : Int32) = nI 0 from rfl, nI_ad]
        exact ih
      · rw [if_pos rfl] at ih ⊢
        rw [nI_s, Nat.add_assoc]
        exact ih
theorem p_bz_y {α : Type} {o k : Nat} {y : Int32} {K : Mm → Option α} (hy : y = 0 ∨ y = 1) : p_bz τ o k y K = K (w_sc τ o k y) := by
  unfold p_bz; rw [if_pos hy]
theorem wo_l {S : Nat} (hD : WFD D) (hS : S < 2 ^ d_v D) {Q : Nat} (hQ : Q < 1000) : ∀ (n i B q : Nat) (M : MTq) (σ : Mm), i ≤ Q → Q - i < n → WFV D M.1 → WkR σ D M.1 → CtR σ M.2 → M.2.2.1 + 64 * (Q - i) < 400000000 → m_ar σ 31 0 2453 = nI q → q ≤ 9999 → ∃ τ, fX12_wrongOf_5 31 (nI S) (nI Q) n (nI B) (nI i) σ = some (nI (B + wrN D S (Q - i) M), τ) ∧ RT σ τ := by
  intro n
  induction n with
  | zero => intro i B q M σ _ h; omega
  | succ n ih =>
    intro i B q M σ hi hn hV h hc hC hq hq9
    have hd := hD.1
    have hp8 := pow8 hd.2.1
    rw [fX12_wrongOf_5, ifle_n (by omega) (by omega)]
    by_cases c : Q ≤ i
    · have : i = Q := by omega
      subst this
      rw [if_pos c, Nat.sub_self]
      exact ⟨σ, rfl, RT.rf⟩
    · obtain ⟨τ, e, r1, r2, r3, r4, r5, r6⟩ := quarterGoes_r hD hV h hc (by omega) hq hq9
      have hle := qtM_le (M := M) hD
      have hnd : ndiff S (bsN (rgB D (qtM D M).1) (d_v D)) < 2 ^ d_v D := nd_lt hS
      rw [if_neg c, e, c_I_s]
      obtain ⟨y, hy⟩ : ∃ y : Int32, y = (if (fsF (dvB D M.1) (d_v D)).isNone = true then 0 else 1) := ⟨_, rfl⟩
      rw [← hy]
      have hy2 : y = 0 ∨ y = 1 := by rw [hy]; cases (fsF (dvB D M.1) (d_v D)).isNone <;> simp
      have r2' : WkR (w_sc τ 31 29 y) D (qtM D M).1 := r2
      rw [p_bz_y hy2, rightSet_r hD r1 r2', c_I_s]
      have e28 := wo28 (a1 := nI S) (a2 := nI Q) (v4 := nI i) (v5 := nI (bsN (rgB D (qtM D M).1) (d_v D))) (S := B) (K := fX12_wrongOf_5 31 (nI S) (nI Q) n) hD r2' (by omega) (andn_n _ _) FU 0 (by omega) (FU_gt (by omega))
      rw [show B + pcN (ndiff S (bsN (rgB D (qtM D M).1) (d_v D))) 0 = B from rfl] at e28
      rw [show (0 : Int32) = nI 0 from rfl, e28, nI_s, ← pc_ext hnd 16 (by omega), show Q - i = (Q - (i + 1)) + 1 by omega, wrN]
      obtain ⟨ω, f, w⟩ := ih (i + 1) (B + pcN (ndiff S (bsN (rgB D (qtM D M).1) (d_v D))) 16) (min (q + 1) 9999) (qtM D M) (w_sc τ 31 29 y) (by omega) (by omega) r1 r2' ⟨by rw [m_sc_sc, if_neg (by decide)]; exact r3.1, by rw [m_sc_sc, if_neg (by decide)]; exact r3.2.1, r3.2.2⟩ (by omega) r6 (Nat.min_le_right _ _)
      refine ⟨ω, ?_, (r4.tr (RT.s (by omega) (by omega))).tr w⟩
      rw [f, Nat.add_assoc]
theorem wrongOf_r {S Q q : Nat} (hD : WFD D) (hS : S < 2 ^ d_v D) (hQ : Q ≤ 400) (hV : WFV D V) (h : WkR σ D V) (hc : CtR σ C0) (hq : m_ar σ 31 0 2453 = nI q) (hq9 : q ≤ 9999) : ∃ τ, fX12_wrongOf 31 (nI S) (nI Q) σ = some (nI (wrN D S Q (V, C0)), τ) ∧ RT σ τ := by
  obtain ⟨τ, e, w⟩ := wo_l hD hS (Q := Q) (by omega) FU 0 0 q (V, C0) σ (by omega) (FU_gt (by omega)) hV h hc (by show 0 + 64 * (Q - 0) < _; omega) hq hq9
  rw [Nat.zero_add, Nat.sub_zero] at e
  exact ⟨τ, e, w⟩
def spWr (a b : Int32) (G : GS) : Int32 × GS := match ix (d_v (GD G)) a with
  | none => (-1, stq 1 G)
  | some v => match sx 400 b with
    | none => (-1, stq 1 G)
    | some q => (nI (wrN (GD G) (2 ^ v) q (GV G, C0)), stq 0 G)
theorem wrong_c (a b : Int32) (hW : WFG G) (h : RepC σ G) : OC (fX11_wrong 0 a b σ) (spWr a b G) := by
  have hd := hW.d.1
  unfold fX11_wrong spWr
  rcases ix_cases (n := d_v (GD G)) (by omega) a with ⟨ei, ha⟩ | ⟨v, hv, rfl, ei⟩ <;> rw [ei]
  · rw [isVane_c0 hW h ha, c_I_s, if_pos rfl]
    exact OC.non hW h _
  · rw [isVane_c1 hW h hv, c_I_s, if_neg (by decide)]
    dsimp only
    rcases sx_cases (n := 400) (by decide) b with ⟨ej, hb⟩ | ⟨q, hq1, hq, rfl, ej⟩ <;> rw [ej]
    · rw [isSpan_c0 hb, c_I_s, if_pos rfl]
      exact OC.non hW h _
    · rw [isSpan_c1 hq1 hq, c_I_s, if_neg (by decide)]
      dsimp only
      obtain ⟨τ, p, e, wk, hc, bu, e4⟩ := look_c hW h
      rw [e, c_V_s]
      obtain ⟨ω, f, r4⟩ := wrongQuarters_c (V := GV G) hW.d (Nat.pow_lt_pow_right (a := 2) (by decide) hv) hq hW.v wk hc
      have h2 : RepC ω G := h.cm hW (fun q _ h1 h2 => (bu q h1 h2).tr (r4 q h1 h2))
      rw [show tg 0 14 = 10 from rfl, sh1 (by omega), f, c_I_s]
      exact OC.ans hW h2 _
theorem wrong_r (a b : Int32) (hW : WFG G) (h : RepR σ G) : OR (fX12_wrong 31 a b σ) (spWr a b G) := by
  have hd := hW.d.1
  unfold fX12_wrong spWr
  rcases ix_cases (n := d_v (GD G)) (by omega) a with ⟨ei, ha⟩ | ⟨v, hv, rfl, ei⟩ <;> rw [ei]
  · rw [isVane_r0 hW h ha, c_I_s, if_pos rfl]
    exact OR.non hW h _
  · rw [isVane_r1 hW h hv, c_I_s, if_neg (by decide)]
    dsimp only
    rcases sx_cases (n := 400) (by decide) b with ⟨ej, hb⟩ | ⟨q, hq1, hq, rfl, ej⟩ <;> rw [ej]
    · rw [isSpan_r0 hb, c_I_s, if_pos rfl]
      exact OR.non hW h _
    · rw [isSpan_r1 hq1 hq, c_I_s, if_neg (by decide)]
      dsimp only
      obtain ⟨τ, e, wk, rb, qu, hc, -⟩ := bg1_r hW h
      rw [e, c_V_s]
      obtain ⟨ω, f, r4⟩ := wrongOf_r (V := GV G) hW.d (Nat.pow_lt_pow_right (a := 2) (by decide) hv) hq hW.v wk hc qu hW.v.2.2.2.2.2
      have h2 : RepR ω G := h.rb hW (rb.tr r4.b)
      rw [sh1 (by omega), f, c_I_s]
      exact OR.ans hW h2 _
theorem WkR.chg (h : WkR σ D V) (hD : WFD D) (V' : SD) (e1 : V'.2.1 = V.2.1) (e2 : V'.2.2.1 = V.2.2.1) (hA : ∀ k, k < 2453 ∨ 2470 ≤ k → m_ar τ 31 0 k = m_ar σ 31 0 k) (hw : ∀ q, q < 4 → m_ar τ 31 0 (2460 + 2 * q) = nI (v_fr V' q) ∧ m_ar τ 31 0 (2460 + 2 * q + 1) = nI (v_sg V' q)) (hl : m_ar τ 31 0 2454 = nI (v_li V')) (hh : m_ar τ 31 0 2455 = nI (v_he V')) : WkR τ D V' := by
  obtain ⟨h1, h2, h3, h4, h5, h6, h7⟩ := h
  refine ⟨⟨?_, ?_, ?_⟩, fun v hv => ⟨?_, ?_, ?_⟩, fun s hs => ⟨?_, ?_, ?_, ?_⟩, hw, fun v hv => ⟨?_, ?_, ?_⟩, fun k hk => ?_, hl, hh⟩
  · rw [hA _ (by omega)]; exact h1.1
  · rw [hA _ (by omega)]; exact h1.2.1
  · rw [hA _ (by omega)]; exact h1.2.2
  · rw [hA _ (by omega)]; exact (h2 v hv).1
  · rw [hA _ (by omega)]; exact (h2 v hv).2.1
  · rw [hA _ (by omega)]; exact (h2 v hv).2.2
  · rw [hA _ (by omega)]; exact (h3 s hs).1
  · rw [hA _ (by omega)]; exact (h3 s hs).2.1
  · rw [hA _ (by omega)]; exact (h3 s hs).2.2.1
  · rw [hA _ (by omega)]; exact (h3 s hs).2.2.2
  · unfold v_pt; rw [e1, hA _ (by omega)]; exact (h5 v hv).1
  · unfold v_tn; rw [e1, hA _ (by omega)]; exact (h5 v hv).2.1
  · unfold v_sk; rw [e1, hA _ (by omega)]; exact (h5 v hv).2.2
  · unfold v_py; rw [e2, hA _ (by omega)]; exact h6 k hk
theorem WkR.vH {h : Nat} (w : WkR σ D V) (hD : WFD D) : WkR (w_ar σ 31 0 2455 (nI h)) D (vH V h) :=
  w.chg hD _ rfl rfl (fun k hk => by rw [m_ar_ar, if_neg (by omega)]) (fun q hq => by rw [m_ar_ar, if_neg (by omega), m_ar_ar, if_neg (by omega)]; exact w.2.2.2.1 q hq) (by rw [m_ar_ar, if_neg (by omega)]; exact w.2.2.2.2.2.2.1) (by rw [m_ar_ar, if_pos ⟨rfl, rfl, rfl⟩]; rfl)
theorem WkR.vL {l : Nat} (w : WkR σ D V) (hD : WFD D) : WkR (w_ar σ 31 0 2454 (nI l)) D (vL V l) :=
  w.chg hD _ rfl rfl (fun k hk => by rw [m_ar_ar, if_neg (by omega)]) (fun q hq => by rw [m_ar_ar, if_neg (by omega), m_ar_ar, if_neg (by omega)]; exact w.2.2.2.1 q hq) (by rw [m_ar_ar, if_pos ⟨rfl, rfl, rfl⟩]; rfl) (by rw [m_ar_ar, if_neg (by omega)]; exact w.2.2.2.2.2.2.2)
theorem WkC.vH {p s h : Nat} (w : WkC σ p s D V) : WkC (w_sc σ s 7 (nI h)) p s D (vH V h) := by
  obtain ⟨⟨e1, e2, k1, k2⟩, hp, hs, hw⟩ := w
  have n3 : p ≠ s := fun e => by rw [e, k2] at k1; revert k1; decide
  exact ⟨⟨e1, e2, k1, k2⟩, hp.bu (BU.sc n3), ⟨hs.1, hs.2.1, hs.2.2.1, (by rw [m_sc_sc, if_neg (by omega)]; exact hs.2.2.2.1), (by rw [m_sc_sc, if_pos ⟨rfl, rfl⟩]; rfl), (by rw [m_sc_sc, if_neg (by omega)]; exact hs.2.2.2.2.2)⟩, hw⟩
theorem WkC.vL {p s l : Nat} (w : WkC σ p s D V) : WkC (w_sc σ s 6 (nI l)) p s D (vL V l) := by
  obtain ⟨⟨e1, e2, k1, k2⟩, hp, hs, hw⟩ := w
  have n3 : p ≠ s := fun e => by rw [e, k2] at k1; revert k1; decide
  exact ⟨⟨e1, e2, k1, k2⟩, hp.bu (BU.sc n3), ⟨hs.1, hs.2.1, hs.2.2.1, (by rw [m_sc_sc, if_pos ⟨rfl, rfl⟩]; rfl), (by rw [m_sc_sc, if_neg (by omega)]; exact hs.2.2.2.2.1), (by rw [m_sc_sc, if_neg (by omega)]; exact hs.2.2.2.2.2)⟩, hw⟩
theorem CtC.sc {s k : Nat} {x sk : Int32} (hs : s ≠ 10) (h : CtC σ sk C) : CtC (w_sc σ s k x) sk C := by
  unfold CtC
  rw [m_sc_sc, if_neg (by omega), m_sc_sc, if_neg (by omega), m_sc_sc, if_neg (by omega), m_sc_sc, if_neg (by omega)]
  exact h
theorem CtR.w0 {k : Nat} {x : Int32} (h : CtR σ C) : CtR (w_ar σ 31 0 k x) C := ⟨h.1, h.2.1, fun i h1 h2 => by rw [m_ar_ar, if_neg (by omega)]; exact h.2.2 i h1 h2⟩
theorem WFV.vH {h : Nat} (hV : WFV D V) (hh : h < 2 ^ d_v D) : WFV D (vH V h) := ⟨hV.1, hV.2.1, hV.2.2.1, hV.2.2.2.1, hh, hV.2.2.2.2.2⟩
theorem WFV.vL {l : Nat} (hV : WFV D V) (hl : l < 2 ^ d_s D) : WFV D (vL V l) := ⟨hV.1, hV.2.1, hV.2.2.1, hl, hV.2.2.2.2⟩
theorem or_lt {a v n : Nat} (h : a < 2 ^ n) (hv : v < n) : a ||| 2 ^ v < 2 ^ n := Nat.or_lt_two_pow h (Nat.pow_lt_pow_right (a := 2) (by decide) hv)
def spHo (a b : Int32) (G : GS) : Int32 × GS := match ix (d_v (GD G)) a with
  | none => (-1, stq 1 G)
  | some v => match sx 400 b with
    | none => (-1, stq 1 G)
    | some q => (nI (wrN (GD G) (ndiff (2 ^ d_v (GD G) - 1) (2 ^ v)) q (vH (GV G) (v_he (GV G) ||| 2 ^ v), C0)) - nI (wrN (GD G) (ndiff (2 ^ d_v (GD G) - 1) (2 ^ v)) q (GV G, C0)), stq 0 G)
theorem holding_c (a b : Int32) (hW : WFG G) (h : RepC σ G) : OC (fX11_holding 0 a b σ) (spHo a b G) := by
  have hd := hW.d.1
  unfold fX11_holding spHo
  rcases ix_cases (n := d_v (GD G)) (by omega) a with ⟨ei, ha⟩ | ⟨v, hv, rfl, ei⟩ <;> rw [ei]
  · rw [isVane_c0 hW h ha, c_I_s, if_pos rfl]
    exact OC.non hW h _
  · rw [isVane_c1 hW h hv, c_I_s, if_neg (by decide)]
    dsimp only
    rcases sx_cases (n := 400) (by decide) b with ⟨ej, hb⟩ | ⟨q, hq1, hq, rfl, ej⟩ <;> rw [ej]
    · rw [isSpan_c0 hb, c_I_s, if_pos rfl]
      exact OC.non hW h _
    · rw [isSpan_c1 hq1 hq, c_I_s, if_neg (by decide)]
      dsimp only
      obtain ⟨p0, hp8, e0, hk0, hp0⟩ := h.pl
      have hS : ndiff (2 ^ d_v (GD G) - 1) (2 ^ v) < 2 ^ d_v (GD G) := nd_lt (by have := Nat.one_le_two_pow (n := d_v (GD G)); omega)
      unfold fX11_allVanes
      rw [show tg 0 9 = 4 from rfl, r_rf_e e0 hk0, r_sc_s, hp0.1.2.1, sh1 (by omega), c_I_s, show (1 : Int32) = nI 1 from rfl, nI_sub Nat.one_le_two_pow, with_e (by omega), c_I_s, show wiN (2 ^ d_v (GD G) - 1) v (decide ((0 : Int32) ≠ 0)) = ndiff (2 ^ d_v (GD G) - 1) (2 ^ v) from rfl]
      obtain ⟨τ, p, e, wk, hc, bu, e4⟩ := look_c hW h
      rw [e, c_V_s]
      obtain ⟨ω, f, r4⟩ := wrongQuarters_c (V := GV G) hW.d hS hq hW.v wk hc
      have h2 : RepC ω G := h.cm hW (fun q _ h1 h2 => (bu q h1 h2).tr (r4 q h1 h2))
      rw [show tg 0 14 = 10 from rfl, f, c_I_s]
      obtain ⟨τ2, p2, e2, wk2, hc2, bu2, e42⟩ := look_c hW h2
      rw [e2, c_V_s, show tg 0 15 = 11 from rfl, r_sc_s, wk2.2.2.1.2.2.2.2.1, with_e (by omega), c_I_s, show wiN (v_he (GV G)) v (decide (nI 1 ≠ 0)) = v_he (GV G) ||| 2 ^ v from rfl, p_sc_s]
      obtain ⟨π, f3, r5⟩ := wrongQuarters_c (V := vH (GV G) (v_he (GV G) ||| 2 ^ v)) hW.d hS hq (hW.v.vH (or_lt hW.v.2.2.2.2.1 hv)) wk2.vH (hc2.sc (s := 11) (k := 7) (x := nI (v_he (GV G) ||| 2 ^ v)) (by decide))
      have h3 : RepC π G := h2.cm hW (fun q _ h1 h2 => ((bu2 q h1 h2).tr (BU.sc h2)).tr (r5 q h1 h2))
      rw [f3, c_I_s]
      exact OC.ans hW h3 _
theorem holding_r (a b : Int32) (hW : WFG G) (h : RepR σ G) : OR (fX12_holding 31 a b σ) (spHo a b G) := by
  have hd := hW.d.1
  unfold fX12_holding spHo
  rcases ix_cases (n := d_v (GD G)) (by omega) a with ⟨ei, ha⟩ | ⟨v, hv, rfl, ei⟩ <;> rw [ei]
  · rw [isVane_r0 hW h ha, c_I_s, if_pos rfl]
    exact OR.non hW h _
  · rw [isVane_r1 hW h hv, c_I_s, if_neg (by decide)]
    dsimp only
    rcases sx_cases (n := 400) (by decide) b with ⟨ej, hb⟩ | ⟨q, hq1, hq, rfl, ej⟩ <;> rw [ej]
    · rw [isSpan_r0 hb, c_I_s, if_pos rfl]
      exact OR.non hW h _
    · rw [isSpan_r1 hq1 hq, c_I_s, if_neg (by decide)]
      dsimp only
      have hS : ndiff (2 ^ d_v (GD G) - 1) (2 ^ v) < 2 ^ d_v (GD G) := nd_lt (by have := Nat.one_le_two_pow (n := d_v (GD G)); omega)
      rw [show g_ar σ 31 0 2950 (1 : Int32) = g_ar σ 31 0 2950 (nI 1) from rfl, g_ar_n (by decide) (by decide), show m_ar σ 31 0 1 = nI (d_v (GD G)) from h.pl.1.2.1, sh1 (by omega), sh1 (by omega), show (1 : Int32) = nI 1 from rfl, nI_sub Nat.one_le_two_pow, show nI (2 ^ d_v (GD G) - 1) &&& (nI (2 ^ v) ^^^ -nI 1) = nI (ndiff (2 ^ d_v (GD G) - 1) (2 ^ v)) from andn_n _ _]
      obtain ⟨τ, e, wk, rb, qu, hc, -⟩ := bg1_r hW h
      rw [e, c_V_s]
      obtain ⟨ω, f, r4⟩ := wrongOf_r (V := GV G) hW.d hS hq hW.v wk hc qu hW.v.2.2.2.2.2
      have h2 : RepR ω G := h.rb hW (rb.tr r4.b)
      rw [f, c_I_s]
      obtain ⟨τ2, e2, wk2, rb2, qu2, hc2, -⟩ := bg1_r hW h2
      rw [e2, c_V_s, ln_2455, g_ar_n (by decide) (by decide), wk2.2.2.2.2.2.2.2, or_n, s_ar_n (by decide) (by decide)]
      obtain ⟨π, f3, r5⟩ := wrongOf_r (V := vH (GV G) (v_he (GV G) ||| 2 ^ v)) (q := v_qu (GV G)) hW.d hS hq (hW.v.vH (or_lt hW.v.2.2.2.2.1 hv)) (wk2.vH hW.d) hc2.w0 (by rw [m_ar_ar, if_neg (by decide)]; exact qu2) hW.v.2.2.2.2.2
      have h3 : RepR π G := h2.rb hW ((rb2.tr (RT.w0 (by omega) (by omega)).b).tr r5.b)
      rw [f3, c_I_s]
      exact OR.ans hW h3 _
/-! heaviest -/
def ldN (D : PD) (V : SD) (v : Nat) (t : Int) : Nat := if egB D V (egZ D V v t) = true then pcN (moN D (egZ D V v t)) 16 else 0
def heF (D : PD) (V : SD) : Nat → Option Nat × Nat
  | 0 => (none, 0)
  | n + 1 => if (heF D V n).2 < max (ldN D V n 1) (ldN D V n (-1)) then (some n, max (ldN D V n 1) (ldN D V n (-1))) else heF D V n
def spHv (G : GS) : Int32 × GS := oN (heF (GD G) (GV G) (d_v (GD G))).1 G
theorem ld_le {t : Int} : ldN D V v t ≤ 16 := by
  unfold ldN
  split
  · exact pc_le _ _
  · omega
theorem he_b1 : ∀ n, (∀ k, (heF D V n).1 = some k → k < n) ∧ (heF D V n).2 ≤ 16 := by
  intro n
  induction n with
  | zero => exact ⟨fun k h => (by cases h), Nat.zero_le _⟩
  | succ n ih =>
    have l1 := ld_le (D := D) (V := V) (v := n) (t := 1)
    have l2 := ld_le (D := D) (V := V) (v := n) (t := -1)
    rw [heF]
    by_cases c : (heF D V n).2 < max (ldN D V n 1) (ldN D V n (-1))
    · rw [if_pos c]
      refine ⟨fun k h => ?_, ?_⟩
      · cases h; omega
      · show max _ _ ≤ 16; omega
    · rw [if_neg c]
      exact ⟨fun k h => by have := ih.1 k h; omega, ih.2⟩
theorem mo_65 (hD : WFD D) : moN D g < 65536 := by
  have := pow8 hD.1.2.1
  have : moN D g < 2 ^ d_v D := bsN_lt _ _
  omega
theorem load_c {p s : Nat} {t : Int} (hD : WFD D) (hV : WFV D V) (h : WkC σ p s D V) (hv : v < d_v D) (ht : t = 1 ∨ t = -1) : ∃ τ, fX10_loadOf 10 (nI v) (iI t) σ = some (nI (ldN D V v t), τ) ∧ W10 σ τ := by
  obtain ⟨τ, e, w, o1, o2, o3⟩ := engage_c hD hV h hv ht
  refine ⟨τ, ?_, w⟩
  unfold fX10_loadOf ldN
  rw [e, c_I_s, r_sc_s, o3, bc_e (mo_65 hD), c_I_s]
  cases egB D V (egZ D V v t) <;> rfl
theorem mx_n {a b : Nat} (ha : a < 1000) (hb : b < 1000) : (if nI a < nI b then nI b else nI a) = nI (max a b) := by
  rw [ifl_n (by omega) (by omega)]
  by_cases c : a < b
  · rw [if_pos c, Nat.max_eq_right (by omega)]
  · rw [if_neg c, Nat.max_eq_left (by omega)]
theorem hv_lc {p : Nat} (hW : WFG G) : ∀ (n i : Nat) (σ : Mm), i ≤ d_v (GD G) → d_v (GD G) - i < n → WkC σ p 6 (GD G) (GV G) → m_rf σ 4 0 = some p → ∃ τ, fX11_heaviest_10 0 n (oI (heF (GD G) (GV G) i).1) (nI (heF (GD G) (GV G) i).2) (nI i) σ = fX11_heaviest_64 0 (oI (heF (GD G) (GV G) (d_v (GD G))).1) τ ∧ ∀ q, q ≠ 10 → BU q σ τ := by
  intro n
  induction n with
  | zero => intro i σ _ h; omega
  | succ n ih =>
    intro i σ hi hn h e4
    have hd := hW.d.1
    have h' := h
    obtain ⟨⟨e1, e2, k1, k2⟩, hp, hs, hw⟩ := h
    rw [fX11_heaviest_10, show tg 0 9 = 4 from rfl, r_rf_e e4 k1, r_sc_s, hp.1.2.1, ifle_n (by omega) (by omega)]
    by_cases c : d_v (GD G) ≤ i
    · have : i = d_v (GD G) := by omega
      subst this
      rw [if_pos c]
      exact ⟨σ, rfl, fun _ _ => BU.rf⟩
    · have hv : i < d_v (GD G) := by omega
      obtain ⟨τ, f, w⟩ := load_c (t := 1) hW.d hW.v h' hv (by decide)
      obtain ⟨ω, f2, w2⟩ := load_c (t := -1) hW.d hW.v (h'.w10 w) hv (by decide)
      have l1 := ld_le (D := GD G) (V := GV G) (v := i) (t := 1)
      have l2 := ld_le (D := GD G) (V := GV G) (v := i) (t := -1)
      have l3 := (he_b1 (D := GD G) (V := GV G) i).2
      rw [if_neg c, show tg 0 14 = 10 from rfl, show (1 : Int32) = iI 1 from rfl, f, c_I_s, show (-iI 1 : Int32) = iI (-1) from rfl, f2, c_I_s, mx_n (by omega) (by omega), show iI 1 = (1 : Int32) from rfl, nI_s, ifle_n (by omega) (by omega)]
      have e4' : m_rf ω 4 0 = some p := ((w2.1 4 (by decide)).2.2.2.2 0).trans (((w.1 4 (by decide)).2.2.2.2 0).trans e4)
      obtain ⟨π, f3, b3⟩ := ih (i + 1) ω (by omega) (by omega) ((h'.w10 w).w10 w2) e4'
      rw [heF] at f3
      refine ⟨π, ?_, fun q hq => ((w.1 q hq).tr (w2.1 q hq)).tr (b3 q hq)⟩
      by_cases c2 : (heF (GD G) (GV G) i).2 < max (ldN (GD G) (GV G) i 1) (ldN (GD G) (GV G) i (-1))
      · rw [if_pos c2] at f3
        rw [if_neg (by omega)]; exact f3
      · rw [if_neg c2] at f3
        rw [if_pos (by omega)]; exact f3
theorem hv_st {K : Int32 → Int32 → Int32 → Mm → Option (Int32 × Mm)} {n : Nat} {r : Option Nat × Nat} {t : Int} {w : Int32} (hD : WFD D) (hV : WFV D V) (h : WkR σ D V) (hv : v < d_v D) (ht : t = 1 ∨ t = -1) (hr : r.2 < 1000) (hw : w = iI t) : ∃ τ, fX12_heaviest_23 31 K (n + 1) (oI r.1) (nI r.2) (nI v) w σ = fX12_heaviest_23 31 K n (oI (if r.2 < ldN D V v t then (some v, ldN D V v t) else r).1) (nI (if r.2 < ldN D V v t then (some v, ldN D V v t) else r).2) (nI v) (w + 2) τ ∧ RG σ τ := by
  obtain ⟨τ, e, wg, o1, o2⟩ := dragsBy_r hD hV h hv ht
  refine ⟨τ, ?_, wg⟩
  rw [fX12_heaviest_23, if_neg (by rw [hw]; rcases ht with rfl | rfl <;> decide), hw, e, c_I_s]
  have l := ld_le (D := D) (V := V) (v := v) (t := t)
  unfold ldN at l ⊢
  cases egB D V (egZ D V v t)
  · rw [if_pos (by decide), if_neg (by simp)]
  · have l2 := pc_le (moN D (egZ D V v t)) 16
    rw [if_neg (by decide), turnedSet_r hD (h.rg wg) o1 o2, c_I_s, bits_e (mo_65 hD), c_I_s, turnedSet_r hD (h.rg wg) o1 o2, c_I_s, bits_e (mo_65 hD), c_I_s, ifl_n (by omega) (by omega), if_pos rfl]
    by_cases c : r.2 < pcN (moN D (egZ D V v t)) 16
    · rw [if_pos c, if_pos c]; rfl
    · rw [if_neg c, if_neg c]
theorem hv_lr (hD : WFD D) (hV : WFV D V) : ∀ (n i : Nat) (σ : Mm), i ≤ d_v D → d_v D - i < n → WkR σ D V → ∃ τ, fX12_heaviest_10 31 n (oI (heF D V i).1) (nI (heF D V i).2) (nI i) σ = c_I (fX12_orNone 31 (oI (heF D V (d_v D)).1) τ) (fun x6 σ4 => some (x6, σ4)) ∧ RG σ τ := by
  intro n
  induction n with
  | zero => intro i σ _ h; omega
  | succ n ih =>
    intro i σ hi hn h
    have hd := hD.1
    rw [fX12_heaviest_10, show g_ar σ 31 0 2950 (1 : Int32) = g_ar σ 31 0 2950 (nI 1) from rfl, g_ar_n (by decide) (by decide), h.1.2.1, ifle_n (by omega) (by omega)]
    by_cases c : d_v D ≤ i
    · have : i = d_v D := by omega
      subst this
      rw [if_pos c]
      exact ⟨σ, rfl, RG.rf⟩
    · have hv : i < d_v D := by omega
      have l1 := ld_le (D := D) (V := V) (v := i) (t := 1)
      have l2 := ld_le (D := D) (V := V) (v := i) (t := -1)
      have l3 := (he_b1 (D := D) (V := V) i).2
      obtain ⟨m, hm⟩ : ∃ m, FU = m + 3 := ⟨FU - 3, by have := FU_ge; omega⟩
      obtain ⟨τ, f, w⟩ := hv_st (K := fX12_heaviest_10 31 n) (n := m + 2) (r := heF D V i) (t := -1) (w := -1) hD hV h hv (by decide) (by omega) rfl
      obtain ⟨r1, hr1⟩ : ∃ r1, r1 = (if (heF D V i).2 < ldN D V i (-1) then (some i, ldN D V i (-1)) else heF D V i) := ⟨_, rfl⟩
      have hr2 : r1.2 < 1000 := by rw [hr1]; split <;> first | (show ldN D V i (-1) < 1000; omega) | omega
      rw [← hr1] at f
      obtain ⟨ω, f2, w2⟩ := hv_st (K := fX12_heaviest_10 31 n) (n := m + 1) (r := r1) (t := 1) (w := -1 + 2) hD hV (h.rg w) hv (by decide) hr2 rfl
      rw [if_neg c, hm, f, f2, fX12_heaviest_23, if_pos (by decide), nI_s]
      obtain ⟨π, f3, w3⟩ := ih (i + 1) ω (by omega) (by omega) ((h.rg w).rg w2)
      refine ⟨π, ?_, (w.tr w2).tr w3⟩
      rw [heF] at f3
      have e : (if r1.2 < ldN D V i 1 then (some i, ldN D V i 1) else r1) = if (heF D V i).2 < max (ldN D V i 1) (ldN D V i (-1)) then (some i, max (ldN D V i 1) (ldN D V i (-1))) else heF D V i := by
        rw [hr1]
        generalize heF D V i = r
        generalize ldN D V i 1 = x
        generalize ldN D V i (-1) = y
        by_cases c1 : r.2 < y
        · rw [if_pos c1]
          by_cases c2 : y < x
          · rw [if_pos c2, if_pos (by omega), Nat.max_eq_left (by omega)]
          · rw [if_neg c2, if_pos (by omega), Nat.max_eq_right (by omega)]
        · rw [if_neg c1]
          by_cases c2 : r.2 < x
          · rw [if_pos c2, if_pos (by omega), Nat.max_eq_left (by omega)]
          · rw [if_neg c2, if_neg (by omega)]
      rw [e]
      exact f3
theorem heaviest_c (hW : WFG G) (h : RepC σ G) : OC (fX11_heaviest 0  σ) (spHv  G) := by
  have hd := hW.d.1
  unfold fX11_heaviest spHv
  obtain ⟨τ, p, e, wk, hc, bu, e4⟩ := won_c hW h
  have h2 : RepC τ G := h.cm hW (fun q _ h1 _ => bu q h1)
  rw [e, c_V_s]
  obtain ⟨ω, e5, b5⟩ := hv_lc hW FU 0 τ (by omega) (FU_gt (by omega)) wk e4
  have h3 : RepC ω G := h2.cm hW (fun q _ h1 _ => b5 q h1)
  refine Eq.mpr (congrArg (fun z => OC z _) e5) ?_
  exact OC.oN hW h3 (fun k hk => by have := (he_b1 _).1 k hk; omega)
theorem heaviest_r (hW : WFG G) (h : RepR σ G) : OR (fX12_heaviest 31  σ) (spHv  G) := by
  have hd := hW.d.1
  unfold fX12_heaviest spHv
  obtain ⟨τ, e, wk, rb, qu⟩ := bg0_r hW h
  have h2 : RepR τ G := h.rb hW rb
  rw [e, c_V_s]
  obtain ⟨ω, e5, w5⟩ := hv_lr hW.d hW.v FU 0 τ (by omega) (FU_gt (by omega)) wk
  have h3 : RepR ω G := h2.rb hW w5.t.b
  refine Eq.mpr (congrArg (fun z => OR z _) e5) ?_
  exact OR.oN hW h3 (fun k hk => by have := (he_b1 _).1 k hk; omega)
theorem wrong_s (a : Int32) (b : Int32) (σ : Mm) (h : Rel σ) : ok (fX11_wrong 0 a b σ) (fun q => ok (fX12_wrong 31 a b q.2) (fun q' => q'.1 = q.1 ∧ Rel q'.2)) :=
  simS (fc := fX11_wrong 0 a b) (fr := fX12_wrong 31 a b) (ks := [0, 1, 2, 3, 4, 5, 6, 7, 8, 9, 10, 11]) (by decide) (spWr a b) (fun σ G => wrong_c a b) (fun σ G => wrong_r a b) (fun G hW => by unfold spWr; repeat (first | exact hW | split)) (fun σ x τ ee => F_sub (frX11_wrong 0 a b (by decide) σ ee) (by decide)) (fun σ x τ ee => F_sub (frX12_wrong 31 a b (by decide) σ ee) (by decide)) σ h
theorem holding_s (a : Int32) (b : Int32) (σ : Mm) (h : Rel σ) : ok (fX11_holding 0 a b σ) (fun q => ok (fX12_holding 31 a b q.2) (fun q' => q'.1 = q.1 ∧ Rel q'.2)) :=
  simS (fc := fX11_holding 0 a b) (fr := fX12_holding 31 a b) (ks := [0, 1, 2, 3, 4, 5, 6, 7, 8, 9, 10, 11]) (by decide) (spHo a b) (fun σ G => holding_c a b) (fun σ G => holding_r a b) (fun G hW => by unfold spHo; repeat (first | exact hW | split)) (fun σ x τ ee => F_sub (frX11_holding 0 a b (by decide) σ ee) (by decide)) (fun σ x τ ee => F_sub (frX12_holding 31 a b (by decide) σ ee) (by decide)) σ h
theorem heaviest_s  (σ : Mm) (h : Rel σ) : ok (fX11_heaviest 0  σ) (fun q => ok (fX12_heaviest 31  q.2) (fun q' => q'.1 = q.1 ∧ Rel q'.2)) :=
  simS (fc := fX11_heaviest 0 ) (fr := fX12_heaviest 31 ) (ks := [0, 1, 2, 3, 4, 5, 6, 7, 8, 9, 10, 11]) (by decide) (spHv ) (fun σ G hW h => heaviest_c hW h) (fun σ G hW h => heaviest_r hW h) (fun G hW => by unfold spHv oN; repeat (first | exact hW | split)) (fun σ x τ ee => F_sub (frX11_heaviest 0  (by decide) σ ee) (by decide)) (fun σ x τ ee => F_sub (frX12_heaviest 31  (by decide) σ ee) (by decide)) σ h
end O
