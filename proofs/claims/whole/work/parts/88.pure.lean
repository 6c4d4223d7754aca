/-! PURE 29: pass, turn, bell, helpers -/
section O
variable {σ τ : Mm} {v : Nat} {D : PD} {V : SD} {g : Nat → Int} {C : CT} {M : MTq} {G : GS}
theorem en_one : ∀ (n : Nat) (g : Nat → Int), oneG g → oneG (enZ D V n g) := by
  intro n
  induction n with
  | zero => intro g h; exact h
  | succ n ih =>
    intro g h
    rw [enZ]
    cases hf : fsF (drB D V g) (d_s D) with
    | none => exact h
    | some k =>
      obtain ⟨-, -, hdr, -⟩ := ffF_some _ _ _ _ hf
      exact ih _ (ad_one h hdr)
theorem eg_one {t : Int} (ht : t = 1 ∨ t = -1) : oneG (egZ D V v t) := en_one 8 _ (by intro i; unfold beZ; split <;> omega)
theorem q1_wf (hD : WFD D) (hV : WFV D M.1) : WFV D (q1S D v M).1 := by
  unfold q1S
  by_cases c : dvB D M.1 v = true
  · rw [if_pos c]
    exact mv_wf hD hV (eg_one sw_1) (eg_ib (dv_eg c))
  · rw [if_neg c]; exact hV
theorem qt_wf (hD : WFD D) (hV : WFV D M.1) : ∀ n, WFV D (qtS D n M).1 := by
  intro n
  induction n with
  | zero => exact hV
  | succ n ih => exact q1_wf hD ih
theorem qn_wf (hD : WFD D) : ∀ (n : Nat) (M : MTq), WFV D M.1 → WFV D (qnM D n M).1 := by
  intro n
  induction n with
  | zero => intro M h; exact h
  | succ n ih => intro M h; exact ih _ (qt_wf hD h _)
theorem qt_qu : ∀ n, v_qu (qtS D n M).1 = v_qu M.1 := by
  intro n
  induction n with
  | zero => rfl
  | succ n ih =>
    rw [qtS, q1S]
    by_cases c : dvB D (qtS D n M).1 n = true
    · rw [if_pos c]; exact ih
    · rw [if_neg c]; exact ih
theorem qn_qu : ∀ (n : Nat) (M : MTq), v_qu (qnM D n M).1 = v_qu M.1 := by
  intro n
  induction n with
  | zero => intro M; rfl
  | succ n ih => intro M; rw [qnM, ih]; exact qt_qu _
def spPa (a : Int32) (G : GS) : Int32 × GS := match sx 99 a with
  | none => (-1, stq 1 G)
  | some q => if v_qu (GV G) + q ≤ 9999 then (nI (v_qu (GV G) + q), suV (0, g_t G, g_b G) (vQ (qnM (GD G) q (GV G, C0)).1 (v_qu (GV G) + q)) G) else (-1, stq 4 G)
theorem pass_w (a : Int32) (hW : WFG G) : WFG (spPa a G).2 := by
  unfold spPa
  rcases sx_cases (n := 99) (by decide) a with ⟨ei, -⟩ | ⟨q, h1, h2, rfl, ei⟩ <;> rw [ei]
  · exact hW
  · dsimp only
    by_cases c : v_qu (GV G) + q ≤ 9999
    · rw [if_pos c]
      have hV := qn_wf hW.d q (GV G, C0) hW.v
      exact hW.uV _ ⟨hV.1, hV.2.1, hV.2.2.1, hV.2.2.2.1, hV.2.2.2.2.1, c⟩
    · rw [if_neg c]; exact hW
theorem pass_c (a : Int32) (hW : WFG G) (h : RepC σ G) : OC (fX11_pass 0 a σ) (spPa a G) := by
  have hd := hW.d.1
  unfold fX11_pass spPa
  have hv := hW.v.2.2.2.2.2
  rcases sx_cases (n := 99) (by decide) a with ⟨ei, ha⟩ | ⟨q, hq1, hq, rfl, ei⟩ <;> rw [ei]
  · rcases ha with ha | ⟨ha, hb⟩
    · rw [if_pos ha]; exact OC.non hW h _
    · rw [if_neg ha, if_neg (show ¬ a ≤ (99 : Int32) from i_lt_le hb)]; exact OC.non hW h _
  · dsimp only
    rw [show (1 : Int32) = nI 1 from rfl, ifl_n (by omega) (by decide), if_neg (by omega), ln_99, ifle_n (by omega) (by decide), if_pos (by omega), show tg 0 9 = 4 from rfl, show tg 4 1 = 6 from rfl, show tg 0 14 = 10 from rfl, r_sc_s, h.sv.2.2.2.2.2, nI_ad, ln_9999, ifle_n (by omega) (by decide)]
    by_cases c : v_qu (GV G) + q ≤ 9999
    · rw [if_pos c, if_pos c]
      obtain ⟨τ, p, e, wk, hc, bu, e4⟩ := won_c hW h
      rw [e, c_V_s]
      obtain ⟨ω, f, r1, r2, r3, r4⟩ := goOn_c (M := (GV G, C0)) (Q := q) (p := p) (s := 6) (sk := -1) hW.d (by omega) hW.v wk hc (show (0 : Nat) < 500000000 by decide) (show (0 : Nat) < 500000000 by decide)
      have hs := r2.2.2.1
      rw [f, c_I_s, r_sc_s, p_sc_s, r_sc_s, hs.2.2.2.2.2, qn_qu, nI_ad, m_sc_sc, if_pos ⟨rfl, rfl⟩]
      refine ⟨_, rfl, ?_⟩
      refine RepC.uV (σ := σ) _ _ hW.2.2.2.1 (fun q _ hb => ?_) ?_ ⟨rfl, ?_, ?_⟩ ?_ h
      · simp at hb
        exact BU.scs (by omega) (BU.scs (by omega) ((bu q (by omega)).tr (r4 q (by omega) (by omega))))
      · have b0 := (bu 0 (by decide)).tr (r4 0 (by decide) (by decide))
        exact ⟨b0.1 7, b0.1 8, b0.1 13, b0.2.2.2.2 10, b0.2.2.2.2 11⟩
      · exact (((bu 0 (by decide)).tr (r4 0 (by decide) (by decide))).2.1 1).trans h.1.2.1
      · exact (((bu 0 (by decide)).tr (r4 0 (by decide) (by decide))).2.1 2).trans h.1.2.2.1
      · refine ⟨hs.1, hs.2.1, hs.2.2.1, hs.2.2.2.1, hs.2.2.2.2.1, ?_⟩
        rfl
    · rw [if_neg c, if_neg c]; exact OC.non hW h _
theorem pass_r (a : Int32) (hW : WFG G) (h : RepR σ G) : OR (fX12_pass 31 a σ) (spPa a G) := by
  have hd := hW.d.1
  unfold fX12_pass spPa
  have hv := hW.v.2.2.2.2.2
  rcases sx_cases (n := 99) (by decide) a with ⟨ei, ha⟩ | ⟨q, hq1, hq, rfl, ei⟩ <;> rw [ei]
  · rw [from1_0 (n := 99) (by decide) rfl ha, c_I_s, if_pos rfl]
    exact OR.non hW h _
  · dsimp only
    rw [from1_1 (n := 99) (by decide) rfl hq1 hq, c_I_s, if_neg (by decide), show g_ar σ 31 0 2950 (3 : Int32) = g_ar σ 31 0 2950 (nI 3) from rfl, g_ar_n (by decide) (by decide), show m_ar σ 31 0 3 = nI (v_qu (GV G)) from h.sv.2.2.2.2.2, nI_ad, ln_9999, ifle_n (by omega) (by decide)]
    by_cases c : v_qu (GV G) + q ≤ 9999
    · rw [if_pos c, if_pos c]
      obtain ⟨τ, e, wk, rb, qu, hc, b1, b2, b3, b4⟩ := bg1_r hW h
      rw [e, c_V_s]
      obtain ⟨ω, f, r1, r2, r3, r4, r5⟩ := goesBy_r (M := (GV G, C0)) (Q := q) hW.d (by omega) hW.v wk hc (show (0 : Nat) < 500000000 by decide) qu (by omega)
      have h2 : RepR ω G := h.rb hW (rb.tr r4.b)
      rw [Nat.min_eq_left c] at r5
      obtain ⟨π, f2, k1, k2⟩ := laysBack_r 0 hW h2 r2 r5 ⟨(r4.2.2.2.1 _ (by omega)).trans b1, (r4.2.2.2.1 _ (by omega)).trans b2, (r4.2.2.2.1 _ (by omega)).trans b3, by rw [r4.2.2.2.1 2456 (by omega), r4.2.2.2.1 6 (by omega)]; exact b4⟩
      rw [f, c_V_s, f2, c_V_s, show g_ar π 31 0 2950 (3 : Int32) = g_ar π 31 0 2950 (nI 3) from rfl, g_ar_n (by decide) (by decide), k1]
      exact ⟨_, rfl, k2⟩
    · rw [if_neg c, if_neg c]; exact OR.non hW h _
/-! turn -/
def tuS (D : PD) (v : Nat) (t : Int) : Nat → MTq → Nat × MTq
  | 0, M => (0, M)
  | n + 1, M => if egB D M.1 (egZ D M.1 v t) = true then ((tuS D v t n (mvF D M.1 (egZ D M.1 v t), mvC D M.1 (egZ D M.1 v t) (d_v D) M.2)).1 + 1, (tuS D v t n (mvF D M.1 (egZ D M.1 v t), mvC D M.1 (egZ D M.1 v t) (d_v D) M.2)).2) else (0, M)
theorem tu_wf (hD : WFD D) {t : Int} (ht : t = 1 ∨ t = -1) : ∀ (n : Nat) (M : MTq), WFV D M.1 → WFV D (tuS D v t n M).2.1 ∧ v_qu (tuS D v t n M).2.1 = v_qu M.1 ∧ (tuS D v t n M).1 ≤ n := by
  intro n
  induction n with
  | zero => intro M h; exact ⟨h, rfl, Nat.le_refl _⟩
  | succ n ih =>
    intro M h
    rw [tuS]
    by_cases c : egB D M.1 (egZ D M.1 v t) = true
    · rw [if_pos c]
      obtain ⟨h1, h2, h3⟩ := ih (mvF D M.1 (egZ D M.1 v t), mvC D M.1 (egZ D M.1 v t) (d_v D) M.2) (mv_wf hD h (eg_one ht) (eg_ib c))
      exact ⟨h1, h2, Nat.succ_le_succ h3⟩
    · rw [if_neg c]; exact ⟨h, rfl, Nat.zero_le _⟩
theorem tu_lc {p s : Nat} (hD : WFD D) {t : Int} (ht : t = 1 ∨ t = -1) (hv : v < d_v D) (x : Int32) {sk : Int32} {N : Nat} (hN : N < 1000) : ∀ (n i : Nat) (M : MTq) (σ : Mm), i ≤ N → N - i < n → WFV D M.1 → WkC σ p s D M.1 → CtC σ sk M.2 → M.2.2.1 + 8 * (N - i) < 100000000 → ∃ τ, fX10_turnByHand_19 10 (nI v) x n (iI t) (nI N) (nI i) σ = some (nI (i + (tuS D v t (N - i) M).1), τ) ∧ WkC τ p s D (tuS D v t (N - i) M).2.1 ∧ CtC τ sk (tuS D v t (N - i) M).2.2 ∧ WGs s σ τ := by
  intro n
  induction n with
  | zero => intro i M σ _ h; omega
  | succ n ih =>
    intro i M σ hi hn hV h hc hC
    have hd := hD.1
    rw [fX10_turnByHand_19, ifle_n (by omega) (by omega)]
    by_cases c : N ≤ i
    · have : i = N := by omega
      subst this
      rw [if_pos c, Nat.sub_self]
      exact ⟨σ, rfl, h, hc, fun _ _ _ => BU.rf⟩
    · obtain ⟨τ, e, w, o1, o2, o3⟩ := engage_c hD hV h hv ht
      rw [if_neg c, e, c_I_s, show N - i = (N - (i + 1)) + 1 by omega, tuS]
      cases hb : egB D M.1 (egZ D M.1 v t)
      · rw [if_pos (by decide), if_neg (by decide)]
        exact ⟨τ, rfl, h.w10 w, hc.w10 w, fun q h1 _ => w.1 q h1⟩
      · rw [if_neg (by decide), if_pos rfl]
        have hle := mvC_le (D := D) (V := M.1) (g := egZ D M.1 v t) M.2 (d_v D)
        obtain ⟨ω, f, q1, q2, q3, q4⟩ := move_c hD hV (h.w10 w) o1 o2 o3 hb (by omega) (hc.w10 w)
        rw [f, c_V_s, nI_s]
        obtain ⟨π, f2, t1, t2, t3⟩ := ih (i + 1) (mvF D M.1 (egZ D M.1 v t), mvC D M.1 (egZ D M.1 v t) (d_v D) M.2) ω (by omega) (by omega) q4 q1 q3 (by show (mvC D M.1 (egZ D M.1 v t) (d_v D) M.2).2.1 + _ < _; omega)
        refine ⟨π, ?_, t1, t2, fun q h1 h2 => ((w.1 q h1).tr (q2.1 q h1 h2)).tr (t3 q h1 h2)⟩
        rw [f2]
        congr 3
        show i + 1 + _ = i + (_ + 1)
        omega
theorem tu_lr (hD : WFD D) {t : Int} (ht : t = 1 ∨ t = -1) (hv : v < d_v D) {x : Int32} (hx : if t = 1 then 0 ≤ x else ¬ 0 ≤ x) {N : Nat} (hN : N < 1000) {y : Int32} : ∀ (n i : Nat) (M : MTq) (σ : Mm), i ≤ N → N - i < n → WFV D M.1 → WkR σ D M.1 → CtR σ M.2 → M.2.2.1 + 8 * (N - i) < 100000000 → m_ar σ 31 0 2453 = y → ∃ τ, fX12_turnsBy_14 31 (nI v) x n (nI N) (nI i) σ = some (nI (i + (tuS D v t (N - i) M).1), τ) ∧ WkR τ D (tuS D v t (N - i) M).2.1 ∧ CtR τ (tuS D v t (N - i) M).2.2 ∧ RT σ τ ∧ m_ar τ 31 0 2453 = y := by
  intro n
  induction n with
  | zero => intro i M σ _ h; omega
  | succ n ih =>
    intro i M σ hi hn hV h hc hC hy
    have hd := hD.1
    have step : ∀ z : Int32, z = iI t → ∃ τ, c_I (fX12_dragsBy 31 (nI v) z σ) (fun x3 σ1 => if x3 = 0 then (some (nI i, σ1)) else (c_V (fX12_turnsAll 31 σ1) (fun σ4 => (fX12_turnsBy_14 31 (nI v) x n) (nI N) (nI i + (1 : Int32)) σ4))) = some (nI (i + (tuS D v t (N - i) M).1), τ) ∧ WkR τ D (tuS D v t (N - i) M).2.1 ∧ CtR τ (tuS D v t (N - i) M).2.2 ∧ RT σ τ ∧ m_ar τ 31 0 2453 = y ∨ N ≤ i := by
      intro z hz
      by_cases c : N ≤ i
      · exact ⟨σ, Or.inr c⟩
      · obtain ⟨τ, e, w, o1, o2⟩ := dragsBy_r hD hV h hv ht
        have hcτ : CtR τ M.2 := ⟨(w.1 27).trans hc.1, (w.1 26).trans hc.2.1, fun k h1 h2 => by rw [w.2.2.1 9 (by decide)]; exact hc.2.2 k h1 h2⟩
        rw [hz, e, c_I_s, show N - i = (N - (i + 1)) + 1 by omega, tuS]
        cases hb : egB D M.1 (egZ D M.1 v t)
        · rw [if_pos (by decide), if_neg (by decide)]
          exact ⟨τ, Or.inl ⟨rfl, h.rg w, hcτ, w.t, by rw [w.2.2.1 0 (by decide)]; exact hy⟩⟩
        · rw [if_neg (by decide), if_pos rfl]
          have hle := mvC_le (D := D) (V := M.1) (g := egZ D M.1 v t) M.2 (d_v D)
          obtain ⟨ω, f, q1, q2, q3, q4⟩ := turnsAll_r hD hV (h.rg w) o1 o2 hb (by omega) hcτ
          rw [f, c_V_s, nI_s]
          obtain ⟨π, f2, t1, t2, t3, t4⟩ := ih (i + 1) (mvF D M.1 (egZ D M.1 v t), mvC D M.1 (egZ D M.1 v t) (d_v D) M.2) ω (by omega) (by omega) q4 q1 q3 (by show (mvC D M.1 (egZ D M.1 v t) (d_v D) M.2).2.1 + _ < _; omega) (by rw [q2.2.2.1, w.2.2.1 0 (by decide)]; exact hy)
          refine ⟨π, Or.inl ⟨?_, t1, t2, (w.t.tr q2.1).tr t3, t4⟩⟩
          rw [f2]
          congr 3
          show i + 1 + _ = i + (_ + 1)
          omega
    rw [fX12_turnsBy_14, ifle_n (by omega) (by omega)]
    by_cases c : N ≤ i
    · have : i = N := by omega
      subst this
      rw [if_pos c, Nat.sub_self]
      exact ⟨σ, rfl, h, hc, RT.rf, hy⟩
    · rw [if_neg c]
      rcases ht with rfl | rfl
      · rw [if_pos rfl] at hx
        rw [if_pos hx]
        obtain ⟨τ, r⟩ := step 1 rfl
        exact ⟨τ, r.resolve_right c⟩
      · rw [if_neg (by decide)] at hx
        rw [if_neg hx]
        obtain ⟨τ, r⟩ := step (-1) rfl
        exact ⟨τ, r.resolve_right c⟩
def tbZ (b : Int32) : Int := if b.toInt < 0 then -1 else 1
def spTu (a b : Int32) (G : GS) : Int32 × GS := match ix (d_v (GD G)) a with
  | none => (-1, stq 1 G)
  | some v => if b.toInt < -99 ∨ 99 < b.toInt ∨ b.toInt = 0 then (-1, stq 1 G) else (nI (tuS (GD G) v (tbZ b) b.toInt.natAbs (GV G, C0)).1, suV (0, g_t G, g_b G) (vQ (tuS (GD G) v (tbZ b) b.toInt.natAbs (GV G, C0)).2.1 (v_qu (GV G))) G)
theorem tb_1 (b : Int32) : tbZ b = 1 ∨ tbZ b = -1 := by unfold tbZ; split <;> simp
theorem turn_w (a b : Int32) (hW : WFG G) : WFG (spTu a b G).2 := by
  have hd := hW.d.1
  unfold spTu
  rcases ix_cases (n := d_v (GD G)) (by omega) a with ⟨ei, -⟩ | ⟨v, h1, rfl, ei⟩ <;> rw [ei]
  · exact hW
  · dsimp only
    by_cases c : b.toInt < -99 ∨ 99 < b.toInt ∨ b.toInt = 0
    · rw [if_pos c]; exact hW
    · rw [if_neg c]
      obtain ⟨hV, -, -⟩ := tu_wf (v := v) hW.d (tb_1 b) b.toInt.natAbs (GV G, C0) hW.v
      exact hW.uV _ ⟨hV.1, hV.2.1, hV.2.2.1, hV.2.2.2.1, hV.2.2.2.2.1, hW.v.2.2.2.2.2⟩
theorem turn_c (a b : Int32) (hW : WFG G) (h : RepC σ G) : OC (fX11_turn 0 a b σ) (spTu a b G) := by
  have hd := hW.d.1
  unfold fX11_turn spTu
  rcases ix_cases (n := d_v (GD G)) (by omega) a with ⟨ei, ha⟩ | ⟨v, hv, rfl, ei⟩ <;> rw [ei]
  · rw [isVane_c0 hW h ha, c_I_s, if_pos rfl]
    exact OC.non hW h _
  · rw [isVane_c1 hW h hv, c_I_s, if_neg (by decide)]
    dsimp only
    have l1 : b < (-99 : Int32) ↔ b.toInt < -99 := Int32.lt_iff_toInt_lt
    have l2 : (99 : Int32) < b ↔ 99 < b.toInt := Int32.lt_iff_toInt_lt
    have l3 : b = (0 : Int32) ↔ b.toInt = 0 := by rw [← Int32.toInt_inj]; rfl
    have l4 : (0 : Int32) ≤ b ↔ 0 ≤ b.toInt := Int32.le_iff_toInt_le
    by_cases c : b.toInt < -99 ∨ 99 < b.toInt ∨ b.toInt = 0
    · rw [if_pos c]
      by_cases c1 : b < (-99 : Int32)
      · rw [if_pos c1]; exact OC.non hW h _
      · rw [if_neg c1]
        by_cases c2 : (99 : Int32) < b
        · rw [if_pos c2]; exact OC.non hW h _
        · rw [if_neg c2]
          have c3 : b = 0 := by rw [l3]; rw [l1] at c1; rw [l2] at c2; omega
          rw [if_pos c3]; exact OC.non hW h _
    · rw [if_neg c, if_neg (by rw [l1]; omega), if_neg (by rw [l2]; omega), if_neg (by rw [l3]; omega)]
      obtain ⟨τ, p, e, wk, hc, bu, e4⟩ := won_c hW h
      rw [e, c_V_s, show tg 0 14 = 10 from rfl]
      obtain ⟨N, hN⟩ : ∃ N, N = b.toInt.natAbs := ⟨_, rfl⟩
      have hb1 : b = iI b.toInt := (iI_self b).symm
      have hbn : (if 0 ≤ b then b else 0 - b) = nI N := by
        by_cases c5 : 0 ≤ b
        · rw [if_pos c5, nI_iI, hN]
          rw [l4] at c5
          rw [show ((b.toInt.natAbs : Nat) : Int) = b.toInt by omega, iI_self]
        · rw [if_neg c5, nI_iI, hN]
          rw [l4] at c5
          rw [show ((b.toInt.natAbs : Nat) : Int) = 0 - b.toInt by omega, ← iI_sub, iI_self]; rfl
      obtain ⟨ω, f, r2, r3, r4⟩ := tu_lc (v := v) (p := p) (s := 6) (sk := -1) (N := N) hW.d (tb_1 b) hv b (by omega) FU 0 (GV G, C0) τ (by omega) (FU_gt (by omega)) hW.v wk hc (by show 0 + 8 * (N - 0) < _; omega)
      have f' : fX10_turnByHand 10 (nI v) b τ = some (nI (tuS (GD G) v (tbZ b) N (GV G, C0)).1, ω) := by
        unfold fX10_turnByHand
        rw [hbn]
        rw [Nat.zero_add, Nat.sub_zero] at f
        by_cases c5 : 0 ≤ b
        · rw [if_pos c5]
          rw [l4] at c5
          rw [show tbZ b = 1 by unfold tbZ; rw [if_neg (by omega)]] at f ⊢
          exact f
        · rw [if_neg c5]
          rw [l4] at c5
          rw [show tbZ b = -1 by unfold tbZ; rw [if_pos (by omega)]] at f ⊢
          exact f
      rw [Nat.sub_zero] at r2
      obtain ⟨-, hqu, -⟩ := tu_wf (v := v) hW.d (tb_1 b) N (GV G, C0) hW.v
      have hs := r2.2.2.1
      rw [f', c_I_s, ← hN]
      refine ⟨_, rfl, ?_⟩
      refine RepC.uV (σ := σ) _ _ hW.2.2.2.1 (fun q _ hb => ?_) ?_ ⟨rfl, ?_, ?_⟩ ?_ h
      · simp at hb
        exact BU.scs (by omega) ((bu q (by omega)).tr (r4 q (by omega) (by omega)))
      · have b0 := (bu 0 (by decide)).tr (r4 0 (by decide) (by decide))
        exact ⟨b0.1 7, b0.1 8, b0.1 13, b0.2.2.2.2 10, b0.2.2.2.2 11⟩
      · exact (((bu 0 (by decide)).tr (r4 0 (by decide) (by decide))).2.1 1).trans h.1.2.1
      · exact (((bu 0 (by decide)).tr (r4 0 (by decide) (by decide))).2.1 2).trans h.1.2.2.1
      · refine ⟨hs.1, hs.2.1, hs.2.2.1, hs.2.2.2.1, hs.2.2.2.2.1, ?_⟩
        have := hs.2.2.2.2.2
        rw [hqu] at this
        exact this
theorem turn_r (a b : Int32) (hW : WFG G) (h : RepR σ G) : OR (fX12_turn 31 a b σ) (spTu a b G) := by
  have hd := hW.d.1
  unfold fX12_turn spTu
  rcases ix_cases (n := d_v (GD G)) (by omega) a with ⟨ei, ha⟩ | ⟨v, hv, rfl, ei⟩ <;> rw [ei]
  · rw [isVane_r0 hW h ha, c_I_s, if_pos rfl]
    exact OR.non hW h _
  · rw [isVane_r1 hW h hv, c_I_s, if_neg (by decide)]
    dsimp only
    have l3 : b = (0 : Int32) ↔ b.toInt = 0 := by rw [← Int32.toInt_inj]; rfl
    have l4 : (0 : Int32) ≤ b ↔ 0 ≤ b.toInt := Int32.le_iff_toInt_le
    have l5 : (-99 : Int64).toInt = -99 := rfl
    have l6 : (99 : Int64).toInt = 99 := rfl
    by_cases c : b.toInt < -99 ∨ 99 < b.toInt ∨ b.toInt = 0
    · rw [if_pos c]
      by_cases c3 : b = 0
      · rw [if_pos c3]; exact OR.non hW h _
      · rw [if_neg c3, isFrom_e, if_neg (by rw [l5, l6]; rw [l3] at c3; omega), c_I_s, if_pos rfl]
        exact OR.non hW h _
    · rw [if_neg c, if_neg (by rw [l3]; omega), isFrom_e, if_pos (by rw [l5, l6]; omega), c_I_s, if_neg (by decide)]
      obtain ⟨τ, e, wk, rb, qu, hc, b1, b2, b3, b4⟩ := bg1_r hW h
      rw [e, c_V_s]
      obtain ⟨N, hN⟩ : ∃ N, N = b.toInt.natAbs := ⟨_, rfl⟩
      have hx : if tbZ b = 1 then 0 ≤ b else ¬ 0 ≤ b := by
        unfold tbZ
        by_cases c5 : b.toInt < 0
        · rw [if_pos c5, if_neg (by decide), l4]; omega
        · rw [if_neg c5, if_pos rfl, l4]; omega
      obtain ⟨ω, f, r2, r3, r4, r5⟩ := tu_lr (v := v) (N := N) hW.d (tb_1 b) hv hx (by omega) FU 0 (GV G, C0) τ (by omega) (FU_gt (by omega)) hW.v wk hc (by show 0 + 8 * (N - 0) < _; omega) qu
      have f' : fX12_turnsBy 31 (nI v) b τ = some (nI (tuS (GD G) v (tbZ b) N (GV G, C0)).1, ω) := by
        unfold fX12_turnsBy
        rw [Nat.zero_add, Nat.sub_zero] at f
        by_cases c5 : 0 ≤ b
        · have : b = nI N := by
            rw [l4] at c5
            rw [nI_iI, hN, show ((b.toInt.natAbs : Nat) : Int) = b.toInt by omega, iI_self]
          rw [if_pos c5]
          conv => lhs; rw [show fX12_turnsBy_14 31 (nI v) b FU b (0 : Int32) τ = fX12_turnsBy_14 31 (nI v) b FU (nI N) (nI 0) τ from congrArg (fun z => fX12_turnsBy_14 31 (nI v) b FU z (nI 0) τ) this]
          exact f
        · have : -b = nI N := by
            rw [l4] at c5
            rw [nI_iI, hN, show ((b.toInt.natAbs : Nat) : Int) = -b.toInt by omega, ← iI_neg, iI_self]
          rw [if_neg c5, this]
          exact f
      rw [Nat.sub_zero] at r2
      have h2 : RepR ω G := h.rb hW (rb.tr r4.b)
      obtain ⟨π, f2, k1, k2⟩ := laysBack_r 0 hW h2 r2 r5 ⟨(r4.2.2.2.1 _ (by omega)).trans b1, (r4.2.2.2.1 _ (by omega)).trans b2, (r4.2.2.2.1 _ (by omega)).trans b3, by rw [r4.2.2.2.1 2456 (by omega), r4.2.2.2.1 6 (by omega)]; exact b4⟩
      rw [f', c_I_s, f2, c_V_s, ← hN]
      exact ⟨_, rfl, k2⟩
/-! bell: how often it can ring -/
def smN (f : Nat → Nat) : Nat → Nat
  | 0 => 0
  | n + 1 => smN f n + f n
theorem sm_le {f : Nat → Nat} {k : Nat} : ∀ n, (∀ i, i < n → f i ≤ k) → smN f n ≤ n * k := by
  intro n
  induction n with
  | zero => intro _; exact Nat.zero_le _
  | succ n ih =>
    intro h
    rw [smN, Nat.succ_mul]
    have := ih (fun i hi => h i (by omega))
    have := h n (by omega)
    omega
def BI (D : PD) (V : SD) (C : CT) (K : Nat) : Prop := ∃ zz : Nat → Nat, C.2.1 = smN zz (d_v D) ∧ ∀ v, v < d_v D → 2 * zz v ≤ K + if v_pt V v = 0 then 1 else 0
theorem mvC_bl (zz : Nat → Nat) : ∀ n, (mvC D V g n C).2.1 + smN zz n = C.2.1 + smN (fun v => if g v = 0 then zz v else if tnN D V v (g v) = 0 then zz v + 1 else zz v) n := by
  intro n
  induction n with
  | zero => rfl
  | succ n ih =>
    rw [mvC, smN, smN]
    by_cases c : g n = 0
    · rw [if_pos c, if_pos c]; omega
    · rw [if_neg c, if_neg c]
      by_cases c2 : tnN D V n (g n) = 0
      · rw [if_pos c2, if_pos c2]
        show (mvC D V g n C).2.1 + 1 + _ = _
        omega
      · rw [if_neg c2, if_neg c2]
        show (mvC D V g n C).2.1 + _ = _
        omega
theorem BI.mv {K : Nat} (hD : WFD D) (hV : WFV D V) (hg : oneG g) (h : BI D V C K) : BI D (mvF D V g) (mvC D V g (d_v D) C) (K + 1) := by
  obtain ⟨zz, h1, h2⟩ := h
  refine ⟨fun v => if g v = 0 then zz v else if tnN D V v (g v) = 0 then zz v + 1 else zz v, ?_, fun v hv => ?_⟩
  · have := mvC_bl (D := D) (V := V) (g := g) (C := C) zz (d_v D)
    omega
  · have hb := hD.2.1 v hv
    have hpt := hV.2.1 v hv
    have h2 := h2 v hv
    have gv := hg v
    show 2 * (if g v = 0 then zz v else if tnN D V v (g v) = 0 then zz v + 1 else zz v) ≤ K + 1 + if (if v < d_v D ∧ g v ≠ 0 then tnN D V v (g v) else v_pt V v) = 0 then 1 else 0
    by_cases c : g v = 0
    · rw [if_pos c, if_neg (show ¬ (v < d_v D ∧ g v ≠ 0) from fun z => z.2 c)]; omega
    · rw [if_neg c, if_pos (show v < d_v D ∧ g v ≠ 0 from ⟨hv, c⟩)]
      by_cases c2 : tnN D V v (g v) = 0
      · have h0 : v_pt V v ≠ 0 := by
          intro e0
          have e := tn_e (D := D) (V := V) (v := v) hpt (by omega) gv
          rw [c2, e0] at e
          repeat' split at e
          all_goals omega
        rw [if_neg h0] at h2
        rw [if_pos c2, if_pos c2]; omega
      · rw [if_neg c2, if_neg c2]
        split at h2 <;> omega
theorem BI.up {K L : Nat} (h : BI D V C K) (hl : K ≤ L) : BI D V C L := by
  obtain ⟨zz, h1, h2⟩ := h
  exact ⟨zz, h1, fun v hv => by have := h2 v hv; omega⟩
theorem BI.qt {K : Nat} (hD : WFD D) (hV : WFV D M.1) (h : BI D M.1 M.2 K) : ∀ n, BI D (qtS D n M).1 (qtS D n M).2 (K + n) := by
  intro n
  induction n with
  | zero => exact h
  | succ n ih =>
    rw [qtS, q1S]
    by_cases c : dvB D (qtS D n M).1 n = true
    · rw [if_pos c]
      exact BI.mv hD (qt_wf hD hV n) (eg_one sw_1) ih
    · rw [if_neg c]
      exact ih.up (by omega)
theorem BI.qn (hD : WFD D) : ∀ (n K : Nat) (M : MTq), WFV D M.1 → BI D M.1 M.2 K → BI D (qnM D n M).1 (qnM D n M).2 (K + 8 * n) := by
  intro n
  induction n with
  | zero => intro K M _ h; exact h
  | succ n ih =>
    intro K M hV h
    have hd := hD.1
    have := ih (K + 8) (qtM D M) (qt_wf hD hV _) ((BI.qt hD hV h (d_v D)).up (by omega))
    rw [qnM]
    exact this.up (by omega)
theorem bells_le (hD : WFD D) (hV : WFV D V) {q : Nat} (hq : q ≤ 400) : (qnM D q (V, C0)).2.2.1 ≤ 12800 := by
  have hd := hD.1
  obtain ⟨zz, h1, h2⟩ := BI.qn hD q 0 (V, C0) hV ⟨fun _ => 0, by
    show 0 = smN (fun _ => 0) (d_v D)
    have := sm_le (f := fun _ => 0) (k := 0) (d_v D) (fun _ _ => Nat.le_refl _)
    omega, fun v _ => Nat.zero_le _⟩
  have := sm_le (f := zz) (k := 1600) (d_v D) (fun i hi => by
    have := h2 i hi
    split at this <;> omega)
  have h3 : d_v D * 1600 ≤ 8 * 1600 := Nat.mul_le_mul_right _ hd.2.1
  omega
def spBe (a b : Int32) (G : GS) : Int32 × GS := if a < 0 then (-1, stq 1 G) else match sx 400 b with
  | none => (-1, stq 1 G)
  | some q => match ix (qnM (GD G) q (GV G, C0)).2.2.1 a with
    | none => (-1, stq 6 G)
    | some k => (nI ((qnM (GD G) q (GV G, C0)).2.2.2 k), stq 0 G)
/-- who rings is a vane -/
theorem mvC_v : ∀ n, n ≤ d_v D → (∀ k, k < C.2.1 → C.2.2 k < d_v D) → ∀ k, k < (mvC D V g n C).2.1 → (mvC D V g n C).2.2 k < d_v D := by
  intro n
  induction n with
  | zero => intro _ h; exact h
  | succ n ih =>
    intro hn h
    have ih := ih (by omega) h
    rw [mvC]
    by_cases c : g n = 0
    · rw [if_pos c]; exact ih
    · rw [if_neg c]
      by_cases c2 : tnN D V n (g n) = 0
      · rw [if_pos c2]
        intro k hk
        show (if k = (mvC D V g n C).2.1 then n else (mvC D V g n C).2.2 k) < _
        have hk : k < (mvC D V g n C).2.1 + 1 := hk
        by_cases e : k = (mvC D V g n C).2.1
        · rw [if_pos e]; omega
        · rw [if_neg e]; exact ih k (by omega)
      · rw [if_neg c2]; exact ih
theorem qt_v (h : ∀ k, k < M.2.2.1 → M.2.2.2 k < d_v D) : ∀ n, ∀ k, k < (qtS D n M).2.2.1 → (qtS D n M).2.2.2 k < d_v D := by
  intro n
  induction n with
  | zero => exact h
  | succ n ih =>
    rw [qtS, q1S]
    by_cases c : dvB D (qtS D n M).1 n = true
    · rw [if_pos c]
      exact mvC_v (d_v D) (Nat.le_refl _) ih
    · rw [if_neg c]; exact ih
theorem qn_v : ∀ (n : Nat) (M : MTq), (∀ k, k < M.2.2.1 → M.2.2.2 k < d_v D) → ∀ k, k < (qnM D n M).2.2.1 → (qnM D n M).2.2.2 k < d_v D := by
  intro n
  induction n with
  | zero => intro M h; exact h
  | succ n ih => intro M h; exact ih _ (qt_v h _)
theorem bell_c (a b : Int32) (hW : WFG G) (h : RepC σ G) : OC (fX11_bell 0 a b σ) (spBe a b G) := by
  have hd := hW.d.1
  unfold fX11_bell spBe
  by_cases ca : a < 0
  · rw [if_pos ca, if_pos ca]
    exact OC.non hW h _
  · rw [if_neg ca, if_neg ca]
    rcases sx_cases (n := 400) (by decide) b with ⟨ej, hb⟩ | ⟨q, hq1, hq, rfl, ej⟩ <;> rw [ej]
    · rw [isSpan_c0 hb, c_I_s, if_pos rfl]
      exact OC.non hW h _
    · rw [isSpan_c1 hq1 hq, c_I_s, if_neg (by decide)]
      dsimp only
      obtain ⟨τ, p, e, wk, hc, bu, e4⟩ := look_c hW h
      rw [e, c_V_s]
      unfold fX10_listenFor
      rw [show tg 0 14 = 10 from rfl, p_sc_s, p_sc_s, c_V_s]
      have w1 : ∀ q, q ≠ 10 → BU q τ (w_sc (w_sc τ 10 7 a) 10 8 (-1)) := fun q hq => BU.scs hq (BU.sc hq)
      have wk1 : WkC (w_sc (w_sc τ 10 7 a) 10 8 (-1)) p 11 (GD G) (GV G) := by
        have n1 : p ≠ 10 := fun e => by have := wk.1.2.2.1; rw [e] at this; revert this; decide
        exact ⟨⟨wk.1.1, wk.1.2.1, wk.1.2.2⟩, wk.2.1.bu (w1 p n1), wk.2.2.1.bu (w1 11 (by decide)), wk.2.2.2⟩
      have hc1 : CtC (w_sc (w_sc τ 10 7 a) 10 8 (-1)) a C0 := by
        refine ⟨?_, ?_, ?_, ?_⟩
        · rw [m_sc_sc, if_neg (by decide), m_sc_sc, if_neg (by decide)]; exact hc.1
        · rw [m_sc_sc, if_neg (by decide), m_sc_sc, if_neg (by decide)]; exact hc.2.1
        · rw [m_sc_sc, if_neg (by decide), m_sc_sc, if_pos ⟨rfl, rfl⟩]
        · rw [m_sc_sc, if_pos ⟨rfl, rfl⟩]
          unfold rgI
          rcases ix_cases (n := C0.2.1) (by decide) a with ⟨e, -⟩ | ⟨k, hk, -, -⟩
          · rw [e]
          · exact absurd hk (Nat.not_lt_zero _)
      obtain ⟨ω, f, r1, r2, r3, r4⟩ := goOn_c (M := (GV G, C0)) (Q := q) (p := p) (s := 11) (sk := a) hW.d (by omega) hW.v wk1 hc1 (show (0 : Nat) < 500000000 by decide) (show (0 : Nat) < 500000000 by decide)
      have h2 : RepC ω G := h.cm hW (fun q _ h1 h2 => ((bu q h1 h2).tr (w1 q h1)).tr (r4 q h1 h2))
      have hbl := bells_le (q := q) hW.d hW.v hq
      have hqv := qn_v q (GV G, C0) (D := GD G) (fun k hk => absurd hk (Nat.not_lt_zero _))
      rw [f, c_I_s, r_sc_s, r3.2.2.2, r_sc_s, r3.2.2.2]
      unfold rgI
      rcases ix_cases (n := (qnM (GD G) q (GV G, C0)).2.2.1) (by omega) a with ⟨e, -⟩ | ⟨k, hk, rfl, e⟩ <;> rw [e] <;> dsimp only
      · rw [if_pos rfl]; exact OC.non hW h2 _
      · have := hqv k hk
        rw [if_neg (nI_nem (by omega))]; exact OC.ans hW h2 _
theorem bell_r (a b : Int32) (hW : WFG G) (h : RepR σ G) : OR (fX12_bell 31 a b σ) (spBe a b G) := by
  have hd := hW.d.1
  unfold fX12_bell spBe
  by_cases ca : a < 0
  · rw [if_pos ca, if_pos ca]
    exact OR.non hW h _
  · rw [if_neg ca, if_neg ca]
    rcases sx_cases (n := 400) (by decide) b with ⟨ej, hb⟩ | ⟨q, hq1, hq, rfl, ej⟩ <;> rw [ej]
    · rw [isSpan_r0 hb, c_I_s, if_pos rfl]
      exact OR.non hW h _
    · rw [isSpan_r1 hq1 hq, c_I_s, if_neg (by decide)]
      dsimp only
      obtain ⟨τ, e, wk, rb, qu, hc, -⟩ := bg1_r hW h
      rw [e, c_V_s]
      obtain ⟨ω, f, r1, r2, r3, r4, r5⟩ := goesBy_r (M := (GV G, C0)) (Q := q) hW.d (by omega) hW.v wk hc (show (0 : Nat) < 500000000 by decide) qu (by have := hW.v.2.2.2.2.2; omega)
      have h2 : RepR ω G := h.rb hW (rb.tr r4.b)
      have hbl := bells_le (q := q) hW.d hW.v hq
      rw [f, c_V_s, r_sc_s, r3.2.1]
      rcases ix_cases (n := (qnM (GD G) q (GV G, C0)).2.2.1) (by omega) a with ⟨e, hh⟩ | ⟨k, hk, rfl, e⟩ <;> rw [e] <;> dsimp only
      · rw [if_neg (hh.elim (fun z => absurd z ca) (fun z => i_le_lt z.2))]; exact OR.non hW h2 _
      · rw [ifl_n (by omega) (by omega), if_pos hk, g_ar_n (by omega) (by decide), r3.2.2 k hk (by omega)]; exact OR.ans hW h2 _
/-! helpers -/
def hpB (D : PD) (V : SD) (v : Nat) (g : Nat → Int) (u : Nat) : Bool := !(u == v) && (g u != 0) && decide (0 < gaZ D V g u)
def spHe (a : Int32) (G : GS) : Int32 × GS := match ix (d_v (GD G)) a with
  | none => (-1, stq 1 G)
  | some v => if rgB (GD G) (GV G) v = true then (-1, stq 6 G) else if egB (GD G) (GV G) (egZ (GD G) (GV G) v (swZ (GD G) (GV G) v)) = true then (nI (bsN (hpB (GD G) (GV G) v (egZ (GD G) (GV G) v (swZ (GD G) (GV G) v))) (d_v (GD G))), stq 0 G) else (-1, stq 7 G)
theorem bs_f {p : Nat → Bool} {i : Nat} (h : p i = false) : bsN p (i + 1) = bsN p i := by
  rw [bsN, h]
  apply Nat.eq_of_testBit_eq
  intro j
  rw [wiN_bit]
  by_cases cj : j = i
  · rw [if_pos cj, cj, bsN_bit]; simp
  · rw [if_neg cj]
theorem bs_t {p : Nat → Bool} {i : Nat} (h : p i = true) : bsN p (i + 1) = bsN p i ||| 2 ^ i := by
  rw [bsN, h]; rfl
theorem cn_l {p s : Nat} (hD : WFD D) (hV : WFV D V) (h : WkC σ p s D V) (hg : oneG g) (hS : SpC σ g) (hM : m_sc σ 10 4 = nI (moN D g)) (hv : v < d_v D) : ∀ (n i : Nat), i ≤ d_v D → d_v D - i < n → fX10_comingNearer_4 10 (nI v) n (nI (bsN (hpB D V v g) i)) (nI i) σ = some (nI (bsN (hpB D V v g) (d_v D)), σ) := by
  intro n
  induction n with
  | zero => intro i _ h; omega
  | succ n ih =>
    intro i hi hn
    have hd := hD.1
    have h' := h
    obtain ⟨⟨e1, e2, k1, k2⟩, hp, hs, hw⟩ := h
    rw [fX10_comingNearer_4, r_rf_e e1 k1, r_sc_s, hp.1.2.1, ifle_n (by omega) (by omega)]
    by_cases c : d_v D ≤ i
    · have : i = d_v D := by omega
      subst this
      rw [if_pos c]
    · have hv' : i < d_v D := by omega
      have ih := ih (i + 1) (by omega) (by omega)
      rw [if_neg c, nI_s, ife_n (by omega) (by omega)]
      by_cases c1 : i = v
      · rw [if_pos c1]
        rw [bs_f (by unfold hpB; simp [c1])] at ih
        exact ih
      · rw [if_neg c1, r_sc_s, hM, mo_has hD hv', c_I_s]
        by_cases c2 : g i = 0
        · rw [if_pos c2, if_pos rfl]
          rw [bs_f (by unfold hpB; simp [c2])] at ih
          exact ih
        · have hr := ga_r (V := V) (g := g) hD hv'
          rw [if_neg c2, if_neg (by decide), gain_c hD hV h' hg hS hv', c_I_s, show (0 : Int32) = iI 0 from rfl, ifle_i (by omega) (by omega) (by omega) (by omega)]
          by_cases c3 : gaZ D V g i ≤ 0
          · rw [if_pos c3]
            rw [bs_f (by unfold hpB; rw [decide_eq_false (by omega)]; simp)] at ih
            exact ih
          · rw [if_neg c3, with_e (by omega), c_I_s]
            rw [bs_t (by unfold hpB; rw [decide_eq_true (by omega)]; simp [c1, c2])] at ih
            exact ih
theorem hp_l (hD : WFD D) (hV : WFV D V) (h : WkR σ D V) (hg : oneG g) (hS : SpR σ g) (hv : v < d_v D) : ∀ (n i : Nat), i ≤ d_v D → d_v D - i < n → fX12_helpers_57 31 (nI v) n (nI (bsN (hpB D V v g) i)) (nI i) σ = c_I (fX12_gives 31 (nI (bsN (hpB D V v g) (d_v D))) σ) (fun x27 σ25 => some (x27, σ25)) := by
  intro n
  induction n with
  | zero => intro i _ h; omega
  | succ n ih =>
    intro i hi hn
    have hd := hD.1
    rw [fX12_helpers_57, show g_ar σ 31 0 2950 (1 : Int32) = g_ar σ 31 0 2950 (nI 1) from rfl, g_ar_n (by decide) (by decide), h.1.2.1, ifle_n (by omega) (by omega)]
    by_cases c : d_v D ≤ i
    · have : i = d_v D := by omega
      subst this
      rw [if_pos c]
    · have hv' : i < d_v D := by omega
      have hb := hD.2.1 i hv'
      have gi := hg i
      have ih := ih (i + 1) (by omega) (by omega)
      rw [if_neg c, nI_s, ife_n (by omega) (by omega)]
      by_cases c1 : i = v
      · rw [if_pos c1]
        rw [bs_f (by unfold hpB; simp [c1])] at ih
        exact ih
      · rw [if_neg c1, g_ar_n (by omega) (by decide), hS _ (by omega)]
        by_cases c2 : g i = 0
        · rw [if_pos (by rw [c2]; rfl)]
          rw [bs_f (by unfold hpB; simp [c2])] at ih
          exact ih
        · rw [if_neg (by rw [iI_0 (by omega) (by omega)]; exact c2), isCalm_r hD hV h hv', c_I_s]
          cases hc : clB D V i
          · have hga : gaZ D V g i = (faN D V i (v_pt V i) : Int) - faN D V i (tnN D V i (g i)) := by unfold gaZ; rw [hc, if_neg (by decide)]
            have hf1 : faN D V i (v_pt V i) ≤ 60 := by unfold faN; omega
            have hf2 : faN D V i (tnN D V i (g i)) ≤ 60 := by unfold faN; omega
            rw [if_pos (by decide), g_ar_n (by omega) (by decide), hS _ (by omega), turned_r hD hV h hv' gi, c_I_s, farFrom_r hD hV h hv' (tn_lt (by omega)), c_I_s, va3 hD h hv', c_I_s, farFrom_r hD hV h hv' (hV.2.1 i hv'), c_I_s, ifle_n (by omega) (by omega)]
            by_cases c3 : faN D V i (v_pt V i) ≤ faN D V i (tnN D V i (g i))
            · rw [if_pos c3, show (0 : Int32) = nI 0 from rfl, or_n, Nat.or_zero]
              rw [bs_f (by unfold hpB; rw [decide_eq_false (by omega)]; simp)] at ih
              exact ih
            · rw [if_neg c3, sh1 (by omega), or_n]
              rw [bs_t (by unfold hpB; rw [decide_eq_true (by omega)]; simp [c1, c2])] at ih
              exact ih
          · rw [if_neg (by decide)]
            rw [bs_f (by unfold hpB; rw [decide_eq_false (by unfold gaZ; rw [hc, if_pos rfl]; omega)]; simp)] at ih
            exact ih
theorem helpers_c (a : Int32) (hW : WFG G) (h : RepC σ G) : OC (fX11_helpers 0 a σ) (spHe a G) := by
  have hd := hW.d.1
  unfold fX11_helpers spHe
  rcases ix_cases (n := d_v (GD G)) (by omega) a with ⟨ei, ha⟩ | ⟨v, hv, rfl, ei⟩ <;> rw [ei]
  · rw [isVane_c0 hW h ha, c_I_s, if_pos rfl]
    exact OC.non hW h _
  · rw [isVane_c1 hW h hv, c_I_s, if_neg (by decide)]
    dsimp only
    obtain ⟨τ, p, e, wk, hc, bu, e4⟩ := won_c hW h
    have h2 : RepC τ G := h.cm hW (fun q _ h1 _ => bu q h1)
    rw [e, c_V_s]
    rw [show tg 0 14 = 10 from rfl, isRight_c hW.d hW.v wk hv, c_I_s]
    cases hr : rgB (GD G) (GV G) v
    · have hcl : clB (GD G) (GV G) v = false := by unfold rgB at hr; cases hx : clB (GD G) (GV G) v <;> simp_all
      rw [if_pos (by decide), if_neg (by decide), shorterWay_c hW.d hW.v wk hv hcl, c_I_s]
      obtain ⟨ω, f, w, o1, o2, o3⟩ := engage_c hW.d hW.v wk hv sw_1
      have h3 : RepC ω G := h2.cm hW (fun q _ h1 _ => w.1 q h1)
      rw [f, c_I_s]
      cases egB (GD G) (GV G) (egZ (GD G) (GV G) v (swZ (GD G) (GV G) v))
      · rw [if_pos (by decide), if_neg (by decide)]
        exact OC.non hW h3 _
      · have e5 : fX10_comingNearer 10 (nI v) ω = _ := cn_l hW.d hW.v (wk.w10 w) o1 o2 o3 hv FU 0 (by omega) (FU_gt (by omega))
        rw [if_neg (by decide), if_pos rfl, e5, c_I_s]
        exact OC.ans hW h3 _
    · rw [if_neg (by decide), if_pos rfl]
      exact OC.non hW h2 _
theorem helpers_r (a : Int32) (hW : WFG G) (h : RepR σ G) : OR (fX12_helpers 31 a σ) (spHe a G) := by
  have hd := hW.d.1
  unfold fX12_helpers spHe
  rcases ix_cases (n := d_v (GD G)) (by omega) a with ⟨ei, ha⟩ | ⟨v, hv, rfl, ei⟩ <;> rw [ei]
  · rw [isVane_r0 hW h ha, c_I_s, if_pos rfl]
    exact OR.non hW h _
  · rw [isVane_r1 hW h hv, c_I_s, if_neg (by decide)]
    dsimp only
    obtain ⟨τ, e, wk, rb, qu⟩ := bg0_r hW h
    have h2 : RepR τ G := h.rb hW rb
    rw [e, c_V_s]
    rw [isRight_r hW.d hW.v wk hv, c_I_s]
    cases hr : rgB (GD G) (GV G) v
    · rw [if_pos (by decide), if_neg (by decide), shorter_r hW.d hW.v wk hv, c_I_s]
      obtain ⟨ω, f, w, o1, o2⟩ := dragsBy_r hW.d hW.v wk hv sw_1
      have h3 : RepR ω G := h2.rb hW w.t.b
      rw [f, c_I_s]
      cases egB (GD G) (GV G) (egZ (GD G) (GV G) v (swZ (GD G) (GV G) v))
      · rw [if_pos (by decide), if_neg (by decide)]
        exact OR.non hW h3 _
      · have e5 := hp_l hW.d hW.v (wk.rg w) o1 o2 hv FU 0 (by omega) (FU_gt (by omega))
        rw [if_neg (by decide), if_pos rfl]
        refine Eq.mpr (congrArg (fun z => OR z _) e5) ?_
        exact OR.ans hW h3 _
    · rw [if_neg (by decide), if_pos rfl]
      exact OR.non hW h2 _
theorem pass_s (a : Int32) (σ : Mm) (h : Rel σ) : ok (fX11_pass 0 a σ) (fun q => ok (fX12_pass 31 a q.2) (fun q' => q'.1 = q.1 ∧ Rel q'.2)) :=
  simS (fc := fX11_pass 0 a) (fr := fX12_pass 31 a) (ks := [0, 1, 2, 3, 4, 5, 6, 7, 8, 9, 10, 11]) (by decide) (spPa a) (fun σ G => pass_c a) (fun σ G => pass_r a) (fun G hW => pass_w a hW) (fun σ x τ ee => F_sub (frX11_pass 0 a (by decide) σ ee) (by decide)) (fun σ x τ ee => F_sub (frX12_pass 31 a (by decide) σ ee) (by decide)) σ h
theorem turn_s (a : Int32) (b : Int32) (σ : Mm) (h : Rel σ) : ok (fX11_turn 0 a b σ) (fun q => ok (fX12_turn 31 a b q.2) (fun q' => q'.1 = q.1 ∧ Rel q'.2)) :=
  simS (fc := fX11_turn 0 a b) (fr := fX12_turn 31 a b) (ks := [0, 1, 2, 3, 4, 5, 6, 7, 8, 9, 10, 11]) (by decide) (spTu a b) (fun σ G => turn_c a b) (fun σ G => turn_r a b) (fun G hW => turn_w a b hW) (fun σ x τ ee => F_sub (frX11_turn 0 a b (by decide) σ ee) (by decide)) (fun σ x τ ee => F_sub (frX12_turn 31 a b (by decide) σ ee) (by decide)) σ h
theorem bell_s (a : Int32) (b : Int32) (σ : Mm) (h : Rel σ) : ok (fX11_bell 0 a b σ) (fun q => ok (fX12_bell 31 a b q.2) (fun q' => q'.1 = q.1 ∧ Rel q'.2)) :=
  simS (fc := fX11_bell 0 a b) (fr := fX12_bell 31 a b) (ks := [0, 1, 2, 3, 4, 5, 6, 7, 8, 9, 10, 11]) (by decide) (spBe a b) (fun σ G => bell_c a b) (fun σ G => bell_r a b) (fun G hW => by unfold spBe; repeat (first | exact hW | split)) (fun σ x τ ee => F_sub (frX11_bell 0 a b (by decide) σ ee) (by decide)) (fun σ x τ ee => F_sub (frX12_bell 31 a b (by decide) σ ee) (by decide)) σ h
theorem helpers_s (a : Int32) (σ : Mm) (h : Rel σ) : ok (fX11_helpers 0 a σ) (fun q => ok (fX12_helpers 31 a q.2) (fun q' => q'.1 = q.1 ∧ Rel q'.2)) :=
  simS (fc := fX11_helpers 0 a) (fr := fX12_helpers 31 a) (ks := [0, 1, 2, 3, 4, 5, 6, 7, 8, 9, 10, 11]) (by decide) (spHe a) (fun σ G => helpers_c a) (fun σ G => helpers_r a) (fun G hW => by unfold spHe; repeat (first | exact hW | split)) (fun σ x τ ee => F_sub (frX11_helpers 0 a (by decide) σ ee) (by decide)) (fun σ x τ ee => F_sub (frX12_helpers 31 a (by decide) σ ee) (by decide)) σ h
end O
