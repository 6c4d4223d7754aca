/-! PURE 33: again -/
/-- how far all are from right, by how strong it blows -/
def phZ (D : PD) (V : SD) : Nat → Int
  | 0 => 0
  | n + 1 => phZ D V n + (if clB D V n then 0 else (faN D V n (v_pt V n) : Int)) * (v_sg V (d_ho D n) : Int)
section O
variable {σ τ : Mm} {v : Nat} {D : PD} {V : SD} {g : Nat → Int} {C : CT} {M : MTq} {G : GS}
theorem ph_mv (hD : WFD D) : ∀ n, n ≤ d_v D → phZ D (mvF D V g) n + foZ D V g n ≤ phZ D V n := by
  intro n
  induction n with
  | zero => intro _; exact Int.le_refl _
  | succ n ih =>
    intro hn
    have ih := ih (by omega)
    rw [phZ, phZ, foZ, show clB D (mvF D V g) n = clB D V n from rfl, show v_sg (mvF D V g) (d_ho D n) = v_sg V (d_ho D n) from rfl, show faN D (mvF D V g) n (v_pt (mvF D V g) n) = faN D V n (v_pt (mvF D V g) n) from rfl, show v_pt (mvF D V g) n = if n < d_v D ∧ g n ≠ 0 then tnN D V n (g n) else v_pt V n from rfl]
    by_cases c : g n = 0
    · rw [if_pos c, if_neg (show ¬ (n < d_v D ∧ g n ≠ 0) from fun z => z.2 c)]; omega
    · rw [if_neg c, if_pos (show n < d_v D ∧ g n ≠ 0 from ⟨by omega, c⟩)]
      unfold gaZ
      cases clB D V n
      · simp only [Bool.false_eq_true, if_false]
        rw [Int.sub_mul]
        omega
      · simp only [if_true, Int.zero_mul]; omega
theorem ph_q1 (hD : WFD D) : phZ D (q1S D v M).1 (d_v D) ≤ phZ D M.1 (d_v D) ∧ (dvB D M.1 v = true → phZ D (q1S D v M).1 (d_v D) < phZ D M.1 (d_v D)) := by
  unfold q1S
  by_cases c : dvB D M.1 v = true
  · rw [if_pos c]
    have h1 := ph_mv (V := M.1) (g := egZ D M.1 v (swZ D M.1 v)) hD (d_v D) (Nat.le_refl _)
    have h2 : 0 < foZ D M.1 (egZ D M.1 v (swZ D M.1 v)) (d_v D) := by
      unfold dvB at c
      simp only [Bool.and_eq_true, decide_eq_true_eq] at c
      exact c.2
    exact ⟨by show phZ D (mvF D M.1 (egZ D M.1 v (swZ D M.1 v))) (d_v D) ≤ _; omega, fun _ => by show phZ D (mvF D M.1 (egZ D M.1 v (swZ D M.1 v))) (d_v D) < _; omega⟩
  · rw [if_neg c]
    exact ⟨Int.le_refl _, fun z => absurd z c⟩
theorem ph_qt (hD : WFD D) : ∀ n, phZ D (qtS D n M).1 (d_v D) ≤ phZ D M.1 (d_v D) ∧ (qtS D n M ≠ M → phZ D (qtS D n M).1 (d_v D) < phZ D M.1 (d_v D)) := by
  intro n
  induction n with
  | zero => exact ⟨Int.le_refl _, fun z => absurd rfl z⟩
  | succ n ih =>
    have h := ph_q1 (v := n) (M := qtS D n M) hD
    rw [qtS]
    refine ⟨by omega, fun hne => ?_⟩
    by_cases c : dvB D (qtS D n M).1 n = true
    · have := h.2 c; omega
    · have e : q1S D n (qtS D n M) = qtS D n M := by unfold q1S; rw [if_neg c]
      rw [e] at hne ⊢
      exact ih.2 hne
theorem qn_1 : ∀ (n : Nat) (M : MTq), qnM D (n + 1) M = qtM D (qnM D n M) := by
  intro n
  induction n with
  | zero => intro M; rfl
  | succ n ih => intro M; rw [qnM, ih]; rfl
theorem qn_add : ∀ (a b : Nat) (M : MTq), qnM D (a + b) M = qnM D b (qnM D a M) := by
  intro a
  induction a with
  | zero => intro b M; rw [Nat.zero_add]; rfl
  | succ a ih => intro b M; rw [show a + 1 + b = (a + b) + 1 by omega, qnM, ih]; rfl
theorem ph_qn (hD : WFD D) : ∀ (n : Nat) (M : MTq), phZ D (qnM D n M).1 (d_v D) ≤ phZ D M.1 (d_v D) := by
  intro n
  induction n with
  | zero => intro M; exact Int.le_refl _
  | succ n ih => intro M; rw [qnM]; have := ih (qtM D M); have := (ph_qt (M := M) hD (d_v D)).1; unfold qtM at *; omega
/-- until all stands still each quarter turns something -/
theorem cq_mv : ∀ (n : Nat) (M : MTq) (a : Nat), a < cqN D n M → (qtM D (qnM D a M)).2.1 ≠ (qnM D a M).2.1 := by
  intro n
  induction n with
  | zero => intro M a h; exact absurd h (Nat.not_lt_zero _)
  | succ n ih =>
    intro M a h
    rw [cqN] at h
    by_cases c : (qtM D M).2.1 = M.2.1
    · rw [if_pos c] at h; omega
    · rw [if_neg c] at h
      cases a with
      | zero => exact c
      | succ a => exact ih (qtM D M) a (by omega)
theorem cq_st : ∀ (n : Nat) (M : MTq), cqN D n M < n → (qtM D (qnM D (cqN D n M) M)).2.1 = (qnM D (cqN D n M) M).2.1 := by
  intro n
  induction n with
  | zero => intro M h; exact absurd h (Nat.not_lt_zero _)
  | succ n ih =>
    intro M h
    rw [cqN] at h ⊢
    by_cases c : (qtM D M).2.1 = M.2.1
    · rw [if_pos c]; exact c
    · rw [if_neg c] at h ⊢
      exact ih (qtM D M) (by omega)
/-- what a quarter leaves: winds, those held and lifted -/
theorem qt_kp : ∀ n, (qtS D n M).1.1 = M.1.1 ∧ (qtS D n M).1.2.2.2.1 = M.1.2.2.2.1 := by
  intro n
  induction n with
  | zero => exact ⟨rfl, rfl⟩
  | succ n ih =>
    rw [qtS, q1S]
    by_cases c : dvB D (qtS D n M).1 n = true
    · rw [if_pos c]; exact ih
    · rw [if_neg c]; exact ih
theorem qn_kp : ∀ (n : Nat) (M : MTq), (qnM D n M).1.1 = M.1.1 ∧ (qnM D n M).1.2.2.2.1 = M.1.2.2.2.1 := by
  intro n
  induction n with
  | zero => intro M; exact ⟨rfl, rfl⟩
  | succ n ih =>
    intro M
    have h1 := ih (qtM D M)
    have h2 := qt_kp (D := D) (M := M) (d_v D)
    exact ⟨h1.1.trans h2.1, h1.2.trans h2.2⟩
theorem ph_eq {W : SD} (h1 : W.1 = V.1) (h2 : ∀ v, v < d_v D → v_pt W v = v_pt V v) : ∀ n, n ≤ d_v D → phZ D W n = phZ D V n := by
  intro n
  induction n with
  | zero => intro _; rfl
  | succ n ih =>
    intro hn
    rw [phZ, phZ, ih (by omega), h2 n (by omega)]
    unfold clB faN trN wtN v_sg v_fr
    rw [h1]
/-- the same teeth never come again while something turns -/
theorem ag_ne (hD : WFD D) {n a b : Nat} (ha : a < cqN D n (V, C)) (hab : a < b) : ∃ v, v < d_v D ∧ v_pt (qnM D a (V, C)).1 v ≠ v_pt (qnM D b (V, C)).1 v := by
  apply Classical.byContradiction
  intro hno
  have hno : ∀ v, v < d_v D → v_pt (qnM D b (V, C)).1 v = v_pt (qnM D a (V, C)).1 v := fun v hv => by
    apply Classical.byContradiction
    intro z
    exact hno ⟨v, hv, fun y => z y.symm⟩
  have e := ph_eq ((qn_kp b (V, C)).1.trans (qn_kp a (V, C)).1.symm) hno (d_v D) (Nat.le_refl _)
  have hm := cq_mv n (V, C) a ha
  have h1 := (ph_qt (M := qnM D a (V, C)) hD (d_v D)).2 (fun z => hm (by show (qtS D (d_v D) (qnM D a (V, C))).2.1 = _; rw [z]))
  have h2 := ph_qn hD (b - (a + 1)) (qnM D (a + 1) (V, C))
  rw [← qn_add, show a + 1 + (b - (a + 1)) = b by omega, qn_1] at h2
  unfold qtM at h2
  omega
theorem ag_eq {n b : Nat} (ha : cqN D n M < n) (hab : cqN D n M ≤ b) : qnM D b M = qnM D (cqN D n M) M := by
  have h := cq_st n M ha
  have e : b = cqN D n M + (b - cqN D n M) := by omega
  rw [e, qn_add, qn_still h]
def spAg (a : Int32) (G : GS) : Int32 × GS := match ix 2 a with
  | none => (-1, stq 1 G)
  | some k => if cqN (GD G) 400 (GV G, C0) = 400 then (-1, stq 6 G) else if k = 0 then (nI (cqN (GD G) 400 (GV G, C0)), stq 0 G) else (1, stq 0 G)
theorem again_c (a : Int32) (hW : WFG G) (h : RepC σ G) : OC (fX11_again 0 a σ) (spAg a G) := by
  have hd := hW.d.1
  unfold fX11_again spAg
  have hle := cq_le (D := GD G) 400 (GV G, C0)
  rcases ix_cases (n := 2) (by decide) a with ⟨ei, ha⟩ | ⟨k, hk, rfl, ei⟩ <;> rw [ei]
  · rcases ha with ha | ⟨ha, hb⟩
    · rw [if_pos ha]; exact OC.non hW h _
    · rw [if_neg ha, if_neg]
      · exact OC.non hW h _
      · intro z
        rw [Int32.le_iff_toInt_le] at z hb
        have e1 : (nI 2).toInt = 2 := rfl
        have e2 : (1 : Int32).toInt = 1 := rfl
        omega
  · dsimp only
    rw [if_neg (nI_neg0 (by omega)), if_pos (show nI k ≤ (1 : Int32) from (nI_len (b := 1) (by omega) (by decide)).mpr (by omega))]
    obtain ⟨τ, p, e, wk, hc, bu, e4⟩ := look_c hW h
    unfold fX11_quartersToCalm
    rw [e, c_V_s]
    obtain ⟨ω, f, r1, r2, r3, r4⟩ := goOn_c (M := (GV G, C0)) (Q := 400) (p := p) (s := 11) (sk := -1) hW.d (by decide) hW.v wk hc (show (0 : Nat) < 500000000 by decide) (show (0 : Nat) < 500000000 by decide)
    have h2 : RepC ω G := h.cm hW (fun q _ h1 h2 => (bu q h1 h2).tr (r4 q h1 h2))
    rw [show tg 0 14 = 10 from rfl, show (400 : Int32) = nI 400 from rfl, f, c_I_s, ife_n (by omega) (by decide)]
    by_cases c : cqN (GD G) 400 (GV G, C0) = 400
    · rw [if_pos c, if_pos c, c_I_s, if_pos rfl]
      exact OC.non hW h2 _
    · rw [if_neg c, if_neg c, c_I_s, if_neg (nI_nem (by omega)), show (0 : Int32) = nI 0 from rfl, ife_n (by omega) (by decide)]
      by_cases c2 : k = 0
      · rw [if_pos c2, if_pos c2]; exact OC.ans hW h2 _
      · rw [if_neg c2, if_neg c2]; exact OC.ans hW h2 _
/-! the reference writes down what is, quarter by quarter -/
/-- frame: of what a call that asks leaves, with the array of what was written too -/
def RB3 (σ τ : Mm) : Prop := (∀ k, k < 26 ∨ 29 < k → m_sc τ 31 k = m_sc σ 31 k) ∧ (∀ k, m_lg τ 31 k = m_lg σ 31 k) ∧ (∀ j, j ≠ 0 → j ≠ 8 → j ≠ 9 → j ≠ 13 → m_ar τ 31 j = m_ar σ 31 j) ∧ (∀ i, i < 2450 → m_ar τ 31 0 i = m_ar σ 31 0 i) ∧ ∀ j, m_la τ 31 j = m_la σ 31 j
theorem RB.b3 (h : RB σ τ) : RB3 σ τ := ⟨h.1, h.2.1, fun j h0 h8 h9 _ => h.2.2.1 j h0 h8 h9, h.2.2.2.1, h.2.2.2.2⟩
theorem RB3.tr {ω : Mm} (h : RB3 σ τ) (h2 : RB3 τ ω) : RB3 σ ω := ⟨fun k q => (h2.1 k q).trans (h.1 k q), fun k => (h2.2.1 k).trans (h.2.1 k), fun j h0 h8 h9 h3 => (h2.2.2.1 j h0 h8 h9 h3).trans (h.2.2.1 j h0 h8 h9 h3), fun i hi => (h2.2.2.2.1 i hi).trans (h.2.2.2.1 i hi), fun j => (h2.2.2.2.2 j).trans (h.2.2.2.2 j)⟩
theorem RepR.rb3 (hW : WFG G) (h : RepR σ G) (w : RB3 σ τ) : RepR τ G := RepR.upd (σ := σ) G.1 hW ⟨fun k hk => w.1 k (by omega), fun j hj => w.2.2.1 j (by omega) (by omega) (by omega) (by omega), w.2.2.2.2 4, fun i hi => w.2.2.2.1 i (by omega), fun i _ => by rw [w.2.2.2.2 1]⟩ ⟨(w.1 2 (by omega)).trans h.1.1, (w.2.1 3).trans h.1.2.1, (w.2.1 4).trans h.1.2.2.1⟩ h
/-- only the array of what was is written -/
def R13 (σ τ : Mm) : Prop := (∀ k, m_sc τ 31 k = m_sc σ 31 k) ∧ (∀ k, m_lg τ 31 k = m_lg σ 31 k) ∧ (∀ j, j ≠ 13 → m_ar τ 31 j = m_ar σ 31 j) ∧ ∀ j, m_la τ 31 j = m_la σ 31 j
theorem R13.rf : R13 σ σ := ⟨fun _ => rfl, fun _ => rfl, fun _ _ => rfl, fun _ => rfl⟩
theorem R13.tr {ω : Mm} (h : R13 σ τ) (h2 : R13 τ ω) : R13 σ ω := ⟨fun k => (h2.1 k).trans (h.1 k), fun k => (h2.2.1 k).trans (h.2.1 k), fun j hj => (h2.2.2.1 j hj).trans (h.2.2.1 j hj), fun j => (h2.2.2.2 j).trans (h.2.2.2 j)⟩
theorem R13.w (i : Nat) (x : Int32) : R13 σ (w_ar σ 31 13 i x) := ⟨fun _ => rfl, fun _ => rfl, fun j hj => by funext k; rw [m_ar_ar, if_neg (fun z => hj z.2.1)], fun _ => rfl⟩
theorem R13.b3 (h : R13 σ τ) : RB3 σ τ := ⟨fun k _ => h.1 k, h.2.1, fun j _ _ _ h3 => h.2.2.1 j h3, fun i _ => by rw [h.2.2.1 0 (by decide)], h.2.2.2⟩
theorem ag30 {q : Nat} {x : Int32} {K : Int32 → Mm → Option (Int32 × Mm)} (hq : q ≤ 400) : ∀ (n i : Nat) (σ : Mm), i ≤ 8 → 8 - i < n → ∃ τ, fX12_again_30 31 x K n (nI q) (nI i) σ = fX12_again_61 31 x K FU (nI q) (0 : Int32) τ ∧ R13 σ τ ∧ (∀ k, m_ar τ 31 13 k = if 18 * q + i ≤ k ∧ k < 18 * q + 8 then m_ar σ 31 0 (2470 + 6 * (k - 18 * q) + 3) else m_ar σ 31 13 k) := by
  intro n
  induction n with
  | zero => intro i σ _ h; omega
  | succ n ih =>
    intro i σ hi hn
    rw [fX12_again_30, ln_8, ifle_n (by decide) (by omega)]
    by_cases c : 8 ≤ i
    · rw [if_pos c]
      exact ⟨σ, rfl, R13.rf, fun k => by rw [if_neg (by omega)]⟩
    · have e3 := vaneAt_n (σ := σ) (v := i) (k := 3) (by omega) (by omega)
      have e3 : fX12_vaneAt 31 (nI i) (3 : Int32) σ = _ := e3
      rw [if_neg c, e3, c_I_s, ln_18, nI_mul, nI_ad, s_ar_n (by omega) (by decide), nI_s]
      obtain ⟨τ, e, w, r⟩ := ih (i + 1) (w_ar σ 31 13 (18 * q + i) (m_ar σ 31 0 (2470 + 6 * i + 3))) (by omega) (by omega)
      refine ⟨τ, e, (R13.w _ _).tr w, fun k => ?_⟩
      rw [r k, m_ar_ar, if_neg (show ¬ (31 = 31 ∧ 0 = 13 ∧ _) from fun z => absurd z.2.1 (by decide)), m_ar_ar]
      by_cases c1 : k = 18 * q + i
      · rw [if_neg (by omega), if_pos ⟨rfl, rfl, c1⟩, if_pos (by omega), show k - 18 * q = i by omega]
      · rw [if_neg (show ¬ (31 = 31 ∧ 13 = 13 ∧ k = 18 * q + i) from fun z => c1 z.2.2)]
        by_cases c2 : 18 * q + (i + 1) ≤ k ∧ k < 18 * q + 8
        · rw [if_pos c2, if_pos (by omega)]
        · rw [if_neg c2, if_neg (by omega)]
theorem ag61 {q : Nat} {x : Int32} {K : Int32 → Mm → Option (Int32 × Mm)} (hq : q ≤ 400) : ∀ (n i : Nat) (σ : Mm), i ≤ 10 → 10 - i < n → ∃ τ, fX12_again_61 31 x K n (nI q) (nI i) σ = fX12_again_93 31 x K (nI q) τ ∧ R13 σ τ ∧ (∀ k, m_ar τ 31 13 k = if 18 * q + 8 + i ≤ k ∧ k < 18 * q + 18 then m_ar σ 31 0 (2520 + 5 * (k - 18 * q - 8) + 4) else m_ar σ 31 13 k) := by
  intro n
  induction n with
  | zero => intro i σ _ h; omega
  | succ n ih =>
    intro i σ hi hn
    rw [fX12_again_61, ln_10, ifle_n (by decide) (by omega)]
    by_cases c : 10 ≤ i
    · rw [if_pos c]
      exact ⟨σ, rfl, R13.rf, fun k => by rw [if_neg (by omega)]⟩
    · have e3 := shaftAt_n (σ := σ) (v := i) (k := 4) (by omega) (by omega)
      have e3 : fX12_shaftAt 31 (nI i) (4 : Int32) σ = _ := e3
      rw [if_neg c, e3, c_I_s, ln_18, ln_8, nI_mul, nI_ad, nI_ad, s_ar_n (by omega) (by decide), nI_s]
      obtain ⟨τ, e, w, r⟩ := ih (i + 1) (w_ar σ 31 13 (18 * q + 8 + i) (m_ar σ 31 0 (2520 + 5 * i + 4))) (by omega) (by omega)
      refine ⟨τ, e, (R13.w _ _).tr w, fun k => ?_⟩
      rw [r k, m_ar_ar, if_neg (show ¬ (31 = 31 ∧ 0 = 13 ∧ _) from fun z => absurd z.2.1 (by decide)), m_ar_ar]
      by_cases c1 : k = 18 * q + 8 + i
      · rw [if_neg (by omega), if_pos ⟨rfl, rfl, c1⟩, if_pos (by omega), show k - 18 * q - 8 = i by omega]
      · rw [if_neg (show ¬ (31 = 31 ∧ 13 = 13 ∧ k = 18 * q + 8 + i) from fun z => c1 z.2.2)]
        by_cases c2 : 18 * q + 8 + (i + 1) ≤ k ∧ k < 18 * q + 18
        · rw [if_pos c2, if_pos (by omega)]
        · rw [if_neg c2, if_neg (by omega)]
/-- what stands of vanes and shafts that are none: it stays -/
def WX (σ : Mm) (D : PD) (f : Nat → Int32) : Prop := (∀ v, d_v D ≤ v → v < 8 → m_ar σ 31 0 (2470 + 6 * v + 3) = f v) ∧ ∀ s, d_s D ≤ s → s < 10 → m_ar σ 31 0 (2520 + 5 * s + 4) = f (8 + s)
/-- what is written down of a quarter -/
def waI (D : PD) (f : Nat → Int32) (V : SD) (k : Nat) : Int32 := if k < 8 then (if k < d_v D then nI (v_pt V k) else f k) else if k - 8 < d_s D then nI (v_py V (k - 8)) else f k
theorem WX.rt {f : Nat → Int32} (hD : WFD D) (hk : WkR σ D V) (h : WX σ D f) (w : RT σ τ) : WX τ D f := by
  have hd := hD.1
  refine ⟨fun v h1 h2 => ?_, fun s h1 h2 => ?_⟩
  · rw [w.2.2.2.1 _ (Or.inr (Or.inr (Or.inl ⟨v, h2, by rw [hk.1.2.1, nI_len (by omega) (by omega)]; exact h1, rfl⟩)))]
    exact h.1 v h1 h2
  · rw [w.2.2.2.1 _ (Or.inr (Or.inr (Or.inr ⟨s, h2, by rw [hk.1.2.2, nI_len (by omega) (by omega)]; exact h1, rfl⟩)))]
    exact h.2 s h1 h2
theorem wa_rd {f : Nat → Int32} {k : Nat} (hD : WFD D) (hk : WkR σ D V) (h : WX σ D f) (h18 : k < 18) : (if k < 8 then m_ar σ 31 0 (2470 + 6 * k + 3) else m_ar σ 31 0 (2520 + 5 * (k - 8) + 4)) = waI D f V k := by
  unfold waI
  by_cases c : k < 8
  · rw [if_pos c, if_pos c]
    by_cases c2 : k < d_v D
    · rw [if_pos c2]; exact (hk.2.2.2.2.1 k c2).1
    · rw [if_neg c2]; exact h.1 k (by omega) c
  · rw [if_neg c, if_neg c]
    by_cases c2 : k - 8 < d_s D
    · rw [if_pos c2]; exact hk.2.2.2.2.2.1 (k - 8) c2
    · rw [if_neg c2]
      have := h.2 (k - 8) (by omega) (by omega)
      rw [show 8 + (k - 8) = k by omega] at this
      exact this
theorem ag21 {f : Nat → Int32} {x : Int32} (hD : WFD D) (hV0 : WFV D V) : ∀ (n q u : Nat) (σ : Mm), q ≤ 401 → 401 - q < n → WFV D (qnM D q (V, C0)).1 → WkR σ D (qnM D q (V, C0)).1 → CtR σ (qnM D q (V, C0)).2 → (qnM D q (V, C0)).2.2.1 ≤ 64 * q → m_ar σ 31 0 2453 = nI u → u ≤ 9999 → WX σ D f → (∀ p, p < q → ∀ k, k < 18 → m_ar σ 31 13 (18 * p + k) = waI D f (qnM D p (V, C0)).1 k) → ∃ τ, fX12_again_21 31 x n (nI q) σ = fX12_again_109 31 x FU (0 : Int32) τ ∧ RB3 σ τ ∧ ∀ p, p ≤ 400 → ∀ k, k < 18 → m_ar τ 31 13 (18 * p + k) = waI D f (qnM D p (V, C0)).1 k := by
  intro n
  induction n with
  | zero => intro q u σ _ h; omega
  | succ n ih =>
    intro q u σ hq hn hV wk hc hC hu hu9 hx hw
    rw [fX12_again_21, ln_400, ifl_n (by decide) (by omega)]
    by_cases c : 400 < q
    · rw [if_pos c]
      exact ⟨σ, rfl, ⟨fun _ _ => rfl, fun _ => rfl, fun _ _ _ _ _ => rfl, fun _ _ => rfl, fun _ => rfl⟩, fun p hp => hw p (by omega)⟩
    · obtain ⟨τ1, e1, w1, a1⟩ := ag30 (q := q) (x := x) (K := fX12_again_21 31 x n) (by omega) FU 0 σ (by omega) (FU_gt (by omega))
      obtain ⟨τ2, e2, w2, a2⟩ := ag61 (q := q) (x := x) (K := fX12_again_21 31 x n) (by omega) FU 0 τ1 (by omega) (FU_gt (by omega))
      have w12 := w1.tr w2
      have at0 : m_ar τ2 31 0 = m_ar σ 31 0 := w12.2.2.1 0 (by decide)
      have wk2 : WkR τ2 D (qnM D q (V, C0)).1 := by unfold WkR; rw [at0]; exact wk
      have hc2 : CtR τ2 (qnM D q (V, C0)).2 := ⟨(w12.1 27).trans hc.1, (w12.1 26).trans hc.2.1, fun k h1 h2 => by rw [w12.2.2.1 9 (by decide)]; exact hc.2.2 k h1 h2⟩
      obtain ⟨τ, e, r1, r2, r3, r4, r5, r6⟩ := quarterGoes_r hD hV wk2 hc2 (by omega) (show m_ar τ2 31 0 2453 = nI u by rw [at0]; exact hu) hu9
      have hle := qtM_le (M := qnM D q (V, C0)) hD
      obtain ⟨z, hz⟩ : ∃ z : Int32, z = (if (fsF (dvB D (qnM D q (V, C0)).1) (d_v D)).isNone = true then 0 else 1) := ⟨_, rfl⟩
      have hz2 : z = 0 ∨ z = 1 := by rw [hz]; cases (fsF (dvB D (qnM D q (V, C0)).1) (d_v D)).isNone <;> simp
      have hx2 : WX τ2 D f := by unfold WX; rw [at0]; exact hx
      have e1' : fX12_again_30 31 x (fX12_again_21 31 x n) FU (nI q) (0 : Int32) σ = _ := e1
      have e2' : fX12_again_61 31 x (fX12_again_21 31 x n) FU (nI q) (0 : Int32) τ1 = _ := e2
      rw [if_neg c, e1', e2']
      unfold fX12_again_93
      rw [e, c_I_s, ← hz, p_bz_y hz2, nI_s]
      have eq : qnM D (q + 1) (V, C0) = qtM D (qnM D q (V, C0)) := qn_1 q _
      obtain ⟨π, f2, g1, g2⟩ := ih (q + 1) (min (u + 1) 9999) (w_sc τ 31 29 z) (by omega) (by omega) (by rw [eq]; exact r1) (by rw [eq]; exact r2) (by rw [eq]; exact ⟨by rw [m_sc_sc, if_neg (by decide)]; exact r3.1, by rw [m_sc_sc, if_neg (by decide)]; exact r3.2.1, r3.2.2⟩) (by rw [eq]; omega) r6 (Nat.min_le_right _ _) (hx2.rt hD wk2 (r4.tr (RT.s (by omega) (by omega)))) (fun p hp k hk => by
        rw [m_ar_sc, r4.2.2.1 13 (by decide) (by decide) (by decide), a2]
        by_cases cp : p = q
        · subst cp
          have hr := wa_rd (k := k) hD wk hx hk
          by_cases c8 : k < 8
          · rw [if_neg (by omega), a1, if_pos (by omega), show 18 * p + k - 18 * p = k by omega]
            rw [if_pos c8] at hr; exact hr
          · rw [if_pos (by omega), w1.2.2.1 0 (by decide), show 18 * p + k - 18 * p - 8 = k - 8 by omega]
            rw [if_neg c8] at hr; exact hr
        · rw [if_neg (by omega), a1, if_neg (by omega)]
          exact hw p (by omega) k hk)
      refine ⟨π, f2, ((w12.b3.tr r4.b.b3).tr (RT.s (by omega) (by omega)).b.b3).tr g1, g2⟩
def agB (D : PD) (f : Nat → Int32) (V : SD) (a b : Nat) : Bool := (fsF (fun k => !(decide (waI D f (qnM D a (V, C0)).1 k = waI D f (qnM D b (V, C0)).1 k))) 18).isNone
theorem ia_l {f : Nat → Int32} {a b : Nat} (ha : a ≤ 400) (hb : b ≤ 400) (hw : ∀ p, p ≤ 400 → ∀ k, k < 18 → m_ar σ 31 13 (18 * p + k) = waI D f (qnM D p (V, C0)).1 k) : ∀ (n k : Nat), k ≤ 18 → 18 - k < n → fX12_isAgain_2 31 (nI a) (nI b) n (nI k) σ = some (if (ffF (fun k => !(decide (waI D f (qnM D a (V, C0)).1 k = waI D f (qnM D b (V, C0)).1 k))) (18 - k) k).isNone then 1 else 0, σ) := by
  intro n
  induction n with
  | zero => intro k _ h; omega
  | succ n ih =>
    intro k hk hn
    rw [fX12_isAgain_2, ln_18, ifle_n (by decide) (by omega)]
    by_cases c : 18 ≤ k
    · rw [if_pos c, show 18 - k = 0 by omega]; rfl
    · have ih := ih (k + 1) (by omega) (by omega)
      rw [if_neg c, nI_mul, nI_ad, g_ar_n (by omega) (by decide), hw a ha k (by omega), nI_mul, nI_ad, g_ar_n (by omega) (by decide), hw b hb k (by omega), nI_s, show 18 - k = (18 - (k + 1)) + 1 by omega, ffN_1]
      by_cases c2 : waI D f (qnM D a (V, C0)).1 k = waI D f (qnM D b (V, C0)).1 k
      · rw [if_pos c2, decide_eq_true c2]; exact ih
      · rw [if_neg c2, decide_eq_false c2]; rfl
theorem isAgain_r {f : Nat → Int32} {a b : Nat} (ha : a ≤ 400) (hb : b ≤ 400) (hw : ∀ p, p ≤ 400 → ∀ k, k < 18 → m_ar σ 31 13 (18 * p + k) = waI D f (qnM D p (V, C0)).1 k) : fX12_isAgain 31 (nI a) (nI b) σ = some (if agB D f V a b then 1 else 0, σ) := ia_l ha hb hw FU 0 (by omega) (FU_gt (by omega))
theorem ag_f {f : Nat → Int32} {a b : Nat} (hD : WFD D) (hV : WFV D V) (ha : a < cqN D 400 (V, C0)) (hab : a < b) : agB D f V a b = false := by
  have hd := hD.1
  obtain ⟨v, hv, hne⟩ := ag_ne hD ha hab
  have h1 := (qn_wf hD a (V, C0) hV).2.1 v hv
  have h2 := (qn_wf hD b (V, C0) hV).2.1 v hv
  have hb := hD.2.1 v hv
  unfold agB
  cases hx : fsF (fun k => !(decide (waI D f (qnM D a (V, C0)).1 k = waI D f (qnM D b (V, C0)).1 k))) 18 with
  | some _ => rfl
  | none =>
    have := (ffF_none _ _ _).mp hx v (by omega) (by omega)
    unfold waI at this
    rw [if_pos (by omega), if_pos hv, if_pos (by omega), if_pos hv, decide_eq_false (fun z => hne ((nI_inj (by omega) (by omega)).mp z))] at this
    cases this
theorem ag_t {f : Nat → Int32} {b : Nat} (ha : cqN D 400 (V, C0) < 400) (hab : cqN D 400 (V, C0) ≤ b) : agB D f V (cqN D 400 (V, C0)) b = true := by
  unfold agB
  rw [ag_eq ha hab]
  cases hx : fsF (fun k => !(decide (waI D f (qnM D (cqN D 400 (V, C0)) (V, C0)).1 k = waI D f (qnM D (cqN D 400 (V, C0)) (V, C0)).1 k))) 18 with
  | none => rfl
  | some k =>
    obtain ⟨-, -, h3, -⟩ := ffF_some _ _ _ _ hx
    rw [decide_eq_true rfl] at h3
    cases h3
theorem ag120 {f : Nat → Int32} {x : Int32} {a : Nat} {K : Int32 → Mm → Option (Int32 × Mm)} (hD : WFD D) (hV : WFV D V) (ha4 : a < 400) (ha : a < cqN D 400 (V, C0)) (hw : ∀ p, p ≤ 400 → ∀ k, k < 18 → m_ar σ 31 13 (18 * p + k) = waI D f (qnM D p (V, C0)).1 k) : ∀ (n b : Nat), a < b → b ≤ 401 → 401 - b < n → fX12_again_120 31 x K n (nI a) (nI b) σ = K (nI (a + 1)) σ := by
  intro n
  induction n with
  | zero => intro b _ _ h; omega
  | succ n ih =>
    intro b hab hb hn
    rw [fX12_again_120, ln_400, ifl_n (by decide) (by omega)]
    by_cases c : 400 < b
    · rw [if_pos c, nI_s]
    · rw [if_neg c, isAgain_r (by omega) (by omega) hw, c_I_s, ag_f hD hV ha hab, if_pos (by decide), nI_s]
      exact ih (b + 1) (by omega) (by omega) (by omega)
theorem ag109 {f : Nat → Int32} {x : Int32} (hD : WFD D) (hV : WFV D V) (hw : ∀ p, p ≤ 400 → ∀ k, k < 18 → m_ar σ 31 13 (18 * p + k) = waI D f (qnM D p (V, C0)).1 k) : ∀ (n a : Nat), a ≤ cqN D 400 (V, C0) → 400 - a < n → fX12_again_109 31 x n (nI a) σ = if cqN D 400 (V, C0) = 400 then c_I (fX12_refuse 31 (6 : Int32) σ) (fun x11 σ9 => some (x11, σ9)) else fX12_again_136 31 x (nI (cqN D 400 (V, C0))) (nI (cqN D 400 (V, C0) + 1)) σ := by
  intro n
  induction n with
  | zero => intro a _ h; omega
  | succ n ih =>
    intro a ha hn
    have hle := cq_le (D := D) 400 (V, C0)
    rw [fX12_again_109, ln_400, ifle_n (by decide) (by omega)]
    by_cases c : 400 ≤ a
    · rw [if_pos c, if_pos (by omega)]
    · rw [if_neg c, nI_s]
      by_cases c2 : a = cqN D 400 (V, C0)
      · rw [if_neg (by omega)]
        obtain ⟨m, hm⟩ : ∃ m, FU = m + 1 := ⟨FU - 1, by have := FU_ge; omega⟩
        rw [hm, fX12_again_120, ln_400, ifl_n (by decide) (by omega), if_neg (by omega), isAgain_r (by omega) (by omega) hw, c_I_s]
        have := ag_t (D := D) (V := V) (f := f) (b := a + 1) (by omega) (by omega)
        rw [← c2] at this ⊢
        rw [this, if_neg (by decide)]
      · rw [ag120 hD hV (by omega) (by omega) hw FU (a + 1) (by omega) (by omega) (FU_gt (by omega))]
        exact ih (a + 1) (by omega) (by omega)
theorem again_r (a : Int32) (hW : WFG G) (h : RepR σ G) : OR (fX12_again 31 a σ) (spAg a G) := by
  have hd := hW.d.1
  unfold fX12_again spAg
  have hle := cq_le (D := GD G) 400 (GV G, C0)
  rcases ix_cases (n := 2) (by decide) a with ⟨ei, ha⟩ | ⟨k, hk, rfl, ei⟩ <;> rw [ei]
  · rcases ha with ha | ⟨ha, hb⟩
    · rw [if_pos ha]; exact OR.non hW h _
    · rw [if_neg ha, if_neg]
      · exact OR.non hW h _
      · intro z
        rw [Int32.le_iff_toInt_le] at z hb
        have e1 : (nI 2).toInt = 2 := rfl
        have e2 : (1 : Int32).toInt = 1 := rfl
        omega
  · dsimp only
    rw [if_neg (nI_neg0 (by omega)), if_pos (show nI k ≤ (1 : Int32) from (nI_len (b := 1) (by omega) (by decide)).mpr (by omega))]
    obtain ⟨τ, e, wk, rb, qu, hc, -⟩ := bg1_r hW h
    rw [e, c_V_s]
    have hx : WX τ (GD G) (fun k => if k < 8 then m_ar τ 31 0 (2470 + 6 * k + 3) else m_ar τ 31 0 (2520 + 5 * (k - 8) + 4)) := by
      refine ⟨fun v _ h2 => ?_, fun s _ h2 => ?_⟩
      · show _ = (if v < 8 then _ else _)
        rw [if_pos h2]
      · show _ = (if 8 + s < 8 then _ else m_ar τ 31 0 (2520 + 5 * (8 + s - 8) + 4))
        rw [if_neg (by omega), show 8 + s - 8 = s by omega]
    obtain ⟨ω, f, w, hw⟩ := ag21 (x := nI k) hW.d hW.v FU 0 (v_qu (GV G)) τ (by omega) (FU_gt (by omega)) hW.v wk hc (show 0 ≤ 64 * 0 by decide) qu hW.v.2.2.2.2.2 hx (fun p hp => by omega)
    have h2 : RepR ω G := h.rb3 hW (rb.b3.tr w)
    have e9 := ag109 (x := nI k) hW.d hW.v hw FU 0 (by omega) (FU_gt (by omega))
    refine Eq.mpr (congrArg (fun z => OR z _) (f.trans e9)) ?_
    by_cases c : cqN (GD G) 400 (GV G, C0) = 400
    · rw [if_pos c, if_pos c]; exact OR.non hW h2 _
    · rw [if_neg c, if_neg c]
      unfold fX12_again_136
      rw [show (0 : Int32) = nI 0 from rfl, ife_n (by omega) (by decide), nI_sub (by omega), show cqN (GD G) 400 (GV G, C0) + 1 - cqN (GD G) 400 (GV G, C0) = 1 by omega]
      by_cases c2 : k = 0
      · rw [if_pos c2, if_pos c2]; exact OR.ans hW h2 _
      · rw [if_neg c2, if_neg c2]; exact OR.ans hW h2 _
theorem again_s (a : Int32) (σ : Mm) (h : Rel σ) : ok (fX11_again 0 a σ) (fun q => ok (fX12_again 31 a q.2) (fun q' => q'.1 = q.1 ∧ Rel q'.2)) :=
  simS (fc := fX11_again 0 a) (fr := fX12_again 31 a) (ks := [0, 1, 2, 3, 4, 5, 6, 7, 8, 9, 10, 11]) (by decide) (spAg a) (fun σ G => again_c a) (fun σ G => again_r a) (fun G hW => by unfold spAg; repeat (first | exact hW | split)) (fun σ x τ ee => F_sub (frX11_again 0 a (by decide) σ ee) (by decide)) (fun σ x τ ee => F_sub (frX12_again 31 a (by decide) σ ee) (by decide)) σ h
end O
