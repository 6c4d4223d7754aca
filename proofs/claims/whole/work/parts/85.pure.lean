/-! PURE 26: beginning and laying back -/
def C0 : CT := (0, 0, fun _ => 0)
/-- a number from 1 to n -/
def sx (n : Nat) (a : Int32) : Option Nat := if a < 1 ∨ nI n < a then none else some a.toNatClampNeg
theorem sx_cases {n : Nat} (hn : n < 2147483647) (a : Int32) : (sx n a = none ∧ (a < 1 ∨ (¬ a < 1 ∧ nI n < a))) ∨ ∃ v, 1 ≤ v ∧ v ≤ n ∧ a = nI v ∧ sx n a = some v := by
  unfold sx
  by_cases h : a < 1
  · exact Or.inl ⟨by rw [if_pos (Or.inl h)], Or.inl h⟩
  · by_cases h2 : nI n < a
    · exact Or.inl ⟨by rw [if_pos (Or.inr h2)], Or.inr ⟨h, h2⟩⟩
    · have h1 : 1 ≤ a.toInt := by
        have e : (1 : Int32).toInt = 1 := rfl
        exact Int.not_lt.mp fun q => h (Int32.lt_iff_toInt_lt.mpr (by omega))
      have h3 : a.toInt ≤ n := by
        have e : (nI n).toInt = n := by rw [nI_iI]; exact iI_t (by omega) (by omega)
        exact Int.not_lt.mp fun q => h2 (Int32.lt_iff_toInt_lt.mpr (by omega))
      have ea : a = nI a.toInt.toNat := by
        rw [nI_iI, Int.toNat_of_nonneg (by omega), iI_self]
      refine Or.inr ⟨a.toInt.toNat, by omega, by omega, ea, ?_⟩
      rw [if_neg (fun q => q.elim h h2)]
      rfl
section O
variable {σ τ ω : Mm} {v : Nat} {D : PD} {V : SD} {g : Nat → Int} {C : CT} {M : MTq} {G : GS}
theorem isAhead_c0 {o : Nat} {a : Int32} (ha : a < 0 ∨ (¬ a < 0 ∧ nI 401 ≤ a)) : fX11_isAhead o a σ = some (0, σ) := by
  unfold fX11_isAhead
  rcases ha with ha | ⟨ha, hb⟩
  · rw [if_pos ha]
  · rw [if_neg ha, if_pos]
    rw [Int32.le_iff_toInt_le] at hb
    rw [Int32.lt_iff_toInt_lt]
    have e1 : (nI 401).toInt = 401 := rfl
    have e2 : (400 : Int32).toInt = 400 := rfl
    omega
theorem isAhead_c1 {o q : Nat} (hq : q < 401) : fX11_isAhead o (nI q) σ = some (1, σ) := by
  unfold fX11_isAhead
  rw [if_neg (nI_neg0 (by omega)), ln_400, ifl_n (by decide) (by omega), if_neg (by omega)]
theorem isAhead_r0 {a : Int32} (ha : a < 0 ∨ (¬ a < 0 ∧ nI 401 ≤ a)) : fX12_isAhead a σ = some (0, σ) := isAhead_c0 (o := 0) ha
theorem isAhead_r1 {q : Nat} (hq : q < 401) : fX12_isAhead (nI q) σ = some (1, σ) := isAhead_c1 (o := 0) hq
theorem isSpan_c0 {o : Nat} {a : Int32} (ha : a < 1 ∨ (¬ a < 1 ∧ nI 400 < a)) : fX11_isSpan o a σ = some (0, σ) := by
  unfold fX11_isSpan
  rcases ha with ha | ⟨ha, hb⟩
  · rw [if_pos ha]
  · rw [if_neg ha, if_pos (show (400 : Int32) < a from hb)]
theorem isSpan_c1 {o q : Nat} (h1 : 1 ≤ q) (hq : q ≤ 400) : fX11_isSpan o (nI q) σ = some (1, σ) := by
  unfold fX11_isSpan
  rw [show (1 : Int32) = nI 1 from rfl, ifl_n (by omega) (by decide), if_neg (by omega), ln_400, ifl_n (by decide) (by omega), if_neg (by omega)]
theorem isSpan_r0 {a : Int32} (ha : a < 1 ∨ (¬ a < 1 ∧ nI 400 < a)) : fX12_isSpan a σ = some (0, σ) := isSpan_c0 (o := 0) ha
theorem isSpan_r1 {q : Nat} (h1 : 1 ≤ q) (hq : q ≤ 400) : fX12_isSpan (nI q) σ = some (1, σ) := isSpan_c1 (o := 0) h1 hq
theorem isBlowing_c0 {o : Nat} {a : Int32} (ha : a < 1 ∨ (¬ a < 1 ∧ nI 99 < a)) : fX11_isBlowing o a σ = some (0, σ) := by
  unfold fX11_isBlowing
  rcases ha with ha | ⟨ha, hb⟩
  · rw [if_pos ha]
  · rw [if_neg ha, if_pos (show (99 : Int32) < a from hb)]
theorem isBlowing_c1 {o q : Nat} (h1 : 1 ≤ q) (hq : q ≤ 99) : fX11_isBlowing o (nI q) σ = some (1, σ) := by
  unfold fX11_isBlowing
  rw [show (1 : Int32) = nI 1 from rfl, ifl_n (by omega) (by decide), if_neg (by omega), ln_99, ifl_n (by decide) (by omega), if_neg (by omega)]
theorem from1_0 {n : Nat} {m : Int64} {a : Int32} (hn : n < 2147483647) (hm : m.toInt = n) (ha : a < 1 ∨ (¬ a < 1 ∧ nI n < a)) : fX12_isFrom a.toInt64 (1 : Int64) m σ = some (0, σ) := by
  rw [isFrom_e, if_neg]
  rintro ⟨h1, h2⟩
  have e1 : (1 : Int64).toInt = 1 := rfl
  have e2 : (1 : Int32).toInt = 1 := rfl
  have e3 : (nI n).toInt = n := by rw [nI_iI]; exact iI_t (by omega) (by omega)
  rcases ha with ha | ⟨-, ha⟩ <;> rw [Int32.lt_iff_toInt_lt] at ha <;> omega
theorem from1_1 {n q : Nat} {m : Int64} (hn : n < 2147483647) (hm : m.toInt = n) (h1 : 1 ≤ q) (hq : q ≤ n) : fX12_isFrom (nI q).toInt64 (1 : Int64) m σ = some (1, σ) := by
  rw [isFrom_e, if_pos]
  have e1 : (1 : Int64).toInt = 1 := rfl
  have e3 : (nI q).toInt = q := by rw [nI_iI]; exact iI_t (by omega) (by omega)
  omega
/-! frames of calls that ask -/
theorem RB.ru (w : RB σ τ) : RU σ τ := ⟨fun k hk => w.1 k (by omega), fun j hj => w.2.2.1 j (by omega) (by omega) (by omega), w.2.2.2.2 4, fun i hi => w.2.2.2.1 i (by omega), fun i _ => by rw [w.2.2.2.2 1]⟩
theorem RepR.rb (hW : WFG G) (h : RepR σ G) (w : RB σ τ) : RepR τ G := RepR.upd (σ := σ) G.1 hW w.ru ⟨(w.1 2 (by omega)).trans h.1.1, (w.2.1 3).trans h.1.2.1, (w.2.1 4).trans h.1.2.2.1⟩ h
theorem RepC.cm (hW : WFG G) (h : RepC σ G) (w : ∀ q, q < 31 → q ≠ 10 → q ≠ 11 → BU q σ τ) : RepC τ G := by
  have h0 := w 0 (by decide) (by decide) (by decide)
  refine RepC.upd (σ := σ) G.1 hW.2.2.2.1 (fun q hq hb => w q hq (fun e => hb (by rw [e]; decide)) (fun e => hb (by rw [e]; decide))) ⟨h0.1 7, h0.1 8, h0.1 13, h0.2.2.2.2 10, h0.2.2.2.2 11⟩ ⟨(h0.1 0).trans h.1.1, (h0.2.1 1).trans h.1.2.1, (h0.2.1 2).trans h.1.2.2.1⟩ h
/-! the class: it works on now, or looks ahead -/
theorem won_c (hW : WFG G) (h : RepC σ G) : ∃ τ p, fX11_workOnNow 0 σ = some τ ∧ WkC τ p 6 (GD G) (GV G) ∧ CtC τ (-1) C0 ∧ (∀ q, q ≠ 10 → BU q σ τ) ∧ m_rf τ 4 0 = some p := by
  obtain ⟨p, hp8, e, hk, hp⟩ := h.pl
  obtain ⟨τ, f, r1, r2, r3, r4, r5, r6⟩ := use_c (σ := σ) (p := p) (s := 6) hW.d hW.v hk (by decide) hp h.sv
  refine ⟨τ, p, ?_, r1, ⟨r3, r4, r5, r6⟩, r2, ((r2 4 (by decide)).2.2.2.2 0).trans e⟩
  unfold fX11_workOnNow
  rw [show tg 0 9 = 4 from rfl, show tg 0 14 = 10 from rfl, show tg 4 1 = 6 from rfl, r_rf_e e hk, f]; rfl
theorem look_c (hW : WFG G) (h : RepC σ G) : ∃ τ p, fX11_look 0 σ = some τ ∧ WkC τ p 11 (GD G) (GV G) ∧ CtC τ (-1) C0 ∧ (∀ q, q ≠ 10 → q ≠ 11 → BU q σ τ) ∧ m_rf τ 4 0 = some p := by
  obtain ⟨p, hp8, e, hk, hp⟩ := h.pl
  obtain ⟨τ1, f1, b1, s1⟩ := StC.cp (σ := σ) (o := 11) (a := 6) (by decide) hW.d h.sv
  have hp11 : p ≠ 11 := by omega
  obtain ⟨τ, f, r1, r2, r3, r4, r5, r6⟩ := use_c (σ := τ1) (p := p) (s := 11) hW.d hW.v hk (by decide) (hp.bu (b1 p hp11)) s1
  have e1 : m_rf τ1 4 0 = some p := ((b1 4 (by decide)).2.2.2.2 0).trans e
  refine ⟨τ, p, ?_, r1, ⟨r3, r4, r5, r6⟩, fun q h1 h2 => (b1 q h2).tr (r2 q h1), ((r2 4 (by decide)).2.2.2.2 0).trans e1⟩
  unfold fX11_look
  rw [show tg 0 9 = 4 from rfl, show tg 0 14 = 10 from rfl, show tg 0 15 = 11 from rfl, show tg 4 1 = 6 from rfl, f1, c_V_s, r_rf_e e1 hk, f]; rfl
/-! the reference: it begins, it lays back -/
theorem begins0_l : ∀ (n i : Nat) (σ : Mm), i ≤ 120 → 120 - i < n → ∃ τ, fX12_begins0_2 31 n (nI i) σ = some τ ∧ (∀ k, i ≤ k → k < 120 → m_ar τ 31 0 (2450 + k) = m_ar σ 31 0 k) ∧ (∀ k, k < 2450 + i ∨ 2570 ≤ k → m_ar τ 31 0 k = m_ar σ 31 0 k) ∧ (∀ j, j ≠ 0 → m_ar τ 31 j = m_ar σ 31 j) ∧ (∀ k, m_sc τ 31 k = m_sc σ 31 k) ∧ (∀ k, m_lg τ 31 k = m_lg σ 31 k) ∧ (∀ j, m_la τ 31 j = m_la σ 31 j) := by
  intro n
  induction n with
  | zero => intro i σ _ h; omega
  | succ n ih =>
    intro i σ hi hn
    rw [fX12_begins0_2, ln_120, ifle_n (by decide) (by omega)]
    by_cases c : 120 ≤ i
    · rw [if_pos c]
      exact ⟨σ, rfl, fun k h1 h2 => by omega, fun _ _ => rfl, fun _ _ => rfl, fun _ => rfl, fun _ => rfl, fun _ => rfl⟩
    · rw [if_neg c, g_ar_n (by omega) (by decide), ln_2450, nI_ad, s_ar_n (by omega) (by decide), nI_s]
      obtain ⟨τ, e, r1, r2, r3, r4, r5, r6⟩ := ih (i + 1) (w_ar σ 31 0 (2450 + i) (m_ar σ 31 0 i)) (by omega) (by omega)
      refine ⟨τ, e, fun k h1 h2 => ?_, fun k hk => ?_, fun j hj => ?_, r4, r5, r6⟩
      · by_cases ck : k = i
        · subst ck
          rw [r2 _ (by omega), m_ar_ar, if_pos ⟨rfl, rfl, rfl⟩]
        · rw [r1 k (by omega) h2, m_ar_ar, if_neg (by omega)]
      · rw [r2 _ (by omega), m_ar_ar, if_neg (by omega)]
      · rw [r3 j hj]; funext k; rw [m_ar_ar, if_neg (fun z => hj z.2.1)]
theorem begins0_r {N : Nat → Int64} (hD : WFD D) (pl : PlR (m_ar σ 31 0) N 0 0 D) (sv : StR (m_ar σ 31 0) 0 D V) : ∃ τ, fX12_begins0 31 σ = some τ ∧ WkR τ D V ∧ RB σ τ ∧ m_ar τ 31 0 2453 = nI (v_qu V) ∧ (∀ k, m_sc τ 31 k = m_sc σ 31 k) ∧ m_ar τ 31 0 2450 = nI (d_p D) ∧ m_ar τ 31 0 2451 = nI (d_v D) ∧ m_ar τ 31 0 2452 = nI (d_s D) ∧ m_ar τ 31 0 2456 = m_ar τ 31 0 6 := by
  have hd := hD.1
  obtain ⟨τ, e, r1, r2, r3, r4, r5, r6⟩ := begins0_l FU 0 σ (by omega) (FU_gt (by omega))
  have cp : ∀ j k, j = 2450 + k → k < 120 → m_ar τ 31 0 j = m_ar σ 31 0 k := fun j k hj hk => by rw [hj]; exact r1 k (by omega) hk
  obtain ⟨p1, p2, p3, -⟩ := pl
  obtain ⟨s1, s2, s3, s4, s5, s6⟩ := sv
  refine ⟨τ, e, ⟨⟨?_, ?_, ?_⟩, fun v hv => ⟨?_, ?_, ?_⟩, fun s hs => ⟨?_, ?_, ?_, ?_⟩, fun q hq => ⟨?_, ?_⟩, fun v hv => ⟨?_, ?_, ?_⟩, fun k hk => ?_, ?_, ?_⟩, ⟨fun k _ => r4 k, r5, fun j h0 _ _ => r3 j h0, fun i hi => r2 i (by omega), r6⟩, ?_, r4, (cp 2450 0 (by omega) (by omega)).trans p1.1, (cp 2451 1 (by omega) (by omega)).trans p1.2.1, (cp 2452 2 (by omega) (by omega)).trans p1.2.2, by rw [cp 2456 6 (by omega) (by omega), r2 6 (by omega)]⟩
  · rw [r2 _ (by omega)]; exact p1.1
  · rw [r2 _ (by omega)]; exact p1.2.1
  · rw [r2 _ (by omega)]; exact p1.2.2
  · rw [cp _ (0 + 20 + 6 * v) (by omega) (by omega)]; exact (p2 v hv).1
  · rw [cp _ (0 + 21 + 6 * v) (by omega) (by omega)]; exact (p2 v hv).2.1
  · rw [cp _ (0 + 22 + 6 * v) (by omega) (by omega)]; exact (p2 v hv).2.2
  · rw [cp _ (0 + 70 + 5 * s) (by omega) (by omega)]; exact (p3 s hs).1
  · rw [cp _ (0 + 71 + 5 * s) (by omega) (by omega)]; exact (p3 s hs).2.1
  · rw [cp _ (0 + 72 + 5 * s) (by omega) (by omega)]; exact (p3 s hs).2.2.1
  · rw [cp _ (0 + 73 + 5 * s) (by omega) (by omega)]; exact (p3 s hs).2.2.2
  · rw [cp _ (0 + 10 + 2 * q) (by omega) (by omega)]; exact (s1 q hq).1
  · rw [cp _ (0 + 11 + 2 * q) (by omega) (by omega)]; exact (s1 q hq).2
  · rw [cp _ (0 + 23 + 6 * v) (by omega) (by omega)]; exact (s2 v hv).1
  · rw [cp _ (0 + 24 + 6 * v) (by omega) (by omega)]; exact (s2 v hv).2.1
  · rw [cp _ (0 + 25 + 6 * v) (by omega) (by omega)]; exact (s2 v hv).2.2
  · rw [cp _ (0 + 74 + 5 * k) (by omega) (by omega)]; exact s3 k hk
  · rw [cp _ (0 + 4) (by omega) (by omega)]; exact s4
  · rw [cp _ (0 + 5) (by omega) (by omega)]; exact s5
  · rw [cp _ (0 + 3) (by omega) (by omega)]; exact s6
theorem bg0_r (hW : WFG G) (h : RepR σ G) : ∃ τ, fX12_begins0 31 σ = some τ ∧ WkR τ (GD G) (GV G) ∧ RB σ τ ∧ m_ar τ 31 0 2453 = nI (v_qu (GV G)) := by
  obtain ⟨τ, e, r1, r2, r3, -⟩ := begins0_r hW.d h.pl h.sv
  exact ⟨τ, e, r1, r2, r3⟩
theorem bg1_r (hW : WFG G) (h : RepR σ G) : ∃ τ, fX12_begins1 31 σ = some τ ∧ WkR τ (GD G) (GV G) ∧ RB σ τ ∧ m_ar τ 31 0 2453 = nI (v_qu (GV G)) ∧ CtR τ C0 ∧ m_ar τ 31 0 2450 = nI (d_p (GD G)) ∧ m_ar τ 31 0 2451 = nI (d_v (GD G)) ∧ m_ar τ 31 0 2452 = nI (d_s (GD G)) ∧ m_ar τ 31 0 2456 = m_ar τ 31 0 6 := by
  obtain ⟨τ, e, r1, r2, r3, r4, r5⟩ := begins0_r hW.d h.pl h.sv
  unfold fX12_begins1
  rw [e, c_V_s, p_sc_s, p_sc_s]
  exact ⟨_, rfl, r1, (r2.tr (RT.s (by omega) (by omega)).b).tr (RT.s (by omega) (by omega)).b, r3, ⟨rfl, rfl, fun k hk => absurd hk (Nat.not_lt_zero _)⟩, r5⟩
theorem laysBack_l : ∀ (n i : Nat) (σ : Mm), i ≤ 120 → 120 - i < n → ∃ τ, fX12_laysBack_2 31 n (nI i) σ = some τ ∧ (∀ k, i ≤ k → k < 120 → m_ar τ 31 0 k = m_ar σ 31 0 (2450 + k)) ∧ (∀ k, k < i ∨ 120 ≤ k → m_ar τ 31 0 k = m_ar σ 31 0 k) ∧ (∀ j, j ≠ 0 → m_ar τ 31 j = m_ar σ 31 j) ∧ (∀ k, m_sc τ 31 k = m_sc σ 31 k) ∧ (∀ k, m_lg τ 31 k = m_lg σ 31 k) ∧ (∀ j, m_la τ 31 j = m_la σ 31 j) := by
  intro n
  induction n with
  | zero => intro i σ _ h; omega
  | succ n ih =>
    intro i σ hi hn
    rw [fX12_laysBack_2, ln_120, ifle_n (by decide) (by omega)]
    by_cases c : 120 ≤ i
    · rw [if_pos c]
      exact ⟨σ, rfl, fun k h1 h2 => by omega, fun _ _ => rfl, fun _ _ => rfl, fun _ => rfl, fun _ => rfl, fun _ => rfl⟩
    · rw [if_neg c, ln_2450, nI_ad, g_ar_n (by omega) (by decide), s_ar_n (by omega) (by decide), nI_s]
      obtain ⟨τ, e, r1, r2, r3, r4, r5, r6⟩ := ih (i + 1) (w_ar σ 31 0 i (m_ar σ 31 0 (2450 + i))) (by omega) (by omega)
      refine ⟨τ, e, fun k h1 h2 => ?_, fun k hk => ?_, fun j hj => ?_, r4, r5, r6⟩
      · by_cases ck : k = i
        · subst ck
          rw [r2 _ (by omega), m_ar_ar, if_pos ⟨rfl, rfl, rfl⟩]
        · rw [r1 k (by omega) h2, m_ar_ar, if_neg (by omega)]
      · rw [r2 _ (by omega), m_ar_ar, if_neg (by omega)]
      · rw [r3 j hj]; funext k; rw [m_ar_ar, if_neg (fun z => hj z.2.1)]
/-- the state of now with another quarter -/
def vQ (V : SD) (q : Nat) : SD := (V.1, V.2.1, V.2.2.1, V.2.2.2.1, q)
/-- what was at work is laid back; of the work's array what the beginning wrote there still stands -/
theorem laysBack_r {q : Nat} (t : Int32) (hW : WFG G) (h : RepR σ G) (hk : WkR σ (GD G) V) (hq : m_ar σ 31 0 2453 = nI q) (h0 : m_ar σ 31 0 2450 = nI (d_p (GD G)) ∧ m_ar σ 31 0 2451 = nI (d_v (GD G)) ∧ m_ar σ 31 0 2452 = nI (d_s (GD G)) ∧ m_ar σ 31 0 2456 = m_ar σ 31 0 6) : ∃ τ, fX12_laysBack 31 σ = some τ ∧ m_ar τ 31 0 3 = nI q ∧ RepR (w_sc τ 31 2 t) (suV (t, g_t G, g_b G) (vQ V q) G) := by
  have hd := hW.d.1
  obtain ⟨τ, e, r1, r2, r3, r4, r5, r6⟩ := laysBack_l FU 0 σ (by omega) (FU_gt (by omega))
  have cp : ∀ j k, j = 2450 + k → k < 120 → m_ar τ 31 0 k = m_ar σ 31 0 j := fun j k hj hk => by rw [hj]; exact r1 k (by omega) hk
  have pl := h.pl
  obtain ⟨k1, k2, k3, k4, k5, k6, k7, k8⟩ := hk
  refine ⟨τ, e, by rw [cp 2453 3 (by omega) (by omega)]; exact hq, ?_⟩
  refine RepR.uV (σ := σ) _ _ hW ⟨fun k hk => ?_, fun j hj => r3 j (by omega), r6 4, fun i h1 h2 => ?_, fun i _ => by show m_la τ 31 1 i = _; rw [r6 1]⟩ ⟨rfl, (r5 3).trans h.1.2.1, (r5 4).trans h.1.2.2.1⟩ ?_ ?_ h
  · rw [m_sc_sc, if_neg (by omega)]; exact r4 k
  · show m_ar τ 31 0 i = _
    rcases h2 with rfl | h2
    · rw [cp 2456 6 (by omega) (by omega)]; exact h0.2.2.2
    · exact r2 i (by omega)
  · refine ⟨⟨?_, ?_, ?_⟩, fun v hv => ⟨?_, ?_, ?_⟩, fun s hs => ⟨?_, ?_, ?_, ?_⟩, ?_, ?_, ?_⟩
    · exact (cp 2450 0 (by omega) (by omega)).trans h0.1
    · exact (cp 2451 1 (by omega) (by omega)).trans h0.2.1
    · exact (cp 2452 2 (by omega) (by omega)).trans h0.2.2.1
    · exact (cp (2470 + 6 * v + 0) (0 + 20 + 6 * v) (by omega) (by omega)).trans (k2 v hv).1
    · exact (cp (2470 + 6 * v + 1) (0 + 21 + 6 * v) (by omega) (by omega)).trans (k2 v hv).2.1
    · exact (cp (2470 + 6 * v + 2) (0 + 22 + 6 * v) (by omega) (by omega)).trans (k2 v hv).2.2
    · exact (cp (2520 + 5 * s + 0) (0 + 70 + 5 * s) (by omega) (by omega)).trans (k3 s hs).1
    · exact (cp (2520 + 5 * s + 1) (0 + 71 + 5 * s) (by omega) (by omega)).trans (k3 s hs).2.1
    · exact (cp (2520 + 5 * s + 2) (0 + 72 + 5 * s) (by omega) (by omega)).trans (k3 s hs).2.2.1
    · exact (cp (2520 + 5 * s + 3) (0 + 73 + 5 * s) (by omega) (by omega)).trans (k3 s hs).2.2.2
    · intro k hk; show m_la τ 31 1 _ = _; rw [r6 1]; exact pl.2.2.2.1 k hk
    · intro k hk; show m_la τ 31 1 _ = _; rw [r6 1]; exact pl.2.2.2.2.1 k hk
    · intro k hk; show m_la τ 31 1 _ = _; rw [r6 1]; exact pl.2.2.2.2.2 k hk
  · refine ⟨fun q hq => ⟨?_, ?_⟩, fun v hv => ⟨?_, ?_, ?_⟩, fun k hk => ?_, ?_, ?_, ?_⟩
    · exact (cp (2460 + 2 * q) (0 + 10 + 2 * q) (by omega) (by omega)).trans (k4 q hq).1
    · exact (cp (2460 + 2 * q + 1) (0 + 11 + 2 * q) (by omega) (by omega)).trans (k4 q hq).2
    · exact (cp (2470 + 6 * v + 3) (0 + 23 + 6 * v) (by omega) (by omega)).trans (k5 v hv).1
    · exact (cp (2470 + 6 * v + 4) (0 + 24 + 6 * v) (by omega) (by omega)).trans (k5 v hv).2.1
    · exact (cp (2470 + 6 * v + 5) (0 + 25 + 6 * v) (by omega) (by omega)).trans (k5 v hv).2.2
    · exact (cp (2520 + 5 * k + 4) (0 + 74 + 5 * k) (by omega) (by omega)).trans (k6 k hk)
    · exact (cp 2454 4 (by omega) (by omega)).trans k7
    · exact (cp 2455 5 (by omega) (by omega)).trans k8
    · exact (cp 2453 3 (by omega) (by omega)).trans hq
end O
