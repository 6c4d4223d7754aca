/-! PURE 39: run, odds (class) -/
def S0 (V : SD) (d : Nat → Nat) (x : Nat) : RS := ((V, C0), (x, 0, 0, false), 0, d)
/-- the state in which a run ends -/
def rnS (D : PD) (O : OD) (V : SD) (d : Nat → Nat) (x : Nat) : RS := (rnR D O 90001 (S0 V d x)).getD (S0 V d x)
def suD (t : Int32 × Int64 × Int64) (r : Option (Nat × (Nat → Int32) × (Nat → Int32))) (d : Nat → Nat) (G : GS) : GS := (t, g_f G, g_y G, g_x G, g_w G, (g_m G, g_k G), r, d)
section O
variable {σ τ ω : Mm} {v : Nat} {D : PD} {V : SD} {O : OD} {S : RS} {M : MTq} {L p g : Nat} {G : GS}
theorem WFG.o (h : WFG G) : WFO (GD G) (GO G) := h.2.2.1.2.2
theorem rn_ok {d : Nat → Nat} {x : Nat} (hD : WFD D) (hO : WFO D O) (hg : o_g O = true) (hV : WFV D V) (hd : ∀ o, o < 60 → d o ≤ 99) (hx : x < 65536) : rnR D O 90001 (S0 V d x) = some (rnS D O V d x) ∧ RI D O (S0 V d x) ∧ RI D O (rnS D O V d x) := by
  have h0 : RI D O (S0 V d x) := ⟨hV, ⟨Nat.zero_le _, Nat.zero_le _⟩, Nat.zero_le _, hx, Nat.zero_le _, hd⟩
  obtain ⟨S', e, h'⟩ := rn_ex hD hO hg 90000 (S0 V d x) h0 (Or.inr (ms_b h0 (hO hg).2.1)) (by decide)
  have e2 : rnS D O V d x = S' := by unfold rnS; rw [show 90001 = 90000 + 1 from rfl, e]; rfl
  exact ⟨by rw [e2]; exact e, h0, by rw [e2]; exact h'⟩
theorem RepC.uR (t : Int32 × Int64 × Int64) (r : Option (Nat × (Nat → Int32) × (Nat → Int32))) (d : Nat → Nat) (hm : g_m G ≤ 3) (h : CU [0, 2, 3, 10, 11, 12, 13, 14] σ τ) (z : Z0 σ τ) (z0 : m_sc τ 0 0 = t.1 ∧ m_lg τ 0 1 = t.2.1 ∧ m_lg τ 0 2 = t.2.2) (hr : RnC τ r) (hd : ∀ o, o < 60 → m_ar τ 13 0 o = nI (d o)) (q : RepC σ G) : RepC τ (suD t r d G) := by
  obtain ⟨⟨-, -, -, a4, a5⟩, q2, q3, ⟨p, g, ⟨w1, w2, w3, w4, w5⟩, t1, t2, t3⟩, q5, q6, q7⟩ := q
  have hp : BU p σ τ := by rcases w3 with ⟨rfl, -⟩ | ⟨rfl, -⟩ <;> exact h _ (by decide) (by decide)
  have hg : BU g σ τ := by rcases w4 with ⟨rfl, -⟩ | ⟨rfl, -⟩ <;> exact h _ (by decide) (by decide)
  have h4 := h 4 (by decide) (by decide)
  have hh : ∀ q, q < 31 → 14 < q → BU q σ τ := fun q h1 h2 => h q h1 (by simp; omega)
  refine ⟨⟨z0.1, z0.2.1, z0.2.2, z.1.trans a4, z.2.1.trans a5⟩, fun t ht => (q2 t ht).bu (hh _ (by omega) (by omega)), ?_, ⟨p, g, ⟨?_, ?_, ?_, ?_, fun i hi => ?_⟩, t1.bu hp, t2.bu (h 6 (by decide) (by decide)), t3.bu hg⟩, ⟨?_, fun i hi => ?_⟩, hr, hd⟩
  · have h0 := h 1 (by decide) (by decide)
    rw [h0.1, h0.2.2.1]; exact q3
  · rw [h4.2.2.2.2]; exact w1
  · rw [h4.2.2.2.2]; exact w2
  · rw [z.2.2.2.1]; exact w3
  · rw [z.2.2.2.2]; exact w4
  · have h9 := hh (19 + i) (by omega) (by omega)
    rw [h9.2.2.2.2, h9.2.2.2.2]; exact w5 i hi
  · rw [z.2.2.1]; exact q5.1
  · have hi3 : i < 3 := by have : i < g_m G := hi; omega
    obtain ⟨a, b, c⟩ := q5.2 i hi
    exact ⟨a.bu (hh _ (by omega) (by omega)), b.bu (hh _ (by omega) (by omega)), c.bu (hh _ (by omega) (by omega))⟩
theorem RepC.og (h : RepC σ G) : ∃ p g, (p = 5 ∨ p = 8) ∧ (g = 7 ∨ g = 9) ∧ m_rf σ 4 0 = some p ∧ m_rf σ 4 2 = some g ∧ KD p = 2 ∧ KD g = 5 ∧ PlC σ p (GD G) ∧ OrC σ g (GO G) := by
  obtain ⟨-, -, -, ⟨p, g, ⟨w1, w2, w3, w4, w5⟩, t1, t2, t3⟩, -⟩ := h
  refine ⟨p, g, ?_, ?_, w1, w2, ?_, ?_, t1, t3⟩
  · rcases w3 with ⟨rfl, -⟩ | ⟨rfl, -⟩ <;> simp
  · rcases w4 with ⟨rfl, -⟩ | ⟨rfl, -⟩ <;> simp
  · rcases w3 with ⟨rfl, -⟩ | ⟨rfl, -⟩ <;> decide
  · rcases w4 with ⟨rfl, -⟩ | ⟨rfl, -⟩ <;> decide
theorem carryOut_c {x : Nat} (hW : WFG G) (h : RepC σ G) (hg : o_g (GO G) = true) (hx : x < 65536) : ∃ τ p g, fX3_carryOut 13 4 (nI x) 10 σ = some τ ∧ RcC τ p g (GD G) (GO G) (rnS (GD G) (GO G) (GV G) (g_d G) x) ∧ W13 σ τ := by
  obtain ⟨p, g, hp8, hg9, e0, e2, k1, k2, hp, ho⟩ := h.og
  have hO : WFO (GD G) (GO G) := hW.o
  obtain ⟨hrn, hI, -⟩ := rn_ok (x := x) hW.d hO hg hW.v hW.2.2.2.2.2.2 hx
  obtain ⟨σ1, f1, b1, s1⟩ := StC.cp (σ := σ) (o := 14) (a := 6) (by decide) hW.d h.sv
  unfold fX3_carryOut
  have hp1 := hp.bu (b1 p (by omega))
  have ho1 := ho.bu (b1 g (by omega))
  rw [show tg 13 0 = 14 from rfl, show tg 4 1 = 6 from rfl, f1, c_V_s, r_rf_e (((b1 4 (by decide)).2.2.2.2 0).trans e0) k1, p_rf_s, r_rf_e (show m_rf (w_rf σ1 13 1 (some p)) 4 2 = some g from ((b1 4 (by decide)).2.2.2.2 2).trans e2) k2, p_rf_s, p_rf_s]
  obtain ⟨σ2, hσ2⟩ : ∃ σ2, σ2 = w_rf (w_rf (w_rf σ1 13 1 (some p)) 13 2 (some g)) 13 3 (some 10) := ⟨_, rfl⟩
  rw [← hσ2]
  have b2 : ∀ q, q ≠ 13 → BU q σ1 σ2 := fun q hq => by rw [hσ2]; exact ((BU.pr hq).tr (BU.pr hq)).tr (BU.pr hq)
  have r3 : m_rf σ2 13 3 = some 10 := by rw [hσ2]; rfl
  have r1 : m_rf σ2 13 1 = some p := by rw [hσ2]; rfl
  have r2 : m_rf σ2 13 2 = some g := by rw [hσ2]; rfl
  obtain ⟨σ3, f3, w1, w2, c1, c2, c3, c4⟩ := use_c (σ := σ2) (p := p) (s := 14) hW.d hW.v k1 (by decide) (hp1.bu (b2 p (by omega))) (s1.bu (b2 14 (by decide)))
  rw [r_rf_e r3 (by decide), r_rf_e r1 k1, f3, c_V_s, p_sc_s, p_sc_s, p_sc_s, p_bz_y (Or.inl rfl)]
  obtain ⟨σ4, hσ4⟩ : ∃ σ4, σ4 = w_sc (w_sc (w_sc (w_sc σ3 13 5 (nI x)) 13 6 0) 13 8 0) 13 7 0 := ⟨_, rfl⟩
  rw [← hσ4]
  have b13 := w2 13 (by decide)
  have b4 : ∀ q, q ≠ 13 → BU q σ3 σ4 := fun q hq => by rw [hσ4]; exact BU.scs hq (BU.scs hq (BU.scs hq (BU.sc hq)))
  have a0 : ∀ j, m_ar σ4 13 j = m_ar σ 13 j := fun j => by
    rw [hσ4]
    show m_ar σ3 13 j = _
    have h1 := b13.2.2.1 j
    have h2 := (b1 13 (by decide)).2.2.1 j
    rw [h1, hσ2]; exact h2
  have hR : RcC σ4 p g (GD G) (GO G) (S0 (GV G) (g_d G) x) := by
    refine ⟨⟨?_, ?_, ?_, k1, k2⟩, ((ho1.bu (b2 g (by omega))).bu (w2 g (by omega))).bu (b4 g (by omega)), ⟨⟨((b4 10 (by decide)).2.2.2.2 0).trans w1.1.1, ((b4 10 (by decide)).2.2.2.2 1).trans w1.1.2.1, w1.1.2.2⟩, w1.2.1.bu (b4 p (by omega)), w1.2.2.1.bu (b4 14 (by decide)), fun v hv => by rw [(b4 10 (by decide)).2.2.1]; exact w1.2.2.2 v hv⟩, ?_, ?_, fun o h60 => ?_⟩
    · rw [hσ4]; exact (b13.2.2.2.2 1).trans r1
    · rw [hσ4]; exact (b13.2.2.2.2 2).trans r2
    · rw [hσ4]; exact (b13.2.2.2.2 3).trans r3
    · have b := b4 10 (by decide)
      unfold CtC
      rw [b.1, b.1, b.1, b.1]
      exact ⟨c1, c2, c3, c4⟩
    · rw [hσ4]; exact ⟨rfl, rfl, rfl, rfl⟩
    · rw [a0]; exact h.2.2.2.2.2.2 o h60
  obtain ⟨τ, f5, g1, g2⟩ := co73 (a := 4) (b := 10) (y := nI x) hW.d hO hg 90001 0 FU (S0 (GV G) (g_d G) x) _ σ4 (by decide) (FU_gt (by decide)) hI hR hrn
  refine ⟨τ, p, g, f5, g1, W13.tr ?_ g2⟩
  refine ⟨fun q h1 h2 h3 => (((b1 q h3).tr (b2 q h2)).tr (w2 q h1)).tr (b4 q h2), ?_, ?_, fun j _ => a0 j⟩
  · rw [hσ4]
    show m_sc σ3 13 9 = _
    rw [b13.1, hσ2]; exact (b1 13 (by decide)).1 9
  · rw [hσ4]
    show m_sc σ3 13 11 = _
    rw [b13.1, hσ2]; exact (b1 13 (by decide)).1 11
/-- a run that is not told leaves what was told -/
theorem RepC.r13 (hW : WFG G) (h : RepC σ G) (w : W13 σ τ) (hd : ∀ o, o < 60 → m_ar τ 13 0 o = nI (S.2.2.2 o)) : RepC τ (suD G.1 (g_r G) S.2.2.2 G) := by
  have h0 := w.1 0 (by decide) (by decide) (by decide)
  refine RepC.uR (σ := σ) _ _ _ hW.2.2.2.1 (fun q hq hb => w.1 q (fun e => hb (by rw [e]; decide)) (fun e => hb (by rw [e]; decide)) (fun e => hb (by rw [e]; decide))) ⟨h0.1 7, h0.1 8, h0.1 13, h0.2.2.2.2 10, h0.2.2.2.2 11⟩ ⟨(h0.1 0).trans h.1.1, (h0.2.1 1).trans h.1.2.1, (h0.2.1 2).trans h.1.2.2.1⟩ ?_ hd h
  have hr := h.2.2.2.2.2.1
  cases e : g_r G with
  | none => rw [e] at hr; exact ⟨w.2.1.trans hr.1, w.2.2.1.trans hr.2⟩
  | some r => rw [e] at hr; exact ⟨w.2.1.trans hr.1, w.2.2.1.trans hr.2.1, fun k hk => by rw [w.2.2.2 1 (by decide)]; exact hr.2.2.1 k hk, fun k hk => by rw [w.2.2.2 2 (by decide)]; exact hr.2.2.2 k hk⟩
def teI (D : PD) (S : RS) (k : Nat) : Int32 := if k = 0 then nI S.2.1.2.1 else if k = 1 then nI S.1.2.1 else if k = 2 then nI S.1.2.2.1 else if k = 3 then nI (bsN (rgB D S.1.1) (d_v D)) else if S.2.1.2.2.2 then 1 else 0
def reT (D : PD) (S : RS) : Option (Nat × (Nat → Int32) × (Nat → Int32)) := some (d_v D, teI D S, fun v => nI (v_pt S.1.1 v))
def spRu (a : Int32) (G : GS) : Int32 × GS := match ix 10000 a with
  | none => (-1, stq 1 G)
  | some x => if o_g (GO G) = true then (nI (rnS (GD G) (GO G) (GV G) (g_d G) x).2.1.2.2.1, suD (0, g_t G, g_b G) (reT (GD G) (rnS (GD G) (GO G) (GV G) (g_d G) x)) (rnS (GD G) (GO G) (GV G) (g_d G) x).2.2.2 G) else (-1, stq 6 G)
theorem report_c (hD : WFD D) (hV : WFV D S.1.1) (h : RcC σ p g D O S) : ∃ τ, fX3_report 13 10 σ = some τ ∧ (∀ q, q ≠ 13 → BU q σ τ) ∧ m_sc τ 13 8 = m_sc σ 13 8 ∧ m_ar τ 13 0 = m_ar σ 13 0 ∧ RnC τ (reT D S) := by
  have hd := hD.1
  obtain ⟨⟨a1, a2, a3, k1, k2⟩, ho, hw, hc, ⟨s1, s2, s3, s4⟩, hrr⟩ := h
  have n1 : p ≠ 13 := fun e => by rw [e] at k1; revert k1; decide
  unfold fX3_report
  rw [p_bz_y (Or.inr rfl), r_sc_s, show s_ar (w_sc σ 13 9 1) 13 1 5 (0 : Int32) = s_ar (w_sc σ 13 9 1) 13 1 5 (nI 0) from rfl, s_ar_n (by decide) (by decide), r_sc_s]
  obtain ⟨σ1, hσ1⟩ : ∃ σ1, σ1 = w_ar (w_sc σ 13 9 1) 13 1 0 (m_sc (w_sc σ 13 9 1) 13 6) := ⟨_, rfl⟩
  rw [← hσ1, show ∀ x, s_ar σ1 13 1 5 (1 : Int32) x = s_ar σ1 13 1 5 (nI 1) x from fun _ => rfl, s_ar_n (by decide) (by decide), r_sc_s]
  obtain ⟨σ2, hσ2⟩ : ∃ σ2, σ2 = w_ar σ1 13 1 1 (m_sc σ1 10 5) := ⟨_, rfl⟩
  rw [← hσ2, show ∀ x, s_ar σ2 13 1 5 (2 : Int32) x = s_ar σ2 13 1 5 (nI 2) x from fun _ => rfl, s_ar_n (by decide) (by decide)]
  obtain ⟨σ3, hσ3⟩ : ∃ σ3, σ3 = w_ar σ2 13 1 2 (m_sc σ2 10 6) := ⟨_, rfl⟩
  rw [← hσ3]
  have b3 : ∀ q, q ≠ 13 → BU q σ σ3 := fun q hq => by rw [hσ3, hσ2, hσ1]; exact (((BU.sc hq).tr (BU.af hq)).tr (BU.af hq)).tr (BU.af hq)
  have hw3 : WkC σ3 p 14 D S.1.1 := ⟨⟨((b3 10 (by decide)).2.2.2.2 0).trans hw.1.1, ((b3 10 (by decide)).2.2.2.2 1).trans hw.1.2.1, hw.1.2.2⟩, hw.2.1.bu (b3 p n1), hw.2.2.1.bu (b3 14 (by decide)), fun v hv => by rw [(b3 10 (by decide)).2.2.1]; exact hw.2.2.2 v hv⟩
  rw [rightSet_c hD hV hw3, c_I_s, show ∀ x, s_ar σ3 13 1 5 (3 : Int32) x = s_ar σ3 13 1 5 (nI 3) x from fun _ => rfl, s_ar_n (by decide) (by decide), r_sc_s]
  obtain ⟨σ4, hσ4⟩ : ∃ σ4, σ4 = w_ar σ3 13 1 3 (nI (bsN (rgB D S.1.1) (d_v D))) := ⟨_, rfl⟩
  rw [← hσ4]
  have b4 : ∀ q, q ≠ 13 → BU q σ σ4 := fun q hq => by rw [hσ4]; exact (b3 q hq).tr (BU.af hq)
  have m4 : ∀ k, m_sc σ4 13 k = if k = 9 then 1 else m_sc σ 13 k := fun k => by
    rw [hσ4, hσ3, hσ2, hσ1]
    show m_sc (w_sc σ 13 9 1) 13 k = _
    rw [m_sc_sc]; simp
  have v6 : m_sc (w_sc σ 13 9 1) 13 6 = nI S.2.1.2.1 := by rw [m_sc_sc, if_neg (by decide)]; exact s2
  have v5 : m_sc σ1 10 5 = nI S.1.2.1 := by rw [hσ1]; exact hc.1
  have v7 : m_sc σ2 10 6 = nI S.1.2.2.1 := by rw [hσ2, hσ1]; exact hc.2.1
  have A4 : ∀ j k, m_ar σ4 13 j k = if j = 1 ∧ k = 3 then nI (bsN (rgB D S.1.1) (d_v D)) else if j = 1 ∧ k = 2 then nI S.1.2.2.1 else if j = 1 ∧ k = 1 then nI S.1.2.1 else if j = 1 ∧ k = 0 then nI S.2.1.2.1 else m_ar σ 13 j k := fun j k => by
    rw [hσ4, m_ar_ar, hσ3, v7, m_ar_ar, hσ2, v5, m_ar_ar, hσ1, v6, m_ar_ar]
    simp only [true_and]
    rfl
  have r4 : m_rf σ4 13 1 = some p := by rw [hσ4, hσ3, hσ2, hσ1]; exact a1
  have fin : ∀ y : Int32, y = (if S.2.1.2.2.2 then 1 else 0) → ∃ τ, s_ar σ4 13 1 5 (4 : Int32) y (fun σ13 => r_rf σ13 13 1 2 (fun q14 => r_sc σ13 q14 1 (fun x15 => p_sc σ13 13 11 x15 (fun σ16 => a_ci σ16 (tg 13 0) 2 8 (0 : Int32) 13 2 8 (0 : Int32) (8 : Int32) (fun σ17 => some σ17))))) = some τ ∧ (∀ q, q ≠ 13 → BU q σ τ) ∧ m_sc τ 13 8 = m_sc σ 13 8 ∧ m_ar τ 13 0 = m_ar σ 13 0 ∧ RnC τ (reT D S) := by
    intro y hy
    rw [show ∀ x, s_ar σ4 13 1 5 (4 : Int32) x = s_ar σ4 13 1 5 (nI 4) x from fun _ => rfl, s_ar_n (by decide) (by decide), r_rf_e (show m_rf (w_ar σ4 13 1 4 y) 13 1 = some p from r4) k1, r_sc_s, p_sc_s, show tg 13 0 = 14 from rfl]
    obtain ⟨σ5, hσ5⟩ : ∃ σ5, σ5 = w_sc (w_ar σ4 13 1 4 y) 13 11 (m_sc (w_ar σ4 13 1 4 y) p 1) := ⟨_, rfl⟩
    rw [← hσ5]
    have e1 : m_sc (w_ar σ4 13 1 4 y) p 1 = nI (d_v D) := ((b4 p n1).1 1).trans hw.2.1.1.2.1
    obtain ⟨τ, ft, bt, st, at1, at2⟩ : ∃ τ, a_ci σ5 14 2 8 (0 : Int32) 13 2 8 (0 : Int32) (8 : Int32) (fun σ17 => some σ17) = some τ ∧ (∀ q, q ≠ 13 → BU q σ5 τ) ∧ (∀ k, m_sc τ 13 k = m_sc σ5 13 k) ∧ (∀ j, j ≠ 2 → m_ar τ 13 j = m_ar σ5 13 j) ∧ ∀ k, k < 8 → m_ar τ 13 2 k = m_ar σ5 14 2 k := by
      rw [show a_ci σ5 14 2 8 (0 : Int32) 13 2 8 (0 : Int32) (8 : Int32) (fun σ17 => some σ17) = _ from a_ci_s (n := 8) (by decide) (by decide) (by decide)]
      exact ⟨_, rfl, fun q hq => BU.af hq, fun _ => rfl, fun j hj => by rw [m_ar_af, if_neg (fun z => hj z.2)], fun k hk => by rw [m_ar_af, if_pos ⟨rfl, rfl⟩]; exact cpy0 hk⟩
    refine ⟨τ, ft, fun q hq => ((b4 q hq).tr (by rw [hσ5]; exact BU.scs hq (BU.af hq))).tr (bt q hq), ?_, ?_, ?_, ?_, fun k hk => ?_, fun v hv => ?_⟩
    · rw [st, hσ5, m_sc_sc, if_neg (by decide)]
      exact (m4 8).trans (by rw [if_neg (by decide)])
    · rw [at1 0 (by decide), hσ5]
      funext k
      rw [m_ar_sc, m_ar_ar, if_neg (by omega), A4]
      simp
    · rw [st, hσ5, m_sc_sc, if_neg (by decide)]
      exact (m4 9).trans (by rw [if_pos rfl])
    · rw [st, hσ5, m_sc_sc, if_pos ⟨rfl, rfl⟩, e1]
    · rw [at1 1 (by decide), hσ5, m_ar_sc, m_ar_ar]
      show _ = teI D S k
      unfold teI
      by_cases e4 : k = 4
      · rw [if_pos ⟨rfl, rfl, e4⟩, if_neg (by omega), if_neg (by omega), if_neg (by omega), if_neg (by omega)]; exact hy
      · rw [if_neg (fun z => e4 z.2.2), A4]
        have hk : k = 0 ∨ k = 1 ∨ k = 2 ∨ k = 3 := by omega
        rcases hk with rfl | rfl | rfl | rfl <;> simp
    · have hv : v < d_v D := hv
      rw [at2 v (by omega), hσ5]
      show m_ar (w_ar σ4 13 1 4 y) 14 2 v = _
      rw [m_ar_ar, if_neg (by omega), (b4 14 (by decide)).2.2.1]
      exact (hw.2.2.1.2.1 v hv).1
  rw [show m_sc σ4 13 7 = m_sc σ 13 7 from (m4 7).trans (if_neg (by decide)), s4]
  cases hcut : S.2.1.2.2.2
  · rw [hcut] at fin
    rw [if_pos (show (if false = true then (1 : Int32) else 0) = 0 from rfl)]
    exact fin 0 rfl
  · rw [hcut] at fin
    rw [if_neg (show ¬ (if true = true then (1 : Int32) else 0) = 0 by decide)]
    exact fin 1 rfl
theorem run_c (a : Int32) (hW : WFG G) (h : RepC σ G) : OC (fX11_run 0 a σ) (spRu a G) := by
  unfold fX11_run spRu
  rcases ix_cases (n := 10000) (by decide) a with ⟨ei, ha⟩ | ⟨x, hx, rfl, ei⟩ <;> rw [ei]
  · rcases ha with ha | ⟨ha, hb⟩
    · rw [if_pos ha]; exact OC.non hW h _
    · rw [if_neg ha, if_neg]
      · exact OC.non hW h _
      · intro z
        rw [Int32.le_iff_toInt_le] at z hb
        have e1 : (nI 10000).toInt = 10000 := rfl
        have e2 : (9999 : Int32).toInt = 9999 := rfl
        omega
  · obtain ⟨p, g, hp8, hg9, e0, e2, k1, k2, hp, ho⟩ := h.og
    dsimp only
    rw [if_neg (nI_neg0 (by omega)), ln_9999, ifle_n (by omega) (by decide), if_pos (by omega), show tg 0 9 = 4 from rfl, show tg 0 17 = 13 from rfl, show tg 0 14 = 10 from rfl, r_rf_e e2 k2, r_sc_s, ho.1]
    cases hg : o_g (GO G)
    · rw [if_pos (show (if false = true then (1 : Int32) else 0) = 0 from rfl), if_neg (by decide)]
      exact OC.non hW h _
    · rw [if_neg (show ¬ (if true = true then (1 : Int32) else 0) = 0 by decide), if_pos rfl]
      obtain ⟨τ, p', g', f, r1, r2⟩ := carryOut_c (x := x) hW h hg (by omega)
      obtain ⟨-, -, hI⟩ := rn_ok (x := x) hW.d hW.o hg hW.v hW.2.2.2.2.2.2 (by omega)
      obtain ⟨ω, f2, b2, s8, a0, hr⟩ := report_c hW.d hI.1 r1
      rw [f, c_V_s, f2, c_V_s, r_sc_s, s8, r1.2.2.2.2.1.2.2.1]
      refine ⟨_, rfl, ?_⟩
      have h0 := (r2.1 0 (by decide) (by decide) (by decide)).tr (b2 0 (by decide))
      refine RepC.uR (σ := σ) _ _ _ hW.2.2.2.1 (fun q hq hb => ?_) ⟨h0.1 7, h0.1 8, h0.1 13, h0.2.2.2.2 10, h0.2.2.2.2 11⟩ ⟨rfl, (h0.2.1 1).trans h.1.2.1, (h0.2.1 2).trans h.1.2.2.1⟩ ?_ (fun o h60 => ?_) h
      · simp at hb
        exact BU.scs (by omega) ((r2.1 q (by omega) (by omega) (by omega)).tr (b2 q (by omega)))
      · exact RnC.bu (BU.sc (by decide)) hr
      · show m_ar ω 13 0 o = _
        rw [a0]; exact r1.2.2.2.2.2 o h60
theorem run_w (a : Int32) (hW : WFG G) : WFG (spRu a G).2 := by
  unfold spRu
  rcases ix_cases (n := 10000) (by decide) a with ⟨ei, -⟩ | ⟨x, hx, rfl, ei⟩ <;> rw [ei]
  · exact hW
  · dsimp only
    by_cases hg : o_g (GO G) = true
    · rw [if_pos hg]
      obtain ⟨-, -, hI⟩ := rn_ok (x := x) hW.d hW.o hg hW.v hW.2.2.2.2.2.2 (by omega)
      refine ⟨hW.1, hW.2.1, hW.2.2.1, hW.2.2.2.1, hW.2.2.2.2.1, fun q hq => ?_, hI.2.2.2.2.2⟩
      have : some (d_v (GD G), teI (GD G) (rnS (GD G) (GO G) (GV G) (g_d G) x), fun v => nI (v_pt (rnS (GD G) (GO G) (GV G) (g_d G) x).1.1 v)) = some q := hq
      cases this
      exact hW.d.1.2.1
    · rw [if_neg hg]; exact hW
/-- how often a vane is right at the end; what the rounds are then -/
def odF (D : PD) (O : OD) (V : SD) (v x : Nat) : Nat → (Nat → Nat) → Nat × (Nat → Nat)
  | 0, d => (0, d)
  | n + 1, d => ((odF D O V v x n d).1 + (if rgB D (rnS D O V (odF D O V v x n d).2 (x + n)).1.1 v then 1 else 0), (rnS D O V (odF D O V v x n d).2 (x + n)).2.2.2)
theorem od_b {x : Nat} {d : Nat → Nat} (hD : WFD D) (hO : WFO D O) (hg : o_g O = true) (hV : WFV D V) (hd : ∀ o, o < 60 → d o ≤ 99) : ∀ n, x + n < 65536 → (odF D O V v x n d).1 ≤ n ∧ ∀ o, o < 60 → (odF D O V v x n d).2 o ≤ 99 := by
  intro n
  induction n with
  | zero => intro _; exact ⟨Nat.le_refl _, hd⟩
  | succ n ih =>
    intro hx
    have ih := ih (by omega)
    rw [odF]
    refine ⟨?_, (rn_ok hD hO hg hV ih.2 (by omega)).2.2.2.2.2.2.2⟩
    dsimp only
    split <;> omega
def spOd (a b c : Int32) (G : GS) : Int32 × GS := match ix (d_v (GD G)) a with
  | none => (0, stq 1 G)
  | some v => match ix 10000 b with
    | none => (0, stq 1 G)
    | some x => match sx 20 c with
      | none => (0, stq 1 G)
      | some n => if 10000 < x + n then (0, stq 1 G) else if o_g (GO G) = true then (1, suD (0, lN (odF (GD G) (GO G) (GV G) v x n (g_d G)).1 / lN (Nat.gcd (odF (GD G) (GO G) (GV G) v x n (g_d G)).1 n), lN n / lN (Nat.gcd (odF (GD G) (GO G) (GV G) v x n (g_d G)).1 n)) (g_r G) (odF (GD G) (GO G) (GV G) v x n (g_d G)).2 G) else (0, stq 6 G)
theorem suD_w {t : Int32 × Int64 × Int64} {d : Nat → Nat} (hW : WFG G) (hd : ∀ o, o < 60 → d o ≤ 99) : WFG (suD t (g_r G) d G) := ⟨hW.1, hW.2.1, hW.2.2.1, hW.2.2.2.1, hW.2.2.2.2.1, hW.2.2.2.2.2.1, hd⟩
theorem odds_w (a b c : Int32) (hW : WFG G) : WFG (spOd a b c G).2 := by
  have hd := hW.d.1
  unfold spOd
  rcases ix_cases (n := d_v (GD G)) (by omega) a with ⟨ei, -⟩ | ⟨v, hv, rfl, ei⟩ <;> rw [ei]
  · exact hW
  · rcases ix_cases (n := 10000) (by decide) b with ⟨ej, -⟩ | ⟨x, hx, rfl, ej⟩ <;> rw [ej]
    · exact hW
    · rcases sx_cases (n := 20) (by decide) c with ⟨ek, -⟩ | ⟨n, hn1, hn, rfl, ek⟩ <;> rw [ek]
      · exact hW
      · dsimp only
        by_cases c1 : 10000 < x + n
        · rw [if_pos c1]; exact hW
        · rw [if_neg c1]
          by_cases hg : o_g (GO G) = true
          · rw [if_pos hg]
            exact suD_w hW (od_b (v := v) hW.d hW.o hg hW.v hW.2.2.2.2.2.2 n (by omega)).2
          · rw [if_neg hg]; exact hW
theorem od_lc {x N : Nat} (hW : WFG G) (hg : o_g (GO G) = true) (hv : v < d_v (GD G)) (hx : x + N ≤ 10000) (hN : N ≤ 20) : ∀ (n i : Nat) (σ : Mm), i ≤ N → N - i < n → RepC σ (suD G.1 (g_r G) (odF (GD G) (GO G) (GV G) v x i (g_d G)).2 G) → ∃ τ, fX11_odds_79 0 (nI v) (nI x) (nI N) n (nI (odF (GD G) (GO G) (GV G) v x i (g_d G)).1) (nI i) σ = fX11_odds_124 0 (nI v) (nI x) (nI N) (nI (odF (GD G) (GO G) (GV G) v x N (g_d G)).1) τ ∧ RepC τ (suD G.1 (g_r G) (odF (GD G) (GO G) (GV G) v x N (g_d G)).2 G) := by
  intro n
  induction n with
  | zero => intro i σ _ h; omega
  | succ n ih =>
    intro i σ hi hn h
    rw [fX11_odds_79, ifle_n (by omega) (by omega)]
    by_cases c : N ≤ i
    · have : i = N := by omega
      subst this
      rw [if_pos c]
      exact ⟨σ, rfl, h⟩
    · have hob := od_b (v := v) (x := x) hW.d hW.o hg hW.v hW.2.2.2.2.2.2 i (by omega)
      have hW2 : WFG (suD G.1 (g_r G) (odF (GD G) (GO G) (GV G) v x i (g_d G)).2 G) := suD_w hW hob.2
      obtain ⟨τ, p, g, f, r1, r2⟩ := carryOut_c (x := x + i) hW2 h hg (by omega)
      obtain ⟨-, -, hI⟩ := rn_ok (x := x + i) hW.d hW.o hg hW.v hob.2 (by omega)
      have r1 : RcC τ p g (GD G) (GO G) (rnS (GD G) (GO G) (GV G) (odF (GD G) (GO G) (GV G) v x i (g_d G)).2 (x + i)) := r1
      have h2 := h.r13 hW2 r2 r1.2.2.2.2.2
      have h2 : RepC τ (suD G.1 (g_r G) (odF (GD G) (GO G) (GV G) v x (i + 1) (g_d G)).2 G) := h2
      obtain ⟨ω, f2, g1⟩ := ih (i + 1) τ (by omega) (by omega) h2
      rw [if_neg c, nI_ad, show tg 0 17 = 13 from rfl, show tg 0 9 = 4 from rfl, show tg 0 14 = 10 from rfl, f, c_V_s, isRight_c hW.d hI.1 r1.2.2.1 hv, c_I_s, nI_s]
      refine ⟨ω, ?_, g1⟩
      rw [← f2, odF]
      cases rgB (GD G) (rnS (GD G) (GO G) (GV G) (odF (GD G) (GO G) (GV G) v x i (g_d G)).2 (x + i)).1.1 v
      · rw [if_pos (show (if false = true then (1 : Int32) else 0) = 0 from rfl)]; rfl
      · rw [if_neg (show ¬ (if true = true then (1 : Int32) else 0) = 0 by decide), nI_s]; rfl
theorem odds_c (a b c : Int32) (hW : WFG G) (h : RepC σ G) : OC (fX11_odds 0 a b c σ) (spOd a b c G) := by
  have hd := hW.d.1
  unfold fX11_odds spOd
  rcases ix_cases (n := d_v (GD G)) (by omega) a with ⟨ei, ha⟩ | ⟨v, hv, rfl, ei⟩ <;> rw [ei]
  · rw [isVane_c0 hW h ha, c_I_s, if_pos rfl]
    exact OC.rfs hW h _
  · rw [isVane_c1 hW h hv, c_I_s, if_neg (by decide)]
    dsimp only
    rcases ix_cases (n := 10000) (by decide) b with ⟨ej, hb⟩ | ⟨x, hx, rfl, ej⟩ <;> rw [ej]
    · rcases hb with hb | ⟨hb1, hb2⟩
      · rw [if_pos hb]; exact OC.rfs hW h _
      · rw [if_neg hb1, if_pos]
        · exact OC.rfs hW h _
        · rw [Int32.le_iff_toInt_le] at hb2
          rw [Int32.lt_iff_toInt_lt]
          have e1 : (nI 10000).toInt = 10000 := rfl
          have e2 : (9999 : Int32).toInt = 9999 := rfl
          omega
    · rw [if_neg (nI_neg0 (by omega)), ln_9999, ifl_n (by decide) (by omega), if_neg (by omega)]
      dsimp only
      rcases sx_cases (n := 20) (by decide) c with ⟨ek, hc⟩ | ⟨n, hn1, hn, rfl, ek⟩ <;> rw [ek]
      · rcases hc with hc | ⟨hc1, hc2⟩
        · rw [if_pos hc]; exact OC.rfs hW h _
        · rw [if_neg hc1, if_neg (show ¬ c ≤ (20 : Int32) from i_lt_le hc2)]; exact OC.rfs hW h _
      · obtain ⟨p, g, hp8, hg9, e0, e2, k1, k2, hp, ho⟩ := h.og
        dsimp only
        rw [if_neg (show ¬ nI n < (1 : Int32) from fun z => by have := (nI_ltn (b := 1) (by omega) (by decide)).mp z; omega), if_pos (show nI n ≤ (20 : Int32) from (nI_len (b := 20) (by omega) (by decide)).mpr hn), nI_ad, show nI (x + n) - (1 : Int32) = nI (x + n - 1) from nI_sub (b := 1) (by omega), ifle_n (by omega) (by decide)]
        by_cases c1 : 10000 < x + n
        · rw [if_pos c1, if_neg (by omega)]; exact OC.rfs hW h _
        · rw [if_neg c1, if_pos (by omega), show tg 0 9 = 4 from rfl, r_rf_e e2 k2, r_sc_s, ho.1]
          cases hg : o_g (GO G)
          · rw [if_pos (show (if false = true then (1 : Int32) else 0) = 0 from rfl), if_neg (by decide)]
            exact OC.rfs hW h _
          · rw [if_neg (show ¬ (if true = true then (1 : Int32) else 0) = 0 by decide), if_pos rfl]
            obtain ⟨τ, f, h2⟩ := od_lc (x := x) (N := n) hW hg hv (by omega) hn FU 0 σ (by omega) (FU_gt (by omega)) h
            have hob := od_b (v := v) (x := x) hW.d hW.o hg hW.v hW.2.2.2.2.2.2 n (by omega)
            refine Eq.mpr (congrArg (fun z => OC z _) f) ?_
            unfold fX11_odds_124
            rw [nI_l (by omega), nI_l (by omega), frac_c (by omega) hn1 (by omega) (Or.inl rfl), c_V_s]
            refine ⟨_, rfl, ?_⟩
            have := RepC.upd (G := suD G.1 (g_r G) (odF (GD G) (GO G) (GV G) v x n (g_d G)).2 G) (σ := τ) (τ := w_sc (w_lg (w_lg τ 0 1 (lN (odF (GD G) (GO G) (GV G) v x n (g_d G)).1 / lN (Nat.gcd (odF (GD G) (GO G) (GV G) v x n (g_d G)).1 n))) 0 2 (lN n / lN (Nat.gcd (odF (GD G) (GO G) (GV G) v x n (g_d G)).1 n))) 0 0 0) (0, lN (odF (GD G) (GO G) (GV G) v x n (g_d G)).1 / lN (Nat.gcd (odF (GD G) (GO G) (GV G) v x n (g_d G)).1 n), lN n / lN (Nat.gcd (odF (GD G) (GO G) (GV G) v x n (g_d G)).1 n)) hW.2.2.2.1 (fun q _ hb => by
              have hq : q ≠ 0 := fun z => hb (by rw [z]; decide)
              exact BU.scs hq ((BU.lg hq).tr (BU.lg hq))) ⟨rfl, rfl, rfl, rfl, rfl⟩ ⟨rfl, rfl, rfl⟩ h2
            exact this
end O
