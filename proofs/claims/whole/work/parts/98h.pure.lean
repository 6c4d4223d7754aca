/-! PURE 46: the class reads a village -/
section O
variable {σ τ : Mm} {X : TX} {p pb : Nat} {D : PD} {S : Nat → Nat} {β : Type}
theorem rTk (h : TkC σ X p) : fX6_refuseToken 1 σ = some (0, w_sc (w_sc σ 1 11 (nI (rT X p).1)) 1 12 (nI (tA X p))) := by
  unfold fX6_refuseToken fX6_refuse
  have hk := tK_le X p
  have e3 : ∀ v, m_sc (w_sc σ 1 11 v) 1 3 = nI (tA X p) := fun v => by rw [m_sc_sc, if_neg (by omega), h.1]
  rw [r_sc_s, h.2.2.1, ln_1, ln_2]
  by_cases c : tK X p = 1
  · rw [if_pos (by rw [c]), rT, if_pos c, p_sc_s, r_sc_s, e3, p_sc_s, c_I_s]; rfl
  · rw [if_neg (fun q => c ((nI_inj (by omega) (by omega)).mp q)), rT, if_neg c, p_sc_s, r_sc_s, e3, p_sc_s, c_I_s]; rfl
theorem seesNo (h : TkC σ X p) (hn : ¬ isNm X p = true) : fX6_seesName 1 σ = some (0, w_sc (w_sc σ 1 11 (nI (rT X p).1)) 1 12 (nI (tA X p))) := by
  unfold fX6_seesName
  have hk := tK_le X p
  have e : c_I (fX6_refuseToken 1 σ) (fun x τ => b_z x τ) = some (0, w_sc (w_sc σ 1 11 (nI (rT X p).1)) 1 12 (nI (tA X p))) := by rw [rTk h, c_I_s]; rfl
  rw [r_sc_s, h.2.2.1, ln_2]
  by_cases c : tK X p = 2
  · rw [if_pos (by rw [c]), r_lg_s, h.2.2.2.2.2.1 c]
    by_cases c3 : tE X p - tA X p ≤ 8
    · rw [if_neg (fun q => (tw_0 c).mp ((lgc_e _ _).mp q) c3), r_sc_s, h.2.2.2.1, if_neg (fun q => hn (isNm_e.mpr ⟨c, c3, (kcI_m (tW_le X p)).mp q⟩))]
      exact e
    · rw [if_pos ((lgc_e _ _).mpr ((tw_0 c).mpr c3))]
      exact e
  · rw [if_neg (fun q => c ((nI_inj (by omega) (by omega)).mp q))]
    exact e
theorem TkC.er (h : TkC σ X p) (a b : Int32) : TkC (w_sc (w_sc σ 1 11 a) 1 12 b) X p := by
  obtain ⟨c1, c2, c3, c4, c5, c6, c7⟩ := h
  refine ⟨?_, ?_, ?_, ?_, fun q => ?_, c6, fun q => ?_⟩ <;> rw [m_sc_sc, if_neg (by omega), m_sc_sc, if_neg (by omega)]
  · exact c1
  · exact c2
  · exact c3
  · exact c4
  · exact c5 q
  · exact c7 q
theorem readShaft_c (hX : WTx X) (h1 : 1 ≠ pb) (h2 : 2 ≠ pb) (k2 : KD pb = 2) (hD : WFD D) (hn : d_s D < 10) (h : TxC σ X p) (hw : WV2 σ pb) (hP : PlS σ pb D S) {b : Bool} {s0 : Int32} (hb : s0 = if b then 1 else -1) : ok (fX9_readShaft_33 2 (nI (d_s D)) s0 (nI (d_s D)) pb σ) (VP σ pb X (spSh X D S p b)) := by
  unfold fX9_readShaft_33 spSh
  have hd := hD.1
  rw [s_ar_n hn (by decide)]
  have b0 : PlS (w_ar σ pb 9 (d_s D) s0) pb D S := hP.war (Or.inr ⟨by decide, Nat.le_refl _⟩)
  have o0 : OB pb σ (w_ar σ pb 9 (d_s D) s0) := OB.rf.ar
  have m0 : m_ar (w_ar σ pb 9 (d_s D) s0) pb 9 (d_s D) = if b then 1 else -1 := by rw [m_ar_ar, if_pos ⟨rfl, rfl, rfl⟩, hb]
  have w0 := hw.ob h2 o0
  obtain ⟨τ1, a1, x1, -, t1⟩ := adv_c hX (h.o (BU.arw h1) : TxC (w_ar σ pb 9 (d_s D) s0) X p)
  have o1 := o0.t t1
  have w1 := hw.ob h2 o1
  have b1 := b0.bu (t1 pb h1.symm)
  have m1 : m_ar τ1 pb 9 (d_s D) = if b then 1 else -1 := by rw [(t1 pb h1.symm).2.2.1]; exact m0
  have w1' : ∀ i v, WV2 (w_la τ1 pb 2 i v) pb := fun _ _ => w1
  rw [ln_8, ln_5, r_rf_e w0.1 k6, a1, c_V_s, r_rf_e w1.2 k2, r_rf_e w1.1 k6, r_lg_s, s_la_n hn (by decide), r_rf_e (w1' _ _).1 k6, r_rf_e (w1' _ _).2 k2]
  have b1' : PlS (w_la τ1 pb 2 (d_s D) (m_lg τ1 1 8)) pb D S := b1.wla (Or.inr (Or.inr ⟨rfl, Nat.le_refl _⟩))
  refine bC (takeNewName_c hX (x1.o (BU.law h1)) hD.1 b1'.1) (fun f τ e t => ⟨rfl, e, o1.la.t t⟩) (fun p2 τ2 e2 x2 t2 => ?_)
  have o2 := o1.la.t t2
  have w2 := hw.ob h2 o2
  have b2 := b1'.bu (t2 pb h1.symm)
  have n2 : m_la τ2 pb 2 (d_s D) = tw X (tE X p) := by rw [(t2 pb h1.symm).2.2.2.1, m_la_la, if_pos ⟨rfl, rfl, rfl⟩]; exact x1.2.2.1.2.2.2.2.2.1 (sNw_ok e2)
  have m2 : m_ar τ2 pb 9 (d_s D) = if b then 1 else -1 := by rw [(t2 pb h1.symm).2.2.1]; exact m1
  rw [r_rf_e w2.1 k6]
  refine bC (takeKeyword_c hX x2 (by decide)) (fun f τ e t => ⟨rfl, e, o2.t t⟩) (fun p3 τ3 e3 x3 t3 => ?_)
  have o3 := o2.t t3
  have w3 := hw.ob h2 o3
  have b3 := b2.bu (t3 pb h1.symm)
  rw [r_rf_e w3.1 k6, r_rf_e w3.2 k2]
  refine bV (takeVane_c hX x3 hd.2.1 b3.1) (fun f τ e t => ⟨rfl, e, o3.t t⟩) (fun f τ4 e4 x4 v4 t4 => ?_)
  have o4 := (o3.t t4)
  have w4 := hw.ob h2 o4
  have b4 := b3.bu (t4 pb h1.symm)
  have n4 : m_la τ4 pb 2 (d_s D) = tw X (tE X p) := by rw [(t4 pb h1.symm).2.2.2.1, (t3 pb h1.symm).2.2.2.1]; exact n2
  have m4 : m_ar τ4 pb 9 (d_s D) = if b then 1 else -1 := by rw [(t4 pb h1.symm).2.2.1, (t3 pb h1.symm).2.2.1]; exact m2
  rw [r_rf_e w4.2 k2, r_rf_e w4.1 k6, r_sc_s, v4, s_ar_n hn (by decide)]
  have hf := (sFd_ok e4).1
  have x5 : TxC (w_ar τ4 pb 7 (d_s D) (nI f.1)) X f.2 := x4.o (BU.arw h1)
  have o5 : OB pb σ (w_ar τ4 pb 7 (d_s D) (nI f.1)) := o4.ar
  have w5 := hw.ob h2 o5
  have b5 : PlS (w_ar τ4 pb 7 (d_s D) (nI f.1)) pb D S := b4.war (Or.inr ⟨by decide, Nat.le_refl _⟩)
  have n5 : m_la (w_ar τ4 pb 7 (d_s D) (nI f.1)) pb 2 (d_s D) = tw X (tE X p) := n4
  have m5 : m_ar (w_ar τ4 pb 7 (d_s D) (nI f.1)) pb 9 (d_s D) = if b then 1 else -1 := by rw [m_ar_ar, if_neg (show ¬ (pb = pb ∧ 9 = 7 ∧ d_s D = d_s D) by omega)]; exact m4
  have f5 : m_ar (w_ar τ4 pb 7 (d_s D) (nI f.1)) pb 7 (d_s D) = nI f.1 := by rw [m_ar_ar, if_pos ⟨rfl, rfl, rfl⟩]
  generalize w_ar τ4 pb 7 (d_s D) (nI f.1) = μ at *
  rw [r_rf_e w5.1 k6]
  by_cases cn : isNm X f.2 = true
  · have h160 : ok (fX9_readShaft_160 2 (nI (d_s D)) μ) (VP σ pb X (eb (sFd X (d_nv D) (d_v D) f.2) fun g => eb (sOp X 9 9 g.2) fun l => eb (sSg X l.2) fun p7 => .ok (dSh D (tw X (tE X p)) f.1 g.1 l.1 b, S, p7))) := by
      unfold fX9_readShaft_160
      rw [ln_9, r_rf_e w5.1 k6, r_rf_e w5.2 k2]
      refine bV (takeVane_c hX x5 hd.2.1 b5.1) (fun f τ e t => ⟨rfl, e, o5.t t⟩) (fun g τ6 e6 x6 v6 t6 => ?_)
      have o6 := o5.t t6
      have w6 := hw.ob h2 o6
      have b6 := b5.bu (t6 pb h1.symm)
      have w6' : ∀ j i v, WV2 (w_ar τ6 pb j i v) pb := fun _ _ _ => w6
      rw [r_rf_e w6.2 k2, r_rf_e w6.1 k6, r_sc_s, v6, s_ar_n hn (by decide), r_rf_e (w6' _ _ _).1 k6]
      refine bV (takeOption_c hX (x6.o (BU.arw h1)) (by decide) (by decide)) (fun f τ e t => ⟨rfl, e, o6.ar.t t⟩) (fun l τ7 e7 x7 v7 t7 => ?_)
      have o7 := o6.ar.t t7
      have w7 := hw.ob h2 o7
      have b7 := (b6.war (j := 8) (i := d_s D) (w := nI g.1) (Or.inr ⟨by decide, Nat.le_refl _⟩)).bu (t7 pb h1.symm)
      have w7' : ∀ j i v, WV2 (w_ar τ7 pb j i v) pb := fun _ _ _ => w7
      have w7'' : ∀ j i v k u, WV2 (w_sc (w_ar τ7 pb j i v) pb k u) pb := fun _ _ _ _ _ => w7
      have b7' : ∀ i v, m_sc (w_ar τ7 pb 10 i v) pb 2 = nI (d_s D) := fun _ _ => b7.1.1.2.2
      rw [r_rf_e w7.2 k2, r_rf_e w7.1 k6, r_sc_s, v7, s_ar_n hn (by decide), r_rf_e (w7' _ _ _).2 k2, r_sc_s, b7', nI_s, p_sc_s, r_rf_e (w7'' _ _ _ _ _).1 k6]
      refine zC (takeSemicolon_c hX ((x7.o (BU.arw h1)).o (BU.sc h1))) (fun f τ e t => ⟨rfl, e, o7.ar.sc.t t⟩) (fun p9 τ9 e9 x9 t9 => ⟨rfl, x9, ?_, o7.ar.sc.t t9⟩)
      refine PlS.bu ?_ (t9 pb h1.symm)
      refine PlS.aS (b7.war (j := 10) (i := d_s D) (w := nI l.1) (Or.inr ⟨by decide, Nat.le_refl _⟩)) ?_ ?_ ?_ ?_ ?_
      · show m_la τ7 pb 2 (d_s D) = _
        rw [(t7 pb h1.symm).2.2.2.1]
        show m_la τ6 pb 2 (d_s D) = _
        rw [(t6 pb h1.symm).2.2.2.1]; exact n5
      · rw [m_ar_ar, if_neg (by omega), (t7 pb h1.symm).2.2.1, m_ar_ar, if_neg (by omega), (t6 pb h1.symm).2.2.1]; exact f5
      · rw [m_ar_ar, if_neg (by omega), (t7 pb h1.symm).2.2.1, m_ar_ar, if_pos ⟨rfl, rfl, rfl⟩]
      · rw [m_ar_ar, if_neg (show ¬ (pb = pb ∧ 9 = 10 ∧ d_s D = d_s D) by omega), (t7 pb h1.symm).2.2.1, m_ar_ar, if_neg (show ¬ (pb = pb ∧ 9 = 8 ∧ d_s D = d_s D) by omega), (t6 pb h1.symm).2.2.1]; exact m5
      · rw [m_ar_ar, if_pos ⟨rfl, rfl, rfl⟩]
    rw [(seesName_c x5).1 cn, c_I_s, if_neg (by decide), r_rf_e w5.2 k2, r_rf_e w5.1 k6, r_lg_s, x5.2.2.1.2.2.2.2.2.1 (isNm_e.mp cn).1, vaneNamed_c hd.2.1 b5.1, c_I_s, r_rf_e w5.2 k2, g_ar_n hn (by decide), f5]
    by_cases cf : ixN (d_nv D) (d_v D) (tw X f.2) = f.1
    · rw [if_pos (by rw [ixI, if_pos (by omega), cf]), r_rf_e w5.1 k6, sF2, if_pos ⟨cn, cf⟩]
      exact ok_mono (rkz x5 5) (fun q w => ⟨w.1, w.2.1, o5.t w.2.2⟩)
    · rw [if_neg, sF2, if_neg (fun q => cf q.2)]
      · exact h160
      · intro q
        unfold ixI at q
        by_cases c2 : ixN (d_nv D) (d_v D) (tw X f.2) < d_v D
        · rw [if_pos c2] at q; exact cf ((nI_inj (by omega) (by omega)).mp q)
        · rw [if_neg c2] at q; exact nI_nem (by omega) q.symm
  · have y5 := x5.2.2.1
    have q5 : ∀ a b, WV2 (w_sc (w_sc μ 1 11 a) 1 12 b) pb := fun _ _ => w5
    rw [seesNo y5 cn, c_I_s, if_pos rfl, sF2, if_neg (fun q => cn q.1), sFd, if_neg cn]
    unfold fX9_readShaft_160 fX6_takeVane
    rw [r_rf_e (q5 _ _).1 k6, r_rf_e (q5 _ _).2 k2, seesNo (y5.er _ _) cn, c_I_s, if_pos rfl, c_I_s, if_pos rfl]
    refine ok_some ⟨rfl, ⟨?_, ?_⟩, o5.t (((T1.sc.tr T1.sc).tr T1.sc).tr T1.sc)⟩
    · rw [m_sc_sc, if_neg (by omega), m_sc_sc, if_pos ⟨rfl, rfl⟩]
    · rw [m_sc_sc, if_pos ⟨rfl, rfl⟩]; rfl
theorem VP.z {res : RZ V3} {r : Option (Int32 × Mm)} (h : ok r (VP σ pb X res)) : ok (c_I r (fun x τ => b_z x τ)) (VP σ pb X res) := by
  obtain ⟨⟨x, τ⟩, rfl, h⟩ := h
  rw [c_I_s]
  refine ok_bz ?_ h
  cases res with
  | error f => exact Or.inl h.1
  | ok a => exact Or.inr h.1
theorem readPart_c (hX : WTx X) (h1 : 1 ≠ pb) (h2 : 2 ≠ pb) (k2 : KD pb = 2) (hD : WFD D) (h : TxC σ X p) (hw : WV2 σ pb) (hP : PlS σ pb D S) : ok (fX9_readPart 2 σ) (VP σ pb X (spPt X D S p)) := by
  unfold fX9_readPart spPt
  have hd := hD.1
  have hW := tW_le X p
  have h6 : ok (c_I (fX6_refuse 1 (nI 6) σ) (fun x τ => b_z x τ)) (VP σ pb X (.error (6, tA X p))) := ok_mono (rkz h 6) (fun q w => ⟨w.1, w.2.1, OB.rf.t w.2.2⟩)
  have hsh : ∀ b, d_s D < 10 → (kcI (tW X p) = 7 ↔ b = true) → ok (c_I (fX9_readShaft 2 σ) (fun x τ => b_z x τ)) (VP σ pb X (spSh X D S p b)) := fun b hn hb => by
    apply VP.z
    unfold fX9_readShaft
    rw [r_rf_e hw.2 k2, r_sc_s, hP.1.1.2.2, r_rf_e hw.2 k2, r_rf_e hw.1 k6, r_sc_s, h.2.2.1.2.2.2.1]
    by_cases c : kcI (tW X p) = 7
    · rw [if_pos c]; exact readShaft_c hX h1 h2 k2 hD hn h hw hP (by rw [hb.mp c]; rfl)
    · rw [if_neg c]; exact readShaft_c hX h1 h2 k2 hD hn h hw hP (by
        have : b = false := by
          cases b
          · rfl
          · exact absurd (hb.mpr rfl) c
        rw [this]; rfl)
  rw [r_rf_e hw.1 k6, r_sc_s, h.2.2.1.2.2.2.1, ln_6, ln_4, ln_8, ln_10]
  by_cases c0 : tW X p = 0
  · rw [if_pos (show kcI (tW X p) = 0 from (kcI_j hW (b := 0) (by decide)).mpr c0), if_pos c0, r_rf_e hw.2 k2, r_sc_s, hP.1.1.1]
    by_cases cn : d_p D < 4
    · rw [if_neg (fun q => absurd ((nI_len (by omega) (by omega)).mp q) (by omega)), if_pos cn]
      exact VP.z (readPlace_c hX h1 h2 k2 hD cn h hw hP)
    · rw [if_pos ((nI_len (by omega) (by omega)).mpr (by omega)), if_neg cn, r_rf_e hw.1 k6]; exact h6
  · rw [if_neg (show ¬ kcI (tW X p) = 0 from fun q => c0 ((kcI_j hW (b := 0) (by decide)).mp q)), if_neg c0]
    by_cases c1 : tW X p = 1
    · rw [if_pos (show kcI (tW X p) = 1 from (kcI_j hW (b := 1) (by decide)).mpr c1), if_pos c1, r_rf_e hw.2 k2, r_sc_s, hP.1.1.2.1]
      by_cases cn : d_v D < 8
      · rw [if_neg (fun q => absurd ((nI_len (by omega) (by omega)).mp q) (by omega)), if_pos cn]
        exact VP.z (readVane_c hX h1 h2 k2 hD cn h hw hP)
      · rw [if_pos ((nI_len (by omega) (by omega)).mpr (by omega)), if_neg cn, r_rf_e hw.1 k6]; exact h6
    · rw [if_neg (show ¬ kcI (tW X p) = 1 from fun q => c1 ((kcI_j hW (b := 1) (by decide)).mp q)), if_neg c1]
      by_cases c6 : tW X p = 6
      · rw [if_pos (show kcI (tW X p) = nI 6 from (kcI_j hW (b := 6) (by decide)).mpr c6), if_pos c6, r_rf_e hw.2 k2, r_sc_s, hP.1.1.2.2]
        by_cases cn : d_s D < 10
        · rw [if_neg (fun q => absurd ((nI_len (by omega) (by omega)).mp q) (by omega)), if_pos cn]
          exact hsh false cn ⟨fun q => absurd ((kcI_j hW (b := 7) (by decide)).mp q) (by omega), fun q => by cases q⟩
        · rw [if_pos ((nI_len (by omega) (by omega)).mpr (by omega)), if_neg cn, r_rf_e hw.1 k6]; exact h6
      · rw [if_neg (show ¬ kcI (tW X p) = nI 6 from fun q => c6 ((kcI_j hW (b := 6) (by decide)).mp q)), if_neg c6]
        by_cases c7 : tW X p = 7
        · rw [if_pos (show kcI (tW X p) = 7 from (kcI_j hW (b := 7) (by decide)).mpr c7), if_pos c7, r_rf_e hw.2 k2, r_sc_s, hP.1.1.2.2]
          by_cases cn : d_s D < 10
          · rw [if_neg (fun q => absurd ((nI_len (by omega) (by omega)).mp q) (by omega)), if_pos cn]
            exact hsh true cn ⟨fun _ => rfl, fun _ => (kcI_j hW (b := 7) (by decide)).mpr c7⟩
          · rw [if_pos ((nI_len (by omega) (by omega)).mpr (by omega)), if_neg cn, r_rf_e hw.1 k6]; exact h6
        · rw [if_neg (show ¬ kcI (tW X p) = 7 from fun q => c7 ((kcI_j hW (b := 7) (by decide)).mp q)), if_neg c7, r_rf_e hw.1 k6]
          exact ok_mono (rtz h) (fun q w => ⟨w.1, w.2.1, OB.rf.t w.2.2⟩)
def VZ (σ : Mm) (pb : Nat) : RZ (PD × (Nat → Nat)) → Int32 × Mm → Prop
  | .ok r, q => q.1 = 1 ∧ (m_sc q.2 1 11 = 0 ∧ m_sc q.2 1 12 = -1) ∧ PlS q.2 pb r.1 r.2 ∧ OB pb σ q.2
  | .error f, q => q.1 = 0 ∧ ErC q.2 f ∧ OB pb σ q.2
theorem VZ.x {ω : Mm} {res : RZ (PD × (Nat → Nat))} {q : Int32 × Mm} (h : VZ τ pb res q) (t : OB pb ω τ) : VZ ω pb res q := by
  cases res with
  | error f => exact ⟨h.1, h.2.1, t.tr h.2.2⟩
  | ok a => exact ⟨h.1, h.2.1, h.2.2.1, t.tr h.2.2.2⟩
theorem readAll_l (hX : WTx X) (h1 : 1 ≠ pb) (h2 : 2 ≠ pb) (k2 : KD pb = 2) : ∀ m n (σ : Mm) (D : PD) (S : Nat → Nat) (p : Nat), m ≤ n → smD D + m = 23 → WFs D S → TxC σ X p → WV2 σ pb → PlS σ pb D S → ok (fX9_readAll_19 2 1 pb n (nI (smD D)) σ) (VZ σ pb (spVi X m D S p)) := by
  intro m
  induction m with
  | zero => intro n σ D S p _ hs hW; have := hW.1.1; unfold smD at hs; omega
  | succ m ih =>
    intro n σ D S p hn hs hW h hw hP
    obtain ⟨n, rfl⟩ : ∃ k, n = k + 1 := ⟨n - 1, by omega⟩
    have hk := tK_le X p
    rw [fX9_readAll_19, spVi, ln_900, if_neg (fun q => absurd ((nI_len (by omega) (by omega)).mp q) (by omega)), r_rf_e hw.1 k6, r_sc_s, h.2.2.1.2.2.1]
    by_cases c : tK X p = 0
    · rw [if_pos (show nI (tK X p) = 0 by rw [c]; rfl), if_pos c]
      exact ok_some ⟨rfl, ⟨h.2.2.2.1, h.2.2.2.2⟩, hP, OB.rf⟩
    · rw [if_neg (fun q => c ((nI_eq0 (by omega)).mp q)), if_neg c]
      obtain ⟨⟨x, τ⟩, e1, e2⟩ := readPart_c hX h1 h2 k2 hW.1 h hw hP
      rw [e1, c_I_s]
      cases e3 : spPt X D S p with
      | error f =>
        rw [e3] at e2
        have ex : x = 0 := e2.1
        subst ex
        rw [if_pos rfl]
        exact ok_some ⟨rfl, e2.2⟩
      | ok r =>
        rw [e3] at e2
        have ex : x = 1 := e2.1
        subst ex
        obtain ⟨w1, w2⟩ := spPt_w hW e3
        rw [if_neg (by decide), nI_s, ← w2]
        exact ok_mono (ih n τ r.1 r.2.1 r.2.2 (by omega) (by omega) w1 e2.2.1 (hw.ob h2 e2.2.2.2) e2.2.2.1) (fun q w => VZ.x w e2.2.2.2)
def Dz : PD := ((0, 0, 0), (fun _ => 0, fun _ => 0, fun _ => 0), (fun _ => 0, fun _ => 0, fun _ => 0, fun _ => false), (fun _ => 0, fun _ => 0, fun _ => 0))
def Sz : Nat → Nat := fun _ => 0
theorem Dz_w : WFs Dz Sz := ⟨⟨by decide, fun v hv => absurd hv (Nat.not_lt_zero _), fun v hv => absurd hv (Nat.not_lt_zero _)⟩, fun v hv => absurd hv (Nat.not_lt_zero _)⟩
theorem readAll_c (hX : WTx X) (h1 : 1 ≠ pb) (h2 : 2 ≠ pb) (k2 : KD pb = 2) (h : TxC σ X 0) : ok (fX9_readAll 2 1 pb σ) (fun q => ∃ ω, (∀ b, b ≠ 2 → b ≠ pb → BU b σ ω) ∧ VZ ω pb (spVi X 23 Dz Sz 0) q) := by
  unfold fX9_readAll fX2_clear
  have w : m_rf (w_rf (w_rf σ 2 0 (some 1)) 2 1 (some pb)) 2 1 = some pb := by rw [m_rf_rf, if_pos ⟨rfl, rfl⟩]
  rw [p_rf_s, p_rf_s, r_rf_e w k2, p_sc_s, p_sc_s, p_sc_s, c_V_s]
  have hB : ∀ b, b ≠ 2 → b ≠ pb → BU b σ (w_sc (w_sc (w_sc (w_rf (w_rf σ 2 0 (some 1)) 2 1 (some pb)) pb 0 0) pb 1 0) pb 2 0) := fun b b2 bp => ((((BU.pr b2).tr (BU.pr b2)).tr (BU.sc bp)).tr (BU.sc bp)).tr (BU.sc bp)
  refine ok_mono (readAll_l hX h1 h2 k2 23 FU _ Dz Sz 0 (Nat.le_of_lt (FU_gt (by decide))) rfl Dz_w (h.o (hB 1 (by decide) h1)) ?_ ?_) (fun q w => ⟨_, hB, w⟩)
  · refine ⟨?_, ?_⟩
    · show m_rf (w_rf (w_rf σ 2 0 (some 1)) 2 1 (some pb)) 2 0 = some 1
      rw [m_rf_rf, if_neg (by omega), m_rf_rf, if_pos ⟨rfl, rfl⟩]
    · exact w
  · refine ⟨⟨⟨?_, ?_, ?_⟩, fun v hv => absurd hv (Nat.not_lt_zero _), fun v hv => absurd hv (Nat.not_lt_zero _), fun v hv => absurd hv (Nat.not_lt_zero _), fun v hv => absurd hv (Nat.not_lt_zero _), fun v hv => absurd hv (Nat.not_lt_zero _)⟩, fun v hv => absurd hv (Nat.not_lt_zero _)⟩
    · rw [m_sc_sc, if_neg (by omega), m_sc_sc, if_neg (by omega), m_sc_sc, if_pos ⟨rfl, rfl⟩]; rfl
    · rw [m_sc_sc, if_neg (by omega), m_sc_sc, if_pos ⟨rfl, rfl⟩]; rfl
    · rw [m_sc_sc, if_pos ⟨rfl, rfl⟩]; rfl
end O
