/-! PURE 52: orders, of the class, to the end -/
def OZ (σ : Mm) (gb : Nat) : RZ OS → Int32 × Mm → Prop
  | .ok s, q => q.1 = 1 ∧ (m_sc q.2 1 11 = 0 ∧ m_sc q.2 1 12 = -1) ∧ (RC q.2 gb s ∧ m_sc q.2 gb 0 = 1) ∧ O3 gb σ q.2
  | .error f, q => q.1 = 0 ∧ ErC q.2 f ∧ O3 gb σ q.2
def spOl (a : Int32) (G : GS) : Int32 × GS := if a < 0 ∨ nI (g_x G).1 < a ∨ nI 300 < a then (-1, stq 1 G) else match spOr (txG G a.toNatClampNeg) (GD G) 61 Sy 0 with
  | .error f => ftG f G
  | .ok s => (nI (o_m s.1), suG (0, g_t G, g_b G) (0, -1) (0, (g_x G).2) (GD G, GV G, s.1) (g_m G) (g_k G) G)
section O
variable {σ τ ω : Mm} {X : TX} {p pl gb r : Nat} {D : PD} {s : OS} {G : GS} {β : Type}
theorem O3.rf : O3 gb σ σ := ⟨fun _ _ _ _ => BU.rf, fun _ => rfl⟩
theorem SQ.x {res : RZ (OS × Nat)} {q : Int32 × Mm} (h : SQ τ gb X res q) (t : O3 gb ω τ) : SQ ω gb X res q := by
  cases res with
  | error f => exact ⟨h.1, h.2.1, t.tr h.2.2⟩
  | ok a => exact ⟨h.1, h.2.1, h.2.2.1, t.tr h.2.2.2⟩
theorem OZ.x {res : RZ OS} {q : Int32 × Mm} (h : OZ τ gb res q) (t : O3 gb ω τ) : OZ ω gb res q := by
  cases res with
  | error f => exact ⟨h.1, h.2.1, t.tr h.2.2⟩
  | ok a => exact ⟨h.1, h.2.1, h.2.2.1, t.tr h.2.2.2⟩
theorem SQ.z {res : RZ (OS × Nat)} {r : Option (Int32 × Mm)} (h : ok r (SQ σ gb X res)) : ok (c_I r (fun x τ => b_z x τ)) (SQ σ gb X res) := by
  obtain ⟨⟨x, τ⟩, rfl, h⟩ := h
  rw [c_I_s]
  refine ok_bz ?_ h
  cases res with
  | error f => exact Or.inl h.1
  | ok a => exact Or.inr h.1
theorem isStep_e {k : Nat} (hk : k ≤ 23) : fX1_isStep (kcI k) σ = some (if isStp k = true then 1 else 0, σ) := by
  have : k = 0 ∨ k = 1 ∨ k = 2 ∨ k = 3 ∨ k = 4 ∨ k = 5 ∨ k = 6 ∨ k = 7 ∨ k = 8 ∨ k = 9 ∨ k = 10 ∨ k = 11 ∨ k = 12 ∨ k = 13 ∨ k = 14 ∨ k = 15 ∨ k = 16 ∨ k = 17 ∨ k = 18 ∨ k = 19 ∨ k = 20 ∨ k = 21 ∨ k = 22 ∨ k = 23 := by omega
  rcases this with rfl | rfl | rfl | rfl | rfl | rfl | rfl | rfl | rfl | rfl | rfl | rfl | rfl | rfl | rfl | rfl | rfl | rfl | rfl | rfl | rfl | rfl | rfl | rfl <;> rfl
theorem readRow_c (hX : WTx X) (h1 : 1 ≠ gb) (h3 : 3 ≠ gb) (kg : KD gb = 5) (kl : KD pl = 2) (hl : pl ≠ 1 ∧ pl ≠ gb) (hD : WFD D) (hP : PlC σ pl D) (hI : IvO D s) (hC : RC σ gb s) (hw : W3 σ pl gb) (h : TxC σ X p) : ok (fX1_readRow 3 σ) (SQ σ gb X (sSt X D s p)) := by
  have hW := tW_le X p
  have hi := hI.1
  have ert : ok (c_I (fX6_refuseToken 1 σ) (fun x τ => b_z x τ)) (SQ σ gb X (.error (rT X p))) := ok_mono (rtz h) (fun q w => ⟨w.1, w.2.1, w.2.2.o3⟩)
  have erk : ∀ kd, ok (c_I (fX6_refuse 1 (nI kd) σ) (fun x τ => b_z x τ)) (SQ σ gb X (.error (kd, tA X p))) := fun kd => ok_mono (rkz h kd) (fun q w => ⟨w.1, w.2.1, w.2.2.o3⟩)
  unfold fX1_readRow sSt
  rw [r_rf_e hw.1 k6, r_sc_s, h.2.2.1.2.2.2.1]
  by_cases c21 : tW X p = 21
  · rw [if_pos (show kcI (tW X p) = 21 from (kcI_j hW (b := 21) (by decide)).mpr c21), if_pos c21, r_sc_s, hC.2.2.1]
    by_cases c0 : s.2.2 = 0
    · rw [if_pos (show nI s.2.2 ≤ 0 by rw [c0]; decide), if_pos c0, r_rf_e hw.1 k6]
      exact ert
    · rw [if_neg (show ¬ nI s.2.2 ≤ 0 from fun q => absurd ((nI_len (b := 0) (by omega) (by decide)).mp q) (by omega)), if_neg c0]
      exact SQ.z (readEnd_c hX h1 h3 kg hI (by omega) hC hw h)
  · rw [if_neg (show ¬ kcI (tW X p) = 21 from fun q => c21 ((kcI_j hW (b := 21) (by decide)).mp q)), if_neg c21, isStep_e hW, c_I_s]
    by_cases cs : isStp (tW X p) = true
    · have cs' := isStp_e.mp cs
      rw [if_pos cs, if_neg (by decide), if_pos cs, r_rf_e hw.2.2 kg, r_sc_s, hC.1.1]
      by_cases cm : 30 ≤ o_m s.1
      · rw [if_neg (show ¬ nI (o_m s.1) < 30 from fun q => absurd ((nI_ltn (b := 30) (by omega) (by decide)).mp q) (by omega)), if_pos cm, r_rf_e hw.1 k6]
        exact erk 6
      · rw [if_pos (show nI (o_m s.1) < 30 from (nI_ltn (b := 30) (by omega) (by decide)).mpr (by omega)), if_neg cm]
        have ek : kcI (tW X p) = nI (tW X p) := if_pos (by omega)
        have body : (opn (tW X p) = true → s.2.2 < 3) → ok (r_rf σ 3 2 5 (fun q28 => r_sc σ q28 2 (fun x29 => r_rf σ 3 0 6 (fun q30 => c_V (fX6_advance q30 σ) (fun σ31 => if kcI (tW X p) = (18 : Int32) then (c_I (fX1_readTest 3 x29 σ31) (fun x38 σ36 => fX1_readRow_148 3 (kcI (tW X p)) (if opn (tW X p) = true then 1 else 0) x29 x38 σ36)) else (c_I (fX1_readNumbers 3 (kcI (tW X p)) x29 σ31) (fun x35 σ33 => fX1_readRow_148 3 (kcI (tW X p)) (if opn (tW X p) = true then 1 else 0) x29 x35 σ33))))))) (SQ σ gb X (eb (sRw X D (tW X p) (tE X p)) fun a => eb (sSg X a.2) fun q => .ok (addO s (tW X p) a.1, q))) := by
          intro hop
          obtain ⟨τ1, a1, x1, -, t1⟩ := adv_c hX h
          have g1 : GF gb (o_r s.1) σ τ1 := T1.gf h1 t1
          have w1 := hw.gf h3 g1
          have P1 := hP.bu (t1 pl hl.1)
          have C1 := hC.gf h3 g1
          rw [r_rf_e hw.2.2 kg, r_sc_s, hC.1.2, r_rf_e hw.1 k6, a1, c_V_s, ek]
          by_cases c18 : tW X p = 18
          · rw [if_pos (show nI (tW X p) = 18 by rw [c18]; rfl)]
            have e : sRw X D (tW X p) (tE X p) = sTs X D (tE X p) := by unfold sRw; rw [c18]; rfl
            rw [e]
            refine ok_mono (row148 hX h1 h3 kg hI (by omega) cs hop C1 w1 (by rw [c18]; exact readTest_c hX h1 h3 kg kl hl (by omega) hD P1 w1 x1)) (fun q w => SQ.x w (g1.o3 h3))
          · rw [if_neg (show ¬ nI (tW X p) = 18 from fun q => c18 ((nI_inj (b := 18) (by omega) (by decide)).mp q))]
            exact ok_mono (row148 hX h1 h3 kg hI (by omega) cs hop C1 w1 (readNumbers_c hX h1 h3 kg kl hl (by omega) hD P1 w1 x1 cs c18)) (fun q w => SQ.x w (g1.o3 h3))
        have two : opn (tW X p) = true → ok (fX1_readRow_90 3 (kcI (tW X p)) 1 σ) (SQ σ gb X (if opn (tW X p) = true ∧ 3 ≤ s.2.2 then .error (7, tA X p) else eb (sRw X D (tW X p) (tE X p)) fun a => eb (sSg X a.2) fun q => .ok (addO s (tW X p) a.1, q))) := by
          intro ho
          unfold fX1_readRow_90
          rw [if_neg (by decide), r_sc_s, hC.2.2.1]
          by_cases c3 : 3 ≤ s.2.2
          · rw [if_neg (show ¬ nI s.2.2 < 3 from fun q => absurd ((nI_ltn (b := 3) (by omega) (by decide)).mp q) (by omega)), if_pos ⟨ho, c3⟩, r_rf_e hw.1 k6]
            exact erk 7
          · rw [if_pos (show nI s.2.2 < 3 from (nI_ltn (b := 3) (by omega) (by decide)).mpr (by omega)), if_neg (fun q => c3 q.2)]
            have := body (fun _ => by omega)
            rw [if_pos ho] at this
            exact this
        by_cases c18 : tW X p = 18
        · rw [if_pos (show kcI (tW X p) = 18 by rw [c18]; rfl)]
          exact two (opn_e.mpr (Or.inl c18))
        · rw [if_neg (show ¬ kcI (tW X p) = 18 from fun q => c18 ((kcI_j hW (b := 18) (by decide)).mp q))]
          by_cases c20 : tW X p = 20
          · rw [if_pos (show kcI (tW X p) = 20 by rw [c20]; rfl)]
            exact two (opn_e.mpr (Or.inr c20))
          · rw [if_neg (show ¬ kcI (tW X p) = 20 from fun q => c20 ((kcI_j hW (b := 20) (by decide)).mp q))]
            have ho : ¬ opn (tW X p) = true := fun q => by have := opn_e.mp q; omega
            rw [if_neg (fun q => ho q.1)]
            unfold fX1_readRow_90
            rw [if_pos rfl]
            have := body (fun q => absurd q ho)
            rw [if_neg ho] at this
            exact this
    · rw [if_neg cs, if_pos rfl, if_neg cs, r_rf_e hw.1 k6]
      exact ert
theorem oAll_l (hX : WTx X) (h1 : 1 ≠ gb) (h3 : 3 ≠ gb) (kg : KD gb = 5) (kl : KD pl = 2) (hl : pl ≠ 1 ∧ pl ≠ gb ∧ pl ≠ 3) (hD : WFD D) : ∀ m n (σ : Mm) (s : OS) (p : Nat), m ≤ n → o_r s.1 + m = 61 → IvO D s → TxC σ X p → W3 σ pl gb → PlC σ pl D → RC σ gb s → ok (fX1_readAll_30 3 1 pl gb n (nI (o_r s.1)) σ) (OZ σ gb (spOr X D m s p)) := by
  intro m
  induction m with
  | zero => intro n σ s p _ hs hI; have := hI.1; omega
  | succ m ih =>
    intro n σ s p hn hs hI h hw hP hC
    obtain ⟨n, rfl⟩ : ∃ k, n = k + 1 := ⟨n - 1, by omega⟩
    have hk := tK_le X p
    have hi := hI.1
    rw [fX1_readAll_30, spOr, ln_60, if_neg (fun q => absurd ((nI_ltn (by omega) (by omega)).mp q) (by omega)), r_rf_e hw.1 k6, r_sc_s, h.2.2.1.2.2.1]
    by_cases c : tK X p = 0
    · rw [if_pos (show nI (tK X p) = 0 by rw [c]; rfl), if_pos c]
      unfold fX1_readAll_62
      rw [r_sc_s, hC.2.2.1]
      by_cases c0 : 0 < s.2.2
      · rw [if_pos (show 0 < nI s.2.2 from (nI_ltn (a := 0) (by decide) (by omega)).mpr c0), if_pos c0, r_rf_e hw.1 k6]
        exact ok_mono (rtz h) (fun q w => ⟨w.1, w.2.1, w.2.2.o3⟩)
      · rw [if_neg (show ¬ 0 < nI s.2.2 from fun q => c0 ((nI_ltn (a := 0) (by decide) (by omega)).mp q)), if_neg c0, r_rf_e hw.1 k6, r_sc_s, h.2.2.1.2.2.1, if_pos (show nI (tK X p) = 0 by rw [c]; rfl), r_rf_e hw.2.2 kg, p_bz_s (Or.inr rfl)]
        have hx := h.o (BU.sc (k := 0) (v := 1) h1)
        refine ok_some ⟨rfl, ⟨hx.2.2.2.1, hx.2.2.2.2⟩, ⟨⟨⟨?_, ?_⟩, hC.2.1, ?_, hC.2.2.2⟩, ?_⟩, O3.sc (Or.inr rfl)⟩
        · rw [m_sc_sc, if_neg (by omega)]; exact hC.1.1
        · rw [m_sc_sc, if_neg (by omega)]; exact hC.1.2
        · rw [m_sc_sc, if_neg (by omega)]; exact hC.2.2.1
        · rw [m_sc_sc, if_pos ⟨rfl, rfl⟩]
    · rw [if_neg (fun q => c ((nI_eq0 (by omega)).mp q)), if_neg c]
      obtain ⟨⟨x, τ⟩, e1, e2⟩ := readRow_c hX h1 h3 kg kl ⟨hl.1, hl.2.1⟩ hD hP hI hC hw h
      rw [e1, c_I_s]
      cases e3 : sSt X D s p with
      | error f =>
        rw [e3] at e2
        have ex : x = 0 := e2.1
        subst ex
        rw [if_pos rfl]
        exact ok_some ⟨rfl, e2.2⟩
      | ok a =>
        rw [e3] at e2
        have ex : x = 1 := e2.1
        subst ex
        obtain ⟨w1, w2⟩ := sSt_w hI e3
        rw [if_neg (by decide), nI_s, ← w2]
        exact ok_mono (ih n τ a.1 a.2 (by omega) (by omega) w1 e2.2.1 (hw.o3 e2.2.2.2) (hP.bu (e2.2.2.2.1 pl hl.1 hl.2.2 hl.2.1)) e2.2.2.1) (fun q w => OZ.x w e2.2.2.2)
theorem oAll_c (hX : WTx X) (h1 : 1 ≠ gb) (h3 : 3 ≠ gb) (kg : KD gb = 5) (kl : KD pl = 2) (hl : pl ≠ 1 ∧ pl ≠ gb ∧ pl ≠ 3) (hD : WFD D) (hP : PlC σ pl D) (h : TxC σ X 0) : ok (fX1_readAll 3 1 pl gb σ) (fun q => ∃ ω, (∀ b, b ≠ 3 → b ≠ gb → BU b σ ω) ∧ OZ ω gb (spOr X D 61 Sy 0) q) := by
  unfold fX1_readAll fX5_clear
  have w : m_rf (w_rf (w_rf (w_rf σ 3 0 (some 1)) 3 1 (some pl)) 3 2 (some gb)) 3 2 = some gb := by rw [m_rf_rf, if_pos ⟨rfl, rfl⟩]
  rw [p_rf_s, p_rf_s, p_rf_s, r_rf_e w kg, p_bz_s (Or.inl rfl), p_sc_s, p_sc_s, c_V_s, p_sc_s]
  have hB : ∀ b, b ≠ 3 → b ≠ gb → BU b σ (w_sc (w_sc (w_sc (w_sc (w_rf (w_rf (w_rf σ 3 0 (some 1)) 3 1 (some pl)) 3 2 (some gb)) gb 0 0) gb 1 0) gb 2 0) 3 4 0) := fun b b2 bp => ((((((BU.pr b2).tr (BU.pr b2)).tr (BU.pr b2)).tr (BU.sc bp)).tr (BU.sc bp)).tr (BU.sc bp)).tr (BU.sc b2)
  refine ok_mono (oAll_l hX h1 h3 kg kl hl hD 61 FU _ Sy 0 (Nat.le_of_lt (FU_gt (by decide))) rfl Sy_w (h.o (hB 1 (by decide) h1)) ⟨?_, ?_, w⟩ (hP.bu (hB pl hl.2.2 hl.2.1)) ⟨⟨?_, ?_⟩, fun r hr => absurd hr (Nat.not_lt_zero _), ?_, fun r hr => absurd hr (Nat.not_lt_zero _)⟩) (fun q w => ⟨_, hB, w⟩)
  · show m_rf (w_rf (w_rf (w_rf σ 3 0 (some 1)) 3 1 (some pl)) 3 2 (some gb)) 3 0 = some 1
    rw [m_rf_rf, if_neg (by omega), m_rf_rf, if_neg (by omega), m_rf_rf, if_pos ⟨rfl, rfl⟩]
  · show m_rf (w_rf (w_rf (w_rf σ 3 0 (some 1)) 3 1 (some pl)) 3 2 (some gb)) 3 1 = some pl
    rw [m_rf_rf, if_neg (by omega), m_rf_rf, if_pos ⟨rfl, rfl⟩]
  · rw [m_sc_sc, if_neg (by omega), m_sc_sc, if_neg (by omega), m_sc_sc, if_pos ⟨rfl, rfl⟩]; rfl
  · rw [m_sc_sc, if_neg (by omega), m_sc_sc, if_pos ⟨rfl, rfl⟩]; rfl
  · rw [m_sc_sc, if_pos ⟨rfl, rfl⟩]; rfl
theorem sSt_g {a : OS × Nat} (e : sSt X D s p = .ok a) : o_g a.1.1 = true := by
  unfold sSt at e
  split at e
  · split at e
    · cases e
    · obtain ⟨q, -, e⟩ := eb_ok e
      injection e with e
      rw [← e]; rfl
  · split at e
    · split at e
      · cases e
      · split at e
        · cases e
        · obtain ⟨b, e1, e⟩ := eb_ok e
          obtain ⟨q, -, e⟩ := eb_ok e
          injection e with e
          rw [← e]; rfl
    · cases e
theorem spOr_g : ∀ (m : Nat) (s : OS) (p : Nat) (t : OS), o_g s.1 = true → spOr X D m s p = .ok t → o_g t.1 = true := by
  intro m
  induction m with
  | zero => intro s p t _ e; cases e
  | succ m ih =>
    intro s p t h e
    rw [spOr] at e
    split at e
    · split at e
      · cases e
      · injection e with e; rw [← e]; exact h
    · obtain ⟨a, e1, e2⟩ := eb_ok e
      exact ih _ _ _ (sSt_g e1) e2
theorem RC.orc (h : RC σ gb s) (h0 : m_sc σ gb 0 = 1) (hg : o_g s.1 = true) (hd : s.2.2 = 0) : OrC σ gb s.1 := by
  refine ⟨by rw [hg]; exact h0, fun _ => ⟨h.1.1, h.1.2, fun r hr => ?_⟩⟩
  obtain ⟨b1, b2, b3, b4⟩ := h.2.1 r hr
  refine ⟨b1, b2.1, b2.2.1, b2.2.2, fun z => ?_⟩
  have b4' : (o_k s.1 r = 18 ∨ o_k s.1 r = 20) → m_ar σ gb 4 r = nI (o_p s.1 r) := fun z => by
    rcases b4 z with ⟨i, hi, -⟩ | w
    · omega
    · exact w
  rcases z with z | z | z
  · exact b4' (Or.inl z)
  · exact b4' (Or.inr z)
  · exact b3 z
theorem orders_c (a : Int32) (hW : WFG G) (h : RepC σ G) : OC (fX11_orders 0 a σ) (spOl a G) := by
  have h9 := hW.2.1.1
  have hm3 := hW.2.2.2.1
  unfold fX11_orders spOl
  rw [tg_0_4, r_sc_s, h.2.2.1.1, tg_0_6, tg_0_9]
  rcases i_cases a with ha | ⟨n, hn, rfl⟩
  · rw [if_pos ha, if_pos (Or.inl ha)]; exact OC.non hW h _
  · rw [if_neg (nI_neg0 hn), ln_300]
    by_cases c : (g_x G).1 < n
    · rw [if_pos ((nI_ltn (by omega) (by omega)).mpr c), if_pos (Or.inr (Or.inl ((nI_ltn (by omega) (by omega)).mpr c)))]
      exact OC.non hW h _
    · rw [if_neg (fun q => c ((nI_ltn (by omega) (by omega)).mp q))]
      by_cases c3 : 300 < n
      · rw [if_neg (fun q => absurd ((nI_len (by omega) (by omega)).mp q) (by omega)), if_pos (Or.inr (Or.inr ((nI_ltn (by omega) (by omega)).mpr c3)))]
        exact OC.non hW h _
      · rw [if_pos ((nI_len (by omega) (by omega)).mpr (by omega)), if_neg (fun q => q.elim (nI_neg0 hn) (fun q => q.elim (fun q => c ((nI_ltn (by omega) (by omega)).mp q)) (fun q => c3 ((nI_ltn (by omega) (by omega)).mp q)))), nI_cl hn]
        obtain ⟨τ1, e1, x1, t1⟩ := open_c hW h (n := n) (by omega)
        have hX := (tx_w hW (n := n) (by omega)).1
        obtain ⟨p, g, ⟨w1, w2, w3, w4, w5⟩, t⟩ := h.2.2.2.1
        obtain ⟨gb, hgb, hgg, hrf⟩ : ∃ gb, (gb = 7 ∨ gb = 9) ∧ (g = 7 ∨ g = 9) ∧ m_rf σ 0 11 = some gb ∧ g ≠ gb := by
          rcases w4 with ⟨e, q⟩ | ⟨e, q⟩
          · exact ⟨9, Or.inr rfl, Or.inl e, q, by omega⟩
          · exact ⟨7, Or.inl rfl, Or.inr e, q, by omega⟩
        have kgb : KD gb = 5 := by rcases hgb with rfl | rfl <;> rfl
        have kg : KD g = 5 := by rcases hgg with rfl | rfl <;> rfl
        have hp : p = 5 ∨ p = 8 := by rcases w3 with ⟨e, -⟩ | ⟨e, -⟩ <;> simp [e]
        have kp : KD p = 2 := by rcases hp with rfl | rfl <;> rfl
        obtain ⟨⟨x, τ2⟩, e2, ω, o1, z⟩ := oAll_c (σ := τ1) (pl := p) (gb := gb) hX (by omega) (by omega) kgb kp ⟨by omega, by omega, by omega⟩ hW.d (t.1.bu (t1 p (by omega))) x1
        have t1r : m_rf τ1 0 11 = some gb := ((t1 0 (by decide)).2.2.2.2 11).trans hrf.1
        have t1p : m_rf τ1 4 0 = some p := ((t1 4 (by decide)).2.2.2.2 0).trans w1
        rw [e1, c_V_s, r_rf_e t1p kp, r_rf_e t1r kgb, e2, c_I_s, closeText_c, c_V_s]
        cases er : spOr (txG G n) (GD G) 61 Sy 0 with
        | error f =>
          rw [er] at z
          obtain ⟨z1, z2, z3⟩ := z
          have z1 : x = 0 := z1
          rw [if_pos z1]
          refine ⟨_, rfl, flt_c hW h (m := 3) (n := gb) (fun b b1 b2 b3 => ((t1 b b1).tr (o1 b b2 b3)).tr (z3.1 b b1 b2 b3)) (Or.inr rfl) ⟨⟨by omega, by omega, by omega, by omega⟩, by rw [w1]; intro q; injection q with q; omega, by rw [w2]; intro q; injection q with q; exact hrf.2 q⟩ z2⟩
        | ok s =>
          rw [er] at z
          obtain ⟨z1, z2, ⟨z3, z5⟩, z4⟩ := z
          have z1 : x = 1 := z1
          have hwf := spOr_w 61 Sy 0 s Sy_w er
          have hg := spOr_g 61 Sy 0 s rfl er
          have hO := z3.orc z5 hg hwf.2
          rw [if_neg (by rw [z1]; decide)]
          have ho : ∀ b, b ≠ 1 → b ≠ 3 → b ≠ gb → BU b σ τ2 := fun b b1 b2 b3 => ((t1 b b1).tr (o1 b b2 b3)).tr (z4.1 b b1 b2 b3)
          have b0 := ho 0 (by decide) (by omega) (by omega)
          have b4 := ho 4 (by decide) (by omega) (by omega)
          obtain ⟨μ, hμ⟩ : ∃ μ, μ = w_rf (w_rf (w_sc (w_sc (w_sc τ2 1 1 0) 0 7 (m_sc τ2 1 11)) 0 8 (m_sc τ2 1 12)) 0 11 (some g)) 4 2 (some gb) := ⟨_, rfl⟩
          have hBt : ∀ b, b ≠ 0 → b ≠ 1 → b ≠ 4 → BU b τ2 μ := fun b q0 q1 q4 => by
            rw [hμ]
            exact ((((BU.sc q1).tr (BU.sc q0)).tr (BU.sc q0)).tr (BU.pr q0)).tr (BU.pr q4)
          have m11 : m_rf (w_sc (w_sc (w_sc τ2 1 1 0) 0 7 (m_sc τ2 1 11)) 0 8 (m_sc τ2 1 12)) 0 11 = some gb := (b0.2.2.2.2 11).trans hrf.1
          have m42 : m_rf (w_sc (w_sc (w_sc τ2 1 1 0) 0 7 (m_sc τ2 1 11)) 0 8 (m_sc τ2 1 12)) 4 2 = some g := (b4.2.2.2.2 2).trans w2
          have mm : m_sc μ gb 1 = nI (o_m s.1) := ((hBt gb (by omega) (by omega) (by omega)).1 1).trans z3.1.1
          rw [r_rf_e m11 kgb, r_rf_e m42 kg, p_rf_s, p_rf_s, ← hμ, r_sc_s, mm]
          have hF : ∀ q, q ≠ 0 → BU q μ (w_sc μ 0 0 0) := fun q q0 => BU.sc q0
          have hA : ∀ q, q ≠ 0 → q ≠ 1 → q ≠ 3 → q ≠ 4 → q ≠ gb → BU q σ (w_sc μ 0 0 0) := fun q q0 q1 q2 q4 q5 => ((ho q q1 q2 q5).tr (hBt q q0 q1 q4)).tr (hF q q0)
          have u0s : ∀ k, k ≠ 0 → m_sc (w_sc μ 0 0 0) 0 k = m_sc μ 0 k := fun k hk => by rw [m_sc_sc, if_neg (by omega)]
          refine ⟨_, rfl, RepC.gen (σ := σ) _ _ _ _ _ _ (fun q hq => hA q (by omega) (by omega) (by omega) (by omega) (by omega)) ⟨rfl, ?_, ?_, ?_, ?_⟩ ?_ ⟨?_, fun k hk => absurd hk (Nat.not_lt_zero _)⟩ ⟨p, gb, ⟨?_, ?_, ?_, ?_, fun i hi => ?_⟩, ?_, ?_, ?_⟩ (fun i hi => ?_) h⟩
          · show m_lg μ 0 1 = g_t G
            rw [hμ]; exact (b0.2.1 1).trans h.1.2.1
          · show m_lg μ 0 2 = g_b G
            rw [hμ]; exact (b0.2.1 2).trans h.1.2.2.1
          · rw [u0s 7 (by decide), hμ]; exact z2.1
          · rw [u0s 8 (by decide), hμ]; exact z2.2
          · rw [u0s 13 (by decide), hμ]; exact (b0.1 13).trans h.2.2.2.2.1.1
          · rw [m_sc_sc, if_neg (by omega), hμ]; rfl
          · show m_rf μ 4 0 = some p
            rw [hμ]; exact (b4.2.2.2.2 0).trans w1
          · show m_rf μ 4 2 = some gb
            rw [hμ]; rfl
          · show (p = 5 ∧ m_rf μ 0 10 = some 8) ∨ (p = 8 ∧ m_rf μ 0 10 = some 5)
            rw [hμ]
            show (p = 5 ∧ m_rf τ2 0 10 = some 8) ∨ (p = 8 ∧ m_rf τ2 0 10 = some 5)
            rw [b0.2.2.2.2]; exact w3
          · show (gb = 7 ∧ m_rf μ 0 11 = some 9) ∨ (gb = 9 ∧ m_rf μ 0 11 = some 7)
            rw [hμ]
            show (gb = 7 ∧ some g = some 9) ∨ (gb = 9 ∧ some g = some 7)
            rcases w4 with ⟨e, q⟩ | ⟨e, q⟩
            · rw [hrf.1] at q; injection q with q; exact Or.inr ⟨q, by rw [e]⟩
            · rw [hrf.1] at q; injection q with q; exact Or.inl ⟨q, by rw [e]⟩
          · have hq := hA (19 + i) (by omega) (by omega) (by omega) (by omega) (by omega)
            rw [hq.2.2.2.2, hq.2.2.2.2]; exact w5 i hi
          · exact t.1.bu (hA p (by omega) (by omega) (by omega) (by omega) (by omega))
          · exact t.2.1.bu (hA 6 (by omega) (by omega) (by omega) (by omega) (by omega))
          · exact (hO.bu (hBt gb (by omega) (by omega) (by omega))).bu (hF gb (by omega))
          · have hk := h.2.2.2.2.1.2 i hi
            exact ⟨hk.1.bu (hA _ (by omega) (by omega) (by omega) (by omega) (by omega)), hk.2.1.bu (hA _ (by omega) (by omega) (by omega) (by omega) (by omega)), hk.2.2.bu (hA _ (by omega) (by omega) (by omega) (by omega) (by omega))⟩
end O
