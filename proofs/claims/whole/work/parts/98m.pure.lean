/-! PURE 51: orders, of the class -/
def W3 (σ : Mm) (pl gb : Nat) : Prop := m_rf σ 3 0 = some 1 ∧ m_rf σ 3 1 = some pl ∧ m_rf σ 3 2 = some gb
def GF (gb r : Nat) (σ τ : Mm) : Prop := (∀ b, b ≠ 1 → b ≠ gb → BU b σ τ) ∧ (∀ k, m_sc τ gb k = m_sc σ gb k) ∧ ∀ j i, ¬ ((j = 1 ∨ j = 2 ∨ j = 3) ∧ i = r) → m_ar τ gb j i = m_ar σ gb j i
def RwV (τ : Mm) (gb r k : Nat) (a : Nat × Nat × Nat) : Prop := (k ≠ 17 → k ≠ 11 → k ≠ 20 → k ≠ 21 → k ≠ 22 → m_ar τ gb 1 r = nI a.1) ∧ (k = 10 ∨ k = 18 → m_ar τ gb 2 r = nI a.2.1) ∧ (k = 10 ∨ k = 17 ∨ k = 11 ∨ k = 20 ∨ k = 16 ∨ (k = 18 ∧ a.2.1 ≠ 19) → m_ar τ gb 3 r = nI a.2.2)
def NQ (σ : Mm) (gb r k : Nat) (X : TX) : RZ R4 → Int32 × Mm → Prop
  | .ok a, q => q.1 = 1 ∧ TxC q.2 X a.2 ∧ RwV q.2 gb r k a.1 ∧ GF gb r σ q.2
  | .error f, q => q.1 = 0 ∧ ErC q.2 f ∧ GF gb r σ q.2
def RC (σ : Mm) (gb : Nat) (s : OS) : Prop := (m_sc σ gb 1 = nI (o_m s.1) ∧ m_sc σ gb 2 = nI (o_r s.1)) ∧ (∀ r, r < o_r s.1 → m_ar σ gb 0 r = nI (o_k s.1 r) ∧ RwV σ gb r (o_k s.1 r) (o_w s.1 r, o_h s.1 r, o_n s.1 r) ∧ (o_k s.1 r = 21 → m_ar σ gb 4 r = nI (o_p s.1 r)) ∧ ((o_k s.1 r = 18 ∨ o_k s.1 r = 20) → OpB s r ∨ m_ar σ gb 4 r = nI (o_p s.1 r))) ∧ m_sc σ 3 4 = nI s.2.2 ∧ ∀ i, i < s.2.2 → m_ar σ 3 0 i = nI (s.2.1 i)
def O3 (gb : Nat) (σ τ : Mm) : Prop := (∀ b, b ≠ 1 → b ≠ 3 → b ≠ gb → BU b σ τ) ∧ ∀ k, m_rf τ 3 k = m_rf σ 3 k
def SQ (σ : Mm) (gb : Nat) (X : TX) : RZ (OS × Nat) → Int32 × Mm → Prop
  | .ok a, q => q.1 = 1 ∧ TxC q.2 X a.2 ∧ RC q.2 gb a.1 ∧ O3 gb σ q.2
  | .error f, q => q.1 = 0 ∧ ErC q.2 f ∧ O3 gb σ q.2
section O
variable {σ τ ω : Mm} {X : TX} {p pl gb r : Nat} {D : PD} {s : OS} {β : Type}
theorem GF.rf : GF gb r σ σ := ⟨fun _ _ _ => BU.rf, fun _ => rfl, fun _ _ _ => rfl⟩
theorem GF.tr (h : GF gb r σ τ) (g : GF gb r τ ω) : GF gb r σ ω := ⟨fun b h1 h2 => (h.1 b h1 h2).tr (g.1 b h1 h2), fun k => (g.2.1 k).trans (h.2.1 k), fun j i q => (g.2.2 j i q).trans (h.2.2 j i q)⟩
theorem T1.gf (h1 : 1 ≠ gb) (t : T1 σ τ) : GF gb r σ τ := ⟨fun b hb _ => t b hb, (t gb h1.symm).1, fun j i _ => by rw [(t gb h1.symm).2.2.1]⟩
theorem GF.w {j : Nat} {v : Int32} (hj : j = 1 ∨ j = 2 ∨ j = 3) : GF gb r σ (w_ar σ gb j r v) := ⟨fun b _ hb => BU.arw hb, fun _ => rfl, fun j' i q => by rw [m_ar_ar, if_neg (fun z => q ⟨by rw [z.2.1]; exact hj, z.2.2⟩)]⟩
theorem W3.gf (w : W3 σ pl gb) (h3 : 3 ≠ gb) (g : GF gb r σ τ) : W3 τ pl gb := by
  have := (g.1 3 (by decide) h3).2.2.2.2
  exact ⟨(this 0).trans w.1, (this 1).trans w.2.1, (this 2).trans w.2.2⟩
theorem bK {j : Nat} {keep : Mm → Option (Int32 × Mm)} (hkeep : ∀ τ, W3 τ pl gb → keep τ = some (1, w_ar τ gb j r (m_sc τ 1 10))) (hj : j = 1 ∨ j = 2 ∨ j = 3) (h1 : 1 ≠ gb) (h3 : 3 ≠ gb) (hw : W3 σ pl gb) (hg : GF gb r σ ω) {res : RZ (Nat × Nat)} {k : Nat × Nat → RZ β} {rr : Option (Int32 × Mm)} {K : Mm → Option (Int32 × Mm)} {Q : RZ β → Int32 × Mm → Prop} (h : ok rr (CV ω X res)) (he : ∀ f τ, ErC τ f → GF gb r σ τ → Q (.error f) (0, τ)) (hk : ∀ a τ, res = .ok a → TxC τ X a.2 → GF gb r σ τ → m_ar τ gb j r = nI a.1 → (∀ j', j' ≠ j → m_ar τ gb j' = m_ar ω gb j') → ok (K τ) (Q (k a))) : ok (c_I rr (fun x τ => if x = 0 then some ((0 : Int32), τ) else c_I (keep τ) (fun y υ => if y = 0 then some ((0 : Int32), υ) else K υ))) (Q (eb res k)) := by
  refine bV h (fun f τ e t => he f τ e (hg.tr (t.gf h1))) (fun a τ e x v t => ?_)
  have g := hg.tr (t.gf (r := r) h1)
  rw [hkeep τ (hw.gf h3 g), c_I_s, if_neg (by decide), v]
  refine hk a _ e (x.o (BU.arw h1)) (g.tr (GF.w hj)) (by rw [m_ar_ar, if_pos ⟨rfl, rfl, rfl⟩]) (fun j' hj' => ?_)
  funext i
  rw [m_ar_ar, if_neg (fun z => hj' z.2.1), (t gb h1.symm).2.2.1]
theorem keepWhat_e (kg : KD gb = 5) (hr : r < 60) (w : W3 τ pl gb) : fX1_keepWhat 3 (nI r) τ = some (1, w_ar τ gb 1 r (m_sc τ 1 10)) := by
  unfold fX1_keepWhat
  rw [r_rf_e w.2.2 kg, r_rf_e w.1 k6, r_sc_s, s_ar_n hr (by decide)]
theorem keepHow_e (kg : KD gb = 5) (hr : r < 60) (w : W3 τ pl gb) : fX1_keepHow 3 (nI r) τ = some (1, w_ar τ gb 2 r (m_sc τ 1 10)) := by
  unfold fX1_keepHow
  rw [r_rf_e w.2.2 kg, r_rf_e w.1 k6, r_sc_s, s_ar_n hr (by decide)]
theorem keepMuch_e (kg : KD gb = 5) (hr : r < 60) (w : W3 τ pl gb) : fX1_keepMuch 3 (nI r) τ = some (1, w_ar τ gb 3 r (m_sc τ 1 10)) := by
  unfold fX1_keepMuch
  rw [r_rf_e w.2.2 kg, r_rf_e w.1 k6, r_sc_s, s_ar_n hr (by decide)]
theorem readTest_c (hX : WTx X) (h1 : 1 ≠ gb) (h3 : 3 ≠ gb) (kg : KD gb = 5) (kl : KD pl = 2) (hl : pl ≠ 1 ∧ pl ≠ gb) (hr : r < 60) (hD : WFD D) (hP : PlC σ pl D) (hw : W3 σ pl gb) (h : TxC σ X p) : ok (fX1_readTest 3 (nI r) σ) (NQ σ gb r 18 X (sTs X D p)) := by
  have hd := hD.1
  have hW := tW_le X p
  unfold fX1_readTest sTs
  rw [r_rf_e hw.1 k6, r_sc_s, h.2.2.1.2.2.2.1]
  by_cases c : tW X p = 19
  · rw [if_pos (show kcI (tW X p) = 19 from (kcI_j hW (b := 19) (by decide)).mpr c), if_pos c, r_rf_e hw.2.2 kg, s_ar_n hr (by decide)]
    have g0 : GF gb r σ (w_ar σ gb 2 r 19) := GF.w (Or.inr (Or.inl rfl))
    have w0 := hw.gf h3 g0
    obtain ⟨τ1, a1, x1, -, t1⟩ := adv_c hX (h.o (BU.arw h1) : TxC (w_ar σ gb 2 r 19) X p)
    have g1 := g0.tr (T1.gf (r := r) h1 t1)
    have w1 := hw.gf h3 g1
    have P1 := hP.bu (g1.1 pl hl.1 hl.2)
    rw [r_rf_e w0.1 k6, a1, c_V_s, r_rf_e w1.1 k6, r_rf_e w1.2.1 kl]
    refine bK (fun τ w => keepWhat_e kg hr w) (Or.inl rfl) h1 h3 hw g1 (takeVane_c hX x1 hd.2.1 P1) (fun f τ e g => ⟨rfl, e, g⟩) (fun a τ e x g v o => ok_some ⟨rfl, x, ⟨fun _ _ _ _ _ => v, fun _ => ?_, fun q => ?_⟩, g⟩)
    · show m_ar τ gb 2 r = nI 19
      rw [o 2 (by decide), (t1 gb h1.symm).2.2.1, m_ar_ar, if_pos ⟨rfl, rfl, rfl⟩]; rfl
    · have q : 18 = 10 ∨ 18 = 17 ∨ 18 = 11 ∨ 18 = 20 ∨ 18 = 16 ∨ (18 = 18 ∧ 19 ≠ 19) := q
      omega
  · rw [if_neg (show ¬ kcI (tW X p) = 19 from fun q => c ((kcI_j hW (b := 19) (by decide)).mp q)), if_neg c, r_rf_e hw.1 k6, ln_5, ln_60, ln_0]
    refine bC (takeKeyword_c hX h (by decide)) (fun f τ e t => ⟨rfl, e, t.gf h1⟩) (fun p2 τ2 e2 x2 t2 => ?_)
    have g2 := T1.gf (r := r) h1 t2
    have w2 := hw.gf h3 g2
    have P2 := hP.bu (g2.1 pl hl.1 hl.2)
    rw [r_rf_e w2.1 k6, r_rf_e w2.2.1 kl]
    refine bK (fun τ w => keepWhat_e kg hr w) (Or.inl rfl) h1 h3 hw g2 (takeVane_c hX x2 hd.2.1 P2) (fun f τ e g => ⟨rfl, e, g⟩) (fun a τ3 e3 x3 g3 v3 o3 => ?_)
    have w3 := hw.gf h3 g3
    rw [r_rf_e w3.1 k6]
    refine bK (fun τ w => keepHow_e kg hr w) (Or.inr (Or.inl rfl)) h1 h3 hw g3 (takeCompare_c hX x3) (fun f τ e g => ⟨rfl, e, g⟩) (fun b τ4 e4 x4 g4 v4 o4 => ?_)
    have w4 := hw.gf h3 g4
    rw [r_rf_e w4.1 k6]
    refine bK (fun τ w => keepMuch_e kg hr w) (Or.inr (Or.inr rfl)) h1 h3 hw g4 (takeNumber_c hX x4 (by decide) (by decide)) (fun f τ e g => ⟨rfl, e, g⟩) (fun d τ5 e5 x5 g5 v5 o5 => ok_some ⟨rfl, x5, ⟨fun _ _ _ _ _ => ?_, fun _ => ?_, fun _ => v5⟩, g5⟩)
    · show m_ar τ5 gb 1 r = _
      rw [o5 1 (by decide), o4 1 (by decide)]; exact v3
    · show m_ar τ5 gb 2 r = _
      rw [o5 2 (by decide)]; exact v4
theorem readNumbers_c (hX : WTx X) (h1 : 1 ≠ gb) (h3 : 3 ≠ gb) (kg : KD gb = 5) (kl : KD pl = 2) (hl : pl ≠ 1 ∧ pl ≠ gb) (hr : r < 60) (hD : WFD D) (hP : PlC σ pl D) (hw : W3 σ pl gb) (h : TxC σ X p) {k : Nat} (hk : isStp k = true) (h18 : k ≠ 18) : ok (fX1_readNumbers 3 (nI k) (nI r) σ) (NQ σ gb r k X (sRw X D k p)) := by
  have hd := hD.1
  have hk := isStp_e.mp hk
  have mn : ∀ lo hi, lo < 10000 → hi < 10000 → (k = 17 ∨ k = 11 ∨ k = 20) → ok (c_I (fX6_takeNumber 1 (nI lo) (nI hi) σ) (fun x τ => if x = 0 then some ((0 : Int32), τ) else c_I (fX1_keepMuch 3 (nI r) τ) (fun y υ => if y = 0 then some ((0 : Int32), υ) else some ((1 : Int32), υ)))) (NQ σ gb r k X (eb (sNu X lo hi p) fun c => .ok ((0, 0, c.1), c.2))) := fun lo hi hlo hhi hkk => bK (fun τ w => keepMuch_e kg hr w) (Or.inr (Or.inr rfl)) h1 h3 hw GF.rf (takeNumber_c hX h hlo hhi) (fun f τ e g => ⟨rfl, e, g⟩) (fun a τ e x g v o => ok_some ⟨rfl, x, ⟨fun _ _ _ _ _ => by omega, fun _ => by omega, fun _ => v⟩, g⟩)
  unfold fX1_readNumbers sRw
  rw [ln_10, ln_11, ln_12, ln_13, ln_14, ln_15, ln_16, ln_17, ln_20, ln_99, show (0 : Int32) = nI 0 from rfl, show (1 : Int32) = nI 1 from rfl]
  have ne : ∀ {n}, k ≠ n → n < 100 → ¬ nI k = nI n := fun hn h9 q => hn ((nI_inj (by omega) (by omega)).mp q)
  by_cases c10 : k = 10
  · rw [if_pos (by rw [c10]), if_pos c10, r_rf_e hw.1 k6, r_rf_e hw.2.1 kl]
    refine bK (fun τ w => keepWhat_e kg hr w) (Or.inl rfl) h1 h3 hw GF.rf (takePlace_c hX h hd.1 hP) (fun f τ e g => ⟨rfl, e, g⟩) (fun a τ3 e3 x3 g3 v3 o3 => ?_)
    have w3 := hw.gf h3 g3
    rw [r_rf_e w3.1 k6]
    refine bK (fun τ w => keepHow_e kg hr w) (Or.inr (Or.inl rfl)) h1 h3 hw g3 (takeNumber_c hX x3 (by decide) (by decide)) (fun f τ e g => ⟨rfl, e, g⟩) (fun b τ4 e4 x4 g4 v4 o4 => ?_)
    have w4 := hw.gf h3 g4
    rw [r_rf_e w4.1 k6]
    refine bK (fun τ w => keepMuch_e kg hr w) (Or.inr (Or.inr rfl)) h1 h3 hw g4 (takeNumber_c hX x4 (by decide) (by decide)) (fun f τ e g => ⟨rfl, e, g⟩) (fun d τ5 e5 x5 g5 v5 o5 => ok_some ⟨rfl, x5, ⟨fun _ _ _ _ _ => ?_, fun _ => ?_, fun _ => v5⟩, g5⟩)
    · show m_ar τ5 gb 1 r = _
      rw [o5 1 (by decide), o4 1 (by decide)]; exact v3
    · show m_ar τ5 gb 2 r = _
      rw [o5 2 (by decide)]; exact v4
  · rw [if_neg (ne c10 (by decide)), if_neg c10]
    by_cases c11 : k = 11
    · rw [if_pos (by rw [c11]), if_neg (by omega), if_pos (Or.inl c11), r_rf_e hw.1 k6]
      exact mn 1 99 (by decide) (by decide) (by omega)
    · rw [if_neg (ne c11 (by decide))]
      have shf : ok (c_I (fX6_takeShaft 1 pl σ) (fun x τ => if x = nI 0 then some (nI 0, τ) else c_I (fX1_keepWhat 3 (nI r) τ) (fun y υ => if y = nI 0 then some (nI 0, υ) else some (nI 1, υ)))) (NQ σ gb r k X (eb (sFd X (d_ns D) (d_s D) p) fun a => .ok ((a.1, 0, 0), a.2))) ∨ ¬ (k = 12 ∨ k = 13) := by
        by_cases cc : k = 12 ∨ k = 13
        · exact Or.inl (bK (fun τ w => keepWhat_e kg hr w) (Or.inl rfl) h1 h3 hw GF.rf (takeShaft_c hX h hd.2.2 hP) (fun f τ e g => ⟨rfl, e, g⟩) (fun a τ e x g v o => ok_some ⟨rfl, x, ⟨fun _ _ _ _ _ => v, fun _ => by omega, fun _ => by omega⟩, g⟩))
        · exact Or.inr cc
      by_cases c12 : k = 12
      · rw [if_pos (by rw [c12]), if_neg (by omega), if_neg (by omega), if_pos (Or.inl c12), r_rf_e hw.1 k6, r_rf_e hw.2.1 kl]
        exact shf.resolve_right (fun q => q (Or.inl c12))
      · rw [if_neg (ne c12 (by decide))]
        by_cases c13 : k = 13
        · rw [if_pos (by rw [c13]), if_neg (by omega), if_neg (by omega), if_pos (Or.inr c13), r_rf_e hw.1 k6, r_rf_e hw.2.1 kl]
          exact shf.resolve_right (fun q => q (Or.inr c13))
        · rw [if_neg (ne c13 (by decide))]
          have van : ok (c_I (fX6_takeVane 1 pl σ) (fun x τ => if x = nI 0 then some (nI 0, τ) else c_I (fX1_keepWhat 3 (nI r) τ) (fun y υ => if y = nI 0 then some (nI 0, υ) else some (nI 1, υ)))) (NQ σ gb r k X (eb (sFd X (d_nv D) (d_v D) p) fun a => .ok ((a.1, 0, 0), a.2))) ∨ ¬ (k = 14 ∨ k = 15) := by
            by_cases cc : k = 14 ∨ k = 15
            · exact Or.inl (bK (fun τ w => keepWhat_e kg hr w) (Or.inl rfl) h1 h3 hw GF.rf (takeVane_c hX h hd.2.1 hP) (fun f τ e g => ⟨rfl, e, g⟩) (fun a τ e x g v o => ok_some ⟨rfl, x, ⟨fun _ _ _ _ _ => v, fun _ => by omega, fun _ => by omega⟩, g⟩))
            · exact Or.inr cc
          by_cases c14 : k = 14
          · rw [if_pos (by rw [c14]), if_neg (by omega), if_neg (by omega), if_neg (by omega), if_pos (Or.inl c14), r_rf_e hw.1 k6, r_rf_e hw.2.1 kl]
            exact van.resolve_right (fun q => q (Or.inl c14))
          · rw [if_neg (ne c14 (by decide))]
            by_cases c15 : k = 15
            · rw [if_pos (by rw [c15]), if_neg (by omega), if_neg (by omega), if_neg (by omega), if_pos (Or.inr c15), r_rf_e hw.1 k6, r_rf_e hw.2.1 kl]
              exact van.resolve_right (fun q => q (Or.inr c15))
            · rw [if_neg (ne c15 (by decide))]
              by_cases c16 : k = 16
              · rw [if_pos (by rw [c16]), if_neg (by omega), if_neg (by omega), if_neg (by omega), if_neg (by omega), if_pos c16, r_rf_e hw.1 k6, r_rf_e hw.2.1 kl]
                refine bK (fun τ w => keepWhat_e kg hr w) (Or.inl rfl) h1 h3 hw GF.rf (takeVane_c hX h hd.2.1 hP) (fun f τ e g => ⟨rfl, e, g⟩) (fun a τ3 e3 x3 g3 v3 o3 => ?_)
                have w3 := hw.gf h3 g3
                rw [r_rf_e w3.1 k6]
                refine bK (fun τ w => keepMuch_e kg hr w) (Or.inr (Or.inr rfl)) h1 h3 hw g3 (takeNumber_c hX x3 (by decide) (by decide)) (fun f τ e g => ⟨rfl, e, g⟩) (fun d τ5 e5 x5 g5 v5 o5 => ok_some ⟨rfl, x5, ⟨fun _ _ _ _ _ => ?_, fun _ => by omega, fun _ => v5⟩, g5⟩)
                show m_ar τ5 gb 1 r = _
                rw [o5 1 (by decide)]; exact v3
              · rw [if_neg (ne c16 (by decide))]
                by_cases c17 : k = 17
                · rw [if_pos (by rw [c17]), if_pos c17, r_rf_e hw.1 k6]
                  exact mn 0 99 (by decide) (by decide) (by omega)
                · rw [if_neg (ne c17 (by decide)), if_neg c17]
                  by_cases c20 : k = 20
                  · rw [if_pos (by rw [c20]), if_pos (Or.inr c20), r_rf_e hw.1 k6]
                    exact mn 1 99 (by decide) (by decide) (by omega)
                  · rw [if_neg (ne c20 (by decide)), if_neg (by omega), if_neg (by omega), if_neg (by omega), if_neg c16, if_neg h18]
                    exact ok_some ⟨rfl, h, ⟨fun _ _ _ _ _ => by omega, fun _ => by omega, fun _ => by omega⟩, GF.rf⟩
theorem RwV.cg {k : Nat} {a : Nat × Nat × Nat} (h : RwV σ gb r k a) (he : ∀ j, j = 1 ∨ j = 2 ∨ j = 3 → m_ar τ gb j r = m_ar σ gb j r) : RwV τ gb r k a := ⟨fun a b c d e => (he 1 (by decide)).trans (h.1 a b c d e), fun a => (he 2 (by decide)).trans (h.2.1 a), fun a => (he 3 (by decide)).trans (h.2.2 a)⟩
theorem RC.gf (h3 : 3 ≠ gb) (h : RC σ gb s) (g : GF gb (o_r s.1) σ τ) : RC τ gb s := by
  obtain ⟨⟨a1, a2⟩, b, c, d⟩ := h
  have g3 := g.1 3 (by decide) h3
  refine ⟨⟨(g.2.1 1).trans a1, (g.2.1 2).trans a2⟩, fun r hr => ?_, (g3.1 4).trans c, fun i hi => by rw [g3.2.2.1]; exact d i hi⟩
  obtain ⟨b1, b2, b3, b4⟩ := b r hr
  have e : ∀ j, m_ar τ gb j r = m_ar σ gb j r := fun j => g.2.2 j r (fun z => by omega)
  exact ⟨by rw [e]; exact b1, b2.cg (fun j _ => e j), fun z => by rw [e]; exact b3 z, fun z => by rw [e]; exact b4 z⟩
theorem OpB.add {k : Nat} {a : Nat × Nat × Nat} (h : OpB s r) : OpB (addO s k a) r := by
  obtain ⟨i, hi, e⟩ := h
  refine ⟨i, ?_, ?_⟩
  · show i < (if opn k = true then s.2.2 + 1 else s.2.2)
    split <;> omega
  · show (if opn k = true then updN s.2.1 s.2.2 (o_r s.1) else s.2.1) i = r
    split
    · rw [updN_n (by omega)]; exact e
    · exact e
theorem RC.rows {k : Nat} {a : Nat × Nat × Nat} (h : RC σ gb s) (hk : k ≠ 21) (hv : RwV σ gb (o_r s.1) k a) (e0 : m_ar τ gb 0 (o_r s.1) = nI k) (eo : ∀ i, i ≠ o_r s.1 → m_ar τ gb 0 i = m_ar σ gb 0 i) (ej : ∀ j, j ≠ 0 → m_ar τ gb j = m_ar σ gb j) : ∀ r, r < o_r (addO s k a).1 → m_ar τ gb 0 r = nI (o_k (addO s k a).1 r) ∧ RwV τ gb r (o_k (addO s k a).1 r) (o_w (addO s k a).1 r, o_h (addO s k a).1 r, o_n (addO s k a).1 r) ∧ (o_k (addO s k a).1 r = 21 → m_ar τ gb 4 r = nI (o_p (addO s k a).1 r)) ∧ ((o_k (addO s k a).1 r = 18 ∨ o_k (addO s k a).1 r = 20) → OpB (addO s k a) r ∨ m_ar τ gb 4 r = nI (o_p (addO s k a).1 r)) := by
  intro r hr
  have hr : r < o_r s.1 + 1 := hr
  show m_ar τ gb 0 r = nI (updN (o_k s.1) (o_r s.1) k r) ∧ RwV τ gb r (updN (o_k s.1) (o_r s.1) k r) (updN (o_w s.1) (o_r s.1) a.1 r, updN (o_h s.1) (o_r s.1) a.2.1 r, updN (o_n s.1) (o_r s.1) a.2.2 r) ∧ (updN (o_k s.1) (o_r s.1) k r = 21 → m_ar τ gb 4 r = nI (o_p s.1 r)) ∧ ((updN (o_k s.1) (o_r s.1) k r = 18 ∨ updN (o_k s.1) (o_r s.1) k r = 20) → OpB (addO s k a) r ∨ m_ar τ gb 4 r = nI (o_p s.1 r))
  by_cases q : r = o_r s.1
  · subst q
    rw [updN_e, updN_e, updN_e, updN_e]
    refine ⟨e0, hv.cg (fun j hj => by rw [ej j (by omega)]), fun z => absurd z hk, fun z => Or.inl ⟨s.2.2, ?_, ?_⟩⟩
    · show s.2.2 < (if opn k = true then s.2.2 + 1 else s.2.2)
      rw [if_pos (opn_e.mpr z)]; omega
    · show (if opn k = true then updN s.2.1 s.2.2 (o_r s.1) else s.2.1) s.2.2 = o_r s.1
      rw [if_pos (opn_e.mpr z), updN_e]
  · obtain ⟨b1, b2, b3, b4⟩ := h.2.1 r (by omega)
    rw [updN_n q, updN_n q, updN_n q, updN_n q, ej 4 (by decide), eo r q]
    exact ⟨b1, b2.cg (fun j hj => by rw [ej j (by omega)]), b3, fun z => (b4 z).imp (fun w => w.add) id⟩
theorem addRow_e (kg : KD gb = 5) (w : W3 τ pl gb) (hr : r < 60) (h2 : m_sc τ gb 2 = nI r) (v : Int32) : fX1_addRow 3 v τ = some (w_sc (w_ar τ gb 0 r v) gb 2 (nI (r + 1))) := by
  unfold fX1_addRow
  have w' : ∀ j i v, m_rf (w_ar τ gb j i v) 3 2 = some gb := fun _ _ _ => w.2.2
  have h' : ∀ j i v, m_sc (w_ar τ gb j i v) gb 2 = nI r := fun _ _ _ => h2
  rw [r_rf_e w.2.2 kg, r_rf_e w.2.2 kg, r_sc_s, h2, s_ar_n hr (by decide), r_rf_e (w' _ _ _) kg, r_sc_s, h', nI_s, p_sc_s]
theorem GF.o3 (h : GF gb r σ τ) (h3 : 3 ≠ gb) : O3 gb σ τ := ⟨fun b b1 _ b3 => h.1 b b1 b3, (h.1 3 (by decide) h3).2.2.2.2⟩
theorem T1.o3 (t : T1 σ τ) : O3 gb σ τ := ⟨fun b b1 _ _ => t b b1, (t 3 (by decide)).2.2.2.2⟩
theorem O3.tr (h : O3 gb σ τ) (g : O3 gb τ ω) : O3 gb σ ω := ⟨fun b b1 b2 b3 => (h.1 b b1 b2 b3).tr (g.1 b b1 b2 b3), fun k => (g.2 k).trans (h.2 k)⟩
theorem O3.sc {k : Nat} {v : Int32} {c : Nat} (hc : c = 3 ∨ c = gb) : O3 gb σ (w_sc σ c k v) := ⟨fun b _ b2 b3 => BU.sc (by omega), fun _ => rfl⟩
theorem O3.ar {j i : Nat} {v : Int32} {c : Nat} (hc : c = 3 ∨ c = gb) : O3 gb σ (w_ar σ c j i v) := ⟨fun b _ b2 b3 => BU.arw (by omega), fun _ => rfl⟩
theorem W3.o3 (w : W3 σ pl gb) (o : O3 gb σ τ) : W3 τ pl gb := ⟨(o.2 0).trans w.1, (o.2 1).trans w.2.1, (o.2 2).trans w.2.2⟩
theorem row148 (hX : WTx X) (h1 : 1 ≠ gb) (h3 : 3 ≠ gb) (kg : KD gb = 5) (hI : IvO D s) (hm : o_m s.1 < 30) {k : Nat} (hk : isStp k = true) (hop : opn k = true → s.2.2 < 3) (hC : RC σ gb s) (hw : W3 σ pl gb) {rr : Option (Int32 × Mm)} {res : RZ R4} (h : ok rr (NQ σ gb (o_r s.1) k X res)) : ok (c_I rr (fun x τ => fX1_readRow_148 3 (nI k) (if opn k = true then 1 else 0) (nI (o_r s.1)) x τ)) (SQ σ gb X (eb res fun a => eb (sSg X a.2) fun q => .ok (addO s k a.1, q))) := by
  obtain ⟨⟨x, τ⟩, rfl, h⟩ := h
  rw [c_I_s]
  unfold fX1_readRow_148
  cases res with
  | error f =>
    obtain ⟨e1, e2, e3⟩ := h
    have e1 : x = 0 := e1
    rw [if_pos e1]
    exact ok_some ⟨rfl, e2, e3.o3 h3⟩
  | ok a =>
    obtain ⟨e1, e2, e3, e4⟩ := h
    have e1 : x = 1 := e1
    have wt := hw.gf h3 e4
    rw [if_neg (by rw [e1]; decide), eb_o, r_rf_e wt.1 k6]
    have hi := hI.1
    have hk' := isStp_e.mp hk
    refine bC (takeSemicolon_c hX e2) (fun f υ e t => ⟨rfl, e, (e4.o3 h3).tr t.o3⟩) (fun q υ eq xq tq => ?_)
    have g2 := e4.tr (T1.gf h1 tq)
    have wu := hw.gf h3 g2
    have hU := hC.gf h3 g2
    have vU : RwV υ gb (o_r s.1) k a.1 := e3.cg (fun j _ => by show m_ar υ gb j _ = m_ar τ gb j _; rw [(tq gb h1.symm).2.2.1])
    rw [addRow_e kg wu (by omega) hU.1.2 (nI k), c_V_s]
    obtain ⟨μ, hμ⟩ : ∃ μ, μ = w_sc (w_ar υ gb 0 (o_r s.1) (nI k)) gb 2 (nI (o_r s.1 + 1)) := ⟨_, rfl⟩
    have om : O3 gb υ μ := by rw [hμ]; exact (O3.ar (Or.inr rfl)).tr (O3.sc (Or.inr rfl))
    have m1 : m_sc μ gb 1 = nI (o_m s.1) := by rw [hμ, m_sc_sc, if_neg (by omega)]; exact hU.1.1
    have wm := wu.o3 om
    rw [← hμ, r_rf_e wm.2.2 kg, r_sc_s, m1, nI_s, p_sc_s]
    have xm : TxC (w_sc μ gb 1 (nI (o_m s.1 + 1))) X q := by
      rw [hμ]; exact ((xq.o (BU.arw h1)).o (BU.sc h1)).o (BU.sc h1)
    have on : O3 gb σ (w_sc μ gb 1 (nI (o_m s.1 + 1))) := ((g2.o3 h3).tr om).tr (O3.sc (Or.inr rfl))
    have r0 : m_ar μ gb 0 (o_r s.1) = nI k := by rw [hμ]; show m_ar (w_ar υ gb 0 (o_r s.1) (nI k)) gb 0 (o_r s.1) = _; rw [m_ar_ar, if_pos ⟨rfl, rfl, rfl⟩]
    have r1 : ∀ i, i ≠ o_r s.1 → m_ar μ gb 0 i = m_ar υ gb 0 i := fun i hi => by rw [hμ]; show m_ar (w_ar υ gb 0 (o_r s.1) (nI k)) gb 0 i = _; rw [m_ar_ar, if_neg (fun z => hi z.2.2)]
    have r2 : ∀ j, j ≠ 0 → m_ar μ gb j = m_ar υ gb j := fun j hj => by rw [hμ]; funext i; show m_ar (w_ar υ gb 0 (o_r s.1) (nI k)) gb j i = _; rw [m_ar_ar, if_neg (fun z => hj z.2.1)]
    have n1 : m_sc (w_sc μ gb 1 (nI (o_m s.1 + 1))) gb 1 = nI (o_m s.1 + 1) := by rw [m_sc_sc, if_pos ⟨rfl, rfl⟩]
    have n2 : m_sc (w_sc μ gb 1 (nI (o_m s.1 + 1))) gb 2 = nI (o_r s.1 + 1) := by rw [m_sc_sc, if_neg (by omega), hμ, m_sc_sc, if_pos ⟨rfl, rfl⟩]
    have n3 : m_sc (w_sc μ gb 1 (nI (o_m s.1 + 1))) 3 4 = nI s.2.2 := by rw [m_sc_sc, if_neg (by omega), hμ, m_sc_sc, if_neg (by omega)]; exact hU.2.2.1
    have n4 : ∀ i, i < s.2.2 → m_ar μ 3 0 i = nI (s.2.1 i) := fun i hi => by rw [hμ]; show m_ar (w_ar υ gb 0 (o_r s.1) (nI k)) 3 0 i = _; rw [m_ar_ar, if_neg (by omega)]; exact hU.2.2.2 i hi
    by_cases c : opn k = true
    · have h2 := hop c
      rw [if_pos c, if_neg (by decide), r_sc_s, n3, s_ar_n (by omega) (by decide), r_sc_s, show m_sc (w_ar (w_sc μ gb 1 (nI (o_m s.1 + 1))) 3 0 s.2.2 (nI (o_r s.1))) 3 4 = nI s.2.2 from n3, nI_s, p_sc_s]
      refine ok_some ⟨rfl, (xm.o (BU.arw (by decide))).o (BU.sc (by decide)), ⟨⟨?_, ?_⟩, RC.rows hU (by omega) vU ?_ (fun i hi => ?_) (fun j hj => ?_), ?_, fun i hi => ?_⟩, (on.tr (O3.ar (Or.inl rfl))).tr (O3.sc (Or.inl rfl))⟩
      · rw [m_sc_sc, if_neg (by omega)]; exact n1
      · rw [m_sc_sc, if_neg (by omega)]; exact n2
      · show m_ar (w_ar (w_sc μ gb 1 (nI (o_m s.1 + 1))) 3 0 s.2.2 (nI (o_r s.1))) gb 0 (o_r s.1) = nI k
        rw [m_ar_ar, if_neg (by omega)]; exact r0
      · show m_ar (w_ar (w_sc μ gb 1 (nI (o_m s.1 + 1))) 3 0 s.2.2 (nI (o_r s.1))) gb 0 i = _
        rw [m_ar_ar, if_neg (by omega)]; exact r1 i hi
      · funext i
        show m_ar (w_ar (w_sc μ gb 1 (nI (o_m s.1 + 1))) 3 0 s.2.2 (nI (o_r s.1))) gb j i = _
        rw [m_ar_ar, if_neg (by omega), ← r2 j hj]; rfl
      · rw [m_sc_sc, if_pos ⟨rfl, rfl⟩]
        show nI (s.2.2 + 1) = nI (if opn k = true then s.2.2 + 1 else s.2.2)
        rw [if_pos c]
      · have hi : i < (if opn k = true then s.2.2 + 1 else s.2.2) := hi
        rw [if_pos c] at hi
        show m_ar (w_ar (w_sc μ gb 1 (nI (o_m s.1 + 1))) 3 0 s.2.2 (nI (o_r s.1))) 3 0 i = nI ((if opn k = true then updN s.2.1 s.2.2 (o_r s.1) else s.2.1) i)
        rw [if_pos c, m_ar_ar]
        by_cases v : i = s.2.2
        · rw [if_pos ⟨rfl, rfl, v⟩, v, updN_e]
        · rw [if_neg (fun z => v z.2.2), updN_n v]; exact n4 i (by omega)
    · rw [if_neg c, if_pos rfl]
      refine ok_some ⟨rfl, xm, ⟨⟨n1, n2⟩, RC.rows hU (by omega) vU r0 r1 r2, ?_, fun i hi => ?_⟩, on⟩
      · rw [n3]
        show nI s.2.2 = nI (if opn k = true then s.2.2 + 1 else s.2.2)
        rw [if_neg c]
      · have hi : i < (if opn k = true then s.2.2 + 1 else s.2.2) := hi
        rw [if_neg c] at hi
        show m_ar μ 3 0 i = nI ((if opn k = true then updN s.2.1 s.2.2 (o_r s.1) else s.2.1) i)
        rw [if_neg c]; exact n4 i hi
theorem readEnd_c (hX : WTx X) (h1 : 1 ≠ gb) (h3 : 3 ≠ gb) (kg : KD gb = 5) (hI : IvO D s) (h0 : 0 < s.2.2) (hC : RC σ gb s) (hw : W3 σ pl gb) (h : TxC σ X p) : ok (fX1_readEnd 3 σ) (SQ σ gb X (eb (sSg X (tE X p)) fun q => .ok (clsO s, q))) := by
  unfold fX1_readEnd
  have hi := hI.1
  obtain ⟨cb1, cb2⟩ := hI.2.2.1 (s.2.2 - 1) (by omega)
  obtain ⟨τ1, a1, x1, -, t1⟩ := adv_c hX h
  have g1 : GF gb (o_r s.1) σ τ1 := T1.gf h1 t1
  have w1 := hw.gf h3 g1
  rw [r_rf_e hw.1 k6, a1, c_V_s, r_rf_e w1.1 k6]
  refine bC (takeSemicolon_c hX x1) (fun f υ e t => ⟨rfl, e, (g1.o3 h3).tr t.o3⟩) (fun q υ eq xq tq => ?_)
  have g2 := g1.tr (T1.gf h1 tq)
  have wu := hw.gf h3 g2
  have hU := hC.gf h3 g2
  have u4 : m_sc (w_sc υ 3 4 (nI (s.2.2 - 1))) 3 4 = nI (s.2.2 - 1) := by rw [m_sc_sc, if_pos ⟨rfl, rfl⟩]
  have ub : m_ar (w_sc υ 3 4 (nI (s.2.2 - 1))) 3 0 (s.2.2 - 1) = nI (s.2.1 (s.2.2 - 1)) := hU.2.2.2 _ (by omega)
  have u2 : m_sc (w_sc υ 3 4 (nI (s.2.2 - 1))) gb 2 = nI (o_r s.1) := by rw [m_sc_sc, if_neg (by omega)]; exact hU.1.2
  have wv : W3 (w_sc υ 3 4 (nI (s.2.2 - 1))) pl gb := wu
  have wv1 : ∀ j i v, W3 (w_ar (w_sc υ 3 4 (nI (s.2.2 - 1))) gb j i v) pl gb := fun _ _ _ => wu
  have wv2 : ∀ j i v j' i' v', W3 (w_ar (w_ar (w_sc υ 3 4 (nI (s.2.2 - 1))) gb j i v) gb j' i' v') pl gb := fun _ _ _ _ _ _ => wu
  have u2' : ∀ j i v, m_sc (w_ar (w_sc υ 3 4 (nI (s.2.2 - 1))) gb j i v) gb 2 = nI (o_r s.1) := fun _ _ _ => u2
  have u2'' : ∀ j i v j' i' v', m_sc (w_ar (w_ar (w_sc υ 3 4 (nI (s.2.2 - 1))) gb j i v) gb j' i' v') gb 2 = nI (o_r s.1) := fun _ _ _ _ _ _ => u2
  rw [r_sc_s, hU.2.2.1, nI_p (by omega), p_sc_s, r_sc_s, u4, g_ar_n (by omega) (by decide), ub, r_rf_e wv.2.2 kg, r_rf_e wv.2.2 kg, r_sc_s, u2, s_ar_n (by omega) (by decide), r_rf_e (wv1 _ _ _).2.2 kg, r_rf_e (wv1 _ _ _).2.2 kg, r_sc_s, u2', s_ar_n (by omega) (by decide), addRow_e kg (wv2 _ _ _ _ _ _) (by omega) (u2'' _ _ _ _ _ _) 21, c_V_s]
  generalize hbb : s.2.1 (s.2.2 - 1) = bb at *
  have eA : ∀ j i, m_ar (w_sc (w_ar (w_ar (w_ar (w_sc υ 3 4 (nI (s.2.2 - 1))) gb 4 bb (nI (o_r s.1))) gb 4 (o_r s.1) (nI bb)) gb 0 (o_r s.1) 21) gb 2 (nI (o_r s.1 + 1))) gb j i = if j = 0 ∧ i = o_r s.1 then 21 else if j = 4 ∧ i = o_r s.1 then nI bb else if j = 4 ∧ i = bb then nI (o_r s.1) else m_ar υ gb j i := fun j i => by
    show m_ar (w_ar (w_ar (w_ar (w_sc υ 3 4 (nI (s.2.2 - 1))) gb 4 bb (nI (o_r s.1))) gb 4 (o_r s.1) (nI bb)) gb 0 (o_r s.1) 21) gb j i = _
    rw [m_ar_ar, m_ar_ar, m_ar_ar]
    simp only [true_and]
    rfl
  have e4 : ∀ r, m_ar (w_sc (w_ar (w_ar (w_ar (w_sc υ 3 4 (nI (s.2.2 - 1))) gb 4 bb (nI (o_r s.1))) gb 4 (o_r s.1) (nI bb)) gb 0 (o_r s.1) 21) gb 2 (nI (o_r s.1 + 1))) gb 4 r = if r = o_r s.1 then nI bb else if r = bb then nI (o_r s.1) else m_ar υ gb 4 r := fun r => by rw [eA]; simp
  refine ok_some ⟨rfl, ?_, ⟨⟨?_, ?_⟩, fun r hr => ?_, ?_, fun i hi => ?_⟩, ?_⟩
  · exact ((((xq.o (BU.sc (by decide))).o (BU.arw h1)).o (BU.arw h1)).o (BU.arw h1)).o (BU.sc h1)
  · rw [m_sc_sc, if_neg (by omega)]
    show m_sc (w_sc υ 3 4 (nI (s.2.2 - 1))) gb 1 = _
    rw [m_sc_sc, if_neg (by omega)]; exact hU.1.1
  · rw [m_sc_sc, if_pos ⟨rfl, rfl⟩]; rfl
  · have hr : r < o_r s.1 + 1 := hr
    show m_ar _ gb 0 r = nI (updN (o_k s.1) (o_r s.1) 21 r) ∧ RwV _ gb r (updN (o_k s.1) (o_r s.1) 21 r) (o_w s.1 r, o_h s.1 r, o_n s.1 r) ∧ (updN (o_k s.1) (o_r s.1) 21 r = 21 → m_ar _ gb 4 r = nI (updN (updN (o_p s.1) (s.2.1 (s.2.2 - 1)) (o_r s.1)) (o_r s.1) (s.2.1 (s.2.2 - 1)) r)) ∧ ((updN (o_k s.1) (o_r s.1) 21 r = 18 ∨ updN (o_k s.1) (o_r s.1) 21 r = 20) → OpB (clsO s) r ∨ m_ar _ gb 4 r = nI (updN (updN (o_p s.1) (s.2.1 (s.2.2 - 1)) (o_r s.1)) (o_r s.1) (s.2.1 (s.2.2 - 1)) r))
    rw [hbb, e4]
    by_cases v : r = o_r s.1
    · subst v
      rw [updN_e, updN_e, eA, if_pos ⟨rfl, rfl⟩, if_pos rfl]
      exact ⟨rfl, ⟨fun _ _ _ z _ => absurd rfl z, fun z => by omega, fun z => by omega⟩, fun _ => rfl, fun z => by omega⟩
    · obtain ⟨b1, b2, b3, b4⟩ := hU.2.1 r (by omega)
      rw [updN_n v, updN_n v, eA, if_neg (fun z => v z.2), if_neg (by omega), if_neg (by omega), if_neg v]
      refine ⟨b1, b2.cg (fun j hj => by rw [eA, if_neg (by omega), if_neg (by omega), if_neg (by omega)]), fun z => ?_, fun z => ?_⟩
      · have vb : r ≠ bb := fun w => by rw [w] at z; omega
        rw [if_neg vb, updN_n vb]; exact b3 z
      · by_cases vb : r = bb
        · rw [if_pos vb, vb, updN_e]; exact Or.inr rfl
        · rw [if_neg vb, updN_n vb]
          rcases b4 z with ⟨i, hi, e⟩ | w
          · refine Or.inl ⟨i, ?_, e⟩
            show i < s.2.2 - 1
            have : i ≠ s.2.2 - 1 := fun w => by rw [w, hbb] at e; exact vb e.symm
            omega
          · exact Or.inr w
  · rw [m_sc_sc, if_neg (by omega)]
    exact u4
  · have hi : i < s.2.2 - 1 := hi
    show m_ar (w_ar (w_ar (w_ar (w_sc υ 3 4 (nI (s.2.2 - 1))) gb 4 bb (nI (o_r s.1))) gb 4 (o_r s.1) (nI bb)) gb 0 (o_r s.1) 21) 3 0 i = nI (s.2.1 i)
    rw [m_ar_ar, if_neg (by omega), m_ar_ar, if_neg (by omega), m_ar_ar, if_neg (by omega)]
    exact hU.2.2.2 i (by omega)
  · exact ((((((g2.o3 h3).tr (O3.sc (Or.inl rfl))).tr (O3.ar (Or.inr rfl))).tr (O3.ar (Or.inr rfl))).tr (O3.ar (Or.inr rfl))).tr (O3.sc (Or.inr rfl)))
end O
