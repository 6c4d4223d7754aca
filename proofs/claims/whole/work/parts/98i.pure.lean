/-! PURE 47: village, of the class -/
def txG (G : GS) (n : Nat) : TX := (n, fun k => ((g_x G).2 k &&& 255).toNatClampNeg)
def Vz (S : Nat → Nat) : SD := ((fun _ => 0, fun _ => 0), (S, fun _ => 0, fun _ => 0), fun _ => 0, (0, 0), 0)
def Oz : OD := ((false, 0, 0), fun _ => 0, fun _ => 0, fun _ => 0, fun _ => 0, fun _ => 0)
def ftG (f : Nat × Nat) (G : GS) : Int32 × GS := (-1, suG (9, g_t G, g_b G) (nI f.1, nI f.2) (0, (g_x G).2) (g_w G) (g_m G) (g_k G) G)
def spVl (a : Int32) (G : GS) : Int32 × GS := if a < 0 ∨ nI (g_x G).1 < a then (-1, stq 1 G) else match spVi (txG G a.toNatClampNeg) 23 Dz Sz 0 with
  | .error f => ftG f G
  | .ok r => (nI (d_v r.1), suG (0, g_t G, g_b G) (0, -1) (0, (g_x G).2) (r.1, Vz r.2, Oz) (g_m G) (g_k G) G)
section O
variable {σ τ : Mm} {X : TX} {p pb : Nat} {D : PD} {S : Nat → Nat} {G : GS}
theorem tx_w (hW : WFG G) {n : Nat} (hn : n ≤ (g_x G).1) : WTx (txG G n) ∧ ∀ k, k < n → bt ((txG G n).2 k) = (g_x G).2 k := by
  have hx := hW.2.1
  have key : ∀ k, k < n → ∃ b, b < 256 ∧ (g_x G).2 k = bt b ∧ (txG G n).2 k = b := fun k hk => by
    obtain ⟨b, h1, h2⟩ := hx.2 k (by omega)
    refine ⟨b, h1, h2, ?_⟩
    show ((g_x G).2 k &&& 255).toNatClampNeg = b
    rw [h2, bt_and h1, nI_cl (by omega)]
  refine ⟨⟨by have := hx.1; show n ≤ 900; omega, fun k hk => ?_⟩, fun k hk => ?_⟩
  · obtain ⟨b, h1, -, h3⟩ := key k hk
    rw [h3]; exact h1
  · obtain ⟨b, h1, h2, h3⟩ := key k hk
    rw [h3, h2]
theorem open_c (hW : WFG G) (h : RepC σ G) {n : Nat} (hn : n ≤ (g_x G).1) : ∃ τ, fX6_open 1 (nI n) σ = some τ ∧ TxC τ (txG G n) 0 ∧ T1 σ τ := by
  obtain ⟨hX, hb⟩ := tx_w hW hn
  have hL := hX.1
  have h9 := hW.2.1.1
  unfold fX6_open
  rw [ln_900, if_neg (fun q => absurd ((nI_ltn (by omega) (by omega)).mp q) (by omega)), p_sc_s, p_sc_s, p_sc_s, p_sc_s]
  have hT : T1 σ (w_sc (w_sc (w_sc (w_sc σ 1 2 (nI n)) 1 4 0) 1 11 0) 1 12 (-1)) := ((T1.sc.tr T1.sc).tr T1.sc).tr T1.sc
  have q1 : TXB (w_sc (w_sc (w_sc (w_sc σ 1 2 (nI n)) 1 4 0) 1 11 0) 1 12 (-1)) (txG G n) := by
    refine ⟨?_, fun k hk => ?_⟩
    · rw [m_sc_sc, if_neg (by omega), m_sc_sc, if_neg (by omega), m_sc_sc, if_neg (by omega), m_sc_sc, if_pos ⟨rfl, rfl⟩]; rfl
    · have hk : k < n := hk
      rw [hb k hk]; exact h.2.2.1.2 k (by omega)
  have q2 : m_sc (w_sc (w_sc (w_sc (w_sc σ 1 2 (nI n)) 1 4 0) 1 11 0) 1 12 (-1)) 1 4 = nI 0 := by rw [m_sc_sc, if_neg (by omega), m_sc_sc, if_neg (by omega), m_sc_sc, if_pos ⟨rfl, rfl⟩]; rfl
  have q3 : m_sc (w_sc (w_sc (w_sc (w_sc σ 1 2 (nI n)) 1 4 0) 1 11 0) 1 12 (-1)) 1 11 = 0 := by rw [m_sc_sc, if_neg (by omega), m_sc_sc, if_pos ⟨rfl, rfl⟩]
  have q4 : m_sc (w_sc (w_sc (w_sc (w_sc σ 1 2 (nI n)) 1 4 0) 1 11 0) 1 12 (-1)) 1 12 = -1 := by rw [m_sc_sc, if_pos ⟨rfl, rfl⟩]
  obtain ⟨τ, e1, e2, -, e4⟩ := advance_c hX (Nat.zero_le _) q1 q2 ⟨q3, q4⟩
  rw [e1, c_V_s]
  exact ⟨τ, rfl, e2, hT.tr e4⟩
theorem bg60 {s : Nat} : ∀ n i (σ : Mm), i ≤ 10 → 10 - i < n → (∀ q, q < i → m_ar σ s 5 q = 0) → ∃ τ, fX4_begin_60 s pb n (nI i) σ = some τ ∧ (∀ q, q < 10 → m_ar τ s 5 q = 0) ∧ (∀ j, j ≠ 5 → m_ar τ s j = m_ar σ s j) ∧ (m_sc τ s 6 = 0 ∧ m_sc τ s 7 = 0 ∧ m_sc τ s 8 = 0) ∧ ∀ q, q ≠ s → BU q σ τ := by
  intro n
  induction n with
  | zero => intro i σ _ h; omega
  | succ n ih =>
    intro i σ hi hn h
    rw [fX4_begin_60, ln_10, ifle_n (by decide) (by omega)]
    by_cases c : 10 ≤ i
    · rw [if_pos c]
      unfold fX4_begin_79
      rw [p_sc_s, p_sc_s, p_sc_s]
      refine ⟨_, rfl, fun q hq => h q (by omega), fun j _ => rfl, ⟨?_, ?_, ?_⟩, fun q hq => ((BU.sc hq).tr (BU.sc hq)).tr (BU.sc hq)⟩
      · rw [m_sc_sc, if_neg (by omega), m_sc_sc, if_neg (by omega), m_sc_sc, if_pos ⟨rfl, rfl⟩]
      · rw [m_sc_sc, if_neg (by omega), m_sc_sc, if_pos ⟨rfl, rfl⟩]
      · rw [m_sc_sc, if_pos ⟨rfl, rfl⟩]
    · rw [if_neg c, s_ar_n (by omega) (by decide), nI_s]
      obtain ⟨τ, e, r1, r2, r3, r4⟩ := ih (i + 1) (w_ar σ s 5 i 0) (by omega) (by omega) (fun q hq => by
        rw [m_ar_ar]
        by_cases e : q = i
        · rw [if_pos ⟨rfl, rfl, e⟩]
        · rw [if_neg (by omega)]; exact h q (by omega))
      refine ⟨τ, e, r1, fun j hj => ?_, r3, fun q hq => (BU.arw hq).tr (r4 q hq)⟩
      rw [r2 j hj]; funext k; rw [m_ar_ar, if_neg (by omega)]
theorem bg8 {s : Nat} (hs : s ≠ pb) (hv : d_v D ≤ 8) : ∀ n i (σ : Mm), PlS σ pb D S → i ≤ 8 → 8 - i < n → (∀ q, q < i → (q < d_v D → m_ar σ s 2 q = nI (S q)) ∧ m_ar σ s 3 q = 0 ∧ m_ar σ s 4 q = 0) → ∃ τ, fX4_begin_8 s pb n (nI i) σ = some τ ∧ (∀ q, q < 8 → (q < d_v D → m_ar τ s 2 q = nI (S q)) ∧ m_ar τ s 3 q = 0 ∧ m_ar τ s 4 q = 0) ∧ (∀ q, q < 10 → m_ar τ s 5 q = 0) ∧ (∀ j, j ≤ 1 → m_ar τ s j = m_ar σ s j) ∧ (m_sc τ s 6 = 0 ∧ m_sc τ s 7 = 0 ∧ m_sc τ s 8 = 0) ∧ ∀ q, q ≠ s → BU q σ τ := by
  intro n
  induction n with
  | zero => intro i σ _ _ h; omega
  | succ n ih =>
    intro i σ hP hi hn h
    rw [fX4_begin_8, ln_8, ifle_n (by decide) (by omega)]
    by_cases c : 8 ≤ i
    · rw [if_pos c]
      obtain ⟨τ, e, r1, r2, r3, r4⟩ := bg60 (s := s) (pb := pb) FU 0 σ (by decide) (FU_gt (by decide)) (fun q hq => absurd hq (Nat.not_lt_zero _))
      refine ⟨τ, e, fun q hq => ?_, r1, fun j hj => r2 j (by omega), r3, r4⟩
      rw [r2 2 (by decide), r2 3 (by decide), r2 4 (by decide)]; exact h q (by omega)
    · have step : ∀ x, (i < d_v D → x = nI (S i)) → ∃ τ, fX4_begin_8 s pb n (nI i + 1) (w_ar (w_ar (w_ar σ s 2 i x) s 3 i 0) s 4 i 0) = some τ ∧ (∀ q, q < 8 → (q < d_v D → m_ar τ s 2 q = nI (S q)) ∧ m_ar τ s 3 q = 0 ∧ m_ar τ s 4 q = 0) ∧ (∀ q, q < 10 → m_ar τ s 5 q = 0) ∧ (∀ j, j ≤ 1 → m_ar τ s j = m_ar σ s j) ∧ (m_sc τ s 6 = 0 ∧ m_sc τ s 7 = 0 ∧ m_sc τ s 8 = 0) ∧ ∀ q, q ≠ s → BU q σ τ := by
        intro x hx
        rw [nI_s]
        obtain ⟨τ, e, r1, r2, r3, r4, r5⟩ := ih (i + 1) (w_ar (w_ar (w_ar σ s 2 i x) s 3 i 0) s 4 i 0) (((hP.bu (BU.arw hs.symm)).bu (BU.arw hs.symm)).bu (BU.arw hs.symm)) (by omega) (by omega) (fun q hq => by
          by_cases e : q = i
          · subst e
            refine ⟨fun hq => ?_, ?_, ?_⟩
            · rw [m_ar_ar, if_neg (by omega), m_ar_ar, if_neg (by omega), m_ar_ar, if_pos ⟨rfl, rfl, rfl⟩]; exact hx hq
            · rw [m_ar_ar, if_neg (by omega), m_ar_ar, if_pos ⟨rfl, rfl, rfl⟩]
            · rw [m_ar_ar, if_pos ⟨rfl, rfl, rfl⟩]
          · have := h q (by omega)
            refine ⟨fun hq => ?_, ?_, ?_⟩ <;> rw [m_ar_ar, if_neg (by omega), m_ar_ar, if_neg (by omega), m_ar_ar, if_neg (by omega)]
            · exact this.1 hq
            · exact this.2.1
            · exact this.2.2)
        refine ⟨τ, e, r1, r2, fun j hj => ?_, r4, fun q hq => (((BU.arw hq).tr (BU.arw hq)).tr (BU.arw hq)).tr (r5 q hq)⟩
        rw [r3 j hj]; funext k; rw [m_ar_ar, if_neg (by omega), m_ar_ar, if_neg (by omega), m_ar_ar, if_neg (by omega)]
      rw [if_neg c, r_sc_s, hP.1.1.2.1, ifle_n (by omega) (by omega)]
      by_cases c2 : d_v D ≤ i
      · rw [if_pos c2, s_ar_n (by omega) (by decide), s_ar_n (by omega) (by decide), s_ar_n (by omega) (by decide)]
        exact step 0 (fun q => by omega)
      · rw [if_neg c2, g_ar_n (by omega) (by decide), hP.2 i (by omega), s_ar_n (by omega) (by decide), s_ar_n (by omega) (by decide), s_ar_n (by omega) (by decide)]
        exact step _ (fun _ => rfl)
theorem begin_c (hs : 6 ≠ pb) (hD : WFD D) (hP : PlS σ pb D S) : ∃ τ, fX4_begin 6 pb σ = some τ ∧ StC τ 6 D (Vz S) ∧ ∀ q, q ≠ 6 → BU q σ τ := by
  have hd := hD.1
  unfold fX4_begin fX4_blowEverywhere
  obtain ⟨ω, e1, r1, r2, r3, r4⟩ := be_l (s := 6) (d := 0) (g := 0) rfl FU 0 σ (by decide) (FU_gt (by decide)) (fun q hq => absurd hq (Nat.not_lt_zero _))
  rw [show fX4_blowEverywhere_2 6 (0 : Int32) (0 : Int32) FU (0 : Int32) σ = some ω from e1, c_V_s]
  obtain ⟨τ, f1, g1, g2, g3, g4, g5⟩ := bg8 (s := 6) (pb := pb) (D := D) (S := S) hs hd.2.1 FU 0 ω (hP.bu (r4 pb hs.symm)) (by decide) (FU_gt (by decide)) (fun q hq => absurd hq (Nat.not_lt_zero _))
  refine ⟨τ, f1, ⟨fun q hq => ?_, fun v hv => ?_, fun k hk => ?_, g4⟩, fun q hq => (r4 q hq).tr (g5 q hq)⟩
  · rw [g3 0 (by decide), g3 1 (by decide)]; exact r1 q hq
  · have := g1 v (by omega)
    exact ⟨this.1 hv, this.2⟩
  · exact g2 k (by omega)
/-- the end of a text: it is closed, and what was read is kept or not -/
theorem closeText_c (σ : Mm) : fX11_closeText 0 σ = some (w_sc (w_sc (w_sc σ 1 1 0) 0 7 (m_sc σ 1 11)) 0 8 (m_sc σ 1 12)) := by
  unfold fX11_closeText
  rw [tg_0_4, p_sc_s, r_sc_s, p_sc_s, r_sc_s, p_sc_s]; rfl
theorem flt_c {f : Nat × Nat} (hW : WFG G) (h : RepC σ G) {m n : Nat} (ho : ∀ b, b ≠ 1 → b ≠ m → b ≠ n → BU b σ τ) (hm : m = 2 ∨ m = 3) (hn : (n ≠ 0 ∧ n < 13 ∧ n ≠ 4 ∧ n ≠ 6) ∧ m_rf σ 4 0 ≠ some n ∧ m_rf σ 4 2 ≠ some n) (e : ErC τ f) : RepC (w_sc (w_sc (w_sc (w_sc τ 1 1 0) 0 7 (m_sc τ 1 11)) 0 8 (m_sc τ 1 12)) 0 0 9) (ftG f G).2 := by
  have h3 := hW.2.2.2.1
  obtain ⟨p, g, ⟨w1, w2, w3, w4, w5⟩, t⟩ := h.2.2.2.1
  have hp : p = 5 ∨ p = 8 := by rcases w3 with ⟨e, -⟩ | ⟨e, -⟩ <;> simp [e]
  have hg : g = 7 ∨ g = 9 := by rcases w4 with ⟨e, -⟩ | ⟨e, -⟩ <;> simp [e]
  have hpn : p ≠ n := fun e => hn.2.1 (by rw [w1, e])
  have hgn : g ≠ n := fun e => hn.2.2 (by rw [w2, e])
  have hB : ∀ q, q ≠ 0 → q ≠ 1 → q ≠ m → q ≠ n → BU q σ (w_sc (w_sc (w_sc (w_sc τ 1 1 0) 0 7 (m_sc τ 1 11)) 0 8 (m_sc τ 1 12)) 0 0 9) := fun q q0 q1 q2 q3 => BU.scs q0 (BU.scs q0 (BU.scs q0 (BU.scs q1 (ho q q1 q2 q3))))
  have b0 := ho 0 (by decide) (by omega) (by omega)
  refine RepC.gen (σ := σ) _ _ _ _ _ _ (fun q hq => hB q (by omega) (by omega) (by omega) (by omega)) ⟨rfl, (b0.2.1 1).trans h.1.2.1, (b0.2.1 2).trans h.1.2.2.1, e.1, e.2⟩ ((b0.1 13).trans h.2.2.2.2.1.1) ⟨rfl, fun k hk => absurd hk (Nat.not_lt_zero _)⟩ ⟨p, g, ⟨?_, ?_, ?_, ?_, fun i hi => ?_⟩, ?_, ?_, ?_⟩ (fun i hi => ?_) h
  · rw [(hB 4 (by omega) (by omega) (by omega) (by omega)).2.2.2.2]; exact w1
  · rw [(hB 4 (by omega) (by omega) (by omega) (by omega)).2.2.2.2]; exact w2
  · show (p = 5 ∧ m_rf τ 0 10 = some 8) ∨ (p = 8 ∧ m_rf τ 0 10 = some 5)
    rw [b0.2.2.2.2]; exact w3
  · show (g = 7 ∧ m_rf τ 0 11 = some 9) ∨ (g = 9 ∧ m_rf τ 0 11 = some 7)
    rw [b0.2.2.2.2]; exact w4
  · rw [(hB (19 + i) (by omega) (by omega) (by omega) (by omega)).2.2.2.2, (hB (19 + i) (by omega) (by omega) (by omega) (by omega)).2.2.2.2]; exact w5 i hi
  · exact t.1.bu (hB p (by omega) (by omega) (by omega) hpn)
  · exact t.2.1.bu (hB 6 (by omega) (by omega) (by omega) (by omega))
  · exact t.2.2.bu (hB g (by omega) (by omega) (by omega) hgn)
  · have hk := h.2.2.2.2.1.2 i hi
    exact ⟨hk.1.bu (hB _ (by omega) (by omega) (by omega) (by omega)), hk.2.1.bu (hB _ (by omega) (by omega) (by omega) (by omega)), hk.2.2.bu (hB _ (by omega) (by omega) (by omega) (by omega))⟩
theorem spVi_w {X : TX} : ∀ (m : Nat) (D : PD) (S : Nat → Nat) (p : Nat) (r : PD × (Nat → Nat)), WFs D S → spVi X m D S p = .ok r → WFs r.1 r.2 := by
  intro m
  induction m with
  | zero => intro D S p r _ e; cases e
  | succ m ih =>
    intro D S p r hW e
    rw [spVi] at e
    split at e
    · injection e with e; rw [← e]; exact hW
    · obtain ⟨a, e1, e2⟩ := eb_ok e
      exact ih _ _ _ _ (spPt_w hW e1).1 e2
theorem village_c (a : Int32) (hW : WFG G) (h : RepC σ G) : OC (fX11_village 0 a σ) (spVl a G) := by
  have h9 := hW.2.1.1
  have hm3 := hW.2.2.2.1
  unfold fX11_village spVl
  rw [tg_0_4, r_sc_s, h.2.2.1.1, tg_0_5, tg_0_9, tg_4_1]
  rcases i_cases a with ha | ⟨n, hn, rfl⟩
  · rw [if_pos ha, if_pos (Or.inl ha)]; exact OC.non hW h _
  · rw [if_neg (nI_neg0 hn)]
    by_cases c : (g_x G).1 < n
    · rw [if_neg (fun q => absurd ((nI_len (by omega) (by omega)).mp q) (by omega)), if_pos (Or.inr ((nI_ltn (by omega) (by omega)).mpr c))]
      exact OC.non hW h _
    · rw [if_pos ((nI_len (by omega) (by omega)).mpr (by omega)), if_neg (fun q => q.elim (nI_neg0 hn) (fun q => c ((nI_ltn (by omega) (by omega)).mp q))), nI_cl hn]
      obtain ⟨τ1, e1, x1, t1⟩ := open_c hW h (n := n) (by omega)
      have hX := (tx_w hW (n := n) (by omega)).1
      obtain ⟨p, g, ⟨w1, w2, w3, w4, w5⟩, t⟩ := h.2.2.2.1
      obtain ⟨pb, hpb, hpp, hrf⟩ : ∃ pb, (pb = 5 ∨ pb = 8) ∧ (p = 5 ∨ p = 8) ∧ m_rf σ 0 10 = some pb ∧ p ≠ pb := by
        rcases w3 with ⟨e, q⟩ | ⟨e, q⟩
        · exact ⟨8, Or.inr rfl, Or.inl e, q, by omega⟩
        · exact ⟨5, Or.inl rfl, Or.inr e, q, by omega⟩
      have kpb : KD pb = 2 := by rcases hpb with rfl | rfl <;> rfl
      have kp : KD p = 2 := by rcases hpp with rfl | rfl <;> rfl
      have hg : g = 7 ∨ g = 9 := by rcases w4 with ⟨e, -⟩ | ⟨e, -⟩ <;> simp [e]
      have kg : KD g = 5 := by rcases hg with rfl | rfl <;> rfl
      obtain ⟨⟨x, τ2⟩, e2, ω, o1, z⟩ := readAll_c (σ := τ1) hX (pb := pb) (by omega) (by omega) kpb x1
      have t1r : m_rf τ1 0 10 = some pb := ((t1 0 (by decide)).2.2.2.2 10).trans hrf.1
      rw [e1, c_V_s, r_rf_e t1r kpb, e2, c_I_s, closeText_c, c_V_s]
      cases er : spVi (txG G n) 23 Dz Sz 0 with
      | error f =>
        rw [er] at z
        obtain ⟨z1, z2, z3⟩ := z
        have z1 : x = 0 := z1
        rw [if_pos z1]
        refine ⟨_, rfl, flt_c hW h (m := 2) (n := pb) (fun b b1 b2 b3 => ((t1 b b1).tr (o1 b b2 b3)).tr (z3 b b1 b3)) (Or.inl rfl) ⟨⟨by omega, by omega, by omega, by omega⟩, by rw [w1]; intro q; injection q with q; exact hrf.2 q, by rw [w2]; intro q; injection q with q; omega⟩ z2⟩
      | ok r =>
        rw [er] at z
        obtain ⟨z1, z2, z3, z4⟩ := z
        have z1 : x = 1 := z1
        have hwf := spVi_w 23 Dz Sz 0 r Dz_w er
        rw [if_neg (by rw [z1]; decide)]
        have ho : ∀ b, b ≠ 1 → b ≠ 2 → b ≠ pb → BU b σ τ2 := fun b b1 b2 b3 => ((t1 b b1).tr (o1 b b2 b3)).tr (z4 b b1 b3)
        have b0 := ho 0 (by decide) (by omega) (by omega)
        have b4 := ho 4 (by decide) (by omega) (by omega)
        obtain ⟨μ, hμ⟩ : ∃ μ, μ = w_rf (w_rf (w_sc (w_sc (w_sc τ2 1 1 0) 0 7 (m_sc τ2 1 11)) 0 8 (m_sc τ2 1 12)) 0 10 (some p)) 4 0 (some pb) := ⟨_, rfl⟩
        have hPm : PlS μ pb r.1 r.2 := by
          rw [hμ]
          exact ((((z3.bu (BU.sc (by omega))).bu (BU.sc (by omega))).bu (BU.sc (by omega))).bu (BU.pr (by omega))).bu (BU.pr (by omega))
        have hBm : ∀ b, b ≠ 0 → b ≠ 1 → b ≠ 2 → b ≠ 4 → b ≠ pb → BU b σ μ := fun b q0 q1 q2 q4 q5 => by
          rw [hμ]
          exact (((((ho b q1 q2 q5).tr (BU.sc q1)).tr (BU.sc q0)).tr (BU.sc q0)).tr (BU.pr q0)).tr (BU.pr q4)
        obtain ⟨υ, f1, f2, f3⟩ := begin_c (σ := μ) (pb := pb) (by omega) hwf.1 hPm
        have g4 : m_rf υ 4 2 = some g := by
          rw [(f3 4 (by decide)).2.2.2.2, hμ, m_rf_rf, if_neg (by omega), m_rf_rf, if_neg (by omega)]
          exact (b4.2.2.2.2 2).trans w2
        have m10 : m_rf (w_sc (w_sc (w_sc τ2 1 1 0) 0 7 (m_sc τ2 1 11)) 0 8 (m_sc τ2 1 12)) 0 10 = some pb := (b0.2.2.2.2 10).trans hrf.1
        have m40 : m_rf (w_sc (w_sc (w_sc τ2 1 1 0) 0 7 (m_sc τ2 1 11)) 0 8 (m_sc τ2 1 12)) 4 0 = some p := (b4.2.2.2.2 0).trans w1
        rw [r_rf_e m10 kpb, r_rf_e m40 kp, p_rf_s, p_rf_s, ← hμ, f1, c_V_s, r_rf_e g4 kg]
        unfold fX5_clear
        rw [p_bz_s (Or.inl rfl), p_sc_s, p_sc_s, c_V_s, r_sc_s]
        have hPl : PlS (w_sc (w_sc (w_sc υ g 0 0) g 1 0) g 2 0) pb r.1 r.2 := (((hPm.bu (f3 pb (by omega))).bu (BU.sc (by omega))).bu (BU.sc (by omega))).bu (BU.sc (by omega))
        rw [hPl.1.1.2.1]
        have hF : ∀ q, q ≠ 0 → q ≠ g → BU q υ (w_sc (w_sc (w_sc (w_sc υ g 0 0) g 1 0) g 2 0) 0 0 0) := fun q q0 qg => BU.scs q0 (BU.scs qg (BU.scs qg (BU.sc qg)))
        have hA : ∀ q, q ≠ 0 → q ≠ 1 → q ≠ 2 → q ≠ 4 → q ≠ pb → q ≠ 6 → q ≠ g → BU q σ (w_sc (w_sc (w_sc (w_sc υ g 0 0) g 1 0) g 2 0) 0 0 0) := fun q q0 q1 q2 q4 q5 q6 q7 => ((hBm q q0 q1 q2 q4 q5).tr (f3 q q6)).tr (hF q q0 q7)
        have u0 := f3 0 (by decide)
        have u4 : ∀ k, m_rf (w_sc (w_sc (w_sc (w_sc υ g 0 0) g 1 0) g 2 0) 0 0 0) 4 k = m_rf μ 4 k := fun k => (f3 4 (by decide)).2.2.2.2 k
        have u0r : ∀ k, m_rf (w_sc (w_sc (w_sc (w_sc υ g 0 0) g 1 0) g 2 0) 0 0 0) 0 k = m_rf μ 0 k := fun k => u0.2.2.2.2 k
        have u0s : ∀ k, k ≠ 0 → m_sc (w_sc (w_sc (w_sc (w_sc υ g 0 0) g 1 0) g 2 0) 0 0 0) 0 k = m_sc μ 0 k := fun k hk => by rw [m_sc_sc, if_neg (by omega), m_sc_sc, if_neg (by omega), m_sc_sc, if_neg (by omega), m_sc_sc, if_neg (by omega)]; exact u0.1 k
        have u1s : m_sc (w_sc (w_sc (w_sc (w_sc υ g 0 0) g 1 0) g 2 0) 0 0 0) 1 1 = m_sc μ 1 1 := by rw [m_sc_sc, if_neg (by omega), m_sc_sc, if_neg (by omega), m_sc_sc, if_neg (by omega), m_sc_sc, if_neg (by omega)]; exact (f3 1 (by decide)).1 1
        refine ⟨_, rfl, RepC.gen (σ := σ) _ _ _ _ _ _ (fun q hq => hA q (by omega) (by omega) (by omega) (by omega) (by omega) (by omega) (by omega)) ⟨rfl, ?_, ?_, ?_, ?_⟩ ?_ ⟨?_, fun k hk => absurd hk (Nat.not_lt_zero _)⟩ ⟨pb, g, ⟨?_, ?_, ?_, ?_, fun i hi => ?_⟩, ?_, ?_, ?_⟩ (fun i hi => ?_) h⟩
        · show m_lg υ 0 1 = g_t G
          rw [u0.2.1, hμ]; exact (b0.2.1 1).trans h.1.2.1
        · show m_lg υ 0 2 = g_b G
          rw [u0.2.1, hμ]; exact (b0.2.1 2).trans h.1.2.2.1
        · rw [u0s 7 (by decide), hμ]; exact z2.1
        · rw [u0s 8 (by decide), hμ]; exact z2.2
        · rw [u0s 13 (by decide), hμ]; exact (b0.1 13).trans h.2.2.2.2.1.1
        · rw [u1s, hμ]; rfl
        · rw [u4, hμ]; rfl
        · rw [u4, hμ]; exact (b4.2.2.2.2 2).trans w2
        · rw [u0r, hμ]
          show (pb = 5 ∧ some p = some 8) ∨ (pb = 8 ∧ some p = some 5)
          rcases w3 with ⟨e, q⟩ | ⟨e, q⟩
          · rw [hrf.1] at q; injection q with q; exact Or.inr ⟨q, by rw [e]⟩
          · rw [hrf.1] at q; injection q with q; exact Or.inl ⟨q, by rw [e]⟩
        · rw [u0r, hμ]
          show (g = 7 ∧ m_rf τ2 0 11 = some 9) ∨ (g = 9 ∧ m_rf τ2 0 11 = some 7)
          rw [b0.2.2.2.2]; exact w4
        · have hq := hA (19 + i) (by omega) (by omega) (by omega) (by omega) (by omega) (by omega) (by omega)
          rw [hq.2.2.2.2, hq.2.2.2.2]; exact w5 i hi
        · exact (hPl.bu (BU.sc (by omega))).1
        · exact f2.bu (hF 6 (by decide) (by omega))
        · refine ⟨?_, fun q => by cases q⟩
          rw [m_sc_sc, if_neg (by omega), m_sc_sc, if_neg (by omega), m_sc_sc, if_neg (by omega), m_sc_sc, if_pos ⟨rfl, rfl⟩]; rfl
        · have hk := h.2.2.2.2.1.2 i hi
          exact ⟨hk.1.bu (hA _ (by omega) (by omega) (by omega) (by omega) (by omega) (by omega) (by omega)), hk.2.1.bu (hA _ (by omega) (by omega) (by omega) (by omega) (by omega) (by omega) (by omega)), hk.2.2.bu (hA _ (by omega) (by omega) (by omega) (by omega) (by omega) (by omega) (by omega))⟩
end O
