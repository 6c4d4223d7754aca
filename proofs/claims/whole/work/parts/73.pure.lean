/-! PURE 14: feed -/
section O
variable {σ τ : Mm} {G : GS}
abbrev XT : Type := Nat × (Nat → Int32)
def suX (x : XT) (G : GS) : GS := (G.1, g_f G, g_y G, x, G.2.2.2.2)
def TXC (σ : Mm) (x : XT) : Prop := m_sc σ 1 1 = nI x.1 ∧ ∀ k, k < x.1 → m_ar σ 1 0 k = x.2 k
def TXR (σ : Mm) (x : XT) : Prop := m_sc σ 31 10 = nI x.1 ∧ ∀ k, k < x.1 → m_ar σ 31 5 k = x.2 k
theorem RepC.uX (x : XT) (hm : g_m G ≤ 3) (h : ∀ q, q ≠ 1 → BU q σ τ) (hx : TXC τ x) (q : RepC σ G) : RepC τ (suX x G) := by
  have h0 := h 0 (by decide)
  obtain ⟨⟨a1, a2, a3, a4, a5⟩, q2, q3, ⟨p, g, ⟨w1, w2, w3, w4, w5⟩, t1, t2, t3⟩, q5, q6, q7⟩ := q
  have hp : p = 5 ∨ p = 8 := by rcases w3 with ⟨e, -⟩ | ⟨e, -⟩ <;> simp [e]
  have hg : g = 7 ∨ g = 9 := by rcases w4 with ⟨e, -⟩ | ⟨e, -⟩ <;> simp [e]
  have h4 := h 4 (by decide)
  refine ⟨⟨(h0.1 0).trans a1, (h0.2.1 1).trans a2, (h0.2.1 2).trans a3, (h0.1 7).trans a4, (h0.1 8).trans a5⟩, fun t ht => (q2 t ht).bu (h _ (by omega)), hx, ⟨p, g, ⟨?_, ?_, ?_, ?_, fun i hi => ?_⟩, t1.bu (h p (by omega)), t2.bu (h 6 (by omega)), t3.bu (h g (by omega))⟩, ⟨(h0.1 13).trans q5.1, fun i hi => ?_⟩, q6.bu (h 13 (by decide)), ?_⟩
  · rw [h4.2.2.2.2]; exact w1
  · rw [h4.2.2.2.2]; exact w2
  · rw [h0.2.2.2.2]; exact w3
  · rw [h0.2.2.2.2]; exact w4
  · have h9 := h (19 + i) (by omega)
    rw [h9.2.2.2.2, h9.2.2.2.2]; exact w5 i hi
  · obtain ⟨a, b, c⟩ := q5.2 i hi
    exact ⟨a.bu (h _ (by omega)), b.bu (h _ (by omega)), c.bu (h _ (by omega))⟩
  · rw [(h 13 (by decide)).2.2.1]; exact q7
theorem RepR.uX (x : XT) (hs : ∀ k, k ≠ 10 → m_sc τ 31 k = m_sc σ 31 k) (hl : m_lg τ 31 = m_lg σ 31) (ha : ∀ j, j ≠ 5 → m_ar τ 31 j = m_ar σ 31 j) (hla : ∀ j, m_la τ 31 j = m_la σ 31 j) (hx : TXR τ x) (q : RepR σ G) : RepR τ (suX x G) := by
  obtain ⟨⟨a1, a2, a3, a4, a5⟩, q2, q3, q4, q5, q6, q7⟩ := q
  refine ⟨⟨(hs _ (by decide)).trans a1, by rw [hl]; exact a2, by rw [hl]; exact a3, (hs _ (by decide)).trans a4, (hs _ (by decide)).trans a5⟩, fun t ht => ?_, hx, ?_, ⟨(hs _ (by decide)).trans q5.1, ?_⟩, ?_, ?_⟩
  · have := q2 t ht
    show TrR τ t (g_y G t)
    cases hy : g_y G t with
    | none => rw [hy] at this; show m_ar τ 31 3 t = -1; rw [ha _ (by decide)]; exact this
    | some y => rw [hy] at this; refine ⟨?_, ?_, fun k hk => ?_⟩ <;> first | (rw [ha _ (by decide)]; first | exact this.1 | exact this.2.1) | (rw [hla]; exact this.2.2 k hk)
  · rw [ha _ (by decide), hla]; exact q4
  · rw [ha _ (by decide), hla]; exact q5.2
  · show RnR τ (g_r G)
    cases hr : g_r G with
    | none => rw [hr] at q6; exact (hs 42 (by decide)).trans q6
    | some r => rw [hr] at q6; exact ⟨(hs 42 (by decide)).trans q6.1, fun k hk => by rw [ha _ (by decide)]; exact q6.2.1 k hk, fun k hk => by rw [ha _ (by decide)]; exact q6.2.2 k hk⟩
  · rw [ha _ (by decide)]; exact q7
def psh (x : XT) (v : Int32) : XT := (x.1 + 1, fun k => if k = x.1 then v else x.2 k)
def bty (a s : Int32) : Int32 := (a >>> (s &&& 31)).toInt8.toInt32.toInt8.toInt32
def ap4 (x : XT) (a : Int32) : XT := psh (psh (psh (psh x (bty a 24)) (bty a 16)) (bty a 8)) (bty a 0)
theorem ap4_1 (x : XT) (a : Int32) : (ap4 x a).1 = x.1 + 4 := rfl
theorem psh_c {x : XT} (v : Int32) (h : TXC σ x) : TXC (w_sc (w_ar σ 1 0 x.1 v) 1 1 (nI (x.1 + 1))) (psh x v) := by
  refine ⟨rfl, fun k hk => ?_⟩
  rw [m_ar_sc, m_ar_ar]
  show _ = if k = x.1 then v else x.2 k
  by_cases c : k = x.1
  · rw [if_pos ⟨rfl, rfl, c⟩, if_pos c]
  · rw [if_neg (fun z => c z.2.2), if_neg c]; exact h.2 k (by have : k < x.1 + 1 := hk; omega)
theorem psh_r {x : XT} (v : Int32) (h : TXR σ x) : TXR (w_sc (w_ar σ 31 5 x.1 v) 31 10 (nI (x.1 + 1))) (psh x v) := by
  refine ⟨rfl, fun k hk => ?_⟩
  rw [m_ar_sc, m_ar_ar]
  show _ = if k = x.1 then v else x.2 k
  by_cases c : k = x.1
  · rw [if_pos ⟨rfl, rfl, c⟩, if_pos c]
  · rw [if_neg (fun z => c z.2.2), if_neg c]; exact h.2 k (by have : k < x.1 + 1 := hk; omega)
theorem FU_s (k : Nat) (h : k ≤ 1000000000) : ∃ n, FU = n + k := ⟨FU - k, by have := FU_ge; omega⟩
theorem app_1 {x : XT} (a s : Int32) (hs : ¬ s < 0) (hx : x.1 < 900) (h : TXC σ x) (n : Nat) : fX6_append_3 1 a (n + 1) s σ = fX6_append_3 1 a n (s + (-8)) (w_sc (w_ar σ 1 0 x.1 (bty a s)) 1 1 (nI (x.1 + 1))) := by
  rw [fX6_append_3, if_neg hs, r_sc_s, r_sc_s, h.1, if_neg (show ¬ (900 : Int32) ≤ nI x.1 from fun q => absurd ((nI_len (a := 900) (by decide) (by omega)).mp q) (by omega)), s_ar_n hx (by decide), r_sc_s, p_sc_s, show m_sc (w_ar σ 1 0 x.1 (a >>> (s &&& 31)).toInt8.toInt32.toInt8.toInt32) 1 1 = nI x.1 from h.1, nI_s]
  rfl
theorem fou_1 {x : XT} (a s : Int32) (hs : ¬ s < 0) (hx : x.1 < 900) (h : TXR σ x) (n : Nat) : fX12_four_3 31 a (n + 1) s σ = fX12_four_3 31 a n (s + (-8)) (w_sc (w_ar σ 31 5 x.1 (bty a s)) 31 10 (nI (x.1 + 1))) := by
  rw [fX12_four_3, if_neg hs, r_sc_s, h.1, s_ar_n hx (by decide), r_sc_s, p_sc_s, show m_sc (w_ar σ 31 5 x.1 (a >>> (s &&& 31)).toInt8.toInt32.toInt8.toInt32) 31 10 = nI x.1 from h.1, nI_s]
  rfl
theorem app_c {x : XT} (a : Int32) (hx : x.1 + 4 ≤ 900) (h : TXC σ x) : ∃ τ, fX6_append 1 a σ = some τ ∧ TXC τ (ap4 x a) ∧ ∀ q, q ≠ 1 → BU q σ τ := by
  unfold fX6_append
  obtain ⟨n, en⟩ := FU_s 5 (by decide)
  rw [en]
  have h1 := psh_c (bty a 24) h
  have h2 := psh_c (bty a 16) h1
  have h3 := psh_c (bty a 8) h2
  have h4 := psh_c (bty a 0) h3
  rw [app_1 a _ (by decide) (by omega) h, show (24 : Int32) + -8 = 16 by decide, app_1 a _ (by decide) (by show x.1 + 1 < 900; omega) h1, show (16 : Int32) + -8 = 8 by decide, app_1 a _ (by decide) (by show x.1 + 1 + 1 < 900; omega) h2, show (8 : Int32) + -8 = 0 by decide, app_1 a _ (by decide) (by show x.1 + 1 + 1 + 1 < 900; omega) h3, show (0 : Int32) + -8 = -8 by decide, fX6_append_3, if_pos (by decide)]
  exact ⟨_, rfl, h4, fun q hq => by repeat (first | exact BU.rf | refine BU.scs hq ?_ | refine BU.afs hq ?_)⟩
def QR (σ τ : Mm) : Prop := (∀ k, k ≠ 10 → m_sc τ 31 k = m_sc σ 31 k) ∧ (m_lg τ 31 = m_lg σ 31) ∧ (∀ j, j ≠ 5 → m_ar τ 31 j = m_ar σ 31 j) ∧ ∀ j, m_la τ 31 j = m_la σ 31 j
theorem QR.tr {ω : Mm} (h : QR σ τ) (h2 : QR τ ω) : QR σ ω := ⟨fun k hk => (h2.1 k hk).trans (h.1 k hk), h2.2.1.trans h.2.1, fun k hk => (h2.2.2.1 k hk).trans (h.2.2.1 k hk), fun k => (h2.2.2.2 k).trans (h.2.2.2 k)⟩
theorem QR.w (i : Nat) (v w : Int32) : QR σ (w_sc (w_ar σ 31 5 i v) 31 10 w) := ⟨fun k hk => by rw [m_sc_sc, if_neg (by omega)]; rfl, rfl, fun j hj => by funext k; rw [m_ar_sc, m_ar_ar, if_neg (by omega)], fun j => rfl⟩
theorem fou_r {x : XT} (a : Int32) (hx : x.1 + 4 ≤ 900) (h : TXR σ x) : ∃ τ, fX12_four 31 a σ = some τ ∧ TXR τ (ap4 x a) ∧ QR σ τ := by
  unfold fX12_four
  obtain ⟨n, en⟩ := FU_s 5 (by decide)
  rw [en]
  have h1 := psh_r (bty a 24) h
  have h2 := psh_r (bty a 16) h1
  have h3 := psh_r (bty a 8) h2
  have h4 := psh_r (bty a 0) h3
  rw [fou_1 a _ (by decide) (by omega) h, show (24 : Int32) + -8 = 16 by decide, fou_1 a _ (by decide) (by show x.1 + 1 < 900; omega) h1, show (16 : Int32) + -8 = 8 by decide, fou_1 a _ (by decide) (by show x.1 + 1 + 1 < 900; omega) h2, show (8 : Int32) + -8 = 0 by decide, fou_1 a _ (by decide) (by show x.1 + 1 + 1 + 1 < 900; omega) h3, show (0 : Int32) + -8 = -8 by decide, fX12_four_3, if_pos (by decide)]
  exact ⟨_, rfl, h4, (((QR.w _ _ _).tr (QR.w _ _ _)).tr (QR.w _ _ _)).tr (QR.w _ _ _)⟩
def spE (a b c d e : Int32) (G : GS) : Int32 × GS := if (g_x G).1 + 20 ≤ 900 then (nI ((g_x G).1 + 20), suX (ap4 (ap4 (ap4 (ap4 (ap4 (g_x G) a) b) c) d) e) G) else (-1, G)
theorem feed_c (a b c d e : Int32) (hW : WFG G) (h : RepC σ G) : OC (fX11_feed 0 a b c d e σ) (spE a b c d e G) := by
  have h9 := hW.2.1.1
  unfold fX11_feed spE fX6_hasRoomFor
  rw [tg_0_4, r_sc_s, h.2.2.1.1, ln_20, nI_ad]
  by_cases c0 : (g_x G).1 + 20 ≤ 900
  · rw [if_pos c0, if_neg (show ¬ (900 : Int32) < nI ((g_x G).1 + 20) from fun q => absurd ((nI_ltn (a := 900) (by decide) (by omega)).mp q) (by omega)), c_I_s, if_neg (by decide)]
    obtain ⟨τ1, e1, x1, b1⟩ := app_c a (by omega) h.2.2.1
    obtain ⟨τ2, e2, x2, b2⟩ := app_c b (by rw [ap4_1]; omega) x1
    obtain ⟨τ3, e3, x3, b3⟩ := app_c c (by rw [ap4_1, ap4_1]; omega) x2
    obtain ⟨τ4, e4, x4, b4⟩ := app_c d (by rw [ap4_1, ap4_1, ap4_1]; omega) x3
    obtain ⟨τ5, e5, x5, b5⟩ := app_c e (by rw [ap4_1, ap4_1, ap4_1, ap4_1]; omega) x4
    rw [e1, c_V_s, e2, c_V_s, e3, c_V_s, e4, c_V_s, e5, c_V_s, r_sc_s, x5.1]
    exact ⟨τ5, rfl, h.uX _ hW.2.2.2.1 (fun q hq => ((((b1 q hq).tr (b2 q hq)).tr (b3 q hq)).tr (b4 q hq)).tr (b5 q hq)) x5⟩
  · rw [if_neg c0, if_pos (show (900 : Int32) < nI ((g_x G).1 + 20) from (nI_ltn (a := 900) (by decide) (by omega)).mpr (by omega)), c_I_s, if_pos rfl]
    exact ⟨σ, rfl, h⟩
theorem feed_r (a b c d e : Int32) (hW : WFG G) (h : RepR σ G) : OR (fX12_feed 31 a b c d e σ) (spE a b c d e G) := by
  have h9 := hW.2.1.1
  unfold fX12_feed spE
  rw [r_sc_s, h.2.2.1.1, ln_20, nI_ad]
  by_cases c0 : (g_x G).1 + 20 ≤ 900
  · rw [if_pos c0, if_pos (show nI ((g_x G).1 + 20) ≤ (900 : Int32) from (nI_len (b := 900) (by omega) (by decide)).mpr (by omega))]
    obtain ⟨τ1, e1, x1, b1⟩ := fou_r a (by omega) h.2.2.1
    obtain ⟨τ2, e2, x2, b2⟩ := fou_r b (by rw [ap4_1]; omega) x1
    obtain ⟨τ3, e3, x3, b3⟩ := fou_r c (by rw [ap4_1, ap4_1]; omega) x2
    obtain ⟨τ4, e4, x4, b4⟩ := fou_r d (by rw [ap4_1, ap4_1, ap4_1]; omega) x3
    obtain ⟨τ5, e5, x5, b5⟩ := fou_r e (by rw [ap4_1, ap4_1, ap4_1, ap4_1]; omega) x4
    rw [e1, c_V_s, e2, c_V_s, e3, c_V_s, e4, c_V_s, e5, c_V_s, r_sc_s, x5.1]
    have hq := (((b1.tr b2).tr b3).tr b4).tr b5
    exact ⟨τ5, rfl, h.uX _ hq.1 hq.2.1 hq.2.2.1 hq.2.2.2 x5⟩
  · rw [if_neg c0, if_neg (show ¬ nI ((g_x G).1 + 20) ≤ (900 : Int32) from fun q => absurd ((nI_len (b := 900) (by omega) (by decide)).mp q) (by omega))]
    exact ⟨σ, rfl, h⟩
theorem bt_of (y : Int8) : ∃ n, n < 256 ∧ y.toInt32 = bt n := by
  have h1 := Int8.le_toInt y
  have h2 := Int8.toInt_lt y
  have e : y.toInt32 = iI y.toInt := by rw [← Int32.toInt_inj, Int8.toInt_toInt32, iI_t (by omega) (by omega)]
  by_cases c : 0 ≤ y.toInt
  · refine ⟨y.toInt.toNat, by omega, ?_⟩
    rw [bt, if_pos (by omega), nI_iI, Int.toNat_of_nonneg c]; exact e
  · refine ⟨(y.toInt + 256).toNat, by omega, ?_⟩
    rw [bt, if_neg (by omega), Int.toNat_of_nonneg (by omega), e]; congr 1; omega
theorem WFX.psh {x : XT} (a s : Int32) (h : WFX x) (hx : x.1 < 900) : WFX (psh x (bty a s)) := by
  refine ⟨hx, fun k hk => ?_⟩
  have hk : k < x.1 + 1 := hk
  show ∃ n, n < 256 ∧ (if k = x.1 then bty a s else x.2 k) = bt n
  by_cases c : k = x.1
  · rw [if_pos c]; exact bt_of _
  · rw [if_neg c]; exact h.2 k (by omega)
theorem WFX.ap4 {x : XT} (a : Int32) (h : WFX x) (hx : x.1 + 4 ≤ 900) : WFX (ap4 x a) :=
  (((h.psh a 24 (by omega)).psh a 16 (show x.1 + 1 < 900 by omega)).psh a 8 (show x.1 + 1 + 1 < 900 by omega)).psh a 0 (show x.1 + 1 + 1 + 1 < 900 by omega)
theorem feed_w (a b c d e : Int32) (hW : WFG G) : WFG (spE a b c d e G).2 := by
  unfold spE
  split
  · rename_i c0
    exact ⟨hW.1, (((((hW.2.1.ap4 a (by omega)).ap4 b (by rw [ap4_1]; omega)).ap4 c (by rw [ap4_1, ap4_1]; omega)).ap4 d (by rw [ap4_1, ap4_1, ap4_1]; omega)).ap4 e (by rw [ap4_1, ap4_1, ap4_1, ap4_1]; omega)), hW.2.2⟩
  · exact hW
theorem feed_s (a : Int32) (b : Int32) (c : Int32) (d : Int32) (e : Int32) (σ : Mm) (h : Rel σ) : ok (fX11_feed 0 a b c d e σ) (fun q => ok (fX12_feed 31 a b c d e q.2) (fun q' => q'.1 = q.1 ∧ Rel q'.2)) :=
  simS (fc := fX11_feed 0 a b c d e) (fr := fX12_feed 31 a b c d e) (ks := [6, 11]) (by decide) (spE a b c d e) (fun σ G => feed_c a b c d e) (fun σ G => feed_r a b c d e) (fun G hW => feed_w a b c d e hW) (fun σ x τ ee => F_sub (frX11_feed 0 a b c d e (by decide) σ ee) (by decide)) (fun σ x τ ee => F_sub (frX12_feed 31 a b c d e (by decide) σ ee) (by decide)) σ h
end O
