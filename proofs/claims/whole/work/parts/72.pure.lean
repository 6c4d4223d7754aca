/-! PURE 13: marks -/
section O
variable {σ τ : Mm} {G : GS}
def suG (t : Int32 × Int64 × Int64) (f : Int32 × Int32) (x : Nat × (Nat → Int32)) (w : TW) (m : Nat) (k : Nat → TW) (G : GS) : GS := (t, f, g_y G, x, w, (m, k), g_r G, g_d G)
theorem RepC.gen (t : Int32 × Int64 × Int64) (f : Int32 × Int32) (x : Nat × (Nat → Int32)) (w : TW) (m : Nat) (k : Nat → TW) (hb : ∀ q, q = 13 ∨ (15 ≤ q ∧ q ≤ 18) → BU q σ τ) (h0 : m_sc τ 0 0 = t.1 ∧ m_lg τ 0 1 = t.2.1 ∧ m_lg τ 0 2 = t.2.2 ∧ m_sc τ 0 7 = f.1 ∧ m_sc τ 0 8 = f.2) (h13 : m_sc τ 0 13 = nI m) (hx : m_sc τ 1 1 = nI x.1 ∧ ∀ k, k < x.1 → m_ar τ 1 0 k = x.2 k) (hw : ∃ p g, WrC τ p g ∧ TwC τ p 6 g w) (hk : ∀ i, i < m → TwC τ (22 + i) (25 + i) (28 + i) (k i)) (q : RepC σ G) : RepC τ (suG t f x w m k G) := by
  obtain ⟨-, q2, -, -, -, q6, q7⟩ := q
  refine ⟨h0, fun t ht => (q2 t ht).bu (hb _ (by omega)), hx, hw, ⟨h13, hk⟩, q6.bu (hb 13 (by omega)), ?_⟩
  rw [(hb 13 (by omega)).2.2.1]; exact q7
theorem RepR.gen (t : Int32 × Int64 × Int64) (f : Int32 × Int32) (x : Nat × (Nat → Int32)) (w : TW) (m : Nat) (k : Nat → TW) (ha : ∀ j, j = 2 ∨ j = 3 ∨ j = 14 ∨ j = 15 ∨ j = 16 → m_ar τ 31 j = m_ar σ 31 j) (hl : m_la τ 31 4 = m_la σ 31 4) (hs : m_sc τ 31 42 = m_sc σ 31 42) (h0 : m_sc τ 31 2 = t.1 ∧ m_lg τ 31 3 = t.2.1 ∧ m_lg τ 31 4 = t.2.2 ∧ m_sc τ 31 16 = f.1 ∧ m_sc τ 31 17 = f.2) (h44 : m_sc τ 31 44 = nI m) (hx : m_sc τ 31 10 = nI x.1 ∧ ∀ k, k < x.1 → m_ar τ 31 5 k = x.2 k) (hw : TwR (m_ar τ 31 0) (m_la τ 31 1) 0 w) (hk : ∀ i, i < m → TwR (m_ar τ 31 0) (m_la τ 31 1) (i + 1) (k i)) (q : RepR σ G) : RepR τ (suG t f x w m k G) := by
  obtain ⟨-, q2, -, -, -, q6, q7⟩ := q
  refine ⟨h0, fun t ht => ?_, hx, hw, ⟨h44, hk⟩, ?_, ?_⟩
  · have := q2 t ht
    show TrR τ t (g_y G t)
    cases hy : g_y G t with
    | none => rw [hy] at this; show m_ar τ 31 3 t = -1; rw [ha _ (by decide)]; exact this
    | some y => rw [hy] at this; refine ⟨?_, ?_, fun k hk => ?_⟩ <;> first | (rw [ha _ (by decide)]; first | exact this.1 | exact this.2.1) | (rw [hl]; exact this.2.2 k hk)
  · show RnR τ (g_r G)
    cases hr : g_r G with
    | none => rw [hr] at q6; exact hs.trans q6
    | some r => rw [hr] at q6; exact ⟨hs.trans q6.1, fun k hk => by rw [ha _ (by decide)]; exact q6.2.1 k hk, fun k hk => by rw [ha _ (by decide)]; exact q6.2.2 k hk⟩
  · rw [ha _ (by decide)]; exact q7
def spK (G : GS) : Int32 × GS := if g_m G = 3 then (-1, stq 4 G) else (nI (g_m G + 1), suG (0, g_t G, g_b G) (g_f G) (g_x G) (g_w G) (g_m G + 1) (fun i => if i = g_m G then g_w G else g_k G i) G)
def spB (G : GS) : Int32 × GS := if g_m G = 0 then (-1, stq 6 G) else (nI (g_m G - 1), suG (0, g_t G, g_b G) (g_f G) (g_x G) (g_k G (g_m G - 1)) (g_m G - 1) (g_k G) G)
theorem mark_w (hW : WFG G) : WFG (spK G).2 := by
  unfold spK
  have h3 := hW.2.2.2.1
  split
  · exact hW
  · refine ⟨hW.1, hW.2.1, hW.2.2.1, by show g_m G + 1 ≤ 3; omega, fun i hi => ?_, hW.2.2.2.2.2⟩
    show WFT (if i = g_m G then g_w G else g_k G i)
    split
    · exact hW.2.2.1
    · exact hW.2.2.2.2.1 i (by have : i < g_m G + 1 := hi; omega)
theorem back_w (hW : WFG G) : WFG (spB G).2 := by
  unfold spB
  have h3 := hW.2.2.2.1
  split
  · exact hW
  · exact ⟨hW.1, hW.2.1, hW.2.2.2.2.1 (g_m G - 1) (by omega), by show g_m G - 1 ≤ 3; omega, fun i hi => hW.2.2.2.2.1 i (by have : i < g_m G - 1 := hi; omega), hW.2.2.2.2.2⟩
theorem mark_c (hW : WFG G) (h : RepC σ G) : OC (fX11_mark 0 σ) (spK G) := by
  have h3 := hW.2.2.2.1
  unfold fX11_mark spK
  rw [r_sc_s, r_sc_s, h.2.2.2.2.1.1]
  by_cases c : g_m G = 3
  · rw [if_pos c, c, if_neg (by decide)]; exact OC.non hW h _
  · rw [if_neg c, if_pos (show nI (g_m G) < 3 from (nI_ltn (b := 3) (by omega) (by decide)).mpr (by omega)), g_bl_n (by omega) (by decide), show ra 1 (g_m G) = 19 + g_m G from rfl, tg_0_9]
    obtain ⟨p, g, ⟨w1, w2, w3, w4, w5⟩, t⟩ := h.2.2.2.1
    have hm : g_m G = 0 ∨ g_m G = 1 ∨ g_m G = 2 := by omega
    have hp : p = 5 ∨ p = 8 := by rcases w3 with ⟨e, -⟩ | ⟨e, -⟩ <;> simp [e]
    have hg : g = 7 ∨ g = 9 := by rcases w4 with ⟨e, -⟩ | ⟨e, -⟩ <;> simp [e]
    obtain ⟨τ, e, hB, ht⟩ := TwC.cp (o := 19 + g_m G) (a := 4) (p := p) (g := g) (s := 6) (s' := 25 + g_m G) (p' := 22 + g_m G) (g' := 28 + g_m G) hW.2.2.1 (w5 _ (by omega)).1 (w5 _ (by omega)).2 w1 w2 (by rcases hm with e | e | e <;> rw [e] <;> rfl) rfl (by rcases hp with rfl | rfl <;> decide) (by rcases hm with e | e | e <;> rw [e] <;> decide) (by rcases hg with rfl | rfl <;> decide) (by rcases hm with e | e | e <;> rw [e] <;> decide) (by decide) (by rcases hm with e | e | e <;> rw [e] <;> decide) (by rcases hm with e | e | e <;> rw [e] <;> decide) (by decide) (by omega) (by omega) (by omega) t
    have b0 := hB 0 (by omega) (by omega) (by omega)
    have e13 : m_sc τ 0 13 = nI (g_m G) := (b0.1 13).trans h.2.2.2.2.1.1
    rw [e, c_V_s, r_sc_s, p_sc_s, e13, nI_s, r_sc_s, show m_sc (w_sc τ 0 13 (nI (g_m G + 1))) 0 13 = nI (g_m G + 1) from rfl]
    have hB' : ∀ q, q ≠ 0 → q ≠ 22 + g_m G → q ≠ 25 + g_m G → q ≠ 28 + g_m G → BU q σ (w_sc (w_sc τ 0 13 (nI (g_m G + 1))) 0 0 0) := fun q h0 h1 h2 h3 => BU.scs h0 (BU.scs h0 (hB q h1 h2 h3))
    have hT : ∀ q, q ≠ 0 → BU q τ (w_sc (w_sc τ 0 13 (nI (g_m G + 1))) 0 0 0) := fun q h0 => BU.scs h0 (BU.sc h0)
    refine ⟨_, rfl, RepC.gen (σ := σ) _ _ _ _ _ _ (fun q hq => hB' q (by omega) (by omega) (by omega) (by omega)) ⟨rfl, (b0.2.1 1).trans h.1.2.1, (b0.2.1 2).trans h.1.2.2.1, (b0.1 7).trans h.1.2.2.2.1, (b0.1 8).trans h.1.2.2.2.2⟩ rfl ?_ ⟨p, g, ⟨?_, ?_, ?_, ?_, ?_⟩, ?_, ?_, ?_⟩ (fun i hi => ?_) h⟩
    · have b1 := hB' 1 (by omega) (by omega) (by omega) (by omega)
      rw [b1.1, b1.2.2.1]; exact h.2.2.1
    · rw [(hB' 4 (by omega) (by omega) (by omega) (by omega)).2.2.2.2]; exact w1
    · rw [(hB' 4 (by omega) (by omega) (by omega) (by omega)).2.2.2.2]; exact w2
    · rw [show m_rf (w_sc (w_sc τ 0 13 (nI (g_m G + 1))) 0 0 0) 0 10 = m_rf τ 0 10 from rfl, b0.2.2.2.2]; exact w3
    · rw [show m_rf (w_sc (w_sc τ 0 13 (nI (g_m G + 1))) 0 0 0) 0 11 = m_rf τ 0 11 from rfl, b0.2.2.2.2]; exact w4
    · intro i hi
      rw [(hB' (19 + i) (by omega) (by omega) (by omega) (by omega)).2.2.2.2, (hB' (19 + i) (by omega) (by omega) (by omega) (by omega)).2.2.2.2]; exact w5 i hi
    · exact t.1.bu (hB' p (by omega) (by omega) (by omega) (by omega))
    · exact t.2.1.bu (hB' 6 (by omega) (by omega) (by omega) (by omega))
    · exact t.2.2.bu (hB' g (by omega) (by omega) (by omega) (by omega))
    · by_cases c2 : i = g_m G
      · subst c2
        rw [if_pos rfl]
        exact ⟨ht.1.bu (hT _ (by omega)), ht.2.1.bu (hT _ (by omega)), ht.2.2.bu (hT _ (by omega))⟩
      · rw [if_neg c2]
        have hk := h.2.2.2.2.1.2 i (by omega)
        exact ⟨hk.1.bu (hB' _ (by omega) (by omega) (by omega) (by omega)), hk.2.1.bu (hB' _ (by omega) (by omega) (by omega) (by omega)), hk.2.2.bu (hB' _ (by omega) (by omega) (by omega) (by omega))⟩
theorem back_c (hW : WFG G) (h : RepC σ G) : OC (fX11_back 0 σ) (spB G) := by
  have h3 := hW.2.2.2.1
  unfold fX11_back spB
  rw [r_sc_s, r_sc_s, h.2.2.2.2.1.1]
  by_cases c : g_m G = 0
  · rw [if_pos c, c, if_neg (by decide)]; exact OC.non hW h _
  · rw [if_neg c, if_pos (show 0 < nI (g_m G) from (nI_ltn (a := 0) (by decide) (by omega)).mpr (by omega)), ln_1, nI_sub (by omega), p_sc_s, r_sc_s, show m_sc (w_sc σ 0 13 (nI (g_m G - 1))) 0 13 = nI (g_m G - 1) from rfl, g_bl_n (by omega) (by decide), show ra 1 (g_m G - 1) = 19 + (g_m G - 1) from rfl, tg_0_9]
    obtain ⟨m, hmm⟩ : ∃ m, m = g_m G - 1 := ⟨_, rfl⟩
    have hm3 : m < 3 := by omega
    rw [← hmm]
    obtain ⟨p, g, ⟨w1, w2, w3, w4, w5⟩, t⟩ := h.2.2.2.1
    have hm : m = 0 ∨ m = 1 ∨ m = 2 := by omega
    have hp : p = 5 ∨ p = 8 := by rcases w3 with ⟨e, -⟩ | ⟨e, -⟩ <;> simp [e]
    have hg : g = 7 ∨ g = 9 := by rcases w4 with ⟨e, -⟩ | ⟨e, -⟩ <;> simp [e]
    have hk := h.2.2.2.2.1.2 m (by omega)
    have hT0 : ∀ q, q ≠ 0 → BU q σ (w_sc σ 0 13 (nI m)) := fun q hq => BU.sc hq
    obtain ⟨τ, e, hB, ht⟩ := TwC.cp (σ := w_sc σ 0 13 (nI m)) (o := 4) (a := 19 + m) (p' := p) (g' := g) (s' := 6) (s := 25 + m) (p := 22 + m) (g := 28 + m) (hW.2.2.2.2.1 m (by omega)) w1 w2 (w5 _ (by omega)).1 (w5 _ (by omega)).2 rfl (by rcases hm with e | e | e <;> rw [e] <;> rfl) (by rcases hm with e | e | e <;> rw [e] <;> decide) (by rcases hp with rfl | rfl <;> decide) (by rcases hm with e | e | e <;> rw [e] <;> decide) (by rcases hg with rfl | rfl <;> decide) (by rcases hm with e | e | e <;> rw [e] <;> decide) (by decide) (by decide) (by rcases hm with e | e | e <;> rw [e] <;> decide) (by omega) (by omega) (by omega) ⟨hk.1.bu (hT0 _ (by omega)), hk.2.1.bu (hT0 _ (by omega)), hk.2.2.bu (hT0 _ (by omega))⟩
    have b0 := hB 0 (by omega) (by omega) (by omega)
    have e13 : m_sc τ 0 13 = nI m := b0.1 13
    rw [e, c_V_s, r_sc_s, e13]
    have hB' : ∀ q, q ≠ 0 → q ≠ p → q ≠ 6 → q ≠ g → BU q σ (w_sc τ 0 0 0) := fun q h0 h1 h2 h3 => BU.scs h0 ((hT0 q h0).tr (hB q h1 h2 h3))
    have hT : ∀ q, q ≠ 0 → BU q τ (w_sc τ 0 0 0) := fun q h0 => BU.sc h0
    refine ⟨_, rfl, RepC.gen (σ := σ) _ _ _ _ _ _ (fun q hq => hB' q (by omega) (by omega) (by omega) (by omega)) ⟨rfl, (b0.2.1 1).trans h.1.2.1, (b0.2.1 2).trans h.1.2.2.1, (b0.1 7).trans h.1.2.2.2.1, (b0.1 8).trans h.1.2.2.2.2⟩ ?_ ?_ ⟨p, g, ⟨?_, ?_, ?_, ?_, ?_⟩, ht.1.bu (hT _ (by omega)), ht.2.1.bu (hT _ (by omega)), ht.2.2.bu (hT _ (by omega))⟩ (fun i hi => ?_) h⟩
    · exact e13
    · have b1 := hB' 1 (by omega) (by omega) (by omega) (by omega)
      rw [b1.1, b1.2.2.1]; exact h.2.2.1
    · rw [(hB' 4 (by omega) (by omega) (by omega) (by omega)).2.2.2.2]; exact w1
    · rw [(hB' 4 (by omega) (by omega) (by omega) (by omega)).2.2.2.2]; exact w2
    · rw [show m_rf (w_sc τ 0 0 0) 0 10 = m_rf τ 0 10 from rfl, b0.2.2.2.2]; exact w3
    · rw [show m_rf (w_sc τ 0 0 0) 0 11 = m_rf τ 0 11 from rfl, b0.2.2.2.2]; exact w4
    · intro i hi
      rw [(hB' (19 + i) (by omega) (by omega) (by omega) (by omega)).2.2.2.2, (hB' (19 + i) (by omega) (by omega) (by omega) (by omega)).2.2.2.2]; exact w5 i hi
    · have hk := h.2.2.2.2.1.2 i (by omega)
      exact ⟨hk.1.bu (hB' _ (by omega) (by omega) (by omega) (by omega)), hk.2.1.bu (hB' _ (by omega) (by omega) (by omega) (by omega)), hk.2.2.bu (hB' _ (by omega) (by omega) (by omega) (by omega))⟩
end O
