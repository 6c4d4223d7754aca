/-! PURE 13: marks -/
section O
variable {σ τ : Mm} {G : GS}
def suG (t : Int32 × Int64 × Int64) (f : Int32 × Int32) (x : Nat × (Nat → Int32)) (w : TW) (m : Nat) (k : Nat → TW) (G : GS) : GS := (t, f, g_y G, x, w, (m, k), g_r G, g_d G)
theorem RepC.gen (t : Int32 × Int64 × Int64) (f : Int32 × Int32) (x : Nat × (Nat → Int32)) (w : TW) (m : Nat) (k : Nat → TW) (hb : ∀ q, q = 13 ∨ (15 ≤ q ∧ q ≤ 18) → BU q σ τ) (h0 : m_sc τ 0 0 = t.1 ∧ m_lg τ 0 1 = t.2.1 ∧ m_lg τ 0 2 = t.2.2 ∧ m_sc τ 0 7 = f.1 ∧ m_sc τ 0 8 = f.2) (h13 : m_sc τ 0 13 = nI m) (hx : m_sc τ 1 1 = nI x.1 ∧ ∀ k, k < x.1 → m_ar τ 1 0 k = x.2 k) (hw : ∃ p g, WrC τ p g ∧ TwC τ p 6 g w) (hk : ∀ i, i < m → TwC τ (22 + i) (25 + i) (28 + i) (k i)) (q : RepC σ G) : RepC τ (suG t f x w m k G) := by
  obtain ⟨-, q2, -, -, -, q6, q7⟩ := q
  refine ⟨h0, fun t ht => (q2 t ht).bu (hb _ (by omega)), hx, hw, ⟨h13, hk⟩, q6.bu (hb 13 (by omega)), ?_⟩
  rw [(hb 13 (by omega)).2.2.1]; exact q7
theorem RepR.gen (t : Int32 × Int64 × Int64) (f : Int32 × Int32) (x : Nat × (Nat → Int32)) (w : TW) (m : Nat) (k : Nat → TW) (ha : ∀ j, j = 2 ∨ j = 3 ∨ j = 14 ∨ j = 15 ∨ j = 16 → m_ar τ 31 j = m_ar σ 31 j) (hl : m_la τ 31 4 = m_la σ 31 4) (hs : m_sc τ 31 42 = m_sc σ 31 42) (h0 : m_sc τ 31 2 = t.1 ∧ m_lg τ 31 3 = t.2.1 ∧ m_lg τ 31 4 = t.2.2 ∧ m_sc τ 31 16 = f.1 ∧ m_sc τ 31 17 = f.2) (h44 : m_sc τ 31 44 = nI m) (hx : m_sc τ 31 10 = nI x.1 ∧ ∀ k, k < x.1 → m_ar τ 31 5 k = x.2 k) (hw : TwR (m_ar τ 31 0) (m_la τ 31 1) 0 w) (hk : ∀ i, i < m → TwR (m_ar τ 31 0) (m_la τ 31 1) (i + 1) (k i)) (q : RepR σ G) : RepR τ (suG t f x w m k G) := by
  obtain ⟨-, q2, -, -, -, q6, q7⟩ := q
  refine ⟨h0, fun t ht => ?_, hx, hw, ⟨h44, hk⟩, ?_, ?_⟩
  · have := q2 t ht
    show TrR τ t (g_y G t)
    cases hy : g_y G t with
    | none => rw [hy] at this; show m_ar τ 31 3 t = -1; rw [ha _ (by decide)]; exact this
    | some y => rw [hy] at this; refine ⟨?_, ?_, fun k hk => ?_⟩ <;> first | (rw [ha _ (by decide)]; first | exact this.1 | exact this.2.1) | (rw [hl]; exact this.2.2 k hk)
  · show RnR τ (g_r G)
    cases hr : g_r G with
    | none => rw [hr] at q6; exact hs.trans q6
    | some r => rw [hr] at q6; exact ⟨hs.trans q6.1, fun k hk => by rw [ha _ (by decide)]; exact q6.2.1 k hk, fun k hk => by rw [ha _ (by decide)]; exact q6.2.2 k hk⟩
  · rw [ha _ (by decide)]; exact q7
def spK (G : GS) : Int32 × GS := if g_m G = 3 then (-1, stq 4 G) else (nI (g_m G + 1), suG (0, g_t G, g_b G) (g_f G) (g_x G) (g_w G) (g_m G + 1) (fun i => if i = g_m G then g_w G else g_k G i) G)
def spB (G : GS) : Int32 × GS := if g_m G = 0 then (-1, stq 6 G) else (nI (g_m G - 1), suG (0, g_t G, g_b G) (g_f G) (g_x G) (g_k G (g_m G - 1)) (g_m G - 1) (g_k G) G)
theorem mark_w (hW : WFG G) : WFG (spK G).2 := by
  unfold spK
  have h3 := hW.2.2.2.1
  split
  · exact hW
  · refine ⟨hW.1, hW.2.1, hW.2.2.1, by show g_m G + 1 ≤ 3; omega, fun i hi => ?_, hW.2.2.2.2.2⟩
    show WFT (if i = g_m G then g_w G else g_k G i)
    split
    · exact hW.2.2.1
    · exact hW.2.2.2.2.1 i (by have : i < g_m G + 1 := hi; omega)
theorem back_w (hW : WFG G) : WFG (spB G).2 := by
  unfold spB
  have h3 := hW.2.2.2.1
  split
  · exact hW
  · exact ⟨hW.1, hW.2.1, hW.2.2.2.2.1 (g_m G - 1) (by omega), by show g_m G - 1 ≤ 3; omega, fun i hi => hW.2.2.2.2.1 i (by have : i < g_m G - 1 := hi; omega), hW.2.2.2.2.2⟩
theorem mark_c (hW : WFG G) (h : RepC σ G) : OC (fX11_mark 0 σ) (spK G) := by
  have h3 := hW.2.2.2.1
  unfold fX11_mark spK
  rw [r_sc_s, r_sc_s, h.2.2.2.2.1.1]
  by_cases c : g_m G = 3
  · rw [if_pos c, c, if_neg (by decide)]; exact OC.non hW h _
  · rw [if_neg c, if_pos (show nI (g_m G) < 3 from (nI_ltn (b := 3) (by omega) (by decide)).mpr (by omega)), g_bl_n (by omega) (by decide), show ra 1 (g_m G) = 19 + g_m G from rfl, tg_0_9]
    obtain ⟨p, g, ⟨w1, w2, w3, w4, w5⟩, t⟩ := h.2.2.2.1
    have hm : g_m G = 0 ∨ g_m G = 1 ∨ g_m G = 2 := by omega
    have hp : p = 5 ∨ p = 8 := by rcases w3 with ⟨e, -⟩ | ⟨e, -⟩ <;> simp [e]
    have hg : g = 7 ∨ g = 9 := by rcases w4 with ⟨e, -⟩ | ⟨e, -⟩ <;> simp [e]
    obtain ⟨τ, e, hB, ht⟩ := TwC.cp (o := 19 + g_m G) (a := 4) (p := p) (g := g) (s := 6) (s' := 25 + g_m G) (p' := 22 + g_m G) (g' := 28 + g_m G) hW.2.2.1 (w5 _ (by omega)).1 (w5 _ (by omega)).2 w1 w2 (by rcases hm with e | e | e <;> rw [e] <;> rfl) rfl (by rcases hp with rfl | rfl <;> decide) (by rcases hm with e | e | e <;> rw [e] <;> decide) (by rcases hg with rfl | rfl <;> decide) (by rcases hm with e | e | e <;> rw [e] <;> decide) (by decide) (by rcases hm with e | e | e <;> rw [e] <;> decide) (by rcases hm with e | e | e <;> rw [e] <;> decide) (by decide) (by omega) (by omega) (by omega) t
    have b0 := hB 0 (by omega) (by omega) (by omega)
    have e13 : m_sc τ 0 13 = nI (g_m G) := (b0.1 13).trans h.2.2.2.2.1.1
    rw [e, c_V_s, r_sc_s, p_sc_s, e13, nI_s, r_sc_s, show m_sc (w_sc τ 0 13 (nI (g_m G + 1))) 0 13 = nI (g_m G + 1) from rfl]
    have hB' : ∀ q, q ≠ 0 → q ≠ 22 + g_m G → q ≠ 25 + g_m G → q ≠ 28 + g_m G → BU q σ (w_sc (w_sc τ 0 13 (nI (g_m G + 1))) 0 0 0) := fun q h0 h1 h2 h3 => BU.scs h0 (BU.scs h0 (hB q h1 h2 h3))
    have hT : ∀ q, q ≠ 0 → BU q τ (w_sc (w_sc τ 0 13 (nI (g_m G + 1))) 0 0 0) := fun q h0 => BU.scs h0 (BU.sc h0)
    refine ⟨_, rfl, RepC.gen (σ := σ) _ _ _ _ _ _ (fun q hq => hB' q (by omega) (by omega) (by omega) (by omega)) ⟨rfl, (b0.2.1 1).trans h.1.2.1, (b0.2.1 2).trans h.1.2.2.1, (b0.1 7).trans h.1.2.2.2.1, (b0.1 8).trans h.1.2.2.2.2⟩ rfl ?_ ⟨p, g, ⟨?_, ?_, ?_, ?_, ?_⟩, ?_, ?_, ?_⟩ (fun i hi => ?_) h⟩
    · have b1 := hB' 1 (by omega) (by omega) (by omega) (by omega)
      rw [b1.1, b1.2.2.1]; exact h.2.2.1
    · rw [(hB' 4 (by omega) (by omega) (by omega) (by omega)).2.2.2.2]; exact w1
    · rw [(hB' 4 (by omega) (by omega) (by omega) (by omega)).2.2.2.2]; exact w2
    · rw [show m_rf (w_sc (w_sc τ 0 13 (nI (g_m G + 1))) 0 0 0) 0 10 = m_rf τ 0 10 from rfl, b0.2.2.2.2]; exact w3
    · rw [show m_rf (w_sc (w_sc τ 0 13 (nI (g_m G + 1))) 0 0 0) 0 11 = m_rf τ 0 11 from rfl, b0.2.2.2.2]; exact w4
    · intro i hi
      rw [(hB' (19 + i) (by omega) (by omega) (by omega) (by omega)).2.2.2.2, (hB' (19 + i) (by omega) (by omega) (by omega) (by omega)).2.2.2.2]; exact w5 i hi
    · exact t.1.bu (hB' p (by omega) (by omega) (by omega) (by omega))
    · exact t.2.1.bu (hB' 6 (by omega) (by omega) (by omega) (by omega))
    · exact t.2.2.bu (hB' g (by omega) (by omega) (by omega) (by omega))
    · by_cases c2 : i = g_m G
      · subst c2
        rw [if_pos rfl]
        exact ⟨ht.1.bu (hT _ (by omega)), ht.2.1.bu (hT _ (by omega)), ht.2.2.bu (hT _ (by omega))⟩
      · rw [if_neg c2]
        have hk := h.2.2.2.2.1.2 i (by omega)
        exact ⟨hk.1.bu (hB' _ (by omega) (by omega) (by omega) (by omega)), hk.2.1.bu (hB' _ (by omega) (by omega) (by omega) (by omega)), hk.2.2.bu (hB' _ (by omega) (by omega) (by omega) (by omega))⟩
theorem back_c (hW : WFG G) (h : RepC σ G) : OC (fX11_back 0 σ) (spB G) := by
  have h3 := hW.2.2.2.1
  unfold fX11_back spB
  rw [r_sc_s, r_sc_s, h.2.2.2.2.1.1]
  by_cases c : g_m G = 0
  · rw [if_pos c, c, if_neg (by decide)]; exact OC.non hW h _
  · rw [if_neg c, if_pos (show 0 < nI (g_m G) from (nI_ltn (a := 0) (by decide) (by omega)).mpr (by omega)), ln_1, nI_sub (by omega), p_sc_s, r_sc_s, show m_sc (w_sc σ 0 13 (nI (g_m G - 1))) 0 13 = nI (g_m G - 1) from rfl, g_bl_n (by omega) (by decide), show ra 1 (g_m G - 1) = 19 + (g_m G - 1) from rfl, tg_0_9]
    obtain ⟨m, hmm⟩ : ∃ m, m = g_m G - 1 := ⟨_, rfl⟩
    have hm3 : m < 3 := by omega
    rw [← hmm]
    obtain ⟨p, g, ⟨w1, w2, w3, w4, w5⟩, t⟩ := h.2.2.2.1
    have hm : m = 0 ∨ m = 1 ∨ m = 2 := by omega
    have hp : p = 5 ∨ p = 8 := by rcases w3 with ⟨e, -⟩ | ⟨e, -⟩ <;> simp [e]
    have hg : g = 7 ∨ g = 9 := by rcases w4 with ⟨e, -⟩ | ⟨e, -⟩ <;> simp [e]
    have hk := h.2.2.2.2.1.2 m (by omega)
    have hT0 : ∀ q, q ≠ 0 → BU q σ (w_sc σ 0 13 (nI m)) := fun q hq => BU.sc hq
    obtain ⟨τ, e, hB, ht⟩ := TwC.cp (σ := w_sc σ 0 13 (nI m)) (o := 4) (a := 19 + m) (p' := p) (g' := g) (s' := 6) (s := 25 + m) (p := 22 + m) (g := 28 + m) (hW.2.2.2.2.1 m (by omega)) w1 w2 (w5 _ (by omega)).1 (w5 _ (by omega)).2 rfl (by rcases hm with e | e | e <;> rw [e] <;> rfl) (by rcases hm with e | e | e <;> rw [e] <;> decide) (by rcases hp with rfl | rfl <;> decide) (by rcases hm with e | e | e <;> rw [e] <;> decide) (by rcases hg with rfl | rfl <;> decide) (by rcases hm with e | e | e <;> rw [e] <;> decide) (by decide) (by decide) (by rcases hm with e | e | e <;> rw [e] <;> decide) (by omega) (by omega) (by omega) ⟨hk.1.bu (hT0 _ (by omega)), hk.2.1.bu (hT0 _ (by omega)), hk.2.2.bu (hT0 _ (by omega))⟩
    have b0 := hB 0 (by omega) (by omega) (by omega)
    have e13 : m_sc τ 0 13 = nI m := b0.1 13
    rw [e, c_V_s, r_sc_s, e13]
    have hB' : ∀ q, q ≠ 0 → q ≠ p → q ≠ 6 → q ≠ g → BU q σ (w_sc τ 0 0 0) := fun q h0 h1 h2 h3 => BU.scs h0 ((hT0 q h0).tr (hB q h1 h2 h3))
    have hT : ∀ q, q ≠ 0 → BU q τ (w_sc τ 0 0 0) := fun q h0 => BU.sc h0
    refine ⟨_, rfl, RepC.gen (σ := σ) _ _ _ _ _ _ (fun q hq => hB' q (by omega) (by omega) (by omega) (by omega)) ⟨rfl, (b0.2.1 1).trans h.1.2.1, (b0.2.1 2).trans h.1.2.2.1, (b0.1 7).trans h.1.2.2.2.1, (b0.1 8).trans h.1.2.2.2.2⟩ ?_ ?_ ⟨p, g, ⟨?_, ?_, ?_, ?_, ?_⟩, ht.1.bu (hT _ (by omega)), ht.2.1.bu (hT _ (by omega)), ht.2.2.bu (hT _ (by omega))⟩ (fun i hi => ?_) h⟩
    · exact e13
    · have b1 := hB' 1 (by omega) (by omega) (by omega) (by omega)
      rw [b1.1, b1.2.2.1]; exact h.2.2.1
    · rw [(hB' 4 (by omega) (by omega) (by omega) (by omega)).2.2.2.2]; exact w1
    · rw [(hB' 4 (by omega) (by omega) (by omega) (by omega)).2.2.2.2]; exact w2
    · rw [show m_rf (w_sc τ 0 0 0) 0 10 = m_rf τ 0 10 from rfl, b0.2.2.2.2]; exact w3
    · rw [show m_rf (w_sc τ 0 0 0) 0 11 = m_rf τ 0 11 from rfl, b0.2.2.2.2]; exact w4
    · intro i hi
      rw [(hB' (19 + i) (by omega) (by omega) (by omega) (by omega)).2.2.2.2, (hB' (19 + i) (by omega) (by omega) (by omega) (by omega)).2.2.2.2]; exact w5 i hi
    · have hk := h.2.2.2.2.1.2 i (by omega)
      exact ⟨hk.1.bu (hB' _ (by omega) (by omega) (by omega) (by omega)), hk.2.1.bu (hB' _ (by omega) (by omega) (by omega) (by omega)), hk.2.2.bu (hB' _ (by omega) (by omega) (by omega) (by omega))⟩
theorem cop_n (a b : Nat) (ha : a < 4) (hb : b < 4) (hab : a ≠ b) (σ0 : Mm) : ∀ (n i : Nat) (σ : Mm), i ≤ 22 → 22 - i < n → m_sc σ = m_sc σ0 → m_lg σ = m_lg σ0 → m_ar σ = m_ar σ0 → (∀ j, j ≠ 1 → m_la σ 31 j = m_la σ0 31 j) → (∀ k, m_la σ 31 1 k = if 22 * b ≤ k ∧ k < 22 * b + i then m_la σ0 31 1 (22 * a + (k - 22 * b)) else m_la σ0 31 1 k) → ∃ τ, fX12_copies_41 31 (nI a) (nI b) n (nI i) σ = some τ ∧ m_sc τ = m_sc σ0 ∧ m_lg τ = m_lg σ0 ∧ m_ar τ = m_ar σ0 ∧ (∀ j, j ≠ 1 → m_la τ 31 j = m_la σ0 31 j) ∧ ∀ k, m_la τ 31 1 k = if 22 * b ≤ k ∧ k < 22 * b + 22 then m_la σ0 31 1 (22 * a + (k - 22 * b)) else m_la σ0 31 1 k := by
  intro n
  induction n with
  | zero => intro i σ _ h; omega
  | succ n ih =>
    intro i σ hi hn e1 e2 e3 e4 h
    unfold fX12_copies_41
    by_cases c : 22 ≤ i
    · rw [if_pos (show (22 : Int32) ≤ nI i from (nI_len (a := 22) (by omega) (by omega)).mpr c)]
      have : i = 22 := by omega
      subst this
      exact ⟨σ, rfl, e1, e2, e3, e4, h⟩
    · rw [if_neg (show ¬ (22 : Int32) ≤ nI i from fun q => c ((nI_len (a := 22) (by omega) (by omega)).mp q)), ln_22, nI_mul, nI_ad, g_la_n (by omega) (by decide), nI_mul, nI_ad, s_la_n (by omega) (by decide), nI_s]
      refine ih (i + 1) _ (by omega) (by omega) e1 e2 e3 (fun j hj => ?_) (fun k => ?_)
      · funext k; rw [m_la_la, if_neg (by omega), e4 j hj]
      · rw [m_la_la]
        by_cases ck : k = 22 * b + i
        · rw [if_pos ⟨rfl, rfl, ck⟩, if_pos (by omega), h, if_neg (by omega)]; congr 1; omega
        · rw [if_neg (by omega), h]
          by_cases c2 : 22 * b ≤ k ∧ k < 22 * b + i
          · rw [if_pos c2, if_pos (by omega)]
          · rw [if_neg c2, if_neg (by omega)]
theorem cop_a (a b : Nat) (ha : a < 4) (hb : b < 4) (hab : a ≠ b) (σ0 : Mm) : ∀ (n i : Nat) (σ : Mm), i ≤ 490 → 490 - i < n → m_sc σ = m_sc σ0 → m_lg σ = m_lg σ0 → m_la σ = m_la σ0 → (∀ j, j ≠ 0 → m_ar σ 31 j = m_ar σ0 31 j) → (∀ k, m_ar σ 31 0 k = if 490 * b ≤ k ∧ k < 490 * b + i then m_ar σ0 31 0 (490 * a + (k - 490 * b)) else m_ar σ0 31 0 k) → ∃ τ, fX12_copies_2 31 (nI a) (nI b) n (nI i) σ = some τ ∧ m_sc τ = m_sc σ0 ∧ m_lg τ = m_lg σ0 ∧ (∀ j, j ≠ 0 → m_ar τ 31 j = m_ar σ0 31 j) ∧ (∀ j, j ≠ 1 → m_la τ 31 j = m_la σ0 31 j) ∧ (∀ k, m_ar τ 31 0 k = if 490 * b ≤ k ∧ k < 490 * b + 490 then m_ar σ0 31 0 (490 * a + (k - 490 * b)) else m_ar σ0 31 0 k) ∧ ∀ k, m_la τ 31 1 k = if 22 * b ≤ k ∧ k < 22 * b + 22 then m_la σ0 31 1 (22 * a + (k - 22 * b)) else m_la σ0 31 1 k := by
  intro n
  induction n with
  | zero => intro i σ _ h; omega
  | succ n ih =>
    intro i σ hi hn e1 e2 e3 e4 h
    unfold fX12_copies_2
    by_cases c : 490 ≤ i
    · rw [if_pos (show (490 : Int32) ≤ nI i from (nI_len (a := 490) (by omega) (by omega)).mpr c)]
      have : i = 490 := by omega
      subst this
      obtain ⟨τ, e, f1, f2, f3, f4, f5⟩ := cop_n a b ha hb hab σ FU 0 σ (by omega) (FU_gt (by omega)) rfl rfl rfl (fun _ _ => rfl) (fun k => by rw [if_neg (by omega)])
      refine ⟨τ, e, f1.trans e1, f2.trans e2, fun j hj => by rw [f3, e4 j hj], fun j hj => by rw [f4 j hj, e3], fun k => by rw [f3, h], fun k => by rw [f5, e3]⟩
    · rw [if_neg (show ¬ (490 : Int32) ≤ nI i from fun q => c ((nI_len (a := 490) (by omega) (by omega)).mp q)), ln_490, nI_mul, nI_ad, g_ar_n (by omega) (by decide), nI_mul, nI_ad, s_ar_n (by omega) (by decide), nI_s]
      refine ih (i + 1) _ (by omega) (by omega) e1 e2 e3 (fun j hj => ?_) (fun k => ?_)
      · funext k; rw [m_ar_ar, if_neg (by omega), e4 j hj]
      · rw [m_ar_ar]
        by_cases ck : k = 490 * b + i
        · rw [if_pos ⟨rfl, rfl, ck⟩, if_pos (by omega), h, if_neg (by omega)]; congr 1; omega
        · rw [if_neg (by omega), h]
          by_cases c2 : 490 * b ≤ k ∧ k < 490 * b + i
          · rw [if_pos c2, if_pos (by omega)]
          · rw [if_neg c2, if_neg (by omega)]
theorem copies_r (a b : Nat) (ha : a < 4) (hb : b < 4) (hab : a ≠ b) (σ : Mm) : ∃ τ, fX12_copies 31 (nI a) (nI b) σ = some τ ∧ m_sc τ = m_sc σ ∧ m_lg τ = m_lg σ ∧ (∀ j, j ≠ 0 → m_ar τ 31 j = m_ar σ 31 j) ∧ (∀ j, j ≠ 1 → m_la τ 31 j = m_la σ 31 j) ∧ (∀ k, m_ar τ 31 0 k = if 490 * b ≤ k ∧ k < 490 * b + 490 then m_ar σ 31 0 (490 * a + (k - 490 * b)) else m_ar σ 31 0 k) ∧ ∀ k, m_la τ 31 1 k = if 22 * b ≤ k ∧ k < 22 * b + 22 then m_la σ 31 1 (22 * a + (k - 22 * b)) else m_la σ 31 1 k := by
  unfold fX12_copies
  exact cop_a a b ha hb hab σ FU 0 σ (by omega) (FU_gt (by omega)) rfl rfl rfl (fun _ _ => rfl) (fun k => by rw [if_neg (by omega)])
theorem TwR.mv {A A' : Nat → Int32} {N N' : Nat → Int64} {i j : Nat} {T : TW} (hT : WFT T) (hA : ∀ x, x < 490 → A' (490 * j + x) = A (490 * i + x)) (hN : ∀ x, x < 22 → N' (22 * j + x) = N (22 * i + x)) (h : TwR A N i T) : TwR A' N' j T := by
  have hd := hT.1.1
  obtain ⟨⟨⟨a1, a2, a3⟩, b, c, d, e, f⟩, ⟨g1, g2, g3, g4, g5, g6⟩, k1, k2⟩ := h
  have hA0 : A' (490 * j) = A (490 * i) := hA 0 (by omega)
  have hA6 : ∀ x v, x + 6 * v < 490 → A' (490 * j + x + 6 * v) = A (490 * i + x + 6 * v) := fun x v hx => by rw [Nat.add_assoc, Nat.add_assoc]; exact hA _ hx
  have hA5 : ∀ x v, x + 5 * v < 490 → A' (490 * j + x + 5 * v) = A (490 * i + x + 5 * v) := fun x v hx => by rw [Nat.add_assoc, Nat.add_assoc]; exact hA _ hx
  have hA2 : ∀ x v, x + 2 * v < 490 → A' (490 * j + x + 2 * v) = A (490 * i + x + 2 * v) := fun x v hx => by rw [Nat.add_assoc, Nat.add_assoc]; exact hA _ hx
  refine ⟨⟨⟨?_, ?_, ?_⟩, fun v hv => ?_, fun v hv => ?_, fun v hv => ?_, fun v hv => ?_, fun v hv => ?_⟩, ⟨fun q hq => ?_, fun v hv => ?_, fun v hv => ?_, ?_, ?_, ?_⟩, ?_, fun hg r hr => ?_⟩
  · rw [hA0]; exact a1
  · rw [hA _ (by omega)]; exact a2
  · rw [hA _ (by omega)]; exact a3
  · rw [hA6 _ _ (by omega), hA6 _ _ (by omega), hA6 _ _ (by omega)]; exact b v hv
  · rw [hA5 _ _ (by omega), hA5 _ _ (by omega), hA5 _ _ (by omega), hA5 _ _ (by omega)]; exact c v hv
  · rw [hN _ (by omega)]; exact d v hv
  · rw [Nat.add_assoc, hN _ (by omega), ← Nat.add_assoc]; exact e v hv
  · rw [Nat.add_assoc, hN _ (by omega), ← Nat.add_assoc]; exact f v hv
  · rw [hA2 _ _ (by omega), hA2 _ _ (by omega)]; exact g1 q hq
  · rw [hA6 _ _ (by omega), hA6 _ _ (by omega), hA6 _ _ (by omega)]; exact g2 v hv
  · rw [hA5 _ _ (by omega)]; exact g3 v hv
  · rw [hA _ (by omega)]; exact g4
  · rw [hA _ (by omega)]; exact g5
  · rw [hA _ (by omega)]; exact g6
  · rw [hA _ (by omega)]; exact k1
  · have hr6 := (hT.2.2 hg).2.1
    rw [hA6 _ _ (by omega), hA6 _ _ (by omega), hA6 _ _ (by omega), hA6 _ _ (by omega), hA6 _ _ (by omega), hA6 _ _ (by omega)]
    exact k2 hg r hr
theorem mark_r (hW : WFG G) (h : RepR σ G) : OR (fX12_mark 31 σ) (spK G) := by
  have h3 := hW.2.2.2.1
  unfold fX12_mark spK
  rw [r_sc_s, r_sc_s, h.2.2.2.2.1.1]
  by_cases c : g_m G = 3
  · rw [if_pos c, c, if_pos (by decide)]; exact OR.non hW h _
  · rw [if_neg c, if_neg (show ¬ nI (g_m G) = 3 from fun q => c ((nI_inj (b := 3) (by omega) (by decide)).mp q)), p_sc_s, nI_s, r_sc_s, show m_sc (w_sc σ 31 44 (nI (g_m G + 1))) 31 44 = nI (g_m G + 1) from rfl]
    obtain ⟨τ, e, f1, f2, f3, f4, f5, f6⟩ := copies_r 0 (g_m G + 1) (by omega) (by omega) (by omega) (w_sc σ 31 44 (nI (g_m G + 1)))
    rw [show (0 : Int32) = nI 0 from rfl, e, c_V_s, r_sc_s, show m_sc τ 31 44 = nI (g_m G + 1) by rw [f1]; rfl]
    have hs : ∀ k, k ≠ 2 → k ≠ 44 → m_sc (w_sc τ 31 2 0) 31 k = m_sc σ 31 k := fun k h1 h2 => by rw [m_sc_sc, if_neg (by omega), f1, m_sc_sc, if_neg (by omega)]
    refine ⟨_, rfl, RepR.gen (σ := σ) _ _ _ _ _ _ (fun j hj => ?_) ?_ (hs 42 (by decide) (by decide)) ⟨rfl, ?_, ?_, ?_, ?_⟩ ?_ ?_ ?_ (fun i hi => ?_) h⟩
    · rw [m_ar_sc, f3 j (by omega)]; rfl
    · rw [m_la_sc, f4 4 (by decide)]; rfl
    · rw [m_lg_sc, f2]; exact h.1.2.1
    · rw [m_lg_sc, f2]; exact h.1.2.2.1
    · rw [hs _ (by decide) (by decide)]; exact h.1.2.2.2.1
    · rw [hs _ (by decide) (by decide)]; exact h.1.2.2.2.2
    · rw [m_sc_sc, if_neg (by decide), f1]; rfl
    · rw [hs _ (by decide) (by decide), m_ar_sc, f3 5 (by decide)]; exact h.2.2.1
    · refine TwR.mv (i := 0) hW.2.2.1 (fun x hx => ?_) (fun x hx => ?_) h.2.2.2.1
      · rw [m_ar_sc, f5, if_neg (by omega)]; rfl
      · rw [m_la_sc, f6, if_neg (by omega)]; rfl
    · have hi' : i < g_m G + 1 := hi
      by_cases c2 : i = g_m G
      · subst c2
        rw [if_pos rfl]
        refine TwR.mv (i := 0) hW.2.2.1 (fun x hx => ?_) (fun x hx => ?_) h.2.2.2.1
        · rw [m_ar_sc, f5, if_pos (by omega), Nat.add_sub_cancel_left]; rfl
        · rw [m_la_sc, f6, if_pos (by omega), Nat.add_sub_cancel_left]; rfl
      · rw [if_neg c2]
        refine TwR.mv (i := i + 1) (hW.2.2.2.2.1 i (by omega)) (fun x hx => ?_) (fun x hx => ?_) (h.2.2.2.2.1.2 i (by omega))
        · rw [m_ar_sc, f5, if_neg (by omega)]; rfl
        · rw [m_la_sc, f6, if_neg (by omega)]; rfl
theorem back_r (hW : WFG G) (h : RepR σ G) : OR (fX12_back 31 σ) (spB G) := by
  have h3 := hW.2.2.2.1
  unfold fX12_back spB
  rw [r_sc_s, r_sc_s, h.2.2.2.2.1.1]
  by_cases c : g_m G = 0
  · rw [if_pos c, c, if_pos (by decide)]; exact OR.non hW h _
  · rw [if_neg c, if_neg (show ¬ nI (g_m G) = 0 from fun q => c ((nI_inj (b := 0) (by omega) (by decide)).mp q))]
    obtain ⟨τ, e, f1, f2, f3, f4, f5, f6⟩ := copies_r (g_m G) 0 (by omega) (by omega) (by omega) σ
    rw [show ∀ x, fX12_copies 31 x (0 : Int32) σ = fX12_copies 31 x (nI 0) σ from fun _ => rfl, e, c_V_s, r_sc_s, p_sc_s, r_sc_s, show m_sc τ 31 44 = nI (g_m G) by rw [f1]; exact h.2.2.2.2.1.1, ln_1, nI_sub (by omega), show m_sc (w_sc τ 31 44 (nI (g_m G - 1))) 31 44 = nI (g_m G - 1) from rfl]
    have hs : ∀ k, k ≠ 2 → k ≠ 44 → m_sc (w_sc (w_sc τ 31 44 (nI (g_m G - 1))) 31 2 0) 31 k = m_sc σ 31 k := fun k h1 h2 => by rw [m_sc_sc, if_neg (by omega), m_sc_sc, if_neg (by omega), f1]
    refine ⟨_, rfl, RepR.gen (σ := σ) _ _ _ _ _ _ (fun j hj => ?_) ?_ (hs 42 (by decide) (by decide)) ⟨rfl, ?_, ?_, ?_, ?_⟩ ?_ ?_ ?_ (fun i hi => ?_) h⟩
    · rw [m_ar_sc, m_ar_sc, f3 j (by omega)]
    · rw [m_la_sc, m_la_sc, f4 4 (by decide)]
    · rw [m_lg_sc, m_lg_sc, f2]; exact h.1.2.1
    · rw [m_lg_sc, m_lg_sc, f2]; exact h.1.2.2.1
    · rw [hs _ (by decide) (by decide)]; exact h.1.2.2.2.1
    · rw [hs _ (by decide) (by decide)]; exact h.1.2.2.2.2
    · rfl
    · rw [hs _ (by decide) (by decide), m_ar_sc, m_ar_sc, f3 5 (by decide)]; exact h.2.2.1
    · have hk := h.2.2.2.2.1.2 (g_m G - 1) (by omega)
      rw [show g_m G - 1 + 1 = g_m G by omega] at hk
      refine TwR.mv (i := g_m G) (hW.2.2.2.2.1 (g_m G - 1) (by omega)) (fun x hx => ?_) (fun x hx => ?_) hk
      · rw [m_ar_sc, m_ar_sc, f5, if_pos (by omega)]; congr 1; omega
      · rw [m_la_sc, m_la_sc, f6, if_pos (by omega)]; congr 1; omega
    · have hi' : i < g_m G - 1 := hi
      refine TwR.mv (i := i + 1) (hW.2.2.2.2.1 i (by omega)) (fun x hx => ?_) (fun x hx => ?_) (h.2.2.2.2.1.2 i (by omega))
      · rw [m_ar_sc, m_ar_sc, f5, if_neg (by omega)]
      · rw [m_la_sc, m_la_sc, f6, if_neg (by omega)]
theorem mark_s  (σ : Mm) (h : Rel σ) : ok (fX11_mark 0  σ) (fun q => ok (fX12_mark 31  q.2) (fun q' => q'.1 = q.1 ∧ Rel q'.2)) :=
  simS (fc := fX11_mark 0 ) (fr := fX12_mark 31 ) (ks := [2, 4, 5, 11]) (by decide) (spK ) (fun σ G hW h => mark_c hW h) (fun σ G hW h => mark_r hW h) (fun G hW => mark_w hW) (fun σ x τ ee => F_sub (frX11_mark 0  (by decide) σ ee) (by decide)) (fun σ x τ ee => F_sub (frX12_mark 31  (by decide) σ ee) (by decide)) σ h
theorem back_s  (σ : Mm) (h : Rel σ) : ok (fX11_back 0  σ) (fun q => ok (fX12_back 31  q.2) (fun q' => q'.1 = q.1 ∧ Rel q'.2)) :=
  simS (fc := fX11_back 0 ) (fr := fX12_back 31 ) (ks := [2, 4, 5, 11]) (by decide) (spB ) (fun σ G hW h => back_c hW h) (fun σ G hW h => back_r hW h) (fun G hW => back_w hW) (fun σ x τ ee => F_sub (frX11_back 0  (by decide) σ ee) (by decide)) (fun σ x τ ee => F_sub (frX12_back 31  (by decide) σ ee) (by decide)) σ h
end O
