/-! PURE 7: what changes the state of now; wind, lift, hold -/
section O
variable {σ τ : Mm} {G : GS}
theorem lgc_v (a b : Int64) : lg_cmp a b = if b.toInt < a.toInt then 1 else if a.toInt = b.toInt then 0 else -1 := by
  unfold lg_cmp
  simp only [Int64.lt_iff_toInt_lt, Int64.toInt_inj]
theorem lgc_neg (a b : Int64) : lg_cmp a b < 0 ↔ a.toInt < b.toInt := by
  rw [lgc_v]
  by_cases h : b.toInt < a.toInt
  · rw [if_pos h]; exact ⟨fun q => absurd q (by decide), fun q => by omega⟩
  · rw [if_neg h]
    by_cases h2 : a.toInt = b.toInt
    · rw [if_pos h2]; exact ⟨fun q => absurd q (by decide), fun q => by omega⟩
    · rw [if_neg h2]; exact ⟨fun q => by omega, fun q => by decide⟩
theorem lgc_pos (a b : Int64) : 0 < lg_cmp a b ↔ b.toInt < a.toInt := by
  rw [lgc_v]
  by_cases h : b.toInt < a.toInt
  · rw [if_pos h]; exact ⟨fun q => h, fun q => by decide⟩
  · rw [if_neg h]
    by_cases h2 : a.toInt = b.toInt
    · rw [if_pos h2]; exact ⟨fun q => absurd q (by decide), fun q => by omega⟩
    · rw [if_neg h2]; exact ⟨fun q => absurd q (by decide), fun q => by omega⟩
theorem isFrom_e (a : Int32) (l m : Int64) (σ : Mm) : fX12_isFrom a.toInt64 l m σ = some (if l.toInt ≤ a.toInt ∧ a.toInt ≤ m.toInt then 1 else 0, σ) := by
  unfold fX12_isFrom
  have e : a.toInt64.toInt = a.toInt := Int32.toInt_toInt64 a
  by_cases h : a.toInt < l.toInt
  · rw [if_pos ((lgc_neg _ _).mpr (by omega)), if_neg (by omega)]
  · rw [if_neg (fun q => h (by rw [lgc_neg] at q; omega))]
    by_cases h2 : m.toInt < a.toInt
    · rw [if_pos ((lgc_pos _ _).mpr (by omega)), if_neg (by omega)]
    · rw [if_neg (fun q => h2 (by rw [lgc_pos] at q; omega)), if_pos (by omega)]

/-- another state of now -/
def suV (t : Int32 × Int64 × Int64) (V : SD) (G : GS) : GS := (t, g_f G, g_y G, g_x G, ((g_w G).1, V, (g_w G).2.2), (g_m G, g_k G), g_r G, g_d G)
theorem RepC.uV (t : Int32 × Int64 × Int64) (V : SD) (hm : g_m G ≤ 3) (h : CU [0, 2, 3, 6, 10, 11, 12, 14] σ τ) (z : Z0 σ τ) (z0 : m_sc τ 0 0 = t.1 ∧ m_lg τ 0 1 = t.2.1 ∧ m_lg τ 0 2 = t.2.2) (hs : StC τ 6 (GD G) V) (q : RepC σ G) : RepC τ (suV t V G) := by
  obtain ⟨⟨-, -, -, a4, a5⟩, q2, q3, ⟨p, g, ⟨w1, w2, w3, w4, w5⟩, t1, t2, t3⟩, q5, q6, q7⟩ := q
  have hp : BU p σ τ := by rcases w3 with ⟨rfl, -⟩ | ⟨rfl, -⟩ <;> exact h _ (by decide) (by decide)
  have hg : BU g σ τ := by rcases w4 with ⟨rfl, -⟩ | ⟨rfl, -⟩ <;> exact h _ (by decide) (by decide)
  have h4 := h 4 (by decide) (by decide)
  have hh : ∀ q, q < 31 → 14 < q → BU q σ τ := fun q h1 h2 => h q h1 (by simp; omega)
  refine ⟨⟨z0.1, z0.2.1, z0.2.2, z.1.trans a4, z.2.1.trans a5⟩, fun t ht => (q2 t ht).bu (hh _ (by omega) (by omega)), ?_, ⟨p, g, ⟨?_, ?_, ?_, ?_, fun i hi => ?_⟩, t1.bu hp, hs, t3.bu hg⟩, ⟨?_, fun i hi => ?_⟩, q6.bu (h 13 (by decide) (by decide)), ?_⟩
  · have h0 := h 1 (by decide) (by decide)
    rw [h0.1, h0.2.2.1]; exact q3
  · rw [h4.2.2.2.2]; exact w1
  · rw [h4.2.2.2.2]; exact w2
  · rw [z.2.2.2.1]; exact w3
  · rw [z.2.2.2.2]; exact w4
  · have h9 := hh (19 + i) (by omega) (by omega)
    rw [h9.2.2.2.2, h9.2.2.2.2]; exact w5 i hi
  · rw [z.2.2.1]; exact q5.1
  · have hi3 : i < 3 := by have : i < g_m G := hi; omega
    obtain ⟨a, b, c⟩ := q5.2 i hi
    exact ⟨a.bu (hh _ (by omega) (by omega)), b.bu (hh _ (by omega) (by omega)), c.bu (hh _ (by omega) (by omega))⟩
  · rw [(h 13 (by decide) (by decide)).2.2.1]; exact q7
/-- what the reference keeps over a call that changes the state of now -/
def RV (σ τ : Mm) : Prop := (∀ k, k = 10 ∨ k = 16 ∨ k = 17 ∨ k = 42 ∨ k = 44 → m_sc τ 31 k = m_sc σ 31 k) ∧ (∀ j, j = 2 ∨ j = 3 ∨ j = 5 ∨ j = 14 ∨ j = 15 ∨ j = 16 → m_ar τ 31 j = m_ar σ 31 j) ∧ m_la τ 31 4 = m_la σ 31 4 ∧ (∀ i, i < 1960 → i = 6 ∨ 120 ≤ i → m_ar τ 31 0 i = m_ar σ 31 0 i) ∧ ∀ i, i < 88 → m_la τ 31 1 i = m_la σ 31 1 i
theorem OrR.cg0 {A A' : Nat → Int32} {D : PD} {O : OD} (hO : WFO D O) (hA : ∀ k, k < 1960 → k = 6 ∨ 120 ≤ k → A' k = A k) (h : OrR A (490 * 0) O) : OrR A' (490 * 0) O := by
  refine ⟨by rw [hA _ (by omega) (by omega)]; exact h.1, fun hg r hr => ?_⟩
  have hr6 := (hO hg).2.1
  obtain ⟨a, b, c, d, e, f, g⟩ := h.2 hg r hr
  rw [hA _ (by omega) (by omega), hA _ (by omega) (by omega), hA _ (by omega) (by omega), hA _ (by omega) (by omega), hA _ (by omega) (by omega), hA _ (by omega) (by omega)]
  exact ⟨a, b, c, d, e, f, g⟩
theorem RepR.uV (t : Int32 × Int64 × Int64) (V : SD) (hW : WFG G) (h : RV σ τ) (z0 : m_sc τ 31 2 = t.1 ∧ m_lg τ 31 3 = t.2.1 ∧ m_lg τ 31 4 = t.2.2) (hp : PlR (m_ar τ 31 0) (m_la τ 31 1) 0 0 (GD G)) (hs : StR (m_ar τ 31 0) 0 (GD G) V) (q : RepR σ G) : RepR τ (suV t V G) := by
  obtain ⟨⟨-, -, -, a4, a5⟩, q2, q3, q4, q5, q6, q7⟩ := q
  obtain ⟨h1, h2, h3, h4, h5⟩ := h
  refine ⟨⟨z0.1, z0.2.1, z0.2.2, (h1 _ (by decide)).trans a4, (h1 _ (by decide)).trans a5⟩, fun t ht => ?_, ?_, ⟨hp, hs, q4.2.2.cg0 hW.2.2.1.2.2 h4⟩, ⟨(h1 _ (by decide)).trans q5.1, fun i hi => ?_⟩, ?_, ?_⟩
  · have := q2 t ht
    show TrR τ t (g_y G t)
    cases hy : g_y G t with
    | none => rw [hy] at this; show m_ar τ 31 3 t = -1; rw [h2 _ (by decide)]; exact this
    | some y => rw [hy] at this; refine ⟨?_, ?_, fun k hk => ?_⟩ <;> first | (rw [h2 _ (by decide)]; first | exact this.1 | exact this.2.1) | (rw [h3]; exact this.2.2 k hk)
  · rw [h1 _ (by decide), h2 _ (by decide)]; exact q3
  · have h3 : g_m G ≤ 3 := hW.2.2.2.1
    have hi' : i < g_m G := hi
    exact (q5.2 i hi).cg (hW.2.2.2.2.1 i hi) (fun k _ hk => h4 k (by omega) (by omega)) (fun k _ hk => h5 k (by omega))
  · show RnR τ (g_r G)
    cases hr : g_r G with
    | none => rw [hr] at q6; exact (h1 42 (by decide)).trans q6
    | some r => rw [hr] at q6; exact ⟨(h1 42 (by decide)).trans q6.1, fun k hk => by rw [h2 _ (by decide)]; exact q6.2.1 k hk, fun k hk => by rw [h2 _ (by decide)]; exact q6.2.2 k hk⟩
  · rw [h2 _ (by decide)]; exact q7
theorem WFG.uV (t : Int32 × Int64 × Int64) {V : SD} (hW : WFG G) (hV : WFV (GD G) V) : WFG (suV t V G) := ⟨hW.1, hW.2.1, ⟨hW.2.2.1.1, hV, hW.2.2.1.2.2⟩, hW.2.2.2⟩
end O
