/-! PURE 4: calls that leave the town; getters -/
/-- the class's blocks but for some are as they were -/
def CU (bs : List Nat) (σ τ : Mm) : Prop := ∀ q, q < 31 → q ∉ bs → BU q σ τ
theorem CU.rf {bs : List Nat} {σ : Mm} : CU bs σ σ := fun _ _ _ => BU.rf
theorem CU.tr {bs : List Nat} {σ τ ω : Mm} (h : CU bs σ τ) (h2 : CU bs τ ω) : CU bs σ ω := fun q hq hb => (h q hq hb).tr (h2 q hq hb)
theorem CU.sub {bs bs' : List Nat} {σ τ : Mm} (h : CU bs' σ τ) (hs : ∀ x, x ∉ bs → x ∉ bs') : CU bs σ τ := fun q hq hb => h q hq (hs q hb)
/-- the class's own fields that a call of this sort leaves -/
def Z0 (σ τ : Mm) : Prop := m_sc τ 0 7 = m_sc σ 0 7 ∧ m_sc τ 0 8 = m_sc σ 0 8 ∧ m_sc τ 0 13 = m_sc σ 0 13 ∧ m_rf τ 0 10 = m_rf σ 0 10 ∧ m_rf τ 0 11 = m_rf σ 0 11
theorem RepC.upd {σ τ : Mm} {G : GS} (t : Int32 × Int64 × Int64) (hm : g_m G ≤ 3) (h : CU [0, 2, 3, 10, 11, 12, 14] σ τ) (z : Z0 σ τ) (z0 : m_sc τ 0 0 = t.1 ∧ m_lg τ 0 1 = t.2.1 ∧ m_lg τ 0 2 = t.2.2) (q : RepC σ G) : RepC τ (t, G.2) := by
  obtain ⟨⟨-, -, -, a4, a5⟩, q2, q3, ⟨p, g, ⟨w1, w2, w3, w4, w5⟩, t1, t2, t3⟩, q5, q6, q7⟩ := q
  have hp : BU p σ τ := by rcases w3 with ⟨rfl, -⟩ | ⟨rfl, -⟩ <;> exact h _ (by decide) (by decide)
  have hg : BU g σ τ := by rcases w4 with ⟨rfl, -⟩ | ⟨rfl, -⟩ <;> exact h _ (by decide) (by decide)
  have h4 := h 4 (by decide) (by decide)
  have hh : ∀ q, q < 31 → 14 < q → BU q σ τ := fun q h1 h2 => h q h1 (by simp; omega)
  refine ⟨⟨z0.1, z0.2.1, z0.2.2, z.1.trans a4, z.2.1.trans a5⟩, fun t ht => (q2 t ht).bu (hh _ (by omega) (by omega)), ?_, ⟨p, g, ⟨?_, ?_, ?_, ?_, fun i hi => ?_⟩, t1.bu hp, t2.bu (h 6 (by decide) (by decide)), t3.bu hg⟩, ⟨?_, fun i hi => ?_⟩, q6.bu (h 13 (by decide) (by decide)), ?_⟩
  · have h0 := h 1 (by decide) (by decide)
    rw [h0.1, h0.2.2.1]; exact q3
  · rw [h4.2.2.2.2]; exact w1
  · rw [h4.2.2.2.2]; exact w2
  · rw [z.2.2.2.1]; exact w3
  · rw [z.2.2.2.2]; exact w4
  · have h9 := hh (19 + i) (by omega) (by omega)
    rw [h9.2.2.2.2, h9.2.2.2.2]; exact w5 i hi
  · rw [z.2.2.1]; exact q5.1
  · have hi3 : i < 3 := by have : i < g_m G := hi; omega
    obtain ⟨a, b, c⟩ := q5.2 i hi
    exact ⟨a.bu (hh _ (by omega) (by omega)), b.bu (hh _ (by omega) (by omega)), c.bu (hh _ (by omega) (by omega))⟩
  · rw [(h 13 (by decide) (by decide)).2.2.1]; exact q7
/-- what the reference keeps over a call that asks -/
def RU (σ τ : Mm) : Prop := (∀ k, k = 10 ∨ k = 16 ∨ k = 17 ∨ k = 42 ∨ k = 44 → m_sc τ 31 k = m_sc σ 31 k) ∧ (∀ j, j = 2 ∨ j = 3 ∨ j = 5 ∨ j = 14 ∨ j = 15 ∨ j = 16 → m_ar τ 31 j = m_ar σ 31 j) ∧ m_la τ 31 4 = m_la σ 31 4 ∧ (∀ i, i < 1960 → m_ar τ 31 0 i = m_ar σ 31 0 i) ∧ ∀ i, i < 88 → m_la τ 31 1 i = m_la σ 31 1 i
theorem RU.rf {σ : Mm} : RU σ σ := ⟨fun _ _ => rfl, fun _ _ => rfl, rfl, fun _ _ => rfl, fun _ _ => rfl⟩
theorem RU.tr {σ τ ω : Mm} (h : RU σ τ) (h2 : RU τ ω) : RU σ ω := ⟨fun k q => (h2.1 k q).trans (h.1 k q), fun k q => (h2.2.1 k q).trans (h.2.1 k q), h2.2.2.1.trans h.2.2.1, fun k q => (h2.2.2.2.1 k q).trans (h.2.2.2.1 k q), fun k q => (h2.2.2.2.2 k q).trans (h.2.2.2.2 k q)⟩
theorem PlR.cg {A A' : Nat → Int32} {N N' : Nat → Int64} {i : Nat} {D : PD} (hD : WFD D) (hA : ∀ k, 490 * i ≤ k → k < 490 * i + 490 → A' k = A k) (hN : ∀ k, 22 * i ≤ k → k < 22 * i + 22 → N' k = N k) (h : PlR A N (490 * i) (22 * i) D) : PlR A' N' (490 * i) (22 * i) D := by
  obtain ⟨⟨a, b, c⟩, d, e, f, g, k⟩ := h
  obtain ⟨⟨b1, b2, b3⟩, -, -⟩ := hD
  refine ⟨⟨?_, ?_, ?_⟩, fun v hv => ⟨?_, ?_, ?_⟩, fun v hv => ⟨?_, ?_, ?_, ?_⟩, fun v hv => ?_, fun v hv => ?_, fun v hv => ?_⟩
  · rw [hA _ (by omega) (by omega)]; exact a
  · rw [hA _ (by omega) (by omega)]; exact b
  · rw [hA _ (by omega) (by omega)]; exact c
  · rw [hA _ (by omega) (by omega)]; exact (d v hv).1
  · rw [hA _ (by omega) (by omega)]; exact (d v hv).2.1
  · rw [hA _ (by omega) (by omega)]; exact (d v hv).2.2
  · rw [hA _ (by omega) (by omega)]; exact (e v hv).1
  · rw [hA _ (by omega) (by omega)]; exact (e v hv).2.1
  · rw [hA _ (by omega) (by omega)]; exact (e v hv).2.2.1
  · rw [hA _ (by omega) (by omega)]; exact (e v hv).2.2.2
  · rw [hN _ (by omega) (by omega)]; exact f v hv
  · rw [hN _ (by omega) (by omega)]; exact g v hv
  · rw [hN _ (by omega) (by omega)]; exact k v hv
theorem StR.cg {A A' : Nat → Int32} {i : Nat} {D : PD} {V : SD} (hD : WFD D) (hA : ∀ k, 490 * i ≤ k → k < 490 * i + 490 → A' k = A k) (h : StR A (490 * i) D V) : StR A' (490 * i) D V := by
  obtain ⟨a, b, c, d, e, f⟩ := h
  obtain ⟨⟨b1, b2, b3⟩, -, -⟩ := hD
  refine ⟨fun q hq => ⟨?_, ?_⟩, fun v hv => ⟨?_, ?_, ?_⟩, fun k hk => ?_, ?_, ?_, ?_⟩
  · rw [hA _ (by omega) (by omega)]; exact (a q hq).1
  · rw [hA _ (by omega) (by omega)]; exact (a q hq).2
  · rw [hA _ (by omega) (by omega)]; exact (b v hv).1
  · rw [hA _ (by omega) (by omega)]; exact (b v hv).2.1
  · rw [hA _ (by omega) (by omega)]; exact (b v hv).2.2
  · rw [hA _ (by omega) (by omega)]; exact c k hk
  · rw [hA _ (by omega) (by omega)]; exact d
  · rw [hA _ (by omega) (by omega)]; exact e
  · rw [hA _ (by omega) (by omega)]; exact f
theorem OrR.cg {A A' : Nat → Int32} {i : Nat} {D : PD} {O : OD} (hO : WFO D O) (hA : ∀ k, 490 * i ≤ k → k < 490 * i + 490 → A' k = A k) (h : OrR A (490 * i) O) : OrR A' (490 * i) O := by
  refine ⟨by rw [hA _ (by omega) (by omega)]; exact h.1, fun hg r hr => ?_⟩
  have hr6 := (hO hg).2.1
  obtain ⟨a, b, c, d, e, f, g⟩ := h.2 hg r hr
  rw [hA _ (by omega) (by omega), hA _ (by omega) (by omega), hA _ (by omega) (by omega), hA _ (by omega) (by omega), hA _ (by omega) (by omega), hA _ (by omega) (by omega)]
  exact ⟨a, b, c, d, e, f, g⟩
theorem TwR.cg {A A' : Nat → Int32} {N N' : Nat → Int64} {i : Nat} {T : TW} (hT : WFT T) (hA : ∀ k, 490 * i ≤ k → k < 490 * i + 490 → A' k = A k) (hN : ∀ k, 22 * i ≤ k → k < 22 * i + 22 → N' k = N k) (h : TwR A N i T) : TwR A' N' i T := ⟨h.1.cg hT.1 hA hN, h.2.1.cg hT.1 hA, h.2.2.cg hT.2.2 hA⟩
theorem RepR.upd {σ τ : Mm} {G : GS} (t : Int32 × Int64 × Int64) (hW : WFG G) (h : RU σ τ) (z0 : m_sc τ 31 2 = t.1 ∧ m_lg τ 31 3 = t.2.1 ∧ m_lg τ 31 4 = t.2.2) (q : RepR σ G) : RepR τ (t, G.2) := by
  obtain ⟨⟨-, -, -, a4, a5⟩, q2, q3, q4, q5, q6, q7⟩ := q
  obtain ⟨h1, h2, h3, h4, h5⟩ := h
  refine ⟨⟨z0.1, z0.2.1, z0.2.2, (h1 _ (by decide)).trans a4, (h1 _ (by decide)).trans a5⟩, fun t ht => ?_, ?_, q4.cg hW.2.2.1 (fun k _ hk => h4 k (by omega)) (fun k _ hk => h5 k (by omega)), ⟨(h1 _ (by decide)).trans q5.1, fun i hi => ?_⟩, ?_, ?_⟩
  · have := q2 t ht
    show TrR τ t (g_y G t)
    cases hy : g_y G t with
    | none => rw [hy] at this; show m_ar τ 31 3 t = -1; rw [h2 _ (by decide)]; exact this
    | some y => rw [hy] at this; refine ⟨?_, ?_, fun k hk => ?_⟩ <;> first | (rw [h2 _ (by decide)]; first | exact this.1 | exact this.2.1) | (rw [h3]; exact this.2.2 k hk)
  · rw [h1 _ (by decide), h2 _ (by decide)]; exact q3
  · have h3 : g_m G ≤ 3 := hW.2.2.2.1
    have hi' : i < g_m G := hi
    exact (q5.2 i hi).cg (hW.2.2.2.2.1 i hi) (fun k _ hk => h4 k (by omega)) (fun k _ hk => h5 k (by omega))
  · show RnR τ (g_r G)
    cases hr : g_r G with
    | none => rw [hr] at q6; exact (h1 42 (by decide)).trans q6
    | some r => rw [hr] at q6; exact ⟨(h1 42 (by decide)).trans q6.1, fun k hk => by rw [h2 _ (by decide)]; exact q6.2.1 k hk, fun k hk => by rw [h2 _ (by decide)]; exact q6.2.2 k hk⟩
  · rw [h2 _ (by decide)]; exact q7
/-- another status -/
def stq (s : Int32) (G : GS) : GS := ((s, g_t G, g_b G), G.2)
theorem WFG.stq {G : GS} (s : Int32) (h : WFG G) : WFG (stq s G) := h
theorem RepC.st {σ : Mm} {G : GS} (s : Int32) (hW : WFG G) (h : RepC σ G) : RepC (w_sc σ 0 0 s) (stq s G) :=
  h.upd _ hW.2.2.2.1 (fun q _ hb => BU.sc (fun e => hb (by rw [e]; decide))) ⟨rfl, rfl, rfl, rfl, rfl⟩ ⟨rfl, h.1.2.1, h.1.2.2.1⟩
theorem RepR.st {σ : Mm} {G : GS} (s : Int32) (hW : WFG G) (h : RepR σ G) : RepR (w_sc σ 31 2 s) (stq s G) := by
  refine RepR.upd (σ := σ) _ hW ⟨fun k hk => ?_, fun _ _ => rfl, rfl, fun _ _ => rfl, fun _ _ => rfl⟩ ⟨rfl, h.1.2.1, h.1.2.2.1⟩ h
  rw [m_sc_sc, if_neg]
  rintro ⟨-, rfl⟩
  revert hk; decide
/-! what a refusal and an answer are -/
theorem cA {σ : Mm} {G : GS} (hW : WFG G) (h : RepC σ G) (x : Int32) : ∃ τ, fX11_answer 0 x σ = some (x, τ) ∧ RepC τ (stq 0 G) := ⟨_, rfl, h.st 0 hW⟩
theorem cN {σ : Mm} {G : GS} (hW : WFG G) (h : RepC σ G) (x : Int32) : ∃ τ, fX11_none 0 x σ = some (-1, τ) ∧ RepC τ (stq x G) := ⟨_, rfl, h.st x hW⟩
theorem cG {σ : Mm} {G : GS} (hW : WFG G) (h : RepC σ G) : ∃ τ, fX11_agree 0 σ = some (1, τ) ∧ RepC τ (stq 0 G) := ⟨_, rfl, h.st 0 hW⟩
theorem cF {σ : Mm} {G : GS} (hW : WFG G) (h : RepC σ G) (x : Int32) : ∃ τ, fX11_refuse 0 x σ = some (0, τ) ∧ RepC τ (stq x G) := ⟨_, rfl, h.st x hW⟩
theorem rA {σ : Mm} {G : GS} (hW : WFG G) (h : RepR σ G) (x : Int32) : ∃ τ, fX12_gives 31 x σ = some (x, τ) ∧ RepR τ (stq 0 G) := ⟨_, rfl, h.st 0 hW⟩
theorem rN {σ : Mm} {G : GS} (hW : WFG G) (h : RepR σ G) (x : Int32) : ∃ τ, fX12_refuse 31 x σ = some (-1, τ) ∧ RepR τ (stq x G) := ⟨_, rfl, h.st x hW⟩
theorem rI {σ : Mm} {G : GS} (hW : WFG G) (h : RepR σ G) (x : Int32) : ∃ τ, fX12_is 31 x σ = some (if x = 0 then 1 else 0, τ) ∧ RepR τ (stq x G) := by
  refine ⟨_, ?_, h.st x hW⟩
  unfold fX12_is
  rw [p_sc_s]
  by_cases q : x = 0
  · rw [if_pos q, if_pos q]
  · rw [if_neg q, if_neg q]
