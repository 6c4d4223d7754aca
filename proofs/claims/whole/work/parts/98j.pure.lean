/-! PURE 48: the reference reads a village's parts -/
def FR (σ τ : Mm) : Prop := m_lg τ = m_lg σ ∧ (∀ k, (k ≤ 10 ∨ 20 < k) → k ≠ 22 → k ≠ 23 → m_sc τ 31 k = m_sc σ 31 k) ∧ (∀ j, j ≠ 0 → j ≠ 6 → j ≠ 7 → m_ar τ 31 j = m_ar σ 31 j) ∧ (∀ k, k < 1960 → m_ar τ 31 0 k = m_ar σ 31 0 k) ∧ (∀ j, j ≠ 1 → m_la τ 31 j = m_la σ 31 j) ∧ ∀ k, k < 88 → m_la τ 31 1 k = m_la σ 31 1 k
def VR (A : Nat → Int32) (N : Nat → Int64) (D : PD) (S : Nat → Nat) : Prop := PlR A N 1960 88 D ∧ StR A 1960 D (Vz S) ∧ A 1966 = -1
def VQ (σ : Mm) (X : TX) : RZ V3 → Int32 × Mm → Prop
  | .ok r, q => q.1 = 1 ∧ TxR q.2 X r.2.2 ∧ VR (m_ar q.2 31 0) (m_la q.2 31 1) r.1 r.2.1 ∧ FR σ q.2
  | .error f, q => q.1 = 0 ∧ ErR q.2 f ∧ FR σ q.2
theorem eb_as {α β γ : Type} (r : RZ α) (k1 : α → RZ β) (k2 : β → RZ γ) : eb (eb r k1) k2 = eb r (fun a => eb (k1 a) k2) := by cases r <;> rfl
theorem eb_o {α β : Type} (a : α) (k : α → RZ β) : eb (.ok a) k = k a := rfl
theorem eb_r {α β : Type} (f : Nat × Nat) (k : α → RZ β) : eb (.error f) k = .error f := rfl
theorem sF2_e {X : TX} {f : Nat → Int64} {n a p : Nat} (ha : a < n) : sF2 X f n a p = eb (sFd X f n p) (fun g => if g.1 = a then .error (5, tA X p) else .ok g) := by
  unfold sF2 sFd
  by_cases c : isNm X p = true
  · rw [if_pos c]
    by_cases c2 : ixN f n (tw X p) = a
    · rw [if_pos ⟨c, c2⟩, if_pos (by omega), eb_o, if_pos c2]
    · rw [if_neg (fun q => c2 q.2)]
      by_cases c3 : ixN f n (tw X p) < n
      · rw [if_pos c3, eb_o, if_neg c2]
      · rw [if_neg c3, eb_r]
  · rw [if_neg (fun q => c q.1), if_neg c, eb_r]
def spPl0 (X : TX) (D : PD) (S : Nat → Nat) (p : Nat) : RZ V3 := eb (sNw X D (tE X p)) fun p2 => .ok (dPl D (tw X (tE X p)), S, p2)
def spVa0 (X : TX) (D : PD) (S : Nat → Nat) (p : Nat) : RZ V3 := eb (sNw X D (tE X p)) fun p2 => eb (sKw X 2 p2) fun p3 => eb (sNu X 4 60 p3) fun t => eb (sKw X 3 t.2) fun p5 => eb (sFd X (d_np D) (d_p D) p5) fun h => eb (sOp X 4 99 h.2) fun s => eb (sOp X 5 (t.1 - 1) s.2) fun r => .ok (dVa D (tw X (tE X p)) t.1 h.1 s.1, updN S (d_v D) r.1, r.2)
def spSh0 (X : TX) (D : PD) (S : Nat → Nat) (p : Nat) (b : Bool) : RZ V3 := eb (sNw X D (tE X p)) fun p2 => eb (sKw X 8 p2) fun p3 => eb (sFd X (d_nv D) (d_v D) p3) fun f => eb (sF2 X (d_nv D) (d_v D) f.1 f.2) fun g => eb (sOp X 9 9 g.2) fun l => .ok (dSh D (tw X (tE X p)) f.1 g.1 l.1 b, S, l.2)
def kSg (X : TX) (r : V3) : RZ V3 := eb (sSg X r.2.2) fun p => .ok (r.1, r.2.1, p)
theorem spPl_e (X : TX) (D : PD) (S : Nat → Nat) (p : Nat) : spPl X D S p = eb (spPl0 X D S p) (kSg X) := by unfold spPl spPl0; simp only [eb_as]; rfl
theorem spVa_e (X : TX) (D : PD) (S : Nat → Nat) (p : Nat) : spVa X D S p = eb (spVa0 X D S p) (kSg X) := by unfold spVa spVa0; simp only [eb_as]; rfl
theorem spSh_e (X : TX) (D : PD) (S : Nat → Nat) (p : Nat) (b : Bool) : spSh X D S p b = eb (spSh0 X D S p b) (kSg X) := by unfold spSh spSh0; simp only [eb_as]; rfl
section O
variable {σ τ : Mm} {X : TX} {p : Nat} {D : PD} {S : Nat → Nat} {A A' : Nat → Int32} {N N' : Nat → Int64} {β : Type}
theorem FR.rf : FR σ σ := ⟨rfl, fun _ _ _ _ => rfl, fun _ _ _ _ => rfl, fun _ _ => rfl, fun _ _ => rfl, fun _ _ => rfl⟩
theorem FR.tr {ω : Mm} (h : FR σ τ) (g : FR τ ω) : FR σ ω := ⟨g.1.trans h.1, fun k a b c => (g.2.1 k a b c).trans (h.2.1 k a b c), fun k a b c => (g.2.2.1 k a b c).trans (h.2.2.1 k a b c), fun k a => (g.2.2.2.1 k a).trans (h.2.2.2.1 k a), fun k a => (g.2.2.2.2.1 k a).trans (h.2.2.2.2.1 k a), fun k a => (g.2.2.2.2.2 k a).trans (h.2.2.2.2.2 k a)⟩
theorem RQ.fr (h : RQ σ τ) : FR σ τ := ⟨h.2.2.1, fun k a b c => h.2.2.2 k (by omega) (by omega) (by omega) (by omega) (by omega) (by omega) (by omega), fun j _ _ _ => by rw [h.1], fun k _ => by rw [h.1], fun j _ => by rw [h.2.1], fun k _ => by rw [h.2.1]⟩
theorem FR.q {ω : Mm} (h : FR σ τ) (g : RQ τ ω) : FR σ ω := h.tr g.fr
theorem FR.ar {i : Nat} {v : Int32} (h : FR σ τ) (hi : 1960 ≤ i) : FR σ (w_ar τ 31 0 i v) := h.tr ⟨rfl, fun _ _ _ _ => rfl, fun j hj _ _ => by funext k; rw [m_ar_ar, if_neg (by omega)], fun k hk => by rw [m_ar_ar, if_neg (by omega)], fun _ _ => rfl, fun _ _ => rfl⟩
theorem FR.la {i : Nat} {v : Int64} (h : FR σ τ) (hi : 88 ≤ i) : FR σ (w_la τ 31 1 i v) := h.tr ⟨rfl, fun _ _ _ _ => rfl, fun _ _ _ _ => rfl, fun _ _ => rfl, fun j hj => by funext k; rw [m_la_la, if_neg (by omega)], fun k hk => by rw [m_la_la, if_neg (by omega)]⟩
theorem VR.cg (hd : d_v D ≤ 8 ∧ d_s D ≤ 10) (hA : ∀ k, 1960 ≤ k → (k < 1980 + 6 * d_v D ∨ (2030 ≤ k ∧ k < 2030 + 5 * d_s D)) → A' k = A k) (hN : ∀ k, (88 ≤ k ∧ k < 88 + d_p D) ∨ (92 ≤ k ∧ k < 92 + d_v D) ∨ (100 ≤ k ∧ k < 100 + d_s D) → N' k = N k) (h : VR A N D S) : VR A' N' D S := by
  obtain ⟨⟨⟨a1, a2, a3⟩, b, c, d, e, f⟩, ⟨g1, g2, g3, g4, g5, g6⟩, l⟩ := h
  refine ⟨⟨⟨?_, ?_, ?_⟩, fun v hv => ?_, fun v hv => ?_, fun v hv => ?_, fun v hv => ?_, fun v hv => ?_⟩, ⟨fun q hq => ?_, fun v hv => ?_, fun v hv => ?_, ?_, ?_, ?_⟩, ?_⟩
  · rw [hA _ (by omega) (by omega)]; exact a1
  · rw [hA _ (by omega) (by omega)]; exact a2
  · rw [hA _ (by omega) (by omega)]; exact a3
  · rw [hA _ (by omega) (by omega), hA _ (by omega) (by omega), hA _ (by omega) (by omega)]; exact b v hv
  · rw [hA _ (by omega) (by omega), hA _ (by omega) (by omega), hA _ (by omega) (by omega), hA _ (by omega) (by omega)]; exact c v hv
  · rw [hN _ (by omega)]; exact d v hv
  · rw [hN _ (by omega)]; exact e v hv
  · rw [hN _ (by omega)]; exact f v hv
  · rw [hA _ (by omega) (by omega), hA _ (by omega) (by omega)]; exact g1 q hq
  · rw [hA _ (by omega) (by omega), hA _ (by omega) (by omega), hA _ (by omega) (by omega)]; exact g2 v hv
  · rw [hA _ (by omega) (by omega)]; exact g3 v hv
  · rw [hA _ (by omega) (by omega)]; exact g4
  · rw [hA _ (by omega) (by omega)]; exact g5
  · rw [hA _ (by omega) (by omega)]; exact g6
  · rw [hA _ (by omega) (by omega)]; exact l
theorem VR.aP {w : Int64} (h : VR A N D S) (hn : d_v D ≤ 8) (h0 : N (88 + d_p D) = w) (hA : ∀ k, k ≠ 1960 → A' k = A k) (h1 : A' 1960 = nI (d_p D + 1)) : VR A' N (dPl D w) S := by
  obtain ⟨⟨⟨a1, a2, a3⟩, b, c, d, e, f⟩, ⟨g1, g2, g3, g4, g5, g6⟩, l⟩ := h
  refine ⟨⟨⟨h1, ?_, ?_⟩, fun v hv => ?_, fun v hv => ?_, fun v hv => ?_, e, f⟩, ⟨fun q hq => ?_, fun v hv => ?_, fun v hv => ?_, ?_, ?_, ?_⟩, ?_⟩
  · rw [hA _ (by omega)]; exact a2
  · rw [hA _ (by omega)]; exact a3
  · rw [hA _ (by omega), hA _ (by omega), hA _ (by omega)]; exact b v hv
  · rw [hA _ (by omega), hA _ (by omega), hA _ (by omega), hA _ (by omega)]; exact c v hv
  · have hv : v < d_p D + 1 := hv
    show N (88 + v) = updI (d_np D) (d_p D) w v
    by_cases q : v = d_p D
    · rw [q, updI_e, h0]
    · rw [updI_n q]; exact d v (by omega)
  · rw [hA _ (by omega), hA _ (by omega)]; exact g1 q hq
  · rw [hA _ (by omega), hA _ (by omega), hA _ (by omega)]; exact g2 v hv
  · rw [hA _ (by omega)]; exact g3 v hv
  · rw [hA _ (by omega)]; exact g4
  · rw [hA _ (by omega)]; exact g5
  · rw [hA _ (by omega)]; exact g6
  · rw [hA _ (by omega)]; exact l
theorem VR.aV {w : Int64} {te ho st s : Nat} (h : VR A N D S) (hn : d_v D < 8) (h0 : N (92 + d_v D) = w) (c0 : A (1980 + 6 * d_v D) = nI te) (c1 : A (1981 + 6 * d_v D) = nI ho) (c2 : A (1982 + 6 * d_v D) = nI st) (c3 : A (1983 + 6 * d_v D) = nI s) (c4 : A (1984 + 6 * d_v D) = 0) (c5 : A (1985 + 6 * d_v D) = 0) (hA : ∀ k, k ≠ 1961 → A' k = A k) (h1 : A' 1961 = nI (d_v D + 1)) : VR A' N (dVa D w te ho st) (updN S (d_v D) s) := by
  obtain ⟨⟨⟨a1, a2, a3⟩, b, c, d, e, f⟩, ⟨g1, g2, g3, g4, g5, g6⟩, l⟩ := h
  refine ⟨⟨⟨?_, h1, ?_⟩, fun v hv => ?_, fun v hv => ?_, d, fun v hv => ?_, f⟩, ⟨fun q hq => ?_, fun v hv => ?_, fun v hv => ?_, ?_, ?_, ?_⟩, ?_⟩
  · rw [hA _ (by omega)]; exact a1
  · rw [hA _ (by omega)]; exact a3
  · have hv : v < d_v D + 1 := hv
    rw [hA _ (by omega), hA _ (by omega), hA _ (by omega)]
    show A (1960 + 20 + 6 * v) = nI (updN (d_te D) (d_v D) te v) ∧ A (1960 + 21 + 6 * v) = nI (updN (d_ho D) (d_v D) ho v) ∧ A (1960 + 22 + 6 * v) = nI (updN (d_st D) (d_v D) st v)
    by_cases q : v = d_v D
    · rw [q, updN_e, updN_e, updN_e]; exact ⟨c0, c1, c2⟩
    · rw [updN_n q, updN_n q, updN_n q]; exact b v (by omega)
  · rw [hA _ (by omega), hA _ (by omega), hA _ (by omega), hA _ (by omega)]; exact c v hv
  · have hv : v < d_v D + 1 := hv
    show N (88 + 4 + v) = updI (d_nv D) (d_v D) w v
    by_cases q : v = d_v D
    · rw [q, updI_e]; exact h0
    · rw [updI_n q]; exact e v (by omega)
  · rw [hA _ (by omega), hA _ (by omega)]; exact g1 q hq
  · have hv : v < d_v D + 1 := hv
    rw [hA _ (by omega), hA _ (by omega), hA _ (by omega)]
    show A (1960 + 23 + 6 * v) = nI (updN S (d_v D) s v) ∧ A (1960 + 24 + 6 * v) = 0 ∧ A (1960 + 25 + 6 * v) = 0
    by_cases q : v = d_v D
    · rw [q, updN_e]; exact ⟨c3, c4, c5⟩
    · rw [updN_n q]; exact g2 v (by omega)
  · rw [hA _ (by omega)]; exact g3 v hv
  · rw [hA _ (by omega)]; exact g4
  · rw [hA _ (by omega)]; exact g5
  · rw [hA _ (by omega)]; exact g6
  · rw [hA _ (by omega)]; exact l
theorem VR.aS {w : Int64} {fs sn sl : Nat} {be : Bool} (h : VR A N D S) (hn : d_v D ≤ 8 ∧ d_s D < 10) (h0 : N (100 + d_s D) = w) (c0 : A (2030 + 5 * d_s D) = nI fs) (c1 : A (2031 + 5 * d_s D) = nI sn) (c2 : A (2032 + 5 * d_s D) = if be then 1 else 0) (c3 : A (2033 + 5 * d_s D) = nI sl) (c4 : A (2034 + 5 * d_s D) = 0) (hA : ∀ k, k ≠ 1962 → A' k = A k) (h1 : A' 1962 = nI (d_s D + 1)) : VR A' N (dSh D w fs sn sl be) S := by
  obtain ⟨⟨⟨a1, a2, a3⟩, b, c, d, e, f⟩, ⟨g1, g2, g3, g4, g5, g6⟩, l⟩ := h
  refine ⟨⟨⟨?_, ?_, h1⟩, fun v hv => ?_, fun v hv => ?_, d, e, fun v hv => ?_⟩, ⟨fun q hq => ?_, fun v hv => ?_, fun v hv => ?_, ?_, ?_, ?_⟩, ?_⟩
  · rw [hA _ (by omega)]; exact a1
  · rw [hA _ (by omega)]; exact a2
  · have hv : v < d_v D := hv
    rw [hA _ (by omega), hA _ (by omega), hA _ (by omega)]; exact b v hv
  · have hv : v < d_s D + 1 := hv
    rw [hA _ (by omega), hA _ (by omega), hA _ (by omega), hA _ (by omega)]
    show A (1960 + 70 + 5 * v) = nI (updN (d_fs D) (d_s D) fs v) ∧ A (1960 + 71 + 5 * v) = nI (updN (d_sn D) (d_s D) sn v) ∧ A (1960 + 72 + 5 * v) = (if (if v = d_s D then be else d_be D v) then 1 else 0) ∧ A (1960 + 73 + 5 * v) = nI (updN (d_sl D) (d_s D) sl v)
    by_cases q : v = d_s D
    · rw [q, updN_e, updN_e, updN_e, if_pos rfl]; exact ⟨c0, c1, c2, c3⟩
    · rw [updN_n q, updN_n q, updN_n q, if_neg q]; exact c v (by omega)
  · have hv : v < d_s D + 1 := hv
    show N (88 + 12 + v) = updI (d_ns D) (d_s D) w v
    by_cases q : v = d_s D
    · rw [q, updI_e]; exact h0
    · rw [updI_n q]; exact f v (by omega)
  · rw [hA _ (by omega), hA _ (by omega)]; exact g1 q hq
  · have hv : v < d_v D := hv
    rw [hA _ (by omega), hA _ (by omega), hA _ (by omega)]; exact g2 v hv
  · have hv : v < d_s D + 1 := hv
    rw [hA _ (by omega)]
    show A (1960 + 74 + 5 * v) = 0
    by_cases q : v = d_s D
    · rw [q]; exact c4
    · exact g3 v (by omega)
  · rw [hA _ (by omega)]; exact g4
  · rw [hA _ (by omega)]; exact g5
  · rw [hA _ (by omega)]; exact g6
  · rw [hA _ (by omega)]; exact l
theorem bNw {i : Nat} {w : Int64} {res : RZ Nat} {k : Nat → RZ β} {r : Option (Int32 × Mm)} {K : Mm → Option (Int32 × Mm)} {Q : RZ β → Int32 × Mm → Prop} (h : ok r (NwR σ X i w res)) (he : ∀ f τ, ErR τ f → RQ σ τ → Q (.error f) (0, τ)) (hk : ∀ a τ, res = .ok a → TxR τ X a → RQ (w_la σ 31 1 i w) τ → ok (K τ) (Q (k a))) : ok (c_I r (fun x τ => if x = 0 then some ((0 : Int32), τ) else K τ)) (Q (eb res k)) := by
  obtain ⟨⟨x, τ⟩, rfl, h⟩ := h
  rw [c_I_s]
  cases res with
  | error f =>
    obtain ⟨h1, h2, h3⟩ := h
    rw [if_pos h1]; exact ok_some (he f τ h2 h3)
  | ok a =>
    obtain ⟨h1, h2, h3⟩ := h
    have h1 : x = 1 := h1
    rw [if_neg (by rw [h1]; decide)]; exact hk a τ rfl h2 h3
theorem RQ.z {i : Nat} (h : m_ar σ 31 0 i = 0) : RQ (w_ar σ 31 0 i (nI 0)) σ := by
  refine ⟨?_, rfl, rfl, fun _ _ _ _ _ _ _ _ => rfl⟩
  funext o j k
  rw [m_ar_ar]
  by_cases c : o = 31 ∧ j = 0 ∧ k = i
  · rw [if_pos c, c.1, c.2.1, c.2.2, h]; rfl
  · rw [if_neg c]
theorem RQ.arq {i : Nat} {v : Int32} (h : RQ σ τ) : RQ (w_ar σ 31 0 i v) (w_ar τ 31 0 i v) := by
  refine ⟨?_, h.2.1, h.2.2.1, h.2.2.2⟩
  funext o j k
  rw [m_ar_ar, m_ar_ar, h.1]
theorem bOp (hX : WTx X) (h : TxR σ X p) {to j hi : Nat} (hj : j < 23) (h0 : m_ar σ 31 0 to = 0) (hto : to < 2950) (hhi : hi < 10000) {k : Nat × Nat → RZ β} {K : Mm → Option (Int32 × Mm)} {Q : RZ β → Int32 × Mm → Prop} (he : ∀ f τ, ErR τ f → RQ σ τ → Q (.error f) (0, τ)) (hk : ∀ a τ, sOp X (pi j) hi p = .ok a → TxR τ X a.2 → RQ (w_ar σ 31 0 to (nI a.1)) τ → ok (K τ) (Q (k a))) : ok (c_I (fX12_inWords 31 σ) (fun x σ' => if x = nI j then c_V (fX12_ahead 31 σ') (fun σ2 => c_I (fX12_number 31 (nI to) 0 (nI hi) σ2) (fun y σ3 => if y = 0 then some ((0 : Int32), σ3) else K σ3)) else K σ')) (Q (eb (sOp X (pi j) hi p) k)) := by
  rw [inWords_r hX h, c_I_s]
  by_cases c : tW X p = pi j
  · rw [if_pos ((krI_j (tW_le X p) hj).mpr c)]
    obtain ⟨τ, e1, e2, e3⟩ := ah_r hX h
    have e : sOp X (pi j) hi p = sNu X 0 hi (tE X p) := by unfold sOp; rw [if_pos c]
    rw [e] at hk ⊢
    rw [e1, c_V_s, ln_0]
    refine bN (number_r hX e2 hto (by decide) hhi) (fun f υ x q => he f υ x (e3.q.tr q)) (fun a υ x1 x2 x3 => hk a υ x1 x2 (e3.q.arq.tr x3))
  · rw [if_neg (fun q => c ((krI_j (tW_le X p) hj).mp q))]
    have e : sOp X (pi j) hi p = .ok (0, p) := by unfold sOp; rw [if_neg c]
    rw [e] at hk ⊢
    exact hk (0, p) σ rfl h (RQ.z h0)
theorem av31 (b : Nat) (hb : b + 6 ≤ 2950) : ∀ n i (σ : Mm), TxR σ X p → i ≤ 6 → 6 - i < n → ∃ τ, fX12_aVane_31 31 n (nI b) (nI i) σ = fX12_aVane_52 31 (nI b) τ ∧ TxR τ X p ∧ (∀ k, m_ar τ 31 0 k = if b + i ≤ k ∧ k < b + 6 then 0 else m_ar σ 31 0 k) ∧ m_la τ = m_la σ ∧ (1960 ≤ b → FR σ τ) := by
  intro n
  induction n with
  | zero => intro i σ _ _ h; omega
  | succ n ih =>
    intro i σ h hi hn
    rw [fX12_aVane_31, ln_6, ifle_n (by decide) (by omega)]
    by_cases c : 6 ≤ i
    · rw [if_pos c]
      exact ⟨σ, rfl, h, fun k => by rw [if_neg (by omega)], rfl, fun _ => FR.rf⟩
    · rw [if_neg c, nI_ad, s_ar_n (by omega) (by decide), nI_s]
      obtain ⟨τ, e1, e2, e3, e4, e5⟩ := ih (i + 1) (w_ar σ 31 0 (b + i) 0) (h.ar _ _) (by omega) (by omega)
      refine ⟨τ, e1, e2, fun k => ?_, e4, fun q => (FR.rf.ar (by omega)).tr (e5 q)⟩
      rw [e3 k, m_ar_ar]
      by_cases c1 : k = b + i
      · rw [if_neg (by omega), if_pos ⟨rfl, rfl, c1⟩, if_pos (by omega)]
      · rw [if_neg (show ¬ (31 = 31 ∧ 0 = 0 ∧ k = b + i) from fun q => c1 q.2.2)]
        by_cases c2 : b + (i + 1) ≤ k ∧ k < b + 6
        · rw [if_pos c2, if_pos (by omega)]
        · rw [if_neg c2, if_neg (by omega)]
theorem aVane_r (hX : WTx X) (hD : WFD D) (hn : d_v D < 8) (h : TxR σ X p) (hV : VR (m_ar σ 31 0) (m_la σ 31 1) D S) : ok (fX12_aVane 31 σ) (VQ σ X (spVa0 X D S p)) := by
  unfold fX12_aVane spVa0
  have hd := hD.1
  rw [show (1961 : Int32) = nI 1961 from rfl, g_ar_n (by decide) (by decide), show m_ar σ 31 0 1961 = nI (d_v D) from hV.1.1.2.1, ln_1, ln_8, ln_4, ln_6, show (1980 : Int32) = nI 1980 from rfl, nI_mul, nI_ad]
  refine bNw (newOne_r hX h hD.1 hV.1 (by decide) (by decide) (by decide) hn hV.1.1.2.1) (fun f τ e t => ⟨rfl, e, t.fr⟩) (fun p2 τ2 e2 x2 t2 => ?_)
  have f2 : FR σ τ2 := (FR.rf.la (by omega)).q t2
  obtain ⟨τ3, g1, x3, g2, g3, g4⟩ := av31 (1980 + 6 * d_v D) (by omega) FU 0 τ2 x2 (by decide) (FU_gt (by decide))
  have f3 : FR σ τ3 := f2.tr (g4 (by omega))
  have N3 : ∀ k, m_la τ3 31 1 k = if k = 92 + d_v D then tw X (tE X p) else m_la σ 31 1 k := fun k => by
    rw [g3, t2.2.1, m_la_la]
    by_cases c : k = 92 + d_v D
    · rw [if_pos ⟨rfl, rfl, by omega⟩, if_pos c]
    · rw [if_neg (by omega), if_neg c]
  have A3 : ∀ k, m_ar τ3 31 0 k = if 1980 + 6 * d_v D ≤ k ∧ k < 1980 + 6 * d_v D + 6 then 0 else m_ar σ 31 0 k := fun k => by rw [g2 k, t2.1]; rfl
  have V3 : VR (m_ar τ3 31 0) (m_la τ3 31 1) D S := hV.cg hd.2 (fun k _ hk => by rw [A3, if_neg (by omega)]) (fun k hk => by rw [N3, if_neg (by omega)])
  rw [show (0 : Int32) = nI 0 from rfl, g1]
  unfold fX12_aVane_52
  rw [show (1960 : Int32) = nI 1960 from rfl, ln_4, ln_60, ln_5, ln_88, ln_0, ln_6, ln_1, ln_2, ln_99]
  refine bR (wantWord_r hX x3 (j := 4) (by decide)) (fun f τ e t => ⟨rfl, e, f3.q t⟩) (fun p4 τ4 e4 x4 t4 => ?_)
  refine bN (number_r hX x4 (by omega) (by decide) (by decide)) (fun f τ e t => ⟨rfl, e, (f3.q t4).q t⟩) (fun t τ5 e5 x5 t5 => ?_)
  have f5 : FR σ τ5 := ((f3.q t4).ar (by omega)).q t5
  have ht := sNu_ok e5
  refine bR (wantWord_r hX x5 (j := 5) (by decide)) (fun f τ e t => ⟨rfl, e, f5.q t⟩) (fun p6 τ6 e6 x6 t6 => ?_)
  have A6 : ∀ k, m_ar τ6 31 0 k = if k = 1980 + 6 * d_v D then nI t.1 else m_ar τ3 31 0 k := fun k => by
    rw [t6.1, t5.1, m_ar_ar, t4.1]
    by_cases c : k = 1980 + 6 * d_v D
    · rw [if_pos ⟨rfl, rfl, c⟩, if_pos c]
    · rw [if_neg (fun q => c q.2.2), if_neg c]
  have N6 : m_la τ6 = m_la τ3 := t6.2.1.trans (t5.2.1.trans t4.2.1)
  have V6 : VR (m_ar τ6 31 0) (m_la τ6 31 1) D S := V3.cg hd.2 (fun k _ hk => by rw [A6, if_neg (by omega)]) (fun k hk => by rw [N6])
  rw [g_ar_n (by decide) (by decide), V6.1.1.1]
  refine bO (oldOne_r hX x6 (b := 88) (s := 0) (m := d_p D) (by omega) V6.1.2.2.2.1) (fun f τ e t => ⟨rfl, e, (f5.q t6).q t⟩) (fun hh τ7 e7 x7 v7 t7 => ?_)
  obtain ⟨τ8, h8, x8, t8⟩ := ah_r hX (x7.ar (1980 + 6 * d_v D + 1) (nI hh.1))
  have e7' := (sFd_ok e7).2.2
  have x8' : TxR τ8 X hh.2 := by rw [e7']; exact x8
  have A8 : ∀ k, m_ar τ8 31 0 k = if k = 1980 + 6 * d_v D + 1 then nI hh.1 else m_ar τ6 31 0 k := fun k => by
    rw [t8.1, m_ar_ar, t7.1]
    by_cases c : k = 1980 + 6 * d_v D + 1
    · rw [if_pos ⟨rfl, rfl, c⟩, if_pos c]
    · rw [if_neg (fun q => c q.2.2), if_neg c]
  have f8 : FR σ τ8 := (((f5.q t6).q t7).ar (by omega)).q t8.q
  rw [r_sc_s, v7, nI_ad, s_ar_n (by omega) (by decide), h8, c_V_s, nI_ad]
  refine bOp (to := 1980 + 6 * d_v D + 2) (j := 6) (hi := 99) hX x8' (by decide) (by rw [A8, if_neg (by omega), A6, if_neg (by omega), A3, if_pos (by omega)]) (by omega) (by decide) (fun f τ e t => ⟨rfl, e, f8.q t⟩) (fun s τ9 e9 x9 t9 => ?_)
  have f9 : FR σ τ9 := (f8.ar (by omega)).q t9
  have A9 : ∀ k, m_ar τ9 31 0 k = if k = 1980 + 6 * d_v D + 2 then nI s.1 else m_ar τ8 31 0 k := fun k => by
    rw [t9.1, m_ar_ar]
    by_cases c : k = 1980 + 6 * d_v D + 2
    · rw [if_pos ⟨rfl, rfl, c⟩, if_pos c]
    · rw [if_neg (fun q => c q.2.2), if_neg c]
  have N9 : m_la τ9 = m_la τ3 := t9.2.1.trans (t8.2.1.trans (t7.2.1.trans N6))
  have fin : ∀ (r : Nat × Nat) (ω : Mm), TxR ω X r.2 → (∀ k, m_ar ω 31 0 k = if k = 1980 + 6 * d_v D + 3 then nI r.1 else m_ar τ9 31 0 k) → m_la ω = m_la τ9 → FR σ ω → ok (g_ar ω 31 0 2950 (nI 1961) (fun x42 => s_ar ω 31 0 2950 (nI 1961) (x42 + 1) (fun σ43 => some ((1 : Int32), σ43)))) (VQ σ X (.ok (dVa D (tw X (tE X p)) t.1 hh.1 s.1, updN S (d_v D) r.1, r.2))) := by
    intro r ω xo Ao No fo
    have Vo : VR (m_ar ω 31 0) (m_la ω 31 1) D S := V6.cg hd.2 (fun k _ hk => by rw [Ao, if_neg (by omega), A9, if_neg (by omega), A8, if_neg (by omega)]) (fun k hk => by rw [No, N9, N6])
    rw [g_ar_n (by decide) (by decide), Vo.1.1.2.1, nI_s, s_ar_n (by decide) (by decide)]
    refine ok_some ⟨rfl, xo.ar _ _, ?_, fo.ar (by decide)⟩
    refine VR.aV Vo hn ?_ ?_ ?_ ?_ ?_ ?_ ?_ (fun k hk => by rw [m_ar_ar, if_neg (fun q => hk q.2.2)]) (by rw [m_ar_ar, if_pos ⟨rfl, rfl, rfl⟩])
    · show m_la ω 31 1 (92 + d_v D) = _
      rw [No, N9, N3, if_pos rfl]
    · rw [Ao, if_neg (by omega), A9, if_neg (by omega), A8, if_neg (by omega), A6, if_pos rfl]
    · rw [Ao, if_neg (by omega), A9, if_neg (by omega), A8, if_pos (by omega)]
    · rw [Ao, if_neg (by omega), A9, if_pos (by omega)]
    · rw [Ao, if_pos (by omega)]
    · rw [Ao, if_neg (by omega), A9, if_neg (by omega), A8, if_neg (by omega), A6, if_neg (by omega), A3, if_pos (by omega)]
    · rw [Ao, if_neg (by omega), A9, if_neg (by omega), A8, if_neg (by omega), A6, if_neg (by omega), A3, if_pos (by omega)]
  unfold fX12_aVane_149
  rw [inWords_r hX x9, c_I_s, show (7 : Int32) = nI 7 from rfl, show (1961 : Int32) = nI 1961 from rfl, show (3 : Int32) = nI 3 from rfl]
  by_cases c : tW X s.2 = 5
  · rw [if_pos ((krI_j (tW_le X s.2) (b := 7) (by decide)).mpr c)]
    obtain ⟨ω1, k1, k2, k3⟩ := ah_r hX x9
    have e : sOp X 5 (t.1 - 1) s.2 = sNu X 0 (t.1 - 1) (tE X s.2) := by unfold sOp; rw [if_pos c]
    have At : m_ar ω1 31 0 (1980 + 6 * d_v D) = nI t.1 := by rw [k3.1, A9, if_neg (by omega), A8, if_neg (by omega), A6, if_pos rfl]
    rw [e, k1, c_V_s, g_ar_n (by omega) (by decide), At, nI_p (by omega), nI_ad, show (0 : Int32) = nI 0 from rfl]
    refine bN (number_r hX k2 (by omega) (by decide) (by omega)) (fun f τ e t => ⟨rfl, e, (f9.q k3.q).q t⟩) (fun r ω2 e10 x10 t10 => ?_)
    refine fin r ω2 x10 (fun k => ?_) (t10.2.1.trans k3.2.1) (((f9.q k3.q).ar (by omega)).q t10)
    rw [t10.1, m_ar_ar, k3.1]
    by_cases c : k = 1980 + 6 * d_v D + 3
    · rw [if_pos ⟨rfl, rfl, c⟩, if_pos c]
    · rw [if_neg (fun q => c q.2.2), if_neg c]
  · rw [if_neg (fun q => c ((krI_j (tW_le X s.2) (b := 7) (by decide)).mp q))]
    have e : sOp X 5 (t.1 - 1) s.2 = .ok (0, s.2) := by unfold sOp; rw [if_neg c]
    rw [e, eb_o]
    refine fin (0, s.2) τ9 x9 (fun k => ?_) rfl f9
    by_cases c : k = 1980 + 6 * d_v D + 3
    · rw [if_pos c, c, A9, if_neg (by omega), A8, if_neg (by omega), A6, if_neg (by omega), A3, if_pos (by omega)]; rfl
    · rw [if_neg c]
theorem aShaft_r (hX : WTx X) (hD : WFD D) (hn : d_s D < 10) (h : TxR σ X p) (hV : VR (m_ar σ 31 0) (m_la σ 31 1) D S) {b : Bool} {s0 : Int32} (hb : s0 = if b then 1 else 0) : ok (fX12_aShaft 31 s0 σ) (VQ σ X (spSh0 X D S p b)) := by
  unfold fX12_aShaft spSh0
  have hd := hD.1
  rw [show (1962 : Int32) = nI 1962 from rfl, show (1961 : Int32) = nI 1961 from rfl, g_ar_n (by decide) (by decide), show m_ar σ 31 0 1962 = nI (d_s D) from hV.1.1.2.2, ln_2, ln_10, ln_12, ln_5, ln_3, ln_4, ln_8, ln_88, ln_9, show (2030 : Int32) = nI 2030 from rfl, nI_mul, nI_ad, nI_ad, nI_ad, nI_ad]
  refine bNw (newOne_r hX h hD.1 hV.1 (by decide) (by decide) (by decide) hn hV.1.1.2.2) (fun f τ e t => ⟨rfl, e, t.fr⟩) (fun p2 τ2 e2 x2 t2 => ?_)
  have f2 : FR σ τ2 := (FR.rf.la (by omega)).q t2
  rw [s_ar_n (by omega) (by decide), s_ar_n (by omega) (by decide), s_ar_n (by omega) (by decide)]
  have x3 : TxR (w_ar (w_ar (w_ar τ2 31 0 (2030 + 5 * d_s D + 2) s0) 31 0 (2030 + 5 * d_s D + 3) 0) 31 0 (2030 + 5 * d_s D + 4) 0) X p2 := ((x2.ar _ _).ar _ _).ar _ _
  have f3 : FR σ (w_ar (w_ar (w_ar τ2 31 0 (2030 + 5 * d_s D + 2) s0) 31 0 (2030 + 5 * d_s D + 3) 0) 31 0 (2030 + 5 * d_s D + 4) 0) := ((f2.ar (by omega)).ar (by omega)).ar (by omega)
  have N3 : ∀ k, m_la (w_ar (w_ar (w_ar τ2 31 0 (2030 + 5 * d_s D + 2) s0) 31 0 (2030 + 5 * d_s D + 3) 0) 31 0 (2030 + 5 * d_s D + 4) 0) 31 1 k = if k = 100 + d_s D then tw X (tE X p) else m_la σ 31 1 k := fun k => by
    show m_la τ2 31 1 k = _
    rw [t2.2.1, m_la_la]
    by_cases c : k = 100 + d_s D
    · rw [if_pos ⟨rfl, rfl, by omega⟩, if_pos c]
    · rw [if_neg (by omega), if_neg c]
  have A3 : ∀ k, m_ar (w_ar (w_ar (w_ar τ2 31 0 (2030 + 5 * d_s D + 2) s0) 31 0 (2030 + 5 * d_s D + 3) 0) 31 0 (2030 + 5 * d_s D + 4) 0) 31 0 k = if k = 2030 + 5 * d_s D + 4 then 0 else if k = 2030 + 5 * d_s D + 3 then 0 else if k = 2030 + 5 * d_s D + 2 then s0 else m_ar σ 31 0 k := fun k => by
    rw [m_ar_ar, m_ar_ar, m_ar_ar, t2.1]
    simp only [true_and]
    rfl
  have V3 : VR (m_ar (w_ar (w_ar (w_ar τ2 31 0 (2030 + 5 * d_s D + 2) s0) 31 0 (2030 + 5 * d_s D + 3) 0) 31 0 (2030 + 5 * d_s D + 4) 0) 31 0) (m_la (w_ar (w_ar (w_ar τ2 31 0 (2030 + 5 * d_s D + 2) s0) 31 0 (2030 + 5 * d_s D + 3) 0) 31 0 (2030 + 5 * d_s D + 4) 0) 31 1) D S := hV.cg hd.2 (fun k _ hk => by rw [A3, if_neg (by omega), if_neg (by omega), if_neg (by omega)]) (fun k hk => by rw [N3, if_neg (by omega)])
  generalize w_ar (w_ar (w_ar τ2 31 0 (2030 + 5 * d_s D + 2) s0) 31 0 (2030 + 5 * d_s D + 3) 0) 31 0 (2030 + 5 * d_s D + 4) 0 = τ3 at *
  refine bR (wantWord_r hX x3 (j := 8) (by decide)) (fun f τ e t => ⟨rfl, e, f3.q t⟩) (fun p4 τ4 e4 x4 t4 => ?_)
  have V4 : VR (m_ar τ4 31 0) (m_la τ4 31 1) D S := by rw [t4.1, t4.2.1]; exact V3
  have f4 := f3.q t4
  rw [g_ar_n (by decide) (by decide), V4.1.1.2.1]
  refine bO (oldOne_r hX x4 (b := 88) (s := 4) (m := d_v D) (by omega) V4.1.2.2.2.2.1) (fun f τ e t => ⟨rfl, e, f4.q t⟩) (fun f τ5 e5 x5 v5 t5 => ?_)
  obtain ⟨τ6, h6, x6, t6⟩ := ah_r hX (x5.ar (2030 + 5 * d_s D) (nI f.1))
  obtain ⟨hf, -, e5'⟩ := sFd_ok e5
  have x6' : TxR τ6 X f.2 := by rw [e5']; exact x6
  have f6 : FR σ τ6 := ((f4.q t5).ar (by omega)).q t6.q
  have A6 : ∀ k, m_ar τ6 31 0 k = if k = 2030 + 5 * d_s D then nI f.1 else m_ar τ3 31 0 k := fun k => by
    rw [t6.1, m_ar_ar, t5.1, t4.1]
    by_cases c : k = 2030 + 5 * d_s D
    · rw [if_pos ⟨rfl, rfl, c⟩, if_pos c]
    · rw [if_neg (fun q => c q.2.2), if_neg c]
  have N6 : m_la τ6 = m_la τ3 := t6.2.1.trans (t5.2.1.trans t4.2.1)
  have V6 : VR (m_ar τ6 31 0) (m_la τ6 31 1) D S := V3.cg hd.2 (fun k _ hk => by rw [A6, if_neg (by omega)]) (fun k hk => by rw [N6])
  rw [r_sc_s, v5, s_ar_n (by omega) (by decide), h6, c_V_s, g_ar_n (by decide) (by decide), V6.1.1.2.1, sF2_e hf, eb_as]
  refine bO (oldOne_r hX x6' (b := 88) (s := 4) (m := d_v D) (by omega) V6.1.2.2.2.2.1) (fun f τ e t => ⟨rfl, e, f6.q t⟩) (fun g τ7 e7 x7 v7 t7 => ?_)
  obtain ⟨hg, hg2, e7'⟩ := sFd_ok e7
  have f7 := f6.q t7
  have A7 : m_ar τ7 31 0 (2030 + 5 * d_s D) = nI f.1 := by rw [t7.1, A6, if_pos rfl]
  rw [r_sc_s, v7, g_ar_n (by omega) (by decide), A7]
  by_cases c : g.1 = f.1
  · rw [if_pos (by rw [c]), if_pos c, eb_r]
    exact ok_mono (fkz x7 (by rw [(isNm_e.mp hg2).1]; decide)) (fun q w => ⟨w.1, w.2.1, f7.q w.2.2⟩)
  · rw [if_neg (fun q => c ((nI_inj (by omega) (by omega)).mp q)), if_neg c, eb_o, r_sc_s, v7, ln_1, nI_ad, s_ar_n (by omega) (by decide)]
    obtain ⟨τ8, h8, x8, t8⟩ := ah_r hX (x7.ar (2030 + 5 * d_s D + 1) (nI g.1))
    have x8' : TxR τ8 X g.2 := by rw [e7']; exact x8
    have f8 : FR σ τ8 := (f7.ar (by omega)).q t8.q
    have A8 : ∀ k, m_ar τ8 31 0 k = if k = 2030 + 5 * d_s D + 1 then nI g.1 else m_ar τ6 31 0 k := fun k => by
      rw [t8.1, m_ar_ar, t7.1]
      by_cases c : k = 2030 + 5 * d_s D + 1
      · rw [if_pos ⟨rfl, rfl, c⟩, if_pos c]
      · rw [if_neg (fun q => c q.2.2), if_neg c]
    rw [h8, c_V_s]
    refine bOp (to := 2030 + 5 * d_s D + 3) (j := 9) (hi := 9) hX x8' (by decide) (by rw [A8, if_neg (by omega), A6, if_neg (by omega), A3, if_neg (by omega), if_pos rfl]) (by omega) (by decide) (fun f τ e t => ⟨rfl, e, f8.q t⟩) (fun l τ9 e9 x9 t9 => ?_)
    have f9 : FR σ τ9 := (f8.ar (by omega)).q t9
    have A9 : ∀ k, m_ar τ9 31 0 k = if k = 2030 + 5 * d_s D + 3 then nI l.1 else m_ar τ8 31 0 k := fun k => by
      rw [t9.1, m_ar_ar]
      by_cases c : k = 2030 + 5 * d_s D + 3
      · rw [if_pos ⟨rfl, rfl, c⟩, if_pos c]
      · rw [if_neg (fun q => c q.2.2), if_neg c]
    have N9 : m_la τ9 = m_la τ3 := t9.2.1.trans (t8.2.1.trans (t7.2.1.trans N6))
    have Vo : VR (m_ar τ9 31 0) (m_la τ9 31 1) D S := V6.cg hd.2 (fun k _ hk => by rw [A9, if_neg (by omega), A8, if_neg (by omega)]) (fun k hk => by rw [N9, N6])
    rw [g_ar_n (by decide) (by decide), Vo.1.1.2.2, nI_ad, s_ar_n (by decide) (by decide)]
    refine ok_some ⟨rfl, x9.ar _ _, ?_, f9.ar (by decide)⟩
    refine VR.aS Vo ⟨hd.2.1, hn⟩ ?_ ?_ ?_ ?_ ?_ ?_ (fun k hk => by rw [m_ar_ar, if_neg (fun q => hk q.2.2)]) (by rw [m_ar_ar, if_pos ⟨rfl, rfl, rfl⟩])
    · show m_la τ9 31 1 (100 + d_s D) = _
      rw [N9, N3, if_pos rfl]
    · rw [A9, if_neg (by omega), A8, if_neg (by omega), A6, if_pos rfl]
    · rw [A9, if_neg (by omega), A8, if_pos (by omega)]
    · rw [A9, if_neg (show ¬ 2032 + 5 * d_s D = 2030 + 5 * d_s D + 3 by omega), A8, if_neg (show ¬ 2032 + 5 * d_s D = 2030 + 5 * d_s D + 1 by omega), A6, if_neg (show ¬ 2032 + 5 * d_s D = 2030 + 5 * d_s D by omega), A3, if_neg (show ¬ 2032 + 5 * d_s D = 2030 + 5 * d_s D + 4 by omega), if_neg (show ¬ 2032 + 5 * d_s D = 2030 + 5 * d_s D + 3 by omega), if_pos (show 2032 + 5 * d_s D = 2030 + 5 * d_s D + 2 by omega), hb]
    · rw [A9, if_pos (by omega)]
    · rw [A9, if_neg (by omega), A8, if_neg (by omega), A6, if_neg (by omega), A3, if_pos (by omega)]
theorem bSg (hX : WTx X) {r : Option (Int32 × Mm)} {res : RZ V3} (h : ok r (VQ σ X res)) : ok (c_I r (fun x τ => if x = 0 then some ((0 : Int32), τ) else c_I (fX12_wantSign 31 59 τ) (fun y ω => if y = 0 then some ((0 : Int32), ω) else some ((1 : Int32), ω)))) (VQ σ X (eb res (kSg X))) := by
  obtain ⟨⟨x, τ⟩, rfl, h⟩ := h
  rw [c_I_s]
  cases res with
  | error f =>
    obtain ⟨h1, h2, h3⟩ := h
    rw [if_pos h1]; exact ok_some ⟨rfl, h2, h3⟩
  | ok a =>
    obtain ⟨h1, h2, h3, h4⟩ := h
    have h1 : x = 1 := h1
    rw [if_neg (by rw [h1]; decide), eb_o, kSg]
    exact bR (wantSign_r hX h2) (fun f υ e t => ⟨rfl, e, h4.q t⟩) (fun p υ _ x t => ok_some ⟨rfl, x, by show VR (m_ar υ 31 0) (m_la υ 31 1) a.1 a.2.1; rw [t.1, t.2.1]; exact h3, h4.q t⟩)
theorem villagePart_r (hX : WTx X) (hD : WFD D) (h : TxR σ X p) (hV : VR (m_ar σ 31 0) (m_la σ 31 1) D S) : ok (fX12_villagePart 31 σ) (VQ σ X (spPt X D S p)) := by
  unfold fX12_villagePart spPt
  have hd := hD.1
  have hW := tW_le X p
  rw [inWords_r hX h, c_I_s]
  have nok : ∀ n, tW X p = n → n < 23 → tK X p ≠ 1 := fun n e hn q => by
    unfold tW at e; rw [if_neg (by omega)] at e; omega
  have h6 : ∀ a m s, a < 3 → m_ar σ 31 0 (1960 + a) = nI m → tK X p ≠ 1 → ok (fX12_newOne 31 (nI a) (nI m) (nI s) σ) (VQ σ X (.error (6, tA X p))) := fun a m s ha hc hk => ok_mono (newOne_m h hk ha hc) (fun q w => ⟨w.1, w.2.1, w.2.2.fr⟩)
  by_cases c0 : tW X p = 0
  · rw [if_pos (show krI (tW X p) = 0 from (krI_j hW (b := 0) (by decide)).mpr c0), if_pos c0]
    by_cases cn : d_p D < 4
    · rw [if_pos cn, spPl_e]
      have key : ok (fX12_newOne 31 0 4 0 σ) (NwR σ X (88 + 0 + d_p D) (tw X (tE X p)) (sNw X D (tE X p))) := newOne_r hX h hD.1 hV.1 (a := 0) (m := 4) (s := 0) (by decide) (by decide) (by decide) cn hV.1.1.1
      obtain ⟨⟨x, τ⟩, e1, e2⟩ := key
      rw [e1, c_I_s, spPl0]
      cases er : sNw X D (tE X p) with
      | error f =>
        rw [er] at e2
        obtain ⟨z1, z2, z3⟩ := e2
        have z1 : x = 0 := z1
        subst z1
        have hc : m_ar τ 31 0 1960 = nI (d_p D) := by rw [z3.1]; exact hV.1.1.1
        rw [eb_r, eb_r, show (1960 : Int32) = nI 1960 from rfl, g_ar_n (by decide) (by decide), if_pos rfl, s_ar_n (by decide) (by decide), if_pos rfl]
        exact ok_some ⟨rfl, z2, (z3.fr).ar (by decide)⟩
      | ok p2 =>
        rw [er] at e2
        obtain ⟨z1, z2, z3⟩ := e2
        have z1 : x = 1 := z1
        subst z1
        have hA : m_ar τ = m_ar σ := z3.1
        have hc : m_ar τ 31 0 1960 = nI (d_p D) := by rw [hA]; exact hV.1.1.1
        rw [eb_o, eb_o, show (1960 : Int32) = nI 1960 from rfl, g_ar_n (by decide) (by decide), hc, if_neg (by decide), nI_s, s_ar_n (by decide) (by decide), if_neg (by decide), kSg]
        have fw : FR σ (w_ar τ 31 0 1960 (nI (d_p D + 1))) := ((FR.rf.la (by omega)).q z3).ar (by decide)
        have Vw : VR (m_ar (w_ar τ 31 0 1960 (nI (d_p D + 1))) 31 0) (m_la (w_ar τ 31 0 1960 (nI (d_p D + 1))) 31 1) (dPl D (tw X (tE X p))) S := by
          refine VR.aP (A := m_ar σ 31 0) (hV.cg hd.2 (fun k _ _ => rfl) (fun k hk => ?_)) hd.2.1 ?_ (fun k hk => by rw [m_ar_ar, if_neg (fun q => hk q.2.2), hA]) (by rw [m_ar_ar, if_pos ⟨rfl, rfl, rfl⟩])
          · show m_la τ 31 1 k = m_la σ 31 1 k
            rw [z3.2.1, m_la_la, if_neg (by omega)]
          · show m_la τ 31 1 (88 + d_p D) = _
            rw [z3.2.1, m_la_la, if_pos ⟨rfl, rfl, by omega⟩]
        exact bR (wantSign_r hX (z2.ar _ _)) (fun f υ e t => ⟨rfl, e, fw.q t⟩) (fun p υ _ x t => ok_some ⟨rfl, x, by show VR (m_ar υ 31 0) (m_la υ 31 1) _ _; rw [t.1, t.2.1]; exact Vw, fw.q t⟩)
    · rw [if_neg cn]
      have e4 : d_p D = 4 := by omega
      obtain ⟨⟨x, τ⟩, e1, e2⟩ : ok (fX12_newOne 31 0 4 0 σ) (fun q => q.1 = 0 ∧ ErR q.2 (6, tA X p) ∧ RQ σ q.2) := newOne_m h (a := 0) (m := 4) (s := 0) (nok 0 c0 (by decide)) (by decide) (by rw [← e4]; exact hV.1.1.1)
      have z1 : x = 0 := e2.1
      subst z1
      rw [e1, c_I_s, show (1960 : Int32) = nI 1960 from rfl, g_ar_n (by decide) (by decide), if_pos rfl, s_ar_n (by decide) (by decide), if_pos rfl]
      exact ok_some ⟨rfl, e2.2.1, (e2.2.2.fr).ar (by decide)⟩
  · rw [if_neg (show ¬ krI (tW X p) = 0 from fun q => c0 ((krI_j hW (b := 0) (by decide)).mp q)), if_neg c0]
    by_cases c1 : tW X p = 1
    · rw [if_pos (show krI (tW X p) = 1 from (krI_j hW (b := 1) (by decide)).mpr c1), if_pos c1]
      by_cases cn : d_v D < 8
      · rw [if_pos cn, spVa_e]
        exact bSg hX (aVane_r hX hD cn h hV)
      · rw [if_neg cn]
        refine bSg (res := .error (6, tA X p)) hX ?_
        have e4 : d_v D = 8 := by omega
        unfold fX12_aVane
        rw [show (1961 : Int32) = nI 1961 from rfl, g_ar_n (by decide) (by decide)]
        obtain ⟨⟨x, τ⟩, e1, e2⟩ : ok (fX12_newOne 31 1 8 4 σ) (VQ σ X (.error (6, tA X p))) := h6 1 8 4 (by decide) (by rw [← e4]; exact hV.1.1.2.1) (nok 1 c1 (by decide))
        have z1 : x = 0 := e2.1
        subst z1
        rw [e1, c_I_s, if_pos rfl]
        exact ok_some e2
    · rw [if_neg (show ¬ krI (tW X p) = 1 from fun q => c1 ((krI_j hW (b := 1) (by decide)).mp q)), if_neg c1]
      have hsm : ∀ s0, ¬ d_s D < 10 → tK X p ≠ 1 → ok (fX12_aShaft 31 s0 σ) (VQ σ X (.error (6, tA X p))) := fun s0 cn hk => by
        have e4 : d_s D = 10 := by omega
        unfold fX12_aShaft
        rw [show (1962 : Int32) = nI 1962 from rfl, g_ar_n (by decide) (by decide)]
        obtain ⟨⟨x, τ⟩, e1, e2⟩ : ok (fX12_newOne 31 2 10 12 σ) (VQ σ X (.error (6, tA X p))) := h6 2 10 12 (by decide) (by rw [← e4]; exact hV.1.1.2.2) hk
        have z1 : x = 0 := e2.1
        subst z1
        rw [e1, c_I_s, if_pos rfl]
        exact ok_some e2
      by_cases c6 : tW X p = 6
      · rw [if_pos (show krI (tW X p) = 2 from (krI_j hW (b := 2) (by decide)).mpr c6), if_pos c6]
        by_cases cn : d_s D < 10
        · rw [if_pos cn, spSh_e]
          exact bSg hX (aShaft_r hX hD cn h hV rfl)
        · rw [if_neg cn]
          exact bSg (res := .error (6, tA X p)) hX (hsm _ cn (nok 6 c6 (by decide)))
      · rw [if_neg (show ¬ krI (tW X p) = 2 from fun q => c6 ((krI_j hW (b := 2) (by decide)).mp q)), if_neg c6]
        by_cases c7 : tW X p = 7
        · rw [if_pos (show krI (tW X p) = 3 from (krI_j hW (b := 3) (by decide)).mpr c7), if_pos c7]
          by_cases cn : d_s D < 10
          · rw [if_pos cn, spSh_e]
            exact bSg hX (aShaft_r hX hD cn h hV rfl)
          · rw [if_neg cn]
            exact bSg (res := .error (6, tA X p)) hX (hsm _ cn (nok 7 c7 (by decide)))
        · rw [if_neg (show ¬ krI (tW X p) = 3 from fun q => c7 ((krI_j hW (b := 3) (by decide)).mp q)), if_neg c7, ln_2]
          exact ok_mono (ftz h) (fun q w => ⟨w.1, w.2.1, w.2.2.fr⟩)
end O
