/-! PURE 54: orders -/
def RoR (σ : Mm) (s : OS) : Prop := m_ar σ 31 0 1966 = nI (o_r s.1) ∧ (∀ r, r < o_r s.1 → RwR (m_ar σ 31 0) (2080 + 6 * r) (o_k s.1 r) (o_w s.1 r, o_h s.1 r, o_n s.1 r) ∧ (o_k s.1 r = 21 → m_ar σ 31 0 (2080 + 6 * r + 4) = nI (o_p s.1 r)) ∧ ((o_k s.1 r = 18 ∨ o_k s.1 r = 20) → OpB s r ∨ m_ar σ 31 0 (2080 + 6 * r + 4) = nI (o_p s.1 r))) ∧ m_sc σ 31 22 = nI s.2.2 ∧ m_sc σ 31 23 = nI (o_m s.1) ∧ ∀ i, i < s.2.2 → m_ar σ 31 7 i = nI (s.2.1 i)
def SR (σ : Mm) (X : TX) : RZ (OS × Nat) → Int32 × Mm → Prop
  | .ok a, q => q.1 = 1 ∧ TxR q.2 X a.2 ∧ RoR q.2 a.1 ∧ FR σ q.2
  | .error f, q => q.1 = 0 ∧ ErR q.2 f ∧ FR σ q.2
section O
variable {σ τ ω : Mm} {X : TX} {p R : Nat} {D : PD} {s : OS} {G : GS} {β : Type}
theorem RwR.cg {A A' : Nat → Int32} {k : Nat} {a : Nat × Nat × Nat} (h : RwR A R k a) (e : ∀ i, i < 6 → i ≠ 4 → A' (R + i) = A (R + i)) : RwR A' R k a := by
  obtain ⟨h0, h1, h2, h3, h4, h5⟩ := h
  have e0 : A' R = A R := e 0 (by decide) (by decide)
  refine ⟨by rw [e0]; exact h0, fun q => ?_, fun q => ?_, fun q => ?_, fun q => ?_, fun q => ?_⟩
  · rw [e 1 (by decide) (by decide), e 2 (by decide) (by decide), e 3 (by decide) (by decide)]; exact h1 q
  · rw [e 1 (by decide) (by decide)]; exact h2 q
  · rw [e 1 (by decide) (by decide)]; exact h3 q
  · rw [e 2 (by decide) (by decide)]; exact h4 q
  · rw [e 5 (by decide) (by decide)]; exact h5 q
theorem RoR.add {k : Nat} {a : Nat × Nat × Nat} (h : RoR σ s) (hk : k ≠ 21) (e1 : m_ar τ 31 0 1966 = nI (o_r s.1 + 1)) (eo : ∀ i, 2080 ≤ i → i < 2080 + 6 * o_r s.1 → m_ar τ 31 0 i = m_ar σ 31 0 i) (hv : RwR (m_ar τ 31 0) (2080 + 6 * o_r s.1) k a) (s22 : m_sc τ 31 22 = nI (addO s k a).2.2) (s23 : m_sc τ 31 23 = nI (o_m s.1 + 1)) (op : ∀ i, i < (addO s k a).2.2 → m_ar τ 31 7 i = nI ((addO s k a).2.1 i)) : RoR τ (addO s k a) := by
  refine ⟨e1, fun r hr => ?_, s22, s23, op⟩
  have hr : r < o_r s.1 + 1 := hr
  show RwR (m_ar τ 31 0) (2080 + 6 * r) (updN (o_k s.1) (o_r s.1) k r) (updN (o_w s.1) (o_r s.1) a.1 r, updN (o_h s.1) (o_r s.1) a.2.1 r, updN (o_n s.1) (o_r s.1) a.2.2 r) ∧ (updN (o_k s.1) (o_r s.1) k r = 21 → m_ar τ 31 0 (2080 + 6 * r + 4) = nI (o_p s.1 r)) ∧ ((updN (o_k s.1) (o_r s.1) k r = 18 ∨ updN (o_k s.1) (o_r s.1) k r = 20) → OpB (addO s k a) r ∨ m_ar τ 31 0 (2080 + 6 * r + 4) = nI (o_p s.1 r))
  by_cases q : r = o_r s.1
  · subst q
    rw [updN_e, updN_e, updN_e, updN_e]
    refine ⟨hv, fun z => absurd z hk, fun z => Or.inl ⟨s.2.2, ?_, ?_⟩⟩
    · show s.2.2 < (if opn k = true then s.2.2 + 1 else s.2.2)
      rw [if_pos (opn_e.mpr z)]; omega
    · show (if opn k = true then updN s.2.1 s.2.2 (o_r s.1) else s.2.1) s.2.2 = o_r s.1
      rw [if_pos (opn_e.mpr z), updN_e]
  · obtain ⟨b1, b2, b3⟩ := h.2.1 r (by omega)
    rw [updN_n q, updN_n q, updN_n q, updN_n q, eo (2080 + 6 * r + 4) (by omega) (by omega)]
    exact ⟨b1.cg (fun i hi _ => eo _ (by omega) (by omega)), b2, fun z => (b3 z).imp (fun w => w.add) id⟩
theorem TxR.ar7 (h : TxR σ X p) (i : Nat) (v : Int32) : TxR (w_ar σ 31 7 i v) X p := ⟨h.1, ⟨h.2.1.1, fun k hk => by rw [m_ar_ar, if_neg (by omega)]; exact h.2.1.2 k hk⟩, h.2.2⟩
theorem TxR.s2 (h : TxR σ X p) {k : Nat} (v : Int32) (hk : k = 22 ∨ k = 23) : TxR (w_sc σ 31 k v) X p := by
  obtain ⟨a, ⟨b1, b2⟩, ⟨c1, c2, c3, c4, c5⟩, d1, d2⟩ := h
  refine ⟨a, ⟨?_, b2⟩, ⟨?_, ?_, ?_, fun q => ?_, fun q => ?_⟩, ?_, ?_⟩ <;> rw [m_sc_sc, if_neg (by omega)]
  · exact b1
  · exact c1
  · exact c2
  · exact c3
  · exact c4 q
  · exact c5 q
  · exact d1
  · exact d2
theorem FR.ar7 {i : Nat} {v : Int32} (h : FR σ τ) : FR σ (w_ar τ 31 7 i v) := h.tr ⟨rfl, fun _ _ _ _ => rfl, fun j _ _ hj => by funext k; rw [m_ar_ar, if_neg (fun z => hj z.2.1)], fun k hk => by rw [m_ar_ar, if_neg (fun z => by omega)], fun _ _ => rfl, fun _ _ => rfl⟩
theorem FR.s2 {k : Nat} {v : Int32} (h : FR σ τ) (hk : k = 22 ∨ k = 23) : FR σ (w_sc τ 31 k v) := h.tr ⟨rfl, fun i _ a b => by rw [m_sc_sc, if_neg (by omega)], fun _ _ _ _ => rfl, fun _ _ => rfl, fun _ _ => rfl, fun _ _ => rfl⟩
theorem PlR.fr (hD : WFD D) (hP : PlR (m_ar σ 31 0) (m_la σ 31 1) 0 0 D) (g : FR σ τ) : PlR (m_ar τ 31 0) (m_la τ 31 1) 0 0 D := PlR.cg (i := 0) hD (fun k _ hk => g.2.2.2.1 k (by omega)) (fun k _ hk => g.2.2.2.2.2 k (by omega)) hP
theorem st171 (hR : 1960 ≤ R ∧ R + 6 ≤ 2950) {v1 v2 v4 : Int32} : ∀ n i (σ : Mm), TxR σ X p → i ≤ 6 → 6 - i < n → ∃ τ, fX12_step_171 31 n v1 v2 (nI R) v4 (nI i) σ = fX12_step_194 31 v1 v2 (nI R) v4 τ ∧ TxR τ X p ∧ (∀ k, m_ar τ 31 0 k = if R + i ≤ k ∧ k < R + 6 then 0 else m_ar σ 31 0 k) ∧ (∀ j, j ≠ 0 → m_ar τ 31 j = m_ar σ 31 j) ∧ m_la τ = m_la σ ∧ m_sc τ = m_sc σ ∧ FR σ τ := by
  intro n
  induction n with
  | zero => intro i σ _ _ h; omega
  | succ n ih =>
    intro i σ h hi hn
    rw [fX12_step_171, ln_6, ifle_n (by decide) (by omega)]
    by_cases c : 6 ≤ i
    · rw [if_pos c]
      exact ⟨σ, rfl, h, fun k => by rw [if_neg (by omega)], fun _ _ => rfl, rfl, rfl, FR.rf⟩
    · rw [if_neg c, nI_ad, s_ar_n (by omega) (by decide), nI_s]
      obtain ⟨τ, e1, e2, e3, e4, e5, e6, e7⟩ := ih (i + 1) (w_ar σ 31 0 (R + i) 0) (h.ar _ _) (by omega) (by omega)
      refine ⟨τ, e1, e2, fun k => ?_, fun j hj => ?_, e5, e6, (FR.rf.ar (by omega)).tr e7⟩
      · rw [e3 k, m_ar_ar]
        by_cases c1 : k = R + i
        · rw [if_neg (by omega), if_pos ⟨rfl, rfl, c1⟩, if_pos (by omega)]
        · rw [if_neg (show ¬ (31 = 31 ∧ 0 = 0 ∧ k = R + i) from fun q => c1 q.2.2)]
          by_cases c2 : R + (i + 1) ≤ k ∧ k < R + 6
          · rw [if_pos c2, if_pos (by omega)]
          · rw [if_neg c2, if_neg (by omega)]
      · rw [e4 j hj]; funext k; rw [m_ar_ar, if_neg (fun z => hj z.2.1)]
/-- what a row begins with -/
theorem st141 (hX : WTx X) (hD : WFD D) (hI : IvO D s) (h58 : o_r s.1 < 60) (hC : RoR σ s) (h : TxR σ X p) {k m : Nat} (hk : k < 23) {v4 : Int32} (hm : m = if k = 21 then o_m s.1 else o_m s.1 + 1) : ∃ τ, fX12_step_141 31 (nI (pm k)) (nI (o_r s.1)) (nI (2080 + 6 * o_r s.1)) v4 σ = c_I (fX12_order 31 (nI (pm k)) (nI (2080 + 6 * o_r s.1)) τ) (fun x68 σ66 => if x68 = 0 then some ((0 : Int32), σ66) else (if v4 = 0 then (fX12_step_246 31 (nI (pm k)) (nI (o_r s.1)) (nI (2080 + 6 * o_r s.1)) σ66) else (r_sc σ66 31 22 (fun x69 => s_ar σ66 31 7 3 x69 (nI (o_r s.1)) (fun σ70 => r_sc σ70 31 22 (fun x71 => p_sc σ70 31 22 (x71 + (1 : Int32)) (fun σ72 => fX12_step_246 31 (nI (pm k)) (nI (o_r s.1)) (nI (2080 + 6 * o_r s.1)) σ72))))))) ∧ TxR τ X (tE X p) ∧ FR σ τ ∧ m_ar τ 31 0 1966 = nI (o_r s.1 + 1) ∧ m_ar τ 31 0 (2080 + 6 * o_r s.1) = nI (pm k) ∧ (∀ i, 2080 ≤ i → i < 2080 + 6 * o_r s.1 → m_ar τ 31 0 i = m_ar σ 31 0 i) ∧ m_sc τ 31 23 = nI m ∧ m_sc τ 31 22 = nI s.2.2 ∧ m_ar τ 31 7 = m_ar σ 31 7 := by
  have hpk := (pm_lt k hk).1
  unfold fX12_step_141
  have hp21 : nI (pm k) = 21 ↔ k = 21 := by
    rw [show (21 : Int32) = nI 21 from rfl, nI_inj (by omega) (by decide)]
    have := pm_lt k hk
    have h21 := pm_lt 21 (by decide)
    constructor
    · intro q
      have e : pi (pm k) = pi 21 := by rw [q]
      rw [this.2] at e; exact e
    · intro q; rw [q]; rfl
  have go : ∃ τ, fX12_step_171 31 FU (nI (pm k)) (nI (o_r s.1)) (nI (2080 + 6 * o_r s.1)) v4 1 (w_ar (w_sc σ 31 23 (nI m)) 31 0 (2080 + 6 * o_r s.1) (nI (pm k))) = c_I (fX12_order 31 (nI (pm k)) (nI (2080 + 6 * o_r s.1)) τ) (fun x68 σ66 => if x68 = 0 then some ((0 : Int32), σ66) else (if v4 = 0 then (fX12_step_246 31 (nI (pm k)) (nI (o_r s.1)) (nI (2080 + 6 * o_r s.1)) σ66) else (r_sc σ66 31 22 (fun x69 => s_ar σ66 31 7 3 x69 (nI (o_r s.1)) (fun σ70 => r_sc σ70 31 22 (fun x71 => p_sc σ70 31 22 (x71 + (1 : Int32)) (fun σ72 => fX12_step_246 31 (nI (pm k)) (nI (o_r s.1)) (nI (2080 + 6 * o_r s.1)) σ72))))))) ∧ TxR τ X (tE X p) ∧ FR σ τ ∧ m_ar τ 31 0 1966 = nI (o_r s.1 + 1) ∧ m_ar τ 31 0 (2080 + 6 * o_r s.1) = nI (pm k) ∧ (∀ i, 2080 ≤ i → i < 2080 + 6 * o_r s.1 → m_ar τ 31 0 i = m_ar σ 31 0 i) ∧ m_sc τ 31 23 = nI m ∧ m_sc τ 31 22 = nI s.2.2 ∧ m_ar τ 31 7 = m_ar σ 31 7 := by
    obtain ⟨τ1, e1, x1, a1, j1, l1, s1, f1⟩ := st171 (R := 2080 + 6 * o_r s.1) (by omega) (v1 := nI (pm k)) (v2 := nI (o_r s.1)) (v4 := v4) FU 1 (w_ar (w_sc σ 31 23 (nI m)) 31 0 (2080 + 6 * o_r s.1) (nI (pm k))) ((h.s2 (nI m) (Or.inr rfl)).ar _ _) (by decide) (FU_gt (by decide))
    rw [show (1 : Int32) = nI 1 from rfl, e1]
    unfold fX12_step_194
    have c1 : m_ar τ1 31 0 1966 = nI (o_r s.1) := by rw [a1, if_neg (by omega), m_ar_ar, if_neg (by omega)]; exact hC.1
    obtain ⟨τ2, e2, x2, t2⟩ := ah_r hX (x1.ar 1966 (nI (o_r s.1 + 1)))
    rw [show (1966 : Int32) = nI 1966 from rfl, g_ar_n (by decide) (by decide), c1, nI_s, s_ar_n (by decide) (by decide), e2, c_V_s]
    have f2 : FR σ τ2 := ((((FR.rf.s2 (Or.inr rfl)).ar (by omega)).tr f1).ar (by decide)).q t2.q
    refine ⟨τ2, rfl, x2, f2, ?_, ?_, fun i h1 h2 => ?_, ?_, ?_, ?_⟩
    · rw [t2.1, m_ar_ar, if_pos ⟨rfl, rfl, rfl⟩]
    · rw [t2.1, m_ar_ar, if_neg (by omega), a1, if_neg (by omega), m_ar_ar, if_pos ⟨rfl, rfl, rfl⟩]
    · rw [t2.1, m_ar_ar, if_neg (by omega), a1, if_neg (by omega), m_ar_ar, if_neg (by omega)]; rfl
    · rw [t2.2.2.2 23 (by decide) (by decide) (by decide) (by decide)]
      show m_sc τ1 31 23 = _
      rw [s1]
      show m_sc (w_sc σ 31 23 (nI m)) 31 23 = _
      rw [m_sc_sc, if_pos ⟨rfl, rfl⟩]
    · rw [t2.2.2.2 22 (by decide) (by decide) (by decide) (by decide)]
      show m_sc τ1 31 22 = _
      rw [s1]
      show m_sc (w_sc σ 31 23 (nI m)) 31 22 = _
      rw [m_sc_sc, if_neg (by omega)]; exact hC.2.2.1
    · rw [t2.1]
      funext i
      rw [m_ar_ar, if_neg (by omega), j1 7 (by decide), m_ar_ar, if_neg (by omega)]; rfl
  rw [r_sc_s, hC.2.2.2.1]
  by_cases c : k = 21
  · rw [if_pos c] at hm
    rw [if_pos (hp21.mpr c), show nI (o_m s.1) + 0 = nI m by rw [hm]; exact nI_ad _ 0, p_sc_s, s_ar_n (by omega) (by decide)]
    exact go
  · rw [if_neg c] at hm
    rw [if_neg (fun q => c (hp21.mp q)), nI_s, ← hm, p_sc_s, s_ar_n (by omega) (by decide)]
    exact go
theorem stepB (hX : WTx X) (hD : WFD D) (hP : PlR (m_ar σ 31 0) (m_la σ 31 1) 0 0 D) (hI : IvO D s) (hC : RoR σ s) (h : TxR σ X p) {k : Nat} (hk : isStp k = true) (hm : o_m s.1 < 30) (hop : opn k = true → s.2.2 < 3) : ok (fX12_step_141 31 (nI (pm k)) (nI (o_r s.1)) (nI (2080 + 6 * o_r s.1)) (if opn k = true then 1 else 0) σ) (SR σ X (eb (sRw X D k (tE X p)) fun a => eb (sSg X a.2) fun q => .ok (addO s k a.1, q))) := by
  have hi := hI.1
  have hk' := isStp_e.mp hk
  obtain ⟨τ, e, x, f, c1, c2, c3, c4, c5, c6⟩ := st141 hX hD hI (by omega) hC h (k := k) (m := o_m s.1 + 1) (by omega) (v4 := if opn k = true then 1 else 0) (by rw [if_neg (by omega)])
  rw [e]
  obtain ⟨⟨y, υ⟩, e1, e2⟩ := order_r (R := 2080 + 6 * o_r s.1) hX hD x (hP.fr hD f) (by omega) hk c2
  rw [e1, c_I_s]
  cases er : sRw X D k (tE X p) with
  | error g =>
    rw [er] at e2
    obtain ⟨z1, z2, z3⟩ := e2
    have z1 : y = 0 := z1
    rw [if_pos z1, eb_r]
    exact ok_some ⟨rfl, z2, f.tr (z3.fr (by omega))⟩
  | ok a =>
    rw [er] at e2
    obtain ⟨z1, z2, z3, z4⟩ := e2
    have z1 : y = 1 := z1
    have fu : FR σ υ := f.tr (z4.fr (by omega))
    have u22 : m_sc υ 31 22 = nI s.2.2 := (z4.2.2.2.2 22 (by decide) (by decide) (by decide) (by decide) (by decide) (by decide) (by decide)).trans c5
    have u23 : m_sc υ 31 23 = nI (o_m s.1 + 1) := (z4.2.2.2.2 23 (by decide) (by decide) (by decide) (by decide) (by decide) (by decide) (by decide)).trans c4
    have u7 : m_ar υ 31 7 = m_ar σ 31 7 := (z4.2.1 7 (by decide)).trans c6
    have u66 : m_ar υ 31 0 1966 = nI (o_r s.1 + 1) := (z4.1 1966 (by omega)).trans c1
    have uo : ∀ i, 2080 ≤ i → i < 2080 + 6 * o_r s.1 → m_ar υ 31 0 i = m_ar σ 31 0 i := fun i h1 h2 => (z4.1 i (by omega)).trans (c3 i h1 h2)
    have hn21 : ¬ nI (pm k) = 21 := fun q => by
      have := pm_lt k (by omega)
      have q := (nI_inj (b := 21) (by omega) (by decide)).mp q
      have e : pi (pm k) = pi 21 := by rw [q]
      rw [this.2] at e
      have : k = 21 := e
      omega
    rw [if_neg (by rw [z1]; decide), eb_o]
    by_cases c : opn k = true
    · have h2 := hop c
      have v22 : ∀ i v, m_sc (w_ar υ 31 7 i v) 31 22 = nI s.2.2 := fun _ _ => u22
      rw [if_pos c, if_neg (by decide), r_sc_s, u22, s_ar_n (by omega) (by decide), r_sc_s, v22, nI_s, p_sc_s]
      unfold fX12_step_246
      rw [if_neg hn21]
      have xs : TxR (w_sc (w_ar υ 31 7 s.2.2 (nI (o_r s.1))) 31 22 (nI (s.2.2 + 1))) X a.2 := (TxR.ar7 z2 _ _).s2 _ (Or.inl rfl)
      have fs : FR σ (w_sc (w_ar υ 31 7 s.2.2 (nI (o_r s.1))) 31 22 (nI (s.2.2 + 1))) := (fu.ar7).s2 (Or.inl rfl)
      obtain ⟨⟨y2, κ⟩, g1, g2⟩ := wantSign_r hX xs
      rw [g1, c_I_s]
      cases eg : sSg X a.2 with
      | error w =>
        rw [eg] at g2
        obtain ⟨w1, w2, w3⟩ := g2
        have w1 : y2 = 0 := w1
        subst w1
        exact ok_some ⟨rfl, w2, fs.q w3⟩
      | ok q =>
        rw [eg] at g2
        obtain ⟨w1, w2, w3⟩ := g2
        have w1 : y2 = 1 := w1
        subst w1
        have w3 : RQ (w_sc (w_ar υ 31 7 s.2.2 (nI (o_r s.1))) 31 22 (nI (s.2.2 + 1))) κ := w3
        have ka : ∀ i, m_ar κ 31 0 i = m_ar υ 31 0 i := fun i => by rw [w3.1]; show m_ar (w_ar υ 31 7 s.2.2 (nI (o_r s.1))) 31 0 i = _; rw [m_ar_ar, if_neg (by omega)]
        refine ok_some ⟨rfl, w2, RoR.add hC (by omega) ?_ (fun i h1 h2 => ?_) ?_ ?_ ?_ (fun i hi => ?_), fs.q w3⟩
        · show m_ar κ 31 0 1966 = _
          rw [ka]; exact u66
        · show m_ar κ 31 0 i = _
          rw [ka]; exact uo i h1 h2
        · exact RwR.cg z3 (fun i _ _ => ka _)
        · show m_sc κ 31 22 = nI (if opn k = true then s.2.2 + 1 else s.2.2)
          rw [if_pos c, w3.2.2.2 22 (by decide) (by decide) (by decide) (by decide) (by decide) (by decide) (by decide), m_sc_sc, if_pos ⟨rfl, rfl⟩]
        · show m_sc κ 31 23 = _
          rw [w3.2.2.2 23 (by decide) (by decide) (by decide) (by decide) (by decide) (by decide) (by decide), m_sc_sc, if_neg (by omega)]; exact u23
        · have hi : i < (if opn k = true then s.2.2 + 1 else s.2.2) := hi
          rw [if_pos c] at hi
          show m_ar κ 31 7 i = nI ((if opn k = true then updN s.2.1 s.2.2 (o_r s.1) else s.2.1) i)
          rw [if_pos c, w3.1]
          show m_ar (w_ar υ 31 7 s.2.2 (nI (o_r s.1))) 31 7 i = _
          rw [m_ar_ar]
          by_cases v : i = s.2.2
          · rw [if_pos ⟨rfl, rfl, v⟩, v, updN_e]
          · rw [if_neg (fun z => v z.2.2), updN_n v, u7]; exact hC.2.2.2.2 i (by omega)
    · rw [if_neg c, if_pos rfl]
      unfold fX12_step_246
      rw [if_neg hn21]
      have z2 : TxR υ X a.2 := z2
      obtain ⟨⟨y2, κ⟩, g1, g2⟩ := wantSign_r hX z2
      rw [g1, c_I_s]
      cases eg : sSg X a.2 with
      | error w =>
        rw [eg] at g2
        obtain ⟨w1, w2, w3⟩ := g2
        have w1 : y2 = 0 := w1
        subst w1
        exact ok_some ⟨rfl, w2, fu.q w3⟩
      | ok q =>
        rw [eg] at g2
        obtain ⟨w1, w2, w3⟩ := g2
        have w1 : y2 = 1 := w1
        subst w1
        have w3 : RQ υ κ := w3
        refine ok_some ⟨rfl, w2, RoR.add hC (by omega) ?_ (fun i h1 h2 => ?_) ?_ ?_ ?_ (fun i hi => ?_), fu.q w3⟩
        · show m_ar κ 31 0 1966 = _
          rw [w3.1]; exact u66
        · show m_ar κ 31 0 i = _
          rw [w3.1]; exact uo i h1 h2
        · exact RwR.cg z3 (fun i _ _ => by show m_ar κ 31 0 _ = _; rw [w3.1])
        · show m_sc κ 31 22 = nI (if opn k = true then s.2.2 + 1 else s.2.2)
          rw [if_neg c, w3.2.2.2 22 (by decide) (by decide) (by decide) (by decide) (by decide) (by decide) (by decide)]; exact u22
        · show m_sc κ 31 23 = _
          rw [w3.2.2.2 23 (by decide) (by decide) (by decide) (by decide) (by decide) (by decide) (by decide)]; exact u23
        · have hi : i < (if opn k = true then s.2.2 + 1 else s.2.2) := hi
          rw [if_neg c] at hi
          show m_ar κ 31 7 i = nI ((if opn k = true then updN s.2.1 s.2.2 (o_r s.1) else s.2.1) i)
          rw [if_neg c, w3.1, u7]; exact hC.2.2.2.2 i hi
theorem stepE (hX : WTx X) (hD : WFD D) (hI : IvO D s) (hC : RoR σ s) (h : TxR σ X p) (h0 : 0 < s.2.2) : ok (fX12_step_141 31 (nI (pm 21)) (nI (o_r s.1)) (nI (2080 + 6 * o_r s.1)) 0 σ) (SR σ X (eb (sSg X (tE X p)) fun q => .ok (clsO s, q))) := by
  have hi := hI.1
  obtain ⟨cb1, cb2⟩ := hI.2.2.1 (s.2.2 - 1) (by omega)
  obtain ⟨τ, e, x, f, c1, c2, c3, c4, c5, c6⟩ := st141 hX hD hI (by omega) hC h (k := 21) (m := o_m s.1) (by omega) (v4 := 0) (by rw [if_pos rfl])
  rw [e, show nI (pm 21) = nI 21 from rfl, order_21, c_I_s, if_neg (by decide), if_pos rfl]
  unfold fX12_step_246
  have ub : m_ar (w_sc τ 31 22 (nI (s.2.2 - 1))) 31 7 (s.2.2 - 1) = nI (s.2.1 (s.2.2 - 1)) := by
    show m_ar τ 31 7 (s.2.2 - 1) = _
    rw [c6]; exact hC.2.2.2.2 _ (by omega)
  generalize hbb : s.2.1 (s.2.2 - 1) = bb at *
  have u1 : m_sc (w_sc τ 31 22 (nI (s.2.2 - 1))) 31 22 = nI (s.2.2 - 1) := by rw [m_sc_sc, if_pos ⟨rfl, rfl⟩]
  have u2 : ∀ i v, m_sc (w_ar (w_sc τ 31 22 (nI (s.2.2 - 1))) 31 0 i v) 31 22 = nI (s.2.2 - 1) := fun _ _ => u1
  have ub2 : ∀ i v, m_ar (w_ar (w_sc τ 31 22 (nI (s.2.2 - 1))) 31 0 i v) 31 7 (s.2.2 - 1) = nI bb := fun i v => by rw [m_ar_ar, if_neg (by omega)]; exact ub
  rw [if_pos (by decide), r_sc_s, c5, nI_p (by omega), p_sc_s, r_sc_s, u1, g_ar_n (by omega) (by decide), ub, show nI (2080 + 6 * o_r s.1) + 4 = nI (2080 + 6 * o_r s.1 + 4) from nI_ad _ 4, s_ar_n (by omega) (by decide), r_sc_s, u2, g_ar_n (by omega) (by decide), ub2, show (2080 : Int32) = nI 2080 from rfl, ln_6, nI_mul, nI_ad, show nI (2080 + 6 * bb) + 4 = nI (2080 + 6 * bb + 4) from nI_ad _ 4, s_ar_n (by omega) (by decide)]
  have xs : TxR (w_ar (w_ar (w_sc τ 31 22 (nI (s.2.2 - 1))) 31 0 (2080 + 6 * o_r s.1 + 4) (nI bb)) 31 0 (2080 + 6 * bb + 4) (nI (o_r s.1))) X (tE X p) := ((x.s2 _ (Or.inl rfl)).ar _ _).ar _ _
  have fs : FR σ (w_ar (w_ar (w_sc τ 31 22 (nI (s.2.2 - 1))) 31 0 (2080 + 6 * o_r s.1 + 4) (nI bb)) 31 0 (2080 + 6 * bb + 4) (nI (o_r s.1))) := ((f.s2 (Or.inl rfl)).ar (by omega)).ar (by omega)
  have hA : ∀ i, m_ar (w_ar (w_ar (w_sc τ 31 22 (nI (s.2.2 - 1))) 31 0 (2080 + 6 * o_r s.1 + 4) (nI bb)) 31 0 (2080 + 6 * bb + 4) (nI (o_r s.1))) 31 0 i = if i = 2080 + 6 * bb + 4 then nI (o_r s.1) else if i = 2080 + 6 * o_r s.1 + 4 then nI bb else m_ar τ 31 0 i := fun i => by
    rw [m_ar_ar, m_ar_ar]
    simp only [true_and]
    rfl
  have h7 : m_ar (w_ar (w_ar (w_sc τ 31 22 (nI (s.2.2 - 1))) 31 0 (2080 + 6 * o_r s.1 + 4) (nI bb)) 31 0 (2080 + 6 * bb + 4) (nI (o_r s.1))) 31 7 = m_ar σ 31 7 := by
    funext i
    rw [m_ar_ar, if_neg (by omega), m_ar_ar, if_neg (by omega)]
    show m_ar τ 31 7 i = _
    rw [c6]
  have h22 : m_sc (w_ar (w_ar (w_sc τ 31 22 (nI (s.2.2 - 1))) 31 0 (2080 + 6 * o_r s.1 + 4) (nI bb)) 31 0 (2080 + 6 * bb + 4) (nI (o_r s.1))) 31 22 = nI (s.2.2 - 1) := u1
  have h23 : m_sc (w_ar (w_ar (w_sc τ 31 22 (nI (s.2.2 - 1))) 31 0 (2080 + 6 * o_r s.1 + 4) (nI bb)) 31 0 (2080 + 6 * bb + 4) (nI (o_r s.1))) 31 23 = nI (o_m s.1) := by
    show m_sc (w_sc τ 31 22 (nI (s.2.2 - 1))) 31 23 = _
    rw [m_sc_sc, if_neg (by omega)]; exact c4
  generalize w_ar (w_ar (w_sc τ 31 22 (nI (s.2.2 - 1))) 31 0 (2080 + 6 * o_r s.1 + 4) (nI bb)) 31 0 (2080 + 6 * bb + 4) (nI (o_r s.1)) = μ at *
  obtain ⟨⟨y2, κ⟩, g1, g2⟩ := wantSign_r hX xs
  rw [g1, c_I_s]
  cases eg : sSg X (tE X p) with
  | error w =>
    rw [eg] at g2
    obtain ⟨w1, w2, w3⟩ := g2
    have w1 : y2 = 0 := w1
    subst w1
    exact ok_some ⟨rfl, w2, fs.q w3⟩
  | ok q =>
    rw [eg] at g2
    obtain ⟨w1, w2, w3⟩ := g2
    have w1 : y2 = 1 := w1
    subst w1
    have w3 : RQ μ κ := w3
    have hK : ∀ i, m_ar κ 31 0 i = if i = 2080 + 6 * bb + 4 then nI (o_r s.1) else if i = 2080 + 6 * o_r s.1 + 4 then nI bb else m_ar τ 31 0 i := fun i => by rw [w3.1]; exact hA i
    refine ok_some ⟨rfl, w2, ⟨?_, fun r hr => ?_, ?_, ?_, fun i hi => ?_⟩, fs.q w3⟩
    · show m_ar κ 31 0 1966 = nI (o_r s.1 + 1)
      rw [hK, if_neg (by omega), if_neg (by omega)]; exact c1
    · have hr : r < o_r s.1 + 1 := hr
      show RwR (m_ar κ 31 0) (2080 + 6 * r) (updN (o_k s.1) (o_r s.1) 21 r) (o_w s.1 r, o_h s.1 r, o_n s.1 r) ∧ (updN (o_k s.1) (o_r s.1) 21 r = 21 → m_ar κ 31 0 (2080 + 6 * r + 4) = nI (updN (updN (o_p s.1) (s.2.1 (s.2.2 - 1)) (o_r s.1)) (o_r s.1) (s.2.1 (s.2.2 - 1)) r)) ∧ ((updN (o_k s.1) (o_r s.1) 21 r = 18 ∨ updN (o_k s.1) (o_r s.1) 21 r = 20) → OpB (clsO s) r ∨ m_ar κ 31 0 (2080 + 6 * r + 4) = nI (updN (updN (o_p s.1) (s.2.1 (s.2.2 - 1)) (o_r s.1)) (o_r s.1) (s.2.1 (s.2.2 - 1)) r))
      rw [hbb]
      by_cases v : r = o_r s.1
      · subst v
        rw [updN_e, updN_e]
        refine ⟨⟨?_, fun z => by omega, fun z => by omega, fun z => by omega, fun z => by omega, fun z => by omega⟩, fun _ => ?_, fun z => by omega⟩
        · rw [hK, if_neg (by omega), if_neg (by omega), c2]; rfl
        · rw [hK, if_neg (by omega), if_pos rfl]
      · obtain ⟨b1, b2, b3⟩ := hC.2.1 r (by omega)
        rw [updN_n v, updN_n v]
        refine ⟨b1.cg (fun i hi h4 => by rw [hK, if_neg (by omega), if_neg (by omega)]; exact c3 _ (by omega) (by omega)), fun z => ?_, fun z => ?_⟩
        · have vb : r ≠ bb := fun w => by rw [w] at z; omega
          rw [updN_n vb, hK, if_neg (by omega), if_neg (by omega), c3 _ (by omega) (by omega)]; exact b2 z
        · by_cases vb : r = bb
          · rw [vb, updN_e, hK, if_pos rfl]; exact Or.inr rfl
          · rw [updN_n vb, hK, if_neg (by omega), if_neg (by omega), c3 _ (by omega) (by omega)]
            rcases b3 z with ⟨i, hi, e⟩ | w
            · refine Or.inl ⟨i, ?_, e⟩
              show i < s.2.2 - 1
              have : i ≠ s.2.2 - 1 := fun w => by rw [w, hbb] at e; exact vb e.symm
              omega
            · exact Or.inr w
    · show m_sc κ 31 22 = nI (s.2.2 - 1)
      rw [w3.2.2.2 22 (by decide) (by decide) (by decide) (by decide) (by decide) (by decide) (by decide)]; exact h22
    · show m_sc κ 31 23 = nI (o_m s.1)
      rw [w3.2.2.2 23 (by decide) (by decide) (by decide) (by decide) (by decide) (by decide) (by decide)]; exact h23
    · have hi : i < s.2.2 - 1 := hi
      show m_ar κ 31 7 i = nI (s.2.1 i)
      rw [w3.1, h7]; exact hC.2.2.2.2 i (by omega)
end O
