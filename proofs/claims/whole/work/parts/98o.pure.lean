/-! PURE 53: orders, of the reference: a row's numbers -/
def GR (R : Nat) (σ τ : Mm) : Prop := (∀ k, ¬ (R ≤ k ∧ k < R + 6) → m_ar τ 31 0 k = m_ar σ 31 0 k) ∧ (∀ j, j ≠ 0 → m_ar τ 31 j = m_ar σ 31 j) ∧ m_la τ = m_la σ ∧ m_lg τ = m_lg σ ∧ ∀ k, k ≠ 12 → k ≠ 13 → k ≠ 14 → k ≠ 15 → k ≠ 17 → k ≠ 18 → k ≠ 20 → m_sc τ 31 k = m_sc σ 31 k
def RwR (A : Nat → Int32) (R k : Nat) (a : Nat × Nat × Nat) : Prop := A R = o_c k a.2.1 ∧ (k = 10 → A (R + 1) = nI a.1 ∧ A (R + 2) = nI a.2.1 ∧ A (R + 3) = nI a.2.2) ∧ (k = 17 ∨ k = 11 ∨ k = 20 → A (R + 1) = nI a.2.2) ∧ (k = 12 ∨ k = 13 ∨ k = 14 ∨ k = 15 ∨ k = 16 ∨ k = 18 → A (R + 1) = nI a.1) ∧ (k = 16 ∨ (k = 18 ∧ a.2.1 ≠ 19) → A (R + 2) = nI a.2.2) ∧ (k = 18 ∧ a.2.1 ≠ 19 → A (R + 5) = nI a.2.1)
def OQ (σ : Mm) (R k : Nat) (X : TX) : RZ R4 → Int32 × Mm → Prop
  | .ok a, q => q.1 = 1 ∧ TxR q.2 X a.2 ∧ RwR (m_ar q.2 31 0) R k a.1 ∧ GR R σ q.2
  | .error f, q => q.1 = 0 ∧ ErR q.2 f ∧ GR R σ q.2
section O
variable {σ τ ω : Mm} {X : TX} {p R : Nat} {D : PD} {s : OS} {β : Type}
theorem GR.rf : GR R σ σ := ⟨fun _ _ => rfl, fun _ _ => rfl, rfl, rfl, fun _ _ _ _ _ _ _ _ => rfl⟩
theorem GR.tr (h : GR R σ τ) (g : GR R τ ω) : GR R σ ω := ⟨fun k q => (g.1 k q).trans (h.1 k q), fun k q => (g.2.1 k q).trans (h.2.1 k q), g.2.2.1.trans h.2.2.1, g.2.2.2.1.trans h.2.2.2.1, fun k a b c d e f i => (g.2.2.2.2 k a b c d e f i).trans (h.2.2.2.2 k a b c d e f i)⟩
theorem RQ.gr (h : RQ σ τ) : GR R σ τ := ⟨fun k _ => by rw [h.1], fun j _ => by rw [h.1], h.2.1, h.2.2.1, h.2.2.2⟩
theorem GR.w {i : Nat} {v : Int32} (hi : R ≤ i ∧ i < R + 6) : GR R σ (w_ar σ 31 0 i v) := ⟨fun k q => by rw [m_ar_ar, if_neg (fun z => q (by omega))], fun j hj => by funext k; rw [m_ar_ar, if_neg (fun z => hj z.2.1)], rfl, rfl, fun _ _ _ _ _ _ _ _ => rfl⟩
theorem GR.fr (h : GR R σ τ) (hR : 1960 ≤ R) : FR σ τ := ⟨h.2.2.2.1, fun k a b c => h.2.2.2.2 k (by omega) (by omega) (by omega) (by omega) (by omega) (by omega) (by omega), fun j a _ _ => h.2.1 j a, fun k hk => h.1 k (by omega), fun j _ => by rw [h.2.2.1], fun k _ => by rw [h.2.2.1]⟩
theorem zN {to : Nat} {res : RZ (Nat × Nat)} {k : Nat × Nat → RZ β} {r : Option (Int32 × Mm)} {Q : RZ β → Int32 × Mm → Prop} (h : ok r (RN σ X to res)) (he : ∀ f τ, ErR τ f → RQ σ τ → Q (.error f) (0, τ)) (hk : ∀ a τ, res = .ok a → TxR τ X a.2 → RQ (w_ar σ 31 0 to (nI a.1)) τ → Q (k a) (1, τ)) : ok (c_I r (fun x τ => b_z x τ)) (Q (eb res k)) := by
  obtain ⟨⟨x, τ⟩, rfl, h⟩ := h
  rw [c_I_s]
  cases res with
  | error f =>
    obtain ⟨h1, h2, h3⟩ := h
    have h1 : x = 0 := h1
    subst h1
    exact ok_some (he f τ h2 h3)
  | ok a =>
    obtain ⟨h1, h2, h3⟩ := h
    have h1 : x = 1 := h1
    subst h1
    exact ok_some (hk a τ rfl h2 h3)
theorem orderName_r (hX : WTx X) (h : TxR σ X p) {to i s m : Nat} (hto : to < 2950) (hi : i < 2950) (hs : s + m ≤ 120) (hc : m_ar σ 31 0 i = nI m) {f : Nat → Int64} (hf : ∀ k, k < m → m_la σ 31 1 (s + k) = f k) : ok (fX12_orderName 31 (nI to) (nI i) (nI s) σ) (RN σ X to (sFd X f m p)) := by
  unfold fX12_orderName
  rw [g_ar_n hi (by decide), hc, show (0 : Int32) = nI 0 from rfl]
  have e : ∀ r : RZ (Nat × Nat), r = eb r (fun a => .ok a) := fun r => by cases r <;> rfl
  rw [e (sFd X f m p)]
  refine bO (oldOne_r hX h (b := 0) (s := s) (m := m) (by omega) (fun k hk => by rw [Nat.zero_add]; exact hf k hk)) (fun f τ e t => ⟨rfl, e, t⟩) (fun a τ e x v t => ?_)
  rw [r_sc_s, v, s_ar_n hto (by decide)]
  obtain ⟨υ, e1, e2, e3⟩ := ah_r hX (x.ar to (nI a.1))
  rw [e1, c_V_s]
  have e' := (sFd_ok e).2.2
  exact ok_some ⟨rfl, by rw [e']; exact e2, (RQ.arq t).tr e3.q⟩
theorem o_c_e {k : Nat} (h : Nat) (hk : isStp k = true) (h18 : k ≠ 18) : nI (pm k) = o_c k h := by
  have := isStp_e.mp hk
  have : k = 10 ∨ k = 11 ∨ k = 12 ∨ k = 13 ∨ k = 14 ∨ k = 15 ∨ k = 16 ∨ k = 17 ∨ k = 20 ∨ k = 22 := by omega
  rcases this with rfl | rfl | rfl | rfl | rfl | rfl | rfl | rfl | rfl | rfl <;> rfl
theorem aTest_r (hX : WTx X) (hD : WFD D) (h : TxR σ X p) (hP : PlR (m_ar σ 31 0) (m_la σ 31 1) 0 0 D) (hR : 1960 ≤ R ∧ R + 6 ≤ 2950) : ok (fX12_aTest 31 (nI R) σ) (OQ σ R 18 X (sTs X D p)) := by
  have hd := hD.1
  have hW := tW_le X p
  unfold fX12_aTest sTs
  rw [inWords_r hX h, c_I_s]
  have c7 : krI (tW X p) = 7 ↔ tW X p = 5 := krI_j hW (b := 7) (by decide)
  have c19 : krI (tW X p) = 19 ↔ tW X p = 19 := krI_j hW (b := 19) (by decide)
  have pre : ∀ (v : Nat), v < 100 → ∃ τ, TxR τ X (tE X p) ∧ GR R σ τ ∧ m_ar τ 31 0 R = nI (1800 + v) ∧ PlR (m_ar τ 31 0) (m_la τ 31 1) 0 0 D ∧ ∀ K : Mm → Option (Int32 × Mm), s_ar σ 31 0 2950 (nI R) ((1800 : Int32) + nI v) (fun σ8 => c_V (fX12_ahead 31 σ8) K) = K τ := fun v hv => by
    obtain ⟨τ, e1, e2, e3⟩ := ah_r hX (h.ar R (nI (1800 + v)))
    have g : GR R σ τ := (GR.w (by omega)).tr e3.q.gr
    refine ⟨τ, e2, g, by rw [e3.1, m_ar_ar, if_pos ⟨rfl, rfl, rfl⟩], ?_, fun K => by rw [ln_1800, nI_ad, s_ar_n (by omega) (by decide), e1, c_V_s]⟩
    exact PlR.cg (i := 0) hD (fun k _ hk => g.1 k (by omega)) (fun k _ _ => by rw [g.2.2.1]) hP
  by_cases c : tW X p = 19
  · rw [if_neg (fun q => absurd (c7.mp q) (by omega)), if_pos (c19.mpr c), if_pos c, c19.mpr c]
    unfold fX12_aTest_25
    obtain ⟨τ, x, g, v, P, e⟩ := pre 19 (by decide)
    rw [show (19 : Int32) = nI 19 from rfl, e, ln_1, ln_4, nI_ad]
    obtain ⟨⟨y, υ⟩, e1, e2⟩ := orderName_r hX x (to := R + 1) (i := 1) (s := 4) (m := d_v D) (by omega) (by decide) (by omega) P.1.2.1 P.2.2.2.2.1
    rw [e1, c_I_s]
    cases er : sFd X (d_nv D) (d_v D) (tE X p) with
    | error f =>
      rw [er] at e2
      obtain ⟨z1, z2, z3⟩ := e2
      have z1 : y = 0 := z1
      have hf := EB.fd f er
      rw [if_pos z1, r_sc_s, z2.1, if_neg (show ¬ nI f.1 = 0 from fun q => absurd ((nI_eq0 (by omega)).mp q) (by omega))]
      exact ok_some ⟨rfl, z2, g.tr z3.gr⟩
    | ok a =>
      rw [er] at e2
      obtain ⟨z1, z2, z3⟩ := e2
      have z1 : y = 1 := z1
      have z2 : TxR υ X a.2 := z2
      rw [if_neg (by rw [z1]; decide), if_pos rfl, r_sc_s, z2.2.2.2.1, if_pos rfl]
      have z3 : RQ (w_ar τ 31 0 (R + 1) (nI a.1)) υ := z3
      refine ok_some ⟨rfl, z2, ⟨?_, fun q => by omega, fun q => by omega, fun _ => ?_, fun q => ?_, fun q => ?_⟩, g.tr ((GR.w (by omega)).tr z3.gr)⟩
      · show m_ar υ 31 0 R = _
        rw [z3.1, m_ar_ar, if_neg (by omega), v]; rfl
      · show m_ar υ 31 0 (R + 1) = _
        rw [z3.1, m_ar_ar, if_pos ⟨rfl, rfl, rfl⟩]
      · rcases q with q | q
        · omega
        · exact absurd rfl q.2
      · exact absurd rfl q.2
  · rw [if_neg c]
    by_cases c5 : tW X p = 5
    · rw [if_pos (c7.mpr c5), c7.mpr c5]
      unfold fX12_aTest_25
      obtain ⟨τ, x, g, v, P, e⟩ := pre 7 (by decide)
      rw [show (7 : Int32) = nI 7 from rfl, e, ln_1, ln_4, nI_ad, ln_5, ln_2, ln_60, ln_62, ln_61, nI_ad, nI_ad]
      have ek : sKw X 5 p = .ok (tE X p) := by unfold sKw; rw [if_pos c5]
      rw [ek, eb_o]
      obtain ⟨⟨y, υ⟩, e1, e2⟩ := orderName_r hX x (to := R + 1) (i := 1) (s := 4) (m := d_v D) (by omega) (by decide) (by omega) P.1.2.1 P.2.2.2.2.1
      rw [e1, c_I_s]
      cases er : sFd X (d_nv D) (d_v D) (tE X p) with
      | error f =>
        rw [er] at e2
        obtain ⟨z1, z2, z3⟩ := e2
        have z1 : y = 0 := z1
        have hf := EB.fd f er
        rw [if_pos z1, r_sc_s, z2.1, if_neg (show ¬ nI f.1 = 0 from fun q => absurd ((nI_eq0 (by omega)).mp q) (by omega))]
        exact ok_some ⟨rfl, z2, g.tr z3.gr⟩
      | ok a =>
        rw [er] at e2
        obtain ⟨z1, z2, z3⟩ := e2
        have z1 : y = 1 := z1
        have z2 : TxR υ X a.2 := z2
        have z3 : RQ (w_ar τ 31 0 (R + 1) (nI a.1)) υ := z3
        have gu : GR R σ υ := g.tr ((GR.w (by omega)).tr z3.gr)
        have A0 : m_ar υ 31 0 R = nI 1807 := by rw [z3.1, m_ar_ar, if_neg (by omega), v]
        have A1 : m_ar υ 31 0 (R + 1) = nI a.1 := by rw [z3.1, m_ar_ar, if_pos ⟨rfl, rfl, rfl⟩]
        have tail : tK X a.2 = 4 → tB X a.2 ≠ 59 → ok (r_sc υ 31 15 (fun x18 => s_ar υ 31 0 2950 (nI (R + 5)) x18 (fun σ19 => c_V (fX12_ahead 31 σ19) (fun σ20 => c_I (fX12_number 31 (nI (R + 2)) 0 (nI 60) σ20) (fun x24 σ22 => b_z x24 σ22))))) (OQ σ R 18 X (eb (sCm X a.2) fun c => eb (sNu X 0 60 c.2) fun d => .ok ((a.1, c.1, d.1), d.2))) := fun t4 t5 => by
          have es : sCm X a.2 = .ok (tB X a.2, tE X a.2) := by unfold sCm; rw [if_pos ⟨t4, t5⟩]
          have hne := sCm_ok es
          obtain ⟨ρ, f1, f2, f3⟩ := ah_r hX (z2.ar (R + 5) (nI (tB X a.2)))
          rw [es, eb_o, r_sc_s, z2.2.2.1.2.2.2.1 t4, s_ar_n (by omega) (by decide), f1, c_V_s]
          have gr : GR R σ ρ := gu.tr ((GR.w (by omega)).tr f3.q.gr)
          refine zN (number_r hX f2 (to := R + 2) (lo := 0) (hi := 60) (by omega) (by decide) (by decide)) (fun f κ e t => ⟨rfl, e, gr.tr t.gr⟩) (fun d κ e x t => ⟨rfl, x, ⟨?_, fun q => by omega, fun q => by omega, fun _ => ?_, fun _ => ?_, fun _ => ?_⟩, gr.tr ((GR.w (by omega)).tr t.gr)⟩)
          · show m_ar κ 31 0 R = o_c 18 (tB X a.2)
            rw [t.1, m_ar_ar, if_neg (by omega), f3.1, m_ar_ar, if_neg (by omega), A0]
            unfold o_c
            have : tB X a.2 ≠ 19 := by rcases hne with q | q | q <;> (intro w; rw [w] at q; cases q)
            simp [this, nI]
          · show m_ar κ 31 0 (R + 1) = _
            rw [t.1, m_ar_ar, if_neg (by omega), f3.1, m_ar_ar, if_neg (by omega), A1]
          · show m_ar κ 31 0 (R + 2) = _
            rw [t.1, m_ar_ar, if_pos ⟨rfl, rfl, rfl⟩]
          · show m_ar κ 31 0 (R + 5) = _
            rw [t.1, m_ar_ar, if_neg (by omega), f3.1, m_ar_ar, if_pos ⟨rfl, rfl, rfl⟩]
        rw [if_neg (by rw [z1]; decide), if_neg (by decide), eb_o, isSign_r hX z2 (by decide), c_I_s]
        by_cases s1 : tK X a.2 = 4 ∧ tB X a.2 = 60
        · rw [if_pos s1, if_neg (by decide)]
          exact tail s1.1 (by rw [s1.2]; decide)
        · rw [if_neg s1, if_pos rfl, isSign_r hX z2 (by decide), c_I_s]
          by_cases s2 : tK X a.2 = 4 ∧ tB X a.2 = 62
          · rw [if_pos s2, if_neg (by decide)]
            exact tail s2.1 (by rw [s2.2]; decide)
          · rw [if_neg s2, if_pos rfl, isSign_r hX z2 (by decide), c_I_s]
            by_cases s3 : tK X a.2 = 4 ∧ tB X a.2 = 61
            · rw [if_pos s3, if_neg (by decide)]
              exact tail s3.1 (by rw [s3.2]; decide)
            · rw [if_neg s3, if_pos rfl]
              have es : sCm X a.2 = .error (rT X a.2) := by
                unfold sCm
                rw [if_neg]
                intro q
                have : sCm X a.2 = .ok (tB X a.2, tE X a.2) := by unfold sCm; rw [if_pos q]
                rcases sCm_ok this with w | w | w
                · exact s1 ⟨q.1, w⟩
                · exact s2 ⟨q.1, w⟩
                · exact s3 ⟨q.1, w⟩
              rw [es, eb_r]
              exact ok_mono (ftz z2) (fun q w => ⟨w.1, w.2.1, gu.tr w.2.2.gr⟩)
    · rw [if_neg (fun q => c5 (c7.mp q)), if_neg (fun q => c (c19.mp q)), ln_2]
      have ek : sKw X 5 p = .error (rT X p) := by unfold sKw; rw [if_neg c5]
      rw [ek, eb_r]
      exact ok_mono (ftz h) (fun q w => ⟨w.1, w.2.1, w.2.2.gr⟩)
theorem nI_k2 (i : Nat) : nI i + 2 = nI (i + 2) := nI_ad i 2
theorem nI_k3 (i : Nat) : nI i + 3 = nI (i + 3) := nI_ad i 3
theorem PlR.gr (hD : WFD D) (hP : PlR (m_ar σ 31 0) (m_la σ 31 1) 0 0 D) (g : GR R σ τ) (hR : 1960 ≤ R) : PlR (m_ar τ 31 0) (m_la τ 31 1) 0 0 D := PlR.cg (i := 0) hD (fun k _ hk => g.1 k (by omega)) (fun k _ _ => by rw [g.2.2.1]) hP
theorem order_r (hX : WTx X) (hD : WFD D) (h : TxR σ X p) (hP : PlR (m_ar σ 31 0) (m_la σ 31 1) 0 0 D) (hR : 1960 ≤ R ∧ R + 6 ≤ 2950) {k : Nat} (hk : isStp k = true) (h0 : m_ar σ 31 0 R = nI (pm k)) : ok (fX12_order 31 (nI (pm k)) (nI R) σ) (OQ σ R k X (sRw X D k p)) := by
  have hd := hD.1
  have hk' := isStp_e.mp hk
  unfold fX12_order
  rw [nI_s, nI_k2, nI_k3]
  -- one number alone
  have onN : ∀ lo hi, lo < 10000 → hi < 10000 → (k = 17 ∨ k = 11 ∨ k = 20) → ok (c_I (fX12_number 31 (nI (R + 1)) (nI lo) (nI hi) σ) (fun x τ => b_z x τ)) (OQ σ R k X (eb (sNu X lo hi p) fun c => .ok ((0, 0, c.1), c.2))) := fun lo hi hlo hhi kk => by
    refine zN (number_r hX h (by omega) hlo hhi) (fun f τ e t => ⟨rfl, e, t.gr⟩) (fun a τ e x t => ⟨rfl, x, ⟨?_, fun q => by omega, fun _ => ?_, fun q => by omega, fun q => by omega, fun q => by omega⟩, (GR.w (by omega)).tr t.gr⟩)
    · show m_ar τ 31 0 R = o_c k 0
      rw [t.1, m_ar_ar, if_neg (by omega), h0, o_c_e 0 hk (by omega)]
    · show m_ar τ 31 0 (R + 1) = _
      rw [t.1, m_ar_ar, if_pos ⟨rfl, rfl, rfl⟩]
  -- one name alone
  have onM : ∀ (i s' m : Nat) (f : Nat → Int64), i < 2950 → s' + m ≤ 120 → m_ar σ 31 0 i = nI m → (∀ k, k < m → m_la σ 31 1 (s' + k) = f k) → (k = 12 ∨ k = 13 ∨ k = 14 ∨ k = 15) → ok (c_I (fX12_orderName 31 (nI (R + 1)) (nI i) (nI s') σ) (fun x τ => b_z x τ)) (OQ σ R k X (eb (sFd X f m p) fun a => .ok ((a.1, 0, 0), a.2))) := fun i s' m f hi hs hc hf kk => by
    refine zN (orderName_r hX h (by omega) hi hs hc hf) (fun f τ e t => ⟨rfl, e, t.gr⟩) (fun a τ e x t => ⟨rfl, x, ⟨?_, fun q => by omega, fun q => by omega, fun _ => ?_, fun q => by omega, fun q => by omega⟩, (GR.w (by omega)).tr t.gr⟩)
    · show m_ar τ 31 0 R = o_c k 0
      rw [t.1, m_ar_ar, if_neg (by omega), h0, o_c_e 0 hk (by omega)]
    · show m_ar τ 31 0 (R + 1) = _
      rw [t.1, m_ar_ar, if_pos ⟨rfl, rfl, rfl⟩]
  have n1 : ∀ k, k < d_p D → m_la σ 31 1 (0 + k) = d_np D k := hP.2.2.2.1
  have n2 : ∀ k, k < d_v D → m_la σ 31 1 (4 + k) = d_nv D k := fun k hk => by have := hP.2.2.2.2.1 k hk; rw [Nat.zero_add] at this; exact this
  have n3 : ∀ k, k < d_s D → m_la σ 31 1 (12 + k) = d_ns D k := fun k hk => by have := hP.2.2.2.2.2 k hk; rw [Nat.zero_add] at this; exact this
  have kk : k = 10 ∨ k = 17 ∨ k = 11 ∨ k = 12 ∨ k = 13 ∨ k = 14 ∨ k = 15 ∨ k = 16 ∨ k = 18 ∨ k = 20 ∨ k = 22 := by omega
  rcases kk with rfl | rfl | rfl | rfl | rfl | rfl | rfl | rfl | rfl | rfl | rfl
  · rw [if_pos (by decide)]
    show ok _ (OQ σ R 10 X (eb (sFd X (d_np D) (d_p D) p) fun a => eb (sNu X 0 15 a.2) fun b => eb (sNu X 0 99 b.2) fun c => .ok ((a.1, b.1, c.1), c.2)))
    refine bN (orderName_r hX h (to := R + 1) (i := 0) (s := 0) (m := d_p D) (by omega) (by decide) (by omega) hP.1.1 n1) (fun f τ e t => ⟨rfl, e, t.gr⟩) (fun a τ2 e2 x2 t2 => ?_)
    have g2 : GR R σ τ2 := (GR.w (by omega)).tr t2.gr
    refine bN (number_r hX x2 (to := R + 2) (lo := 0) (hi := 15) (by omega) (by decide) (by decide)) (fun f τ e t => ⟨rfl, e, g2.tr t.gr⟩) (fun b τ3 e3 x3 t3 => ?_)
    have g3 : GR R σ τ3 := g2.tr ((GR.w (by omega)).tr t3.gr)
    refine bN (number_r hX x3 (to := R + 3) (lo := 0) (hi := 99) (by omega) (by decide) (by decide)) (fun f τ e t => ⟨rfl, e, g3.tr t.gr⟩) (fun c τ4 e4 x4 t4 => ok_some ⟨rfl, x4, ⟨?_, fun _ => ⟨?_, ?_, ?_⟩, fun q => by omega, fun q => by omega, fun q => by omega, fun q => by omega⟩, g3.tr ((GR.w (by omega)).tr t4.gr)⟩)
    · show m_ar τ4 31 0 R = 10
      rw [t4.1, m_ar_ar, if_neg (by omega), t3.1, m_ar_ar, if_neg (by omega), t2.1, m_ar_ar, if_neg (by omega), h0]; rfl
    · show m_ar τ4 31 0 (R + 1) = _
      rw [t4.1, m_ar_ar, if_neg (by omega), t3.1, m_ar_ar, if_neg (by omega), t2.1, m_ar_ar, if_pos ⟨rfl, rfl, rfl⟩]
    · show m_ar τ4 31 0 (R + 2) = _
      rw [t4.1, m_ar_ar, if_neg (by omega), t3.1, m_ar_ar, if_pos ⟨rfl, rfl, rfl⟩]
    · show m_ar τ4 31 0 (R + 3) = _
      rw [t4.1, m_ar_ar, if_pos ⟨rfl, rfl, rfl⟩]
  · rw [if_neg (by decide), if_pos (by decide)]
    exact onN 0 99 (by decide) (by decide) (by decide)
  · rw [if_neg (by decide), if_neg (by decide), if_pos (by decide)]
    exact onN 1 99 (by decide) (by decide) (by decide)
  · rw [if_neg (by decide), if_neg (by decide), if_neg (by decide), if_pos (by decide)]
    exact onM 2 12 (d_s D) (d_ns D) (by decide) (by omega) hP.1.2.2 n3 (by decide)
  · rw [if_neg (by decide), if_neg (by decide), if_neg (by decide), if_neg (by decide), if_pos (by decide)]
    exact onM 2 12 (d_s D) (d_ns D) (by decide) (by omega) hP.1.2.2 n3 (by decide)
  · rw [if_neg (by decide), if_neg (by decide), if_neg (by decide), if_neg (by decide), if_neg (by decide), if_pos (by decide)]
    exact onM 1 4 (d_v D) (d_nv D) (by decide) (by omega) hP.1.2.1 n2 (by decide)
  · rw [if_neg (by decide), if_neg (by decide), if_neg (by decide), if_neg (by decide), if_neg (by decide), if_neg (by decide), if_pos (by decide)]
    exact onM 1 4 (d_v D) (d_nv D) (by decide) (by omega) hP.1.2.1 n2 (by decide)
  · rw [if_neg (by decide), if_neg (by decide), if_neg (by decide), if_neg (by decide), if_neg (by decide), if_neg (by decide), if_neg (by decide), if_pos (by decide)]
    show ok _ (OQ σ R 16 X (eb (sFd X (d_nv D) (d_v D) p) fun a => eb (sNu X 1 99 a.2) fun c => .ok ((a.1, 0, c.1), c.2)))
    refine bN (orderName_r hX h (to := R + 1) (i := 1) (s := 4) (m := d_v D) (by omega) (by decide) (by omega) hP.1.2.1 n2) (fun f τ e t => ⟨rfl, e, t.gr⟩) (fun a τ2 e2 x2 t2 => ?_)
    have g2 : GR R σ τ2 := (GR.w (by omega)).tr t2.gr
    refine bN (number_r hX x2 (to := R + 2) (lo := 1) (hi := 99) (by omega) (by decide) (by decide)) (fun f τ e t => ⟨rfl, e, g2.tr t.gr⟩) (fun c τ4 e4 x4 t4 => ok_some ⟨rfl, x4, ⟨?_, fun q => by omega, fun q => by omega, fun _ => ?_, fun _ => ?_, fun q => by omega⟩, g2.tr ((GR.w (by omega)).tr t4.gr)⟩)
    · show m_ar τ4 31 0 R = 17
      rw [t4.1, m_ar_ar, if_neg (by omega), t2.1, m_ar_ar, if_neg (by omega), h0]; rfl
    · show m_ar τ4 31 0 (R + 1) = _
      rw [t4.1, m_ar_ar, if_neg (by omega), t2.1, m_ar_ar, if_pos ⟨rfl, rfl, rfl⟩]
    · show m_ar τ4 31 0 (R + 2) = _
      rw [t4.1, m_ar_ar, if_pos ⟨rfl, rfl, rfl⟩]
  · rw [if_neg (by decide), if_neg (by decide), if_neg (by decide), if_neg (by decide), if_neg (by decide), if_neg (by decide), if_neg (by decide), if_neg (by decide), if_pos (by decide)]
    show ok _ (OQ σ R 18 X (sTs X D p))
    obtain ⟨⟨x, τ⟩, e1, e2⟩ := aTest_r hX hD h hP hR
    rw [e1, c_I_s]
    refine ok_bz ?_ e2
    cases er : sTs X D p with
    | error f => rw [er] at e2; exact Or.inl e2.1
    | ok a => rw [er] at e2; exact Or.inr e2.1
  · rw [if_neg (by decide), if_neg (by decide), if_neg (by decide), if_neg (by decide), if_neg (by decide), if_neg (by decide), if_neg (by decide), if_neg (by decide), if_neg (by decide), if_pos (by decide)]
    exact onN 1 99 (by decide) (by decide) (by decide)
  · rw [if_neg (by decide), if_neg (by decide), if_neg (by decide), if_neg (by decide), if_neg (by decide), if_neg (by decide), if_neg (by decide), if_neg (by decide), if_neg (by decide), if_neg (by decide)]
    exact ok_some ⟨rfl, h, ⟨by show m_ar σ 31 0 R = 22; rw [h0]; rfl, fun q => by omega, fun q => by omega, fun q => by omega, fun q => by omega, fun q => by omega⟩, GR.rf⟩
theorem order_21 : fX12_order 31 (nI 21) (nI R) σ = some (1, σ) := by
  unfold fX12_order
  rw [if_neg (by decide), if_neg (by decide), if_neg (by decide), if_neg (by decide), if_neg (by decide), if_neg (by decide), if_neg (by decide), if_neg (by decide), if_neg (by decide), if_neg (by decide)]
end O
