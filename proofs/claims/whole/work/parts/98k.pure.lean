/-! PURE 49: village -/
def EB {α : Type} (r : RZ α) : Prop := ∀ f, r = .error f → 1 ≤ f.1 ∧ f.1 ≤ 7
def FR0 (σ τ : Mm) : Prop := m_lg τ = m_lg σ ∧ (∀ k, (k < 10 ∨ 20 < k) → k ≠ 22 → k ≠ 23 → m_sc τ 31 k = m_sc σ 31 k) ∧ (∀ j, j ≠ 0 → j ≠ 6 → j ≠ 7 → m_ar τ 31 j = m_ar σ 31 j) ∧ (∀ k, k < 1960 → m_ar τ 31 0 k = m_ar σ 31 0 k) ∧ (∀ j, j ≠ 1 → m_la τ 31 j = m_la σ 31 j) ∧ ∀ k, k < 88 → m_la τ 31 1 k = m_la σ 31 1 k
section O
variable {σ τ : Mm} {X : TX} {p : Nat} {D : PD} {S : Nat → Nat} {G : GS} {α β : Type}
theorem FR0.tr {ω : Mm} (h : FR0 σ τ) (g : FR τ ω) : FR0 σ ω := ⟨g.1.trans h.1, fun k a b c => (g.2.1 k (by omega) b c).trans (h.2.1 k a b c), fun k a b c => (g.2.2.1 k a b c).trans (h.2.2.1 k a b c), fun k a => (g.2.2.2.1 k a).trans (h.2.2.2.1 k a), fun k a => (g.2.2.2.2.1 k a).trans (h.2.2.2.2.1 k a), fun k a => (g.2.2.2.2.2 k a).trans (h.2.2.2.2.2 k a)⟩
theorem EB.e {a b : Nat} (h : 1 ≤ a ∧ a ≤ 7) : EB (.error (a, b) : RZ α) := fun f e => by injection e with e; rw [← e]; exact h
theorem EB.o {a : α} : EB (.ok a : RZ α) := fun f e => by cases e
theorem EB.b {r : RZ α} {k : α → RZ β} (h : EB r) (hk : ∀ a, EB (k a)) : EB (eb r k) := by
  cases r with
  | error f => exact fun g e => by injection e with e; rw [← e]; exact h f rfl
  | ok a => exact hk a
theorem EB.i {c : Prop} [Decidable c] {r s : RZ α} (h1 : EB r) (h2 : EB s) : EB (if c then r else s) := by split <;> assumption
theorem EB.t : EB (.error (rT X p) : RZ α) := by
  unfold rT
  split <;> exact EB.e (by decide)
theorem EB.sg : EB (sSg X p) := EB.i EB.o EB.t
theorem EB.kw {k : Nat} : EB (sKw X k p) := EB.i EB.o EB.t
theorem EB.cm : EB (sCm X p) := EB.i EB.o EB.t
theorem EB.nu {a b : Nat} : EB (sNu X a b p) := EB.i (EB.i EB.o (EB.e (by decide))) EB.t
theorem EB.op {a b : Nat} : EB (sOp X a b p) := EB.i EB.nu EB.o
theorem EB.fd {f : Nat → Int64} {n : Nat} : EB (sFd X f n p) := EB.i (EB.i EB.o (EB.e (by decide))) EB.t
theorem EB.f2 {f : Nat → Int64} {n a : Nat} : EB (sF2 X f n a p) := EB.i (EB.e (by decide)) EB.fd
theorem EB.nw : EB (sNw X D p) := EB.i (EB.i EB.o (EB.e (by decide))) EB.t
theorem EB.sh {b : Bool} : EB (spSh X D S p b) := EB.b EB.nw fun _ => EB.b EB.kw fun _ => EB.b EB.fd fun _ => EB.b EB.f2 fun _ => EB.b EB.op fun _ => EB.b EB.sg fun _ => EB.o
theorem EB.pt : EB (spPt X D S p) := EB.i (EB.i (EB.b EB.nw fun _ => EB.b EB.sg fun _ => EB.o) (EB.e (by decide))) (EB.i (EB.i (EB.b EB.nw fun _ => EB.b EB.kw fun _ => EB.b EB.nu fun _ => EB.b EB.kw fun _ => EB.b EB.fd fun _ => EB.b EB.op fun _ => EB.b EB.op fun _ => EB.b EB.sg fun _ => EB.o) (EB.e (by decide))) (EB.i (EB.i EB.sh (EB.e (by decide))) (EB.i (EB.i EB.sh (EB.e (by decide))) EB.t)))
theorem EB.vi : ∀ (m : Nat) (D : PD) (S : Nat → Nat) (p : Nat), EB (spVi X m D S p) := by
  intro m
  induction m with
  | zero => intro D S p; exact EB.e (by decide)
  | succ m ih => intro D S p; exact EB.i EB.o (EB.b EB.pt fun r => ih _ _ _)
theorem bt8 {b : Nat} (h : b < 256) : (bt b).toInt8.toInt32 = bt b := by
  have key : ∀ z : Int, -128 ≤ z → z < 128 → (iI z).toInt8.toInt32 = iI z := fun z h1 h2 => by
    rw [← Int32.toInt_inj, Int8.toInt_toInt32, Int32.toInt_toInt8, iI_t (by omega) (by omega)]
    exact Int.bmod_eq_of_le (by omega) (by omega)
  unfold bt
  by_cases c : b < 128
  · rw [if_pos c, nI_iI]; exact key _ (by omega) (by omega)
  · rw [if_neg c]; exact key _ (by omega) (by omega)
theorem bg26 {n : Nat} {m : Int32} (hn : n ≤ 900) {T : Nat → Nat} (hT : ∀ k, k < n → T k < 256) : ∀ k i (σ : Mm), i ≤ n → n - i < k → (∀ q, q < n → m_ar σ 31 5 q = bt (T q)) → (∀ q, q < i → m_ar σ 31 6 q = bt (T q)) → ∃ τ, fX12_begins_26 31 (nI n) m k (nI i) σ = fX12_begins_49 31 (nI n) m τ ∧ m_sc τ = m_sc σ ∧ m_lg τ = m_lg σ ∧ m_la τ = m_la σ ∧ (∀ j, j ≠ 6 → m_ar τ 31 j = m_ar σ 31 j) ∧ ∀ q, q < n → m_ar τ 31 6 q = bt (T q) := by
  intro k
  induction k with
  | zero => intro i σ _ h; omega
  | succ k ih =>
    intro i σ hi hk h5 h6
    rw [fX12_begins_26, ifle_n (by omega) (by omega)]
    by_cases c : n ≤ i
    · rw [if_pos c]
      exact ⟨σ, rfl, rfl, rfl, rfl, fun _ _ => rfl, fun q hq => h6 q (by omega)⟩
    · rw [if_neg c, g_ar_n (by omega) (by decide), s_ar_n (by omega) (by decide), h5 i (by omega), bt8 (hT i (by omega)), nI_s]
      obtain ⟨τ, e1, e2, e3, e4, e5, e6⟩ := ih (i + 1) (w_ar σ 31 6 i (bt (T i))) (by omega) (by omega) (fun q hq => by rw [m_ar_ar, if_neg (by omega)]; exact h5 q hq) (fun q hq => by
        rw [m_ar_ar]
        by_cases e : q = i
        · rw [if_pos ⟨rfl, rfl, e⟩, e]
        · rw [if_neg (fun z => e z.2.2)]; exact h6 q (by omega))
      exact ⟨τ, e1, e2, e3, e4, fun j hj => by rw [e5 j hj]; funext q; rw [m_ar_ar, if_neg (by omega)], e6⟩
theorem begins_r (hW : WFG G) (h : RepR σ G) {n : Nat} {m : Int32} (hn : n ≤ (g_x G).1) (hm : nI n ≤ m) : ∃ τ, fX12_begins 31 (nI n) m σ = some (1, τ) ∧ TxR τ (txG G n) 0 ∧ FR0 σ τ ∧ m_ar τ 31 0 = m_ar σ 31 0 ∧ m_la τ = m_la σ ∧ m_sc τ 31 10 = 0 := by
  obtain ⟨hX, hb⟩ := tx_w hW hn
  have hL := hX.1
  have h9 := hW.2.1.1
  unfold fX12_begins
  rw [if_neg (nI_neg0 (by omega)), r_sc_s, h.2.2.1.1, if_neg (fun q => absurd ((nI_ltn (by omega) (by omega)).mp q) (by omega)), if_pos hm, p_sc_s]
  obtain ⟨ω, e1, e2, e3, e4, e5, e6⟩ := bg26 (n := n) (m := m) (by omega) (T := (txG G n).2) (fun k hk => hX.2 k hk) FU 0 (w_sc σ 31 11 (nI n)) (Nat.zero_le _) (FU_gt (by omega)) (fun q hq => by rw [hb q hq]; exact h.2.2.1.2 q (by omega)) (fun q hq => absurd hq (Nat.not_lt_zero _))
  rw [show (0 : Int32) = nI 0 from rfl, e1]
  unfold fX12_begins_49
  rw [p_sc_s, p_sc_s, p_sc_s, p_sc_s, p_sc_s]
  obtain ⟨υ, hυ⟩ : ∃ υ, υ = w_sc (w_sc (w_sc (w_sc (w_sc ω 31 10 0) 31 18 0) 31 17 (-1)) 31 14 0) 31 19 0 := ⟨_, rfl⟩
  have us : ∀ k, k ≠ 10 → k ≠ 18 → k ≠ 17 → k ≠ 14 → k ≠ 19 → m_sc υ 31 k = m_sc ω 31 k := fun k a b c d e => by rw [hυ, m_sc_sc, if_neg (by omega), m_sc_sc, if_neg (by omega), m_sc_sc, if_neg (by omega), m_sc_sc, if_neg (by omega), m_sc_sc, if_neg (by omega)]
  have u11 : m_sc υ 31 11 = nI n := by rw [us 11 (by decide) (by decide) (by decide) (by decide) (by decide), e2, m_sc_sc, if_pos ⟨rfl, rfl⟩]
  have u14 : m_sc υ 31 14 = nI 0 := by rw [hυ, m_sc_sc, if_neg (by omega), m_sc_sc, if_pos ⟨rfl, rfl⟩]; rfl
  have u18 : m_sc υ 31 18 = 0 := by rw [hυ, m_sc_sc, if_neg (by omega), m_sc_sc, if_neg (by omega), m_sc_sc, if_neg (by omega), m_sc_sc, if_pos ⟨rfl, rfl⟩]
  have u17 : m_sc υ 31 17 = -1 := by rw [hυ, m_sc_sc, if_neg (by omega), m_sc_sc, if_neg (by omega), m_sc_sc, if_pos ⟨rfl, rfl⟩]
  have u10 : m_sc υ 31 10 = 0 := by rw [hυ, m_sc_sc, if_neg (by omega), m_sc_sc, if_neg (by omega), m_sc_sc, if_neg (by omega), m_sc_sc, if_neg (by omega), m_sc_sc, if_pos ⟨rfl, rfl⟩]
  have ua : m_ar υ = m_ar ω := by rw [hυ]; rfl
  have ul : m_la υ = m_la ω := by rw [hυ]; rfl
  have ug : m_lg υ = m_lg ω := by rw [hυ]; rfl
  have e := show some ((1 : Int32), υ) = some ((1 : Int32), υ) from rfl
  obtain ⟨τ, f1, f2, f3⟩ := ahead_r (σ := υ) (p := 0) hX (Nat.zero_le _) ⟨u11, fun k hk => by rw [ua]; exact e6 k hk⟩ u14 ⟨u18, u17⟩
  refine ⟨τ, ?_, f2, ?_, ?_, ?_, ?_⟩
  · rw [← hυ, f1]; rfl
  · refine ⟨by rw [f3.2.2.1, ug, e3]; rfl, fun k a b c => ?_, fun j a b c => by rw [f3.1, ua, e5 j b]; rfl, fun k _ => by rw [f3.1, ua, e5 0 (by decide)]; rfl, fun j _ => by rw [f3.2.1, ul, e4]; rfl, fun k _ => by rw [f3.2.1, ul, e4]; rfl⟩
    rw [f3.2.2.2 k (by omega) (by omega) (by omega) (by omega), us k (by omega) (by omega) (by omega) (by omega) (by omega), e2, m_sc_sc, if_neg (by omega)]
  · rw [f3.1, ua, e5 0 (by decide)]; rfl
  · rw [f3.2.1, ul, e4]; rfl
  · rw [f3.2.2.2 10 (by decide) (by decide) (by decide) (by decide), u10]; rfl
theorem vi19 {a : Int32} : ∀ k i (σ : Mm), i ≤ 490 → 490 - i < k → TxR σ X p → ∃ τ, fX12_village_19 31 a k (nI i) σ = fX12_village_43 31 a τ ∧ TxR τ X p ∧ FR σ τ ∧ m_la τ = m_la σ ∧ m_sc τ = m_sc σ ∧ ∀ q, m_ar τ 31 0 q = if 1960 + i ≤ q ∧ q < 2450 then 0 else m_ar σ 31 0 q := by
  intro k
  induction k with
  | zero => intro i σ _ h; omega
  | succ k ih =>
    intro i σ hi hk h
    rw [fX12_village_19, ln_490, ifle_n (by decide) (by omega)]
    by_cases c : 490 ≤ i
    · rw [if_pos c]
      exact ⟨σ, rfl, h, FR.rf, rfl, rfl, fun q => by rw [if_neg (by omega)]⟩
    · rw [if_neg c, ln_1960, nI_ad, s_ar_n (by omega) (by decide), nI_s]
      obtain ⟨τ, e1, e2, e3, e4, e5, e6⟩ := ih (i + 1) (w_ar σ 31 0 (1960 + i) 0) (by omega) (by omega) (h.ar _ _)
      refine ⟨τ, e1, e2, (FR.rf.ar (by omega)).tr e3, e4, e5, fun q => ?_⟩
      rw [e6 q, m_ar_ar]
      by_cases c1 : q = 1960 + i
      · rw [if_neg (by omega), if_pos ⟨rfl, rfl, c1⟩, if_pos (by omega)]
      · rw [if_neg (show ¬ (31 = 31 ∧ 0 = 0 ∧ q = 1960 + i) from fun z => c1 z.2.2)]
        by_cases c2 : 1960 + (i + 1) ≤ q ∧ q < 2450
        · rw [if_pos c2, if_pos (by omega)]
        · rw [if_neg c2, if_neg (by omega)]
def ViR (τ : Mm) : RZ (PD × (Nat → Nat)) → Prop
  | .ok r => (m_sc τ 31 18 = 0 ∧ m_sc τ 31 17 = -1) ∧ VR (m_ar τ 31 0) (m_la τ 31 1) r.1 r.2
  | .error f => ErR τ f
theorem vi54 (hX : WTx X) {a : Int32} : ∀ m n (σ : Mm) (D : PD) (S : Nat → Nat) (p : Nat), m < n → smD D + m = 23 → WFs D S → TxR σ X p → VR (m_ar σ 31 0) (m_la σ 31 1) D S → ∃ τ, fX12_village_54 31 a n 1 σ = fX12_village_73 31 a τ ∧ FR σ τ ∧ m_sc τ 31 10 = m_sc σ 31 10 ∧ ViR τ (spVi X m D S p) := by
  intro m
  induction m with
  | zero => intro n σ D S p _ hs hW; have := hW.1.1; unfold smD at hs; omega
  | succ m ih =>
    intro n σ D S p hn hs hW h hV
    obtain ⟨n, rfl⟩ : ∃ k, n = k + 1 := ⟨n - 1, by omega⟩
    have hk := tK_le X p
    rw [fX12_village_54, spVi, if_neg (by decide), r_sc_s, h.2.2.1.1]
    by_cases c : tK X p = 0
    · rw [if_pos (show nI (tK X p) = 0 by rw [c]; rfl), if_pos c]
      exact ⟨σ, rfl, FR.rf, rfl, ⟨h.2.2.2.1, h.2.2.2.2⟩, hV⟩
    · rw [if_neg (fun q => c ((nI_eq0 (by omega)).mp q)), if_neg c]
      obtain ⟨⟨x, τ⟩, e1, e2⟩ := villagePart_r hX hW.1 h hV
      rw [e1, c_I_s]
      cases e3 : spPt X D S p with
      | error f =>
        rw [e3] at e2
        have ex : x = 0 := e2.1
        subst ex
        obtain ⟨n, rfl⟩ : ∃ k, n = k + 1 := ⟨n - 1, by omega⟩
        rw [fX12_village_54, if_pos rfl]
        exact ⟨τ, rfl, e2.2.2, e2.2.2.2.1 10 (by decide) (by decide) (by decide), e2.2.1⟩
      | ok r =>
        rw [e3] at e2
        have ex : x = 1 := e2.1
        subst ex
        obtain ⟨w1, w2⟩ := spPt_w hW e3
        obtain ⟨ω, g1, g2, g3, g4⟩ := ih n τ r.1 r.2.1 r.2.2 (by omega) (by omega) w1 e2.2.1 e2.2.2.1
        exact ⟨ω, g1, e2.2.2.2.tr g2, g3.trans (e2.2.2.2.2.1 10 (by decide) (by decide) (by decide)), g4⟩
theorem vc113 {a : Int32} : ∀ k i (σ : Mm), i ≤ 22 → 22 - i < k → ∃ τ, fX12_village_113 31 a k (nI i) σ = (g_ar τ 31 0 2950 (1 : Int32) (fun x20 => c_I (fX12_taken 31 x20 τ) (fun x23 σ21 => some (x23, σ21)))) ∧ m_ar τ = m_ar σ ∧ m_sc τ = m_sc σ ∧ m_lg τ = m_lg σ ∧ (∀ j, j ≠ 1 → m_la τ 31 j = m_la σ 31 j) ∧ ∀ q, m_la τ 31 1 q = if i ≤ q ∧ q < 22 then m_la σ 31 1 (88 + q) else m_la σ 31 1 q := by
  intro k
  induction k with
  | zero => intro i σ _ h; omega
  | succ k ih =>
    intro i σ hi hk
    rw [fX12_village_113, ln_22, ifle_n (by decide) (by omega)]
    by_cases c : 22 ≤ i
    · rw [if_pos c]
      exact ⟨σ, rfl, rfl, rfl, rfl, fun _ _ => rfl, fun q => by rw [if_neg (by omega)]⟩
    · rw [if_neg c, ln_88, nI_ad, g_la_n (by omega) (by decide), s_la_n (by omega) (by decide), nI_s]
      obtain ⟨τ, e1, e2, e3, e4, e5, e6⟩ := ih (i + 1) (w_la σ 31 1 i (m_la σ 31 1 (88 + i))) (by omega) (by omega)
      refine ⟨τ, e1, e2, e3, e4, fun j hj => ?_, fun q => ?_⟩
      · rw [e5 j hj]; funext q; rw [m_la_la, if_neg (by omega)]
      · rw [e6 q, m_la_la, m_la_la, if_neg (show ¬ (31 = 31 ∧ 1 = 1 ∧ 88 + q = i) by omega)]
        by_cases c1 : q = i
        · rw [if_neg (by omega), if_pos ⟨rfl, rfl, c1⟩, if_pos (by omega), c1]
        · rw [if_neg (show ¬ (31 = 31 ∧ 1 = 1 ∧ q = i) from fun z => c1 z.2.2)]
          by_cases c2 : i + 1 ≤ q ∧ q < 22
          · rw [if_pos c2, if_pos (by omega)]
          · rw [if_neg c2, if_neg (by omega)]
theorem vc82 {a : Int32} : ∀ k i (σ : Mm), i ≤ 490 → 490 - i < k → ∃ τ, fX12_village_82 31 a k (nI i) σ = fX12_village_113 31 a FU 0 τ ∧ m_la τ = m_la σ ∧ m_sc τ = m_sc σ ∧ m_lg τ = m_lg σ ∧ (∀ j, j ≠ 0 → m_ar τ 31 j = m_ar σ 31 j) ∧ ∀ q, m_ar τ 31 0 q = if i ≤ q ∧ q < 490 then m_ar σ 31 0 (1960 + q) else m_ar σ 31 0 q := by
  intro k
  induction k with
  | zero => intro i σ _ h; omega
  | succ k ih =>
    intro i σ hi hk
    rw [fX12_village_82, ln_490, ifle_n (by decide) (by omega)]
    by_cases c : 490 ≤ i
    · rw [if_pos c]
      exact ⟨σ, rfl, rfl, rfl, rfl, fun _ _ => rfl, fun q => by rw [if_neg (by omega)]⟩
    · rw [if_neg c, ln_1960, nI_ad, g_ar_n (by omega) (by decide), s_ar_n (by omega) (by decide), nI_s]
      obtain ⟨τ, e1, e2, e3, e4, e5, e6⟩ := ih (i + 1) (w_ar σ 31 0 i (m_ar σ 31 0 (1960 + i))) (by omega) (by omega)
      refine ⟨τ, e1, e2, e3, e4, fun j hj => ?_, fun q => ?_⟩
      · rw [e5 j hj]; funext q; rw [m_ar_ar, if_neg (by omega)]
      · rw [e6 q, m_ar_ar, m_ar_ar, if_neg (show ¬ (31 = 31 ∧ 0 = 0 ∧ 1960 + q = i) by omega)]
        by_cases c1 : q = i
        · rw [if_neg (by omega), if_pos ⟨rfl, rfl, c1⟩, if_pos (by omega), c1]
        · rw [if_neg (show ¬ (31 = 31 ∧ 0 = 0 ∧ q = i) from fun z => c1 z.2.2)]
          by_cases c2 : i + 1 ≤ q ∧ q < 490
          · rw [if_pos c2, if_pos (by omega)]
          · rw [if_neg c2, if_neg (by omega)]
theorem taken_0 {x : Int32} (h : m_sc σ 31 18 = 0) : fX12_taken 31 x σ = some (x, w_sc (w_sc σ 31 16 0) 31 2 0) := by
  unfold fX12_taken fX12_gives
  have e : m_sc (w_sc σ 31 16 0) 31 18 = 0 := by rw [m_sc_sc, if_neg (by omega), h]
  rw [r_sc_s, h, p_sc_s, r_sc_s, e, if_pos (by decide), p_sc_s, c_I_s]
theorem taken_1 {x : Int32} {f : Nat} (hf : 1 ≤ f ∧ f ≤ 7) (h : m_sc σ 31 18 = nI f) : fX12_taken 31 x σ = some (-1, w_sc (w_sc σ 31 16 (nI f)) 31 2 9) := by
  unfold fX12_taken fX12_refuse
  have e : m_sc (w_sc σ 31 16 (nI f)) 31 18 = nI f := by rw [m_sc_sc, if_neg (by omega), h]
  rw [r_sc_s, h, p_sc_s, r_sc_s, e, if_neg (show ¬ nI f ≤ 0 from fun q => absurd ((nI_len (b := 0) (by omega) (by decide)).mp q) (by omega)), p_sc_s, c_I_s]
/-- a fault of the reference -/
theorem flt_r {f : Nat × Nat} (hW : WFG G) (h : RepR σ G) (hf : FR0 σ τ) (h10 : m_sc τ 31 10 = 0) (e : ErR τ f) : RepR (w_sc (w_sc τ 31 16 (nI f.1)) 31 2 9) (ftG f G).2 := by
  have us : ∀ k, k ≠ 2 → k ≠ 16 → m_sc (w_sc (w_sc τ 31 16 (nI f.1)) 31 2 9) 31 k = m_sc τ 31 k := fun k a b => by rw [m_sc_sc, if_neg (by omega), m_sc_sc, if_neg (by omega)]
  refine RepR.gen (σ := σ) _ _ _ _ _ _ (fun j hj => hf.2.2.1 j (by omega) (by omega) (by omega)) (hf.2.2.2.2.1 4 (by decide)) ?_ ⟨rfl, ?_, ?_, ?_, ?_⟩ ?_ ⟨?_, fun k hk => absurd hk (Nat.not_lt_zero _)⟩ ?_ (fun i hi => ?_) h
  · rw [us 42 (by decide) (by decide)]; exact hf.2.1 42 (by decide) (by decide) (by decide)
  · show m_lg τ 31 3 = g_t G
    rw [hf.1]; exact h.1.2.1
  · show m_lg τ 31 4 = g_b G
    rw [hf.1]; exact h.1.2.2.1
  · rw [m_sc_sc, if_neg (by omega), m_sc_sc, if_pos ⟨rfl, rfl⟩]
  · rw [us 17 (by decide) (by decide)]; exact e.2
  · rw [us 44 (by decide) (by decide), hf.2.1 44 (by decide) (by decide) (by decide)]; exact h.2.2.2.2.1.1
  · rw [us 10 (by decide) (by decide), h10]; rfl
  · exact TwR.cg hW.2.2.1 (fun k _ hk => hf.2.2.2.1 k (by omega)) (fun k _ hk => hf.2.2.2.2.2 k (by omega)) h.2.2.2.1
  · have h3 := hW.2.2.2.1
    exact TwR.cg (hW.2.2.2.2.1 i hi) (fun k _ hk => hf.2.2.2.1 k (by omega)) (fun k _ hk => hf.2.2.2.2.2 k (by omega)) (h.2.2.2.2.1.2 i hi)
theorem Vz_w (h : WFs D S) : WFT (D, Vz S, Oz) := ⟨h.1, ⟨fun q _ => ⟨show 0 < 16 by decide, show 0 ≤ 99 by decide⟩, h.2, fun s hs => Nat.zero_le _, Nat.two_pow_pos _, Nat.two_pow_pos _, Nat.zero_le _⟩, fun q => by cases q⟩
theorem village_r (a : Int32) (hW : WFG G) (h : RepR σ G) : OR (fX12_village 31 a σ) (spVl a G) := by
  have h9 := hW.2.1.1
  unfold fX12_village spVl
  have hno : ∀ (x : Option (Int32 × Mm)), x = some (0, σ) → OR (c_I x (fun x3 σ1 => if x3 = 0 then c_I (fX12_refuse 31 1 σ1) (fun x6 σ4 => some (x6, σ4)) else fX12_village_19 31 a FU 0 σ1)) (-1, stq 1 G) := fun x e => by
    rw [e, c_I_s, if_pos rfl]; exact OR.non hW h _
  rcases i_cases a with ha | ⟨n, hn, rfl⟩
  · rw [if_pos (Or.inl ha)]
    exact hno _ (by unfold fX12_begins; rw [if_pos ha])
  · by_cases c : (g_x G).1 < n
    · rw [if_pos (Or.inr ((nI_ltn (by omega) (by omega)).mpr c))]
      exact hno _ (by unfold fX12_begins; rw [if_neg (nI_neg0 hn), r_sc_s, h.2.2.1.1, if_pos ((nI_ltn (by omega) (by omega)).mpr c)])
    · rw [if_neg (fun q => q.elim (nI_neg0 hn) (fun q => c ((nI_ltn (by omega) (by omega)).mp q))), nI_cl hn]
      obtain ⟨τ1, e1, x1, f1, a1, l1, s1⟩ := begins_r (m := 900) hW h (n := n) (by omega) ((nI_len (b := 900) (by omega) (by decide)).mpr (by omega))
      have hX := (tx_w hW (n := n) (by omega)).1
      obtain ⟨τ2, e2, x2, f2, l2, s2, a2⟩ := vi19 (a := nI n) FU 0 τ1 (by decide) (FU_gt (by decide)) x1
      rw [e1, c_I_s, if_neg (by decide), show (0 : Int32) = nI 0 from rfl, e2]
      unfold fX12_village_43
      rw [show (1966 : Int32) = nI 1966 from rfl, s_ar_n (by decide) (by decide)]
      have hv : VR (m_ar (w_ar τ2 31 0 1966 (-1)) 31 0) (m_la (w_ar τ2 31 0 1966 (-1)) 31 1) Dz Sz := by
        have z : ∀ k, 1960 ≤ k → k < 2450 → k ≠ 1966 → m_ar (w_ar τ2 31 0 1966 (-1)) 31 0 k = 0 := fun k q1 q2 q3 => by rw [m_ar_ar, if_neg (fun q => q3 q.2.2), a2, if_pos (by omega)]
        refine ⟨⟨⟨z _ (by omega) (by omega) (by omega), z _ (by omega) (by omega) (by omega), z _ (by omega) (by omega) (by omega)⟩, fun v hv => absurd hv (Nat.not_lt_zero _), fun v hv => absurd hv (Nat.not_lt_zero _), fun v hv => absurd hv (Nat.not_lt_zero _), fun v hv => absurd hv (Nat.not_lt_zero _), fun v hv => absurd hv (Nat.not_lt_zero _)⟩, ⟨fun q hq => ⟨z _ (by omega) (by omega) (by omega), z _ (by omega) (by omega) (by omega)⟩, fun v hv => absurd hv (Nat.not_lt_zero _), fun v hv => absurd hv (Nat.not_lt_zero _), z _ (by omega) (by omega) (by omega), z _ (by omega) (by omega) (by omega), z _ (by omega) (by omega) (by omega)⟩, ?_⟩
        rw [m_ar_ar, if_pos ⟨rfl, rfl, rfl⟩]
      obtain ⟨τ3, e3, f3, s3, v3⟩ := vi54 hX (a := nI n) 23 FU (w_ar τ2 31 0 1966 (-1)) Dz Sz 0 (FU_gt (by decide)) rfl Dz_w (x2.ar _ _) hv
      have g3 : FR0 σ τ3 := (f1.tr (f2.ar (by decide))).tr f3
      have h10 : m_sc τ3 31 10 = 0 := by rw [s3]; show m_sc τ2 31 10 = 0; rw [s2, s1]
      rw [e3]
      unfold fX12_village_73
      cases er : spVi (txG G n) 23 Dz Sz 0 with
      | error f =>
        rw [er] at v3
        have hf := EB.vi 23 Dz Sz 0 f er
        have v3 : ErR τ3 f := v3
        rw [r_sc_s, v3.1, if_neg (show ¬ nI f.1 = 0 from fun q => absurd ((nI_eq0 (by omega)).mp q) (by omega)), show (1 : Int32) = nI 1 from rfl, g_ar_n (by decide) (by decide), taken_1 hf v3.1, c_I_s]
        exact ⟨_, rfl, flt_r hW h g3 h10 v3⟩
      | ok r =>
        rw [er] at v3
        obtain ⟨⟨z1, z2⟩, z3⟩ := v3
        have hwf := spVi_w 23 Dz Sz 0 r Dz_w er
        have hT := Vz_w hwf
        obtain ⟨τ4, e4, l4, s4, g4, a4, b4⟩ := vc82 (a := nI n) FU 0 τ3 (by decide) (FU_gt (by decide))
        obtain ⟨τ5, e5, a5, s5, g5, l5, b5⟩ := vc113 (a := nI n) FU 0 τ4 (by decide) (FU_gt (by decide))
        have hA : ∀ q, m_ar τ5 31 0 q = if q < 490 then m_ar τ3 31 0 (1960 + q) else m_ar τ3 31 0 q := fun q => by
          rw [a5, b4 q]
          by_cases c : q < 490
          · rw [if_pos ⟨Nat.zero_le _, c⟩, if_pos c]
          · rw [if_neg (fun z => c z.2), if_neg c]
        have hN : ∀ q, m_la τ5 31 1 q = if q < 22 then m_la τ3 31 1 (88 + q) else m_la τ3 31 1 q := fun q => by
          rw [b5 q, l4]
          by_cases c : q < 22
          · rw [if_pos ⟨Nat.zero_le _, c⟩, if_pos c]
          · rw [if_neg (fun z => c z.2), if_neg c]
        have hs : m_sc τ5 = m_sc τ3 := s5.trans s4
        have hg : m_lg τ5 = m_lg τ3 := g5.trans g4
        rw [r_sc_s, z1, if_pos rfl, show (0 : Int32) = nI 0 from rfl, e4, show (0 : Int32) = nI 0 from rfl, e5, show (1 : Int32) = nI 1 from rfl, g_ar_n (by decide) (by decide), hA, if_pos (by decide), show m_ar τ3 31 0 (1960 + 1) = nI (d_v r.1) from z3.1.1.2.1, taken_0 (by rw [hs]; exact z1), c_I_s]
        have us : ∀ k, k ≠ 2 → k ≠ 16 → m_sc (w_sc (w_sc τ5 31 16 0) 31 2 0) 31 k = m_sc τ3 31 k := fun k a b => by rw [m_sc_sc, if_neg (by omega), m_sc_sc, if_neg (by omega), hs]
        have h3 := hW.2.2.2.1
        refine ⟨_, rfl, RepR.gen (σ := σ) _ _ _ _ _ _ (fun j hj => ?_) ?_ ?_ ⟨rfl, ?_, ?_, ?_, ?_⟩ ?_ ⟨?_, fun k hk => absurd hk (Nat.not_lt_zero _)⟩ ?_ (fun i hi => ?_) h⟩
        · show m_ar τ5 31 j = m_ar σ 31 j
          rw [a5, a4 j (by omega)]; exact g3.2.2.1 j (by omega) (by omega) (by omega)
        · show m_la τ5 31 4 = m_la σ 31 4
          rw [l5 4 (by decide), l4]; exact g3.2.2.2.2.1 4 (by decide)
        · rw [us 42 (by decide) (by decide)]; exact g3.2.1 42 (by decide) (by decide) (by decide)
        · show m_lg τ5 31 3 = g_t G
          rw [hg, g3.1]; exact h.1.2.1
        · show m_lg τ5 31 4 = g_b G
          rw [hg, g3.1]; exact h.1.2.2.1
        · rw [m_sc_sc, if_neg (by omega), m_sc_sc, if_pos ⟨rfl, rfl⟩]; rfl
        · rw [us 17 (by decide) (by decide)]; exact z2
        · rw [us 44 (by decide) (by decide), g3.2.1 44 (by decide) (by decide) (by decide)]; exact h.2.2.2.2.1.1
        · rw [us 10 (by decide) (by decide), h10]; rfl
        · refine TwR.mv (A := m_ar τ3 31 0) (N := m_la τ3 31 1) (i := 4) (j := 0) hT (fun x hx => ?_) (fun x hx => ?_) ⟨z3.1, z3.2.1, z3.2.2, fun q => by cases q⟩
          · show m_ar τ5 31 0 (490 * 0 + x) = m_ar τ3 31 0 (490 * 4 + x)
            rw [hA, if_pos (by omega), show 1960 + (490 * 0 + x) = 490 * 4 + x by omega]
          · show m_la τ5 31 1 (22 * 0 + x) = m_la τ3 31 1 (22 * 4 + x)
            rw [hN, if_pos (by omega), show 88 + (22 * 0 + x) = 22 * 4 + x by omega]
        · refine TwR.cg (hW.2.2.2.2.1 i hi) (fun k q1 q2 => ?_) (fun k q1 q2 => ?_) (h.2.2.2.2.1.2 i hi)
          · show m_ar τ5 31 0 k = m_ar σ 31 0 k
            rw [hA, if_neg (by omega)]; exact g3.2.2.2.1 k (by omega)
          · show m_la τ5 31 1 k = m_la σ 31 1 k
            rw [hN, if_neg (by omega)]; exact g3.2.2.2.2.2 k (by omega)
theorem flt_w {f : Nat × Nat} (hW : WFG G) : WFG (ftG f G).2 := ⟨hW.1, ⟨Nat.zero_le _, fun k hk => absurd hk (Nat.not_lt_zero _)⟩, hW.2.2⟩
theorem village_w (a : Int32) (hW : WFG G) : WFG (spVl a G).2 := by
  unfold spVl
  split
  · exact hW
  · split
    · exact flt_w hW
    · rename_i r er
      exact ⟨hW.1, ⟨Nat.zero_le _, fun k hk => absurd hk (Nat.not_lt_zero _)⟩, Vz_w (spVi_w 23 Dz Sz 0 r Dz_w er), hW.2.2.2⟩
theorem village_s (a : Int32) (σ : Mm) (h : Rel σ) : ok (fX11_village 0 a σ) (fun q => ok (fX12_village 31 a q.2) (fun q' => q'.1 = q.1 ∧ Rel q'.2)) :=
  simS (fc := fX11_village 0 a) (fr := fX12_village 31 a) (ks := [2, 4, 5, 6, 7, 9, 11]) (by decide) (spVl a) (fun σ G => village_c a) (fun σ G => village_r a) (fun G hW => village_w a hW) (fun σ x τ ee => F_sub (frX11_village 0 a (by decide) σ ee) (by decide)) (fun σ x τ ee => F_sub (frX12_village 31 a (by decide) σ ee) (by decide)) σ h
end O
