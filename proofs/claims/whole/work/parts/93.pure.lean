/-! PURE 34: what is joined -/
/-- found, how many, in which order, on which side -/
abbrev JT : Type := Nat × Nat × (Nat → Nat) × (Nat → Int)
def fiJ (v : Nat) (w : Int) (J : JT) : JT := if J.1.testBit v = true then J else (J.1 ||| 2 ^ v, J.2.1 + 1, fun k => if k = J.2.1 then v else J.2.2.1 k, fun u => if u = v then w else J.2.2.2 u)
def seZ (D : PD) (s : Nat) : Int := if d_be D s then 1 else -1
def ffJ (D : PD) (L v : Nat) : Nat → JT → JT
  | 0, J => J
  | n + 1, J => if L.testBit n = true then ffJ D L v n J else if d_fs D n = v then fiJ (d_sn D n) ((ffJ D L v n J).2.2.2 v * seZ D n) (ffJ D L v n J) else if d_sn D n = v then fiJ (d_fs D n) ((ffJ D L v n J).2.2.2 v * seZ D n) (ffJ D L v n J) else ffJ D L v n J
def srJ (D : PD) (L : Nat) : Nat → Nat → JT → JT
  | 0, _, J => J
  | n + 1, q, J => if J.2.1 ≤ q then J else srJ D L n (q + 1) (ffJ D L (J.2.2.1 q) (d_s D) J)
def J0 (v : Nat) : JT := fiJ v 1 (0, 0, fun _ => 0, fun _ => 1)
def jwJ (D : PD) (L v : Nat) : JT := srJ D L 9 0 (J0 v)
def JI (D : PD) (J : JT) : Prop := J.1 < 2 ^ d_v D ∧ J.2.1 = pcN J.1 (d_v D) ∧ (∀ k, k < J.2.1 → J.2.2.1 k < d_v D ∧ J.1.testBit (J.2.2.1 k) = true) ∧ ∀ u, J.2.2.2 u = 1 ∨ J.2.2.2 u = -1
theorem pc_or {a v : Nat} (h : a.testBit v = false) : ∀ n, pcN (a ||| 2 ^ v) n = pcN a n + if v < n then 1 else 0 := by
  intro n
  induction n with
  | zero => rfl
  | succ n ih =>
    rw [pcN, pcN, ih, Nat.testBit_or, Nat.testBit_two_pow]
    by_cases e : v = n
    · subst e
      rw [h]; simp
    · simp only [e, decide_false, Bool.or_false]
      by_cases c : v < n
      · have c2 : v < n + 1 := by omega
        simp only [c, c2, if_true]; omega
      · have c2 : ¬ v < n + 1 := by omega
        simp only [c, c2, if_false]; omega
section O
variable {σ τ ω : Mm} {v : Nat} {D : PD} {V : SD} {J : JT} {G : GS} {L p : Nat}
theorem JI.le (h : JI D J) : J.2.1 ≤ d_v D := by rw [h.2.1]; exact pc_le _ _
theorem JI.fi {w : Int} (h : JI D J) (hv : v < d_v D) (hw : w = 1 ∨ w = -1) : JI D (fiJ v w J) := by
  unfold fiJ
  by_cases c : J.1.testBit v = true
  · rw [if_pos c]; exact h
  · rw [if_neg c]
    have c' : J.1.testBit v = false := by cases hx : J.1.testBit v <;> simp_all
    obtain ⟨h1, h2, h3, h4⟩ := h
    refine ⟨or_lt h1 hv, ?_, fun k hk => ?_, fun u => ?_⟩
    · show J.2.1 + 1 = _
      rw [pc_or c', if_pos hv, h2]
    · show (if k = J.2.1 then v else J.2.2.1 k) < _ ∧ (J.1 ||| 2 ^ v).testBit (if k = J.2.1 then v else J.2.2.1 k) = true
      have hk : k < J.2.1 + 1 := hk
      rw [Nat.testBit_or, Nat.testBit_two_pow]
      by_cases e : k = J.2.1
      · rw [if_pos e]; simp [hv]
      · rw [if_neg e]
        have := h3 k (by omega)
        rw [this.2]; exact ⟨this.1, rfl⟩
    · show (if u = v then w else J.2.2.2 u) = 1 ∨ (if u = v then w else J.2.2.2 u) = -1
      split
      · exact hw
      · exact h4 u
theorem fi_mono {w : Int} {u : Nat} (h : J.1.testBit u = true) : (fiJ v w J).1.testBit u = true := by
  unfold fiJ
  split
  · exact h
  · show (J.1 ||| 2 ^ v).testBit u = true
    rw [Nat.testBit_or, h]; rfl
theorem se_1 (s : Nat) : seZ D s = 1 ∨ seZ D s = -1 := by unfold seZ; split <;> simp
theorem ml_1 {a b : Int} (ha : a = 1 ∨ a = -1) (hb : b = 1 ∨ b = -1) : a * b = 1 ∨ a * b = -1 := by
  rcases ha with rfl | rfl <;> rcases hb with rfl | rfl <;> simp
theorem ff_mono {u : Nat} (h : J.1.testBit u = true) : ∀ n, (ffJ D L v n J).1.testBit u = true := by
  intro n
  induction n with
  | zero => exact h
  | succ n ih =>
    rw [ffJ]
    repeat' split
    all_goals first | exact ih | exact fi_mono ih
theorem JI.ff (hD : WFD D) (h : JI D J) : ∀ n, n ≤ d_s D → JI D (ffJ D L v n J) := by
  intro n
  induction n with
  | zero => intro _; exact h
  | succ n ih =>
    intro hn
    have ih := ih (by omega)
    have hb := hD.2.2 n (by omega)
    rw [ffJ]
    repeat' split
    all_goals first | exact ih | exact ih.fi (by omega) (ml_1 (ih.2.2.2 _) (se_1 _))
theorem fi_kq {w : Int} {k : Nat} (hk : k < J.2.1) : k < (fiJ v w J).2.1 ∧ (fiJ v w J).2.2.1 k = J.2.2.1 k := by
  unfold fiJ
  split
  · exact ⟨hk, rfl⟩
  · refine ⟨by show k < J.2.1 + 1; omega, ?_⟩
    show (if k = J.2.1 then v else J.2.2.1 k) = _
    rw [if_neg (by omega)]
theorem ff_kq {k : Nat} (hk : k < J.2.1) : ∀ n, k < (ffJ D L v n J).2.1 ∧ (ffJ D L v n J).2.2.1 k = J.2.2.1 k := by
  intro n
  induction n with
  | zero => exact ⟨hk, rfl⟩
  | succ n ih =>
    rw [ffJ]
    repeat' split
    all_goals first | exact ih | exact ⟨(fi_kq ih.1).1, (fi_kq ih.1).2.trans ih.2⟩
theorem J0_I (hv : v < d_v D) : JI D (J0 v) := by
  refine JI.fi ⟨Nat.two_pow_pos _, (pc_0 _).symm, fun k hk => absurd hk (Nat.not_lt_zero _), fun _ => Or.inl rfl⟩ hv (Or.inl rfl)
/-! the class -/
def JtC (σ : Mm) (J : JT) : Prop := m_sc σ 12 2 = nI J.1 ∧ m_sc σ 12 5 = nI J.2.1 ∧ (∀ k, k < J.2.1 → m_ar σ 12 1 k = nI (J.2.2.1 k)) ∧ ∀ u, u < 8 → J.1.testBit u = true → m_ar σ 12 0 u = iI (J.2.2.2 u)
def JwC (σ : Mm) (p L : Nat) (D : PD) : Prop := m_rf σ 12 0 = some p ∧ KD p = 2 ∧ m_sc σ 12 1 = nI L ∧ PlC σ p D
def W12 (σ τ : Mm) : Prop := (∀ q, q ≠ 12 → BU q σ τ) ∧ m_rf τ 12 0 = m_rf σ 12 0 ∧ m_sc τ 12 1 = m_sc σ 12 1
theorem W12.rf : W12 σ σ := ⟨fun _ _ => BU.rf, rfl, rfl⟩
theorem W12.tr (h : W12 σ τ) (h2 : W12 τ ω) : W12 σ ω := ⟨fun q hq => (h.1 q hq).tr (h2.1 q hq), h2.2.1.trans h.2.1, h2.2.2.trans h.2.2⟩
theorem JwC.w (h : JwC σ p L D) (w : W12 σ τ) : JwC τ p L D := by
  have n1 : p ≠ 12 := fun e => by have := h.2.1; rw [e] at this; revert this; decide
  exact ⟨w.2.1.trans h.1, h.2.1, w.2.2.trans h.2.2.1, h.2.2.2.bu (w.1 p n1)⟩
theorem find_c {w : Int} (hD : WFD D) (hI : JI D J) (h : JtC σ J) (hv : v < d_v D) : ∃ τ, fX0_find 12 (nI v) (iI w) σ = some τ ∧ JtC τ (fiJ v w J) ∧ W12 σ τ := by
  have hd := hD.1
  have hm := hI.le
  have hF : J.1 < 2147483648 := pw31 (n := d_v D) (by omega) hI.1
  obtain ⟨h1, h2, h3, h4⟩ := h
  unfold fX0_find fiJ
  rw [r_sc_s, h1, has_e hF (by omega), c_I_s]
  by_cases c : J.1.testBit v = true
  · rw [if_pos c, if_pos c, if_neg (by decide)]
    exact ⟨σ, rfl, ⟨h1, h2, h3, h4⟩, W12.rf⟩
  · rw [if_neg c, if_neg c, if_pos rfl, r_sc_s, h1, with_e (by omega), c_I_s, p_sc_s, s_ar_n (by omega) (by decide), r_sc_s]
    have hlt : J.2.1 < 8 := by
      have := pc_or (a := J.1) (v := v) (by cases hx : J.1.testBit v <;> simp_all) (d_v D)
      have h8 := pc_le (J.1 ||| 2 ^ v) (d_v D)
      rw [if_pos hv] at this
      have := hI.2.1
      omega
    have e5 : ∀ x y, m_sc (w_ar (w_sc σ 12 2 x) 12 0 v y) 12 5 = nI J.2.1 := fun x y => by
      show m_sc (w_sc σ 12 2 x) 12 5 = _
      rw [m_sc_sc, if_neg (by decide)]; exact h2
    have e6 : ∀ x y, m_sc (w_ar (w_ar (w_sc σ 12 2 x) 12 0 v y) 12 1 J.2.1 (nI v)) 12 5 = nI J.2.1 := e5
    rw [e5, s_ar_n hlt (by decide), r_sc_s, p_sc_s, e6, nI_s]
    refine ⟨_, rfl, ⟨?_, ?_, fun k hk => ?_, fun u hu hb => ?_⟩, ⟨fun q hq => ?_, rfl, ?_⟩⟩
    · rw [m_sc_sc, if_neg (by decide)]
      show m_sc (w_sc σ 12 2 _) 12 2 = _
      rw [m_sc_sc, if_pos ⟨rfl, rfl⟩]; rfl
    · rw [m_sc_sc, if_pos ⟨rfl, rfl⟩]
    · have hk : k < J.2.1 + 1 := hk
      show m_ar (w_ar (w_ar (w_sc σ 12 2 _) 12 0 v _) 12 1 J.2.1 (nI v)) 12 1 k = nI (if k = J.2.1 then v else J.2.2.1 k)
      rw [m_ar_ar]
      by_cases e : k = J.2.1
      · rw [if_pos ⟨rfl, rfl, e⟩, if_pos e]
      · rw [if_neg (fun z => e z.2.2), if_neg e, m_ar_ar, if_neg (by omega)]
        exact h3 k (by omega)
    · have hb : (J.1 ||| 2 ^ v).testBit u = true := hb
      show m_ar (w_ar (w_ar (w_sc σ 12 2 _) 12 0 v (iI w)) 12 1 J.2.1 (nI v)) 12 0 u = iI (if u = v then w else J.2.2.2 u)
      rw [m_ar_ar, if_neg (by omega), m_ar_ar]
      by_cases e : u = v
      · rw [if_pos ⟨rfl, rfl, e⟩, if_pos e]
      · rw [if_neg (fun z => e z.2.2), if_neg e]
        refine h4 u hu ?_
        rw [Nat.testBit_or, Nat.testBit_two_pow] at hb
        have : ¬ v = u := fun z => e z.symm
        simpa [this] using hb
    · exact BU.scs hq (((BU.sc hq).tr (BU.af hq)).tr (BU.af hq))
    · rfl
theorem ff_l (hD : WFD D) (hL : L < 2147483648) (hI : JI D J) (hv : v < d_v D) (hb : J.1.testBit v = true) : ∀ (n i : Nat) (σ : Mm), i ≤ d_s D → d_s D - i < n → JwC σ p L D → JtC σ (ffJ D L v i J) → ∃ τ, fX0_findFrom_2 12 (nI v) n (nI i) σ = some τ ∧ JtC τ (ffJ D L v (d_s D) J) ∧ W12 σ τ := by
  intro n
  induction n with
  | zero => intro i σ _ h; omega
  | succ n ih =>
    intro i σ hi hn hw h
    have hd := hD.1
    have hw' := hw
    obtain ⟨e0, k0, eL, hp⟩ := hw
    rw [fX0_findFrom_2, r_rf_e e0 k0, r_sc_s, hp.1.2.2, ifle_n (by omega) (by omega)]
    by_cases c : d_s D ≤ i
    · have : i = d_s D := by omega
      subst this
      rw [if_pos c]
      exact ⟨σ, rfl, h, W12.rf⟩
    · have hk : i < d_s D := by omega
      have hbb := hD.2.2 i hk
      obtain ⟨f1, f2, f3, f4⟩ := hp.2.2.1 i hk
      have f3 : m_ar σ p 9 i = iI (seZ D i) := by rw [f3]; unfold seZ; cases d_be D i <;> rfl
      have hI2 := hI.ff (L := L) (v := v) hD i (by omega)
      have hsd := h.2.2.2 v (by omega) (ff_mono hb i)
      rw [if_neg c, r_sc_s, eL, has_e hL (by omega), c_I_s, nI_s]
      have go : ∀ o, o < d_v D → (ffJ D L v (i + 1) J = fiJ o ((ffJ D L v i J).2.2.2 v * seZ D i) (ffJ D L v i J)) → ∃ τ, c_V (fX0_find 12 (nI o) (iI ((ffJ D L v i J).2.2.2 v * seZ D i)) σ) (fun σ20 => fX0_findFrom_2 12 (nI v) n (nI (i + 1)) σ20) = some τ ∧ JtC τ (ffJ D L v (d_s D) J) ∧ W12 σ τ := by
        intro o ho he
        obtain ⟨τ, e, r1, r2⟩ := find_c (w := (ffJ D L v i J).2.2.2 v * seZ D i) hD hI2 h ho
        rw [e, c_V_s]
        obtain ⟨ω, f, g1, g2⟩ := ih (i + 1) τ (by omega) (by omega) (hw'.w r2) (by rw [he]; exact r1)
        exact ⟨ω, f, g1, r2.tr g2⟩
      by_cases cl : L.testBit i = true
      · rw [if_pos cl, if_neg (by decide)]
        exact ih (i + 1) σ (by omega) (by omega) hw' (by rw [ffJ, if_pos cl]; exact h)
      · rw [if_neg cl, if_pos rfl, g_ar_n (by omega) (by decide), hsd, r_rf_e e0 k0, g_ar_n (by omega) (by decide), f3, iI_mul, r_rf_e e0 k0, g_ar_n (by omega) (by decide), f1, ife_n (by omega) (by omega)]
        by_cases c1 : d_fs D i = v
        · rw [if_pos c1, r_rf_e e0 k0, g_ar_n (by omega) (by decide), f2]
          exact go _ hbb.2.1 (by rw [ffJ, if_neg cl, if_pos c1])
        · rw [if_neg c1, r_rf_e e0 k0, g_ar_n (by omega) (by decide), f2, ife_n (by omega) (by omega)]
          by_cases c2 : d_sn D i = v
          · rw [if_pos c2, r_rf_e e0 k0, g_ar_n (by omega) (by decide), f1]
            exact go _ hbb.1 (by rw [ffJ, if_neg cl, if_neg c1, if_pos c2])
          · rw [if_neg c2]
            exact ih (i + 1) σ (by omega) (by omega) hw' (by rw [ffJ, if_neg cl, if_neg c1, if_neg c2]; exact h)
theorem sr_l (hD : WFD D) (hL : L < 2147483648) {x : Nat} {y z : Int32} : ∀ (n q : Nat) (J : JT) (σ : Mm), q ≤ 8 → 8 - q < n → JI D J → JwC σ p L D → JtC σ J → ∃ τ, fX0_search_29 12 x y z n (nI q) σ = some τ ∧ JtC τ (srJ D L (9 - q) q J) ∧ W12 σ τ := by
  intro n
  induction n with
  | zero => intro q J σ _ h; omega
  | succ n ih =>
    intro q J σ hq hn hI hw h
    have hd := hD.1
    have hm := hI.le
    rw [fX0_search_29, r_sc_s, h.2.1, ifle_n (by omega) (by omega), show 9 - q = (8 - q) + 1 by omega, srJ]
    by_cases c : J.2.1 ≤ q
    · rw [if_pos c, if_pos c]
      exact ⟨σ, rfl, h, W12.rf⟩
    · have hk := hI.2.2.1 q (by omega)
      rw [if_neg c, if_neg c, g_ar_n (by omega) (by decide), h.2.2.1 q (by omega), nI_s]
      obtain ⟨τ, e, r1, r2⟩ := ff_l (v := J.2.2.1 q) hD hL hI hk.1 hk.2 FU 0 σ (by omega) (FU_gt (by omega)) hw h
      have e : fX0_findFrom 12 (nI (J.2.2.1 q)) σ = some τ := e
      rw [e, c_V_s]
      obtain ⟨ω, f, g1, g2⟩ := ih (q + 1) (ffJ D L (J.2.2.1 q) (d_s D) J) τ (by omega) (by omega) (hI.ff hD _ (Nat.le_refl _)) (hw.w r2) r1
      rw [show 9 - (q + 1) = 8 - q by omega] at g1
      exact ⟨ω, f, g1, r2.tr g2⟩
theorem search_c (hD : WFD D) (hL : L < 2147483648) (hk : KD p = 2) (hp : PlC σ p D) (hv : v < d_v D) : ∃ τ, fX0_search 12 p (nI L) (nI v) σ = some τ ∧ JtC τ (jwJ D L v) ∧ JwC τ p L D ∧ ∀ q, q ≠ 12 → BU q σ τ := by
  have n1 : p ≠ 12 := fun e => by rw [e] at hk; revert hk; decide
  unfold fX0_search
  rw [p_rf_s, p_sc_s, p_sc_s, p_sc_s]
  obtain ⟨σ1, hσ⟩ : ∃ σ1, σ1 = w_sc (w_sc (w_sc (w_rf σ 12 0 (some p)) 12 1 (nI L)) 12 2 0) 12 5 0 := ⟨_, rfl⟩
  rw [← hσ]
  have b1 : ∀ q, q ≠ 12 → BU q σ σ1 := fun q hq => by rw [hσ]; exact BU.scs hq (BU.scs hq (BU.scs hq (BU.pr hq)))
  have hw : JwC σ1 p L D := ⟨by rw [hσ]; rfl, hk, by rw [hσ, m_sc_sc, if_neg (by decide), m_sc_sc, if_neg (by decide), m_sc_sc, if_pos ⟨rfl, rfl⟩], hp.bu (b1 p n1)⟩
  have hj : JtC σ1 (0, 0, fun _ => 0, fun _ => 1) := ⟨by rw [hσ, m_sc_sc, if_neg (by decide), m_sc_sc, if_pos ⟨rfl, rfl⟩]; rfl, by rw [hσ, m_sc_sc, if_pos ⟨rfl, rfl⟩]; rfl, fun k hk => absurd hk (Nat.not_lt_zero _), fun u _ hb => by rw [Nat.zero_testBit] at hb; cases hb⟩
  have hI0 : JI D (0, 0, fun _ => 0, fun _ => 1) := ⟨Nat.two_pow_pos _, (pc_0 _).symm, fun k hk => absurd hk (Nat.not_lt_zero _), fun _ => Or.inl rfl⟩
  obtain ⟨τ, e, r1, r2⟩ := find_c (w := 1) hD hI0 hj hv
  have e : fX0_find 12 (nI v) (1 : Int32) σ1 = some τ := e
  rw [e, c_V_s]
  obtain ⟨ω, f, g1, g2⟩ := sr_l (x := p) (y := nI L) (z := nI v) hD hL FU 0 (J0 v) τ (by omega) (FU_gt (by omega)) (J0_I hv) (hw.w r2) r1
  exact ⟨ω, f, g1, (hw.w r2).w g2, fun q hq => ((b1 q hq).tr (r2.1 q hq)).tr (g2.1 q hq)⟩
theorem sr_I (hD : WFD D) : ∀ (n q : Nat) (J : JT), JI D J → JI D (srJ D L n q J) := by
  intro n
  induction n with
  | zero => intro q J h; exact h
  | succ n ih =>
    intro q J h
    rw [srJ]
    split
    · exact h
    · exact ih _ _ (h.ff hD _ (Nat.le_refl _))
theorem jw_I (hD : WFD D) (hv : v < d_v D) : JI D (jwJ D L v) := sr_I hD _ _ _ (J0_I hv)
/-! the reference -/
def JtR (σ : Mm) (J : JT) : Prop := m_sc σ 31 32 = nI J.2.1 ∧ (∀ k, k < J.2.1 → m_ar σ 31 10 k = nI (J.2.2.1 k)) ∧ ∀ u, u < 8 → J.1.testBit u = true → m_ar σ 31 11 u = iI (J.2.2.2 u)
def JwR (σ : Mm) (L : Nat) (D : PD) : Prop := m_ar σ 31 0 2 = nI (d_s D) ∧ m_ar σ 31 0 4 = nI L ∧ ∀ s, s < d_s D → m_ar σ 31 0 (70 + 5 * s + 0) = nI (d_fs D s) ∧ m_ar σ 31 0 (70 + 5 * s + 1) = nI (d_sn D s) ∧ m_ar σ 31 0 (70 + 5 * s + 2) = (if d_be D s then 1 else 0) ∧ m_ar σ 31 0 (70 + 5 * s + 3) = nI (d_sl D s)
def RJ (σ τ : Mm) : Prop := (∀ k, k ≠ 32 → m_sc τ 31 k = m_sc σ 31 k) ∧ (∀ k, m_lg τ 31 k = m_lg σ 31 k) ∧ (∀ j, j ≠ 10 → j ≠ 11 → j ≠ 12 → m_ar τ 31 j = m_ar σ 31 j) ∧ ∀ j, m_la τ 31 j = m_la σ 31 j
theorem RJ.rf : RJ σ σ := ⟨fun _ _ => rfl, fun _ => rfl, fun _ _ _ _ => rfl, fun _ => rfl⟩
theorem RJ.tr (h : RJ σ τ) (h2 : RJ τ ω) : RJ σ ω := ⟨fun k hk => (h2.1 k hk).trans (h.1 k hk), fun k => (h2.2.1 k).trans (h.2.1 k), fun j a b c => (h2.2.2.1 j a b c).trans (h.2.2.1 j a b c), fun j => (h2.2.2.2 j).trans (h.2.2.2 j)⟩
theorem RJ.w {j i : Nat} {x : Int32} (hj : j = 10 ∨ j = 11 ∨ j = 12) : RJ σ (w_ar σ 31 j i x) := ⟨fun _ _ => rfl, fun _ => rfl, fun k a b c => by funext u; rw [m_ar_ar, if_neg (by omega)], fun _ => rfl⟩
theorem RJ.s {x : Int32} : RJ σ (w_sc σ 31 32 x) := ⟨fun k hk => by rw [m_sc_sc, if_neg (by omega)], fun _ => rfl, fun _ _ _ _ => rfl, fun _ => rfl⟩
theorem RepR.rj (hW : WFG G) (h : RepR σ G) (w : RJ σ τ) : RepR τ G := RepR.upd (σ := σ) G.1 hW ⟨fun k hk => w.1 k (by omega), fun j hj => w.2.2.1 j (by omega) (by omega) (by omega), w.2.2.2 4, fun i _ => by rw [w.2.2.1 0 (by decide) (by decide) (by decide)], fun i _ => by rw [w.2.2.2 1]⟩ ⟨(w.1 2 (by omega)).trans h.1.1, (w.2.1 3).trans h.1.2.1, (w.2.1 4).trans h.1.2.2.1⟩ h
theorem JwR.w (h : JwR σ L D) (w : RJ σ τ) : JwR τ L D := by
  unfold JwR; rw [w.2.2.1 0 (by decide) (by decide) (by decide)]; exact h
theorem RepR.jw (h : RepR σ G) : JwR σ (v_li (GV G)) (GD G) := by
  have pl := h.pl
  refine ⟨pl.1.2.2, h.sv.2.2.2.1, fun s hs => ?_⟩
  have := pl.2.2.1 s hs
  rw [show 0 + 70 + 5 * s = 70 + 5 * s + 0 by omega, show 0 + 71 + 5 * s = 70 + 5 * s + 1 by omega, show 0 + 72 + 5 * s = 70 + 5 * s + 2 by omega, show 0 + 73 + 5 * s = 70 + 5 * s + 3 by omega] at this
  exact this
theorem ix70 (s k : Nat) : ((70 : Int32) + (5 : Int32) * nI s) + nI k = nI (70 + 5 * s + k) := by
  rw [ln_70, ln_5, nI_mul, nI_ad, nI_ad]
theorem otherOf_r {s : Nat} (hD : WFD D) (hL : L < 2147483648) (h : JwR σ L D) (hs : s < d_s D) (hv : v < d_v D) : fX12_otherOf 31 (nI s) (nI v) σ = some (if L.testBit s = true then -1 else if d_fs D s = v then nI (d_sn D s) else if d_sn D s = v then nI (d_fs D s) else -1, σ) := by
  have hd := hD.1
  have hb := hD.2.2 s hs
  obtain ⟨f1, f2, f3, f4⟩ := h.2.2 s hs
  unfold fX12_otherOf
  rw [show ((70 : Int32) + (5 : Int32) * nI s) + (0 : Int32) = nI (70 + 5 * s + 0) from ix70 s 0, show ((70 : Int32) + (5 : Int32) * nI s) + (1 : Int32) = nI (70 + 5 * s + 1) from ix70 s 1, g_ar_n (by omega) (by decide), f1, g_ar_n (by omega) (by decide), f2, show g_ar σ 31 0 2950 (4 : Int32) = g_ar σ 31 0 2950 (nI 4) from rfl, g_ar_n (by decide) (by decide), h.2.1, has_n hL (by omega), ife_n (by omega) (by omega), ife_n (by omega) (by omega)]
  cases L.testBit s
  · rw [if_neg (show ¬ (if false = true then (1 : Int32) else 0) = 1 by decide), if_neg (show ¬ false = true by decide)]
    by_cases c1 : d_fs D s = v
    · rw [if_pos c1, if_pos c1]
    · rw [if_neg c1, if_neg c1]
      by_cases c2 : d_sn D s = v
      · rw [if_pos c2, if_pos c2]
      · rw [if_neg c2, if_neg c2]
  · rfl
theorem jw36 (hD : WFD D) (hL : L < 2147483648) (hI : JI D J) {q : Nat} (hq : q < J.2.1) {x : Int32} {K : Int32 → Int32 → Mm → Option (Int32 × Mm)} : ∀ (n i : Nat) (σ : Mm), i ≤ d_s D → d_s D - i < n → JwR σ L D → JtR σ (ffJ D L (J.2.2.1 q) i J) → ∃ τ, fX12_joinedWith_36 31 x K n (nI (ffJ D L (J.2.2.1 q) i J).1) (nI q) (nI i) σ = K (nI (ffJ D L (J.2.2.1 q) (d_s D) J).1) (nI (q + 1)) τ ∧ JtR τ (ffJ D L (J.2.2.1 q) (d_s D) J) ∧ RJ σ τ := by
  intro n
  induction n with
  | zero => intro i σ _ h; omega
  | succ n ih =>
    intro i σ hi hn hw h
    have hd := hD.1
    have hkq := hI.2.2.1 q hq
    obtain ⟨v, hv⟩ : ∃ v, v = J.2.2.1 q := ⟨_, rfl⟩
    rw [← hv] at ih h hkq ⊢
    have hI2 := hI.ff (L := L) (v := v) hD i (by omega)
    have hm := hI2.le
    have hF : (ffJ D L v i J).1 < 2147483648 := pw31 (n := d_v D) (by omega) hI2.1
    have hq2 := ff_kq (D := D) (L := L) (v := v) hq i
    rw [fX12_joinedWith_36, show g_ar σ 31 0 2950 (2 : Int32) = g_ar σ 31 0 2950 (nI 2) from rfl, g_ar_n (by decide) (by decide), hw.1, ifle_n (by omega) (by omega)]
    by_cases c : d_s D ≤ i
    · have : i = d_s D := by omega
      subst this
      rw [if_pos c, nI_s]
      exact ⟨σ, rfl, h, RJ.rf⟩
    · have hk : i < d_s D := by omega
      have hbb := hD.2.2 i hk
      obtain ⟨f1, f2, f3, f4⟩ := hw.2.2 i hk
      have hQ : m_ar σ 31 10 q = nI v := by rw [h.2.1 q hq2.1, hq2.2, hv]
      have hWv := h.2.2 v (by omega) (ff_mono hkq.2 i)
      rw [if_neg c, g_ar_n (by omega) (by decide), hQ, otherOf_r hD hL hw hk hkq.1, c_I_s, nI_s]
      have skip : ffJ D L v (i + 1) J = ffJ D L v i J → ∃ τ, fX12_joinedWith_36 31 x K n (nI (ffJ D L v i J).1) (nI q) (nI (i + 1)) σ = K (nI (ffJ D L v (d_s D) J).1) (nI (q + 1)) τ ∧ JtR τ (ffJ D L v (d_s D) J) ∧ RJ σ τ := by
        intro e
        have := ih (i + 1) σ (by omega) (by omega) hw (by rw [e]; exact h)
        rw [e] at this
        exact this
      have go : ∀ o, o < d_v D → (ffJ D L v (i + 1) J = fiJ o ((ffJ D L v i J).2.2.2 v * seZ D i) (ffJ D L v i J)) → ∃ τ, (if nI o = (-1 : Int32) then ((fX12_joinedWith_36 31 x K n) (nI (ffJ D L v i J).1) (nI q) (nI (i + 1)) σ) else (if ((nI (ffJ D L v i J).1 >>> (nI o &&& 31)) &&& (1 : Int32)) = (1 : Int32) then ((fX12_joinedWith_36 31 x K n) (nI (ffJ D L v i J).1) (nI q) (nI (i + 1)) σ) else (g_ar σ 31 0 2950 (((70 : Int32) + ((5 : Int32) * nI i)) + (2 : Int32)) (fun x10 => if x10 = (1 : Int32) then (g_ar σ 31 10 8 (nI q) (fun x18 => g_ar σ 31 11 8 x18 (fun x19 => s_ar σ 31 11 8 (nI o) x19 (fun σ20 => r_sc σ20 31 32 (fun x21 => s_ar σ20 31 10 8 x21 (nI o) (fun σ22 => r_sc σ22 31 32 (fun x23 => p_sc σ22 31 32 (x23 + (1 : Int32)) (fun σ24 => (fX12_joinedWith_36 31 x K n) (nI (ffJ D L v i J).1 ||| ((1 : Int32) <<< (nI o &&& 31))) (nI q) (nI (i + 1)) σ24)))))))) else (g_ar σ 31 10 8 (nI q) (fun x11 => g_ar σ 31 11 8 x11 (fun x12 => s_ar σ 31 11 8 (nI o) (-x12) (fun σ13 => r_sc σ13 31 32 (fun x14 => s_ar σ13 31 10 8 x14 (nI o) (fun σ15 => r_sc σ15 31 32 (fun x16 => p_sc σ15 31 32 (x16 + (1 : Int32)) (fun σ17 => (fX12_joinedWith_36 31 x K n) (nI (ffJ D L v i J).1 ||| ((1 : Int32) <<< (nI o &&& 31))) (nI q) (nI (i + 1)) σ17)))))))))))) = K (nI (ffJ D L v (d_s D) J).1) (nI (q + 1)) τ ∧ JtR τ (ffJ D L v (d_s D) J) ∧ RJ σ τ := by
        intro o ho he
        rw [if_neg (nI_nem (by omega)), has_n hF (by omega)]
        by_cases cb : (ffJ D L v i J).1.testBit o = true
        · rw [if_pos cb, if_pos rfl]
          exact skip (by rw [he]; unfold fiJ; rw [if_pos cb])
        · rw [if_neg cb, if_neg (by decide)]
          have hlt : (ffJ D L v i J).2.1 < 8 := by
            have := pc_or (a := (ffJ D L v i J).1) (v := o) (by cases hx : (ffJ D L v i J).1.testBit o <;> simp_all) (d_v D)
            have h8 := pc_le ((ffJ D L v i J).1 ||| 2 ^ o) (d_v D)
            rw [if_pos ho] at this
            have := hI2.2.1
            omega
          have wr : ∀ y : Int32, y = iI ((ffJ D L v i J).2.2.2 v * seZ D i) → ∃ τ, s_ar σ 31 11 8 (nI o) y (fun σ20 => r_sc σ20 31 32 (fun x21 => s_ar σ20 31 10 8 x21 (nI o) (fun σ22 => r_sc σ22 31 32 (fun x23 => p_sc σ22 31 32 (x23 + (1 : Int32)) (fun σ24 => (fX12_joinedWith_36 31 x K n) (nI (ffJ D L v i J).1 ||| ((1 : Int32) <<< (nI o &&& 31))) (nI q) (nI (i + 1)) σ24))))) = K (nI (ffJ D L v (d_s D) J).1) (nI (q + 1)) τ ∧ JtR τ (ffJ D L v (d_s D) J) ∧ RJ σ τ := by
            intro y hy
            rw [s_ar_n (by omega) (by decide), r_sc_s, show m_sc (w_ar σ 31 11 o y) 31 32 = nI (ffJ D L v i J).2.1 from h.1, s_ar_n hlt (by decide), r_sc_s, p_sc_s, show m_sc (w_ar (w_ar σ 31 11 o y) 31 10 (ffJ D L v i J).2.1 (nI o)) 31 32 = nI (ffJ D L v i J).2.1 from h.1, nI_s, sh1 (by omega), or_n]
            have w1 : RJ σ (w_sc (w_ar (w_ar σ 31 11 o y) 31 10 (ffJ D L v i J).2.1 (nI o)) 31 32 (nI ((ffJ D L v i J).2.1 + 1))) := ((RJ.w (by omega)).tr (RJ.w (by omega))).tr RJ.s
            have hn : ffJ D L v (i + 1) J = ((ffJ D L v i J).1 ||| 2 ^ o, (ffJ D L v i J).2.1 + 1, fun k => if k = (ffJ D L v i J).2.1 then o else (ffJ D L v i J).2.2.1 k, fun u => if u = o then (ffJ D L v i J).2.2.2 v * seZ D i else (ffJ D L v i J).2.2.2 u) := by
              rw [he]; unfold fiJ; rw [if_neg cb]
            have hj : JtR (w_sc (w_ar (w_ar σ 31 11 o y) 31 10 (ffJ D L v i J).2.1 (nI o)) 31 32 (nI ((ffJ D L v i J).2.1 + 1))) (ffJ D L v (i + 1) J) := by
              rw [hn]
              refine ⟨by rw [m_sc_sc, if_pos ⟨rfl, rfl⟩], fun k hk => ?_, fun u hu hb => ?_⟩
              · have hk : k < (ffJ D L v i J).2.1 + 1 := hk
                show m_ar (w_ar (w_ar σ 31 11 o y) 31 10 (ffJ D L v i J).2.1 (nI o)) 31 10 k = nI (if k = (ffJ D L v i J).2.1 then o else (ffJ D L v i J).2.2.1 k)
                rw [m_ar_ar]
                by_cases e : k = (ffJ D L v i J).2.1
                · rw [if_pos ⟨rfl, rfl, e⟩, if_pos e]
                · rw [if_neg (fun z => e z.2.2), if_neg e, m_ar_ar, if_neg (by omega)]
                  exact h.2.1 k (by omega)
              · have hb : ((ffJ D L v i J).1 ||| 2 ^ o).testBit u = true := hb
                show m_ar (w_ar (w_ar σ 31 11 o y) 31 10 (ffJ D L v i J).2.1 (nI o)) 31 11 u = iI (if u = o then (ffJ D L v i J).2.2.2 v * seZ D i else (ffJ D L v i J).2.2.2 u)
                rw [m_ar_ar, if_neg (by omega), m_ar_ar]
                by_cases e : u = o
                · rw [if_pos ⟨rfl, rfl, e⟩, if_pos e, hy]
                · rw [if_neg (fun z => e z.2.2), if_neg e]
                  refine h.2.2 u hu ?_
                  rw [Nat.testBit_or, Nat.testBit_two_pow] at hb
                  have : ¬ o = u := fun z => e z.symm
                  simpa [this] using hb
            obtain ⟨τ, f, g1, g2⟩ := ih (i + 1) _ (by omega) (by omega) (hw.w w1) hj
            refine ⟨τ, ?_, g1, w1.tr g2⟩
            rw [← f, hn]
          rw [show ((70 : Int32) + (5 : Int32) * nI i) + (2 : Int32) = nI (70 + 5 * i + 2) from ix70 i 2, g_ar_n (by omega) (by decide), f3, g_ar_n (by omega) (by decide), hQ, g_ar_n (by omega) (by decide), hWv, g_ar_n (by omega) (by decide), hQ, g_ar_n (by omega) (by decide), hWv]
          unfold seZ at wr
          cases hbe : d_be D i
          · rw [hbe] at wr
            rw [if_neg (show ¬ (if false = true then (1 : Int32) else 0) = 1 by decide), iI_neg]
            refine wr _ ?_
            simp only [Bool.false_eq_true, if_false]
            congr 1; omega
          · rw [hbe] at wr
            rw [if_pos (show (if true = true then (1 : Int32) else 0) = 1 from rfl)]
            refine wr _ ?_
            simp only [if_true, Int.mul_one]
      by_cases cl : L.testBit i = true
      · rw [if_pos cl, if_pos rfl]
        exact skip (by rw [ffJ, if_pos cl])
      · rw [if_neg cl]
        by_cases c1 : d_fs D i = v
        · rw [if_pos c1]
          exact go _ hbb.2.1 (by rw [ffJ, if_neg cl, if_pos c1])
        · rw [if_neg c1]
          by_cases c2 : d_sn D i = v
          · rw [if_pos c2]
            exact go _ hbb.1 (by rw [ffJ, if_neg cl, if_neg c1, if_pos c2])
          · rw [if_neg c2, if_pos rfl]
            exact skip (by rw [ffJ, if_neg cl, if_neg c1, if_neg c2])
theorem jw25 (hD : WFD D) (hL : L < 2147483648) {x : Int32} : ∀ (n q : Nat) (J : JT) (σ : Mm), q ≤ 8 → 8 - q < n → JI D J → JwR σ L D → JtR σ J → ∃ τ, fX12_joinedWith_25 31 x n (nI J.1) (nI q) σ = some (nI (srJ D L (9 - q) q J).1, τ) ∧ JtR τ (srJ D L (9 - q) q J) ∧ RJ σ τ := by
  intro n
  induction n with
  | zero => intro q J σ _ h; omega
  | succ n ih =>
    intro q J σ hq hn hI hw h
    have hd := hD.1
    have hm := hI.le
    rw [fX12_joinedWith_25, r_sc_s, h.1, ifle_n (by omega) (by omega), show 9 - q = (8 - q) + 1 by omega, srJ]
    by_cases c : J.2.1 ≤ q
    · rw [if_pos c, if_pos c]
      exact ⟨σ, rfl, h, RJ.rf⟩
    · rw [if_neg c, if_neg c]
      obtain ⟨τ, e, r1, r2⟩ := jw36 (x := x) (K := fX12_joinedWith_25 31 x n) hD hL hI (q := q) (by omega) FU 0 σ (by omega) (FU_gt (by omega)) hw h
      obtain ⟨ω, f, g1, g2⟩ := ih (q + 1) (ffJ D L (J.2.2.1 q) (d_s D) J) τ (by omega) (by omega) (hI.ff hD _ (Nat.le_refl _)) (hw.w r2) r1
      rw [show 9 - (q + 1) = 8 - q by omega] at f g1
      refine ⟨ω, ?_, g1, r2.tr g2⟩
      exact Eq.trans e f
theorem joinedWith_r (hD : WFD D) (hL : L < 2147483648) (h : JwR σ L D) (hv : v < d_v D) : ∃ τ, fX12_joinedWith 31 (nI v) σ = some (nI (jwJ D L v).1, τ) ∧ JtR τ (jwJ D L v) ∧ RJ σ τ := by
  have hd := hD.1
  unfold fX12_joinedWith
  rw [show s_ar σ 31 10 8 (0 : Int32) = s_ar σ 31 10 8 (nI 0) from rfl, s_ar_n (by decide) (by decide), p_sc_s, s_ar_n (by omega) (by decide), sh1 (by omega)]
  have w1 : RJ σ (w_ar (w_sc (w_ar σ 31 10 0 (nI v)) 31 32 1) 31 11 v 1) := ((RJ.w (by omega)).tr RJ.s).tr (RJ.w (by omega))
  have hJ0 : (J0 v).1 = 2 ^ v ∧ (J0 v).2.1 = 1 ∧ (J0 v).2.2.1 0 = v ∧ (J0 v).2.2.2 v = 1 := by
    unfold J0 fiJ
    rw [if_neg (by rw [Nat.zero_testBit]; decide)]
    refine ⟨Nat.zero_or _, rfl, rfl, ?_⟩
    show (if v = v then (1 : Int) else 1) = 1
    rw [if_pos rfl]
  have hj : JtR (w_ar (w_sc (w_ar σ 31 10 0 (nI v)) 31 32 1) 31 11 v 1) (J0 v) := by
    refine ⟨?_, fun k hk => ?_, fun u hu hb => ?_⟩
    · rw [hJ0.2.1]
      show m_sc (w_sc (w_ar σ 31 10 0 (nI v)) 31 32 1) 31 32 = _
      rw [m_sc_sc, if_pos ⟨rfl, rfl⟩]; rfl
    · rw [hJ0.2.1] at hk
      rw [show k = 0 by omega, hJ0.2.2.1, m_ar_ar, if_neg (by omega)]
      show m_ar (w_ar σ 31 10 0 (nI v)) 31 10 0 = _
      rw [m_ar_ar, if_pos ⟨rfl, rfl, rfl⟩]
    · rw [hJ0.1, Nat.testBit_two_pow] at hb
      have : v = u := by simpa using hb
      subst this
      rw [hJ0.2.2.2, m_ar_ar, if_pos ⟨rfl, rfl, rfl⟩]; rfl
  obtain ⟨ω, f, g1, g2⟩ := jw25 (x := nI v) hD hL FU 0 (J0 v) _ (by omega) (FU_gt (by omega)) (J0_I hv) (h.w w1) hj
  rw [hJ0.1] at f
  exact ⟨ω, f, g1, w1.tr g2⟩
theorem RepC.c12 (hW : WFG G) (h : RepC σ G) (w : ∀ q, q ≠ 12 → BU q σ τ) : RepC τ G := by
  have h0 := w 0 (by decide)
  refine RepC.upd (σ := σ) G.1 hW.2.2.2.1 (fun q hq hb => w q (fun e => hb (by rw [e]; decide))) ⟨h0.1 7, h0.1 8, h0.1 13, h0.2.2.2.2 10, h0.2.2.2.2 11⟩ ⟨(h0.1 0).trans h.1.1, (h0.2.1 1).trans h.1.2.1, (h0.2.1 2).trans h.1.2.2.1⟩ h
def spJo (a : Int32) (G : GS) : Int32 × GS := match ix (d_v (GD G)) a with
  | none => (-1, stq 1 G)
  | some v => (nI (jwJ (GD G) (v_li (GV G)) v).1, stq 0 G)
theorem joined_c (a : Int32) (hW : WFG G) (h : RepC σ G) : OC (fX11_joined 0 a σ) (spJo a G) := by
  have hd := hW.d.1
  unfold fX11_joined spJo
  rcases ix_cases (n := d_v (GD G)) (by omega) a with ⟨ei, ha⟩ | ⟨v, hv, rfl, ei⟩ <;> rw [ei]
  · rw [isVane_c0 hW h ha, c_I_s, if_pos rfl]
    exact OC.non hW h _
  · rw [isVane_c1 hW h hv, c_I_s, if_neg (by decide)]
    dsimp only
    obtain ⟨p, -, e, hk, hp⟩ := h.pl
    obtain ⟨τ, f, r1, r2, r3⟩ := search_c (L := v_li (GV G)) hW.d (li_b hW.d hW.v) hk hp hv
    rw [show tg 0 9 = 4 from rfl, show tg 4 1 = 6 from rfl, show tg 0 16 = 12 from rfl, r_rf_e e hk, r_sc_s, h.sv.2.2.2.1, f, c_V_s, r_sc_s, r1.1]
    exact OC.ans hW (h.c12 hW r3) _
theorem joined_r (a : Int32) (hW : WFG G) (h : RepR σ G) : OR (fX12_joined 31 a σ) (spJo a G) := by
  have hd := hW.d.1
  unfold fX12_joined spJo
  rcases ix_cases (n := d_v (GD G)) (by omega) a with ⟨ei, ha⟩ | ⟨v, hv, rfl, ei⟩ <;> rw [ei]
  · rw [isVane_r0 hW h ha, c_I_s, if_pos rfl]
    exact OR.non hW h _
  · rw [isVane_r1 hW h hv, c_I_s, if_neg (by decide)]
    dsimp only
    obtain ⟨τ, f, r1, r2⟩ := joinedWith_r hW.d (li_b hW.d hW.v) h.jw hv
    rw [f, c_I_s]
    exact OR.ans hW (h.rj hW r2) _
/-! parting -/
def paB (D : PD) (L s : Nat) : Bool := !L.testBit s && !(jwJ D (L ||| 2 ^ s) (d_fs D s)).1.testBit (d_sn D s)
def spPr (G : GS) : Int32 × GS := (nI (bsN (paB (GD G) (v_li (GV G))) (d_s (GD G))), stq 0 G)
theorem jw_31 (hD : WFD D) (hv : v < d_v D) : (jwJ D L v).1 < 2147483648 := pw31 (n := d_v D) (by have := hD.1; omega) (jw_I hD hv).1
theorem pa_lc (hD : WFD D) (hL : L < 2 ^ d_s D) (hk : KD p = 2) : ∀ (n i : Nat) (σ : Mm), i ≤ d_s D → d_s D - i < n → PlC σ p D → ∃ τ, fX0_partingShafts_5 12 p (nI L) n (nI (bsN (paB D L) i)) (nI i) σ = some (nI (bsN (paB D L) (d_s D)), τ) ∧ ∀ q, q ≠ 12 → BU q σ τ := by
  intro n
  induction n with
  | zero => intro i σ _ h; omega
  | succ n ih =>
    intro i σ hi hn hp
    have hd := hD.1
    have n1 : p ≠ 12 := fun e => by rw [e] at hk; revert hk; decide
    have hL31 : L < 2147483648 := pw31 (n := d_s D) (by omega) hL
    rw [fX0_partingShafts_5, r_sc_s, hp.1.2.2, ifle_n (by omega) (by omega)]
    by_cases c : d_s D ≤ i
    · have : i = d_s D := by omega
      subst this
      rw [if_pos c]
      exact ⟨σ, rfl, fun _ _ => BU.rf⟩
    · have hk' : i < d_s D := by omega
      have hb := hD.2.2 i hk'
      obtain ⟨f1, f2, f3, f4⟩ := hp.2.2.1 i hk'
      rw [if_neg c, has_e hL31 (by omega), c_I_s, nI_s]
      cases hl : L.testBit i
      · rw [if_neg (show ¬ (false = true) by decide), if_pos rfl, with_e (by omega), c_I_s, show wiN L i (decide ((1 : Int32) ≠ 0)) = L ||| 2 ^ i from rfl, g_ar_n (by omega) (by decide), f1]
        obtain ⟨τ, f, r1, r2, r3⟩ := search_c (L := L ||| 2 ^ i) hD (pw31 (n := d_s D) (by omega) (or_lt hL hk')) hk hp hb.1
        have hp2 := hp.bu (r3 p n1)
        rw [f, c_V_s, r_sc_s, r1.1, g_ar_n (by omega) (by decide), (hp2.2.2.1 i hk').2.1, has_e (jw_31 hD hb.1) (by omega), c_I_s]
        obtain ⟨ω, f5, r5⟩ := ih (i + 1) τ (by omega) (by omega) hp2
        cases hx : (jwJ D (L ||| 2 ^ i) (d_fs D i)).1.testBit (d_sn D i)
        · rw [bs_t (by unfold paB; rw [hl, hx]; rfl)] at f5
          rw [if_neg (show ¬ (false = true) by decide), if_pos rfl, with_e (by omega), c_I_s]
          exact ⟨ω, f5, fun q hq => (r3 q hq).tr (r5 q hq)⟩
        · rw [bs_f (by unfold paB; rw [hl, hx]; rfl)] at f5
          rw [if_pos rfl, if_neg (by decide)]
          exact ⟨ω, f5, fun q hq => (r3 q hq).tr (r5 q hq)⟩
      · obtain ⟨ω, f5, r5⟩ := ih (i + 1) σ (by omega) (by omega) hp
        rw [bs_f (by unfold paB; rw [hl]; rfl)] at f5
        rw [if_pos rfl, if_neg (by decide)]
        exact ⟨ω, f5, r5⟩
theorem pa_lr (hW : WFG G) : ∀ (n i : Nat) (σ : Mm), i ≤ d_s (GD G) → d_s (GD G) - i < n → RepR σ G → OR (fX12_parting_11 31 n (nI (bsN (paB (GD G) (v_li (GV G))) i)) (nI (v_li (GV G))) (nI i) σ) (spPr G) := by
  intro n
  induction n with
  | zero => intro i σ _ h; omega
  | succ n ih =>
    intro i σ hi hn h
    have hd := hW.d.1
    have hjw := h.jw
    have hL := hW.v.2.2.2.1
    rw [fX12_parting_11, show g_ar σ 31 0 2950 (2 : Int32) = g_ar σ 31 0 2950 (nI 2) from rfl, g_ar_n (by decide) (by decide), hjw.1, ifle_n (by omega) (by omega)]
    by_cases c : d_s (GD G) ≤ i
    · have : i = d_s (GD G) := by omega
      subst this
      rw [if_pos c]
      exact OR.ans hW h _
    · have hk' : i < d_s (GD G) := by omega
      have hb := hW.d.2.2 i hk'
      rw [if_neg c, has_n (li_b hW.d hW.v) (by omega), nI_s]
      have ih := ih (i + 1)
      cases hl : (v_li (GV G)).testBit i
      · rw [if_neg (show ¬ (if false = true then (1 : Int32) else 0) = 1 by decide), sh1 (by omega), or_n, show ∀ x, s_ar σ 31 0 2950 (4 : Int32) x = s_ar σ 31 0 2950 (nI 4) x from fun _ => rfl, s_ar_n (by decide) (by decide)]
        have hjw2 : JwR (w_ar σ 31 0 4 (nI (v_li (GV G) ||| 2 ^ i))) (v_li (GV G) ||| 2 ^ i) (GD G) := by
          refine ⟨by rw [m_ar_ar, if_neg (by omega)]; exact hjw.1, by rw [m_ar_ar, if_pos ⟨rfl, rfl, rfl⟩], fun s hs => ?_⟩
          refine ⟨?_, ?_, ?_, ?_⟩
          · rw [m_ar_ar, if_neg (by omega)]; exact (hjw.2.2 s hs).1
          · rw [m_ar_ar, if_neg (by omega)]; exact (hjw.2.2 s hs).2.1
          · rw [m_ar_ar, if_neg (by omega)]; exact (hjw.2.2 s hs).2.2.1
          · rw [m_ar_ar, if_neg (by omega)]; exact (hjw.2.2 s hs).2.2.2
        obtain ⟨τ, f, r1, r2⟩ := joinedWith_r hW.d (pw31 (n := d_s (GD G)) (by omega) (or_lt hL hk')) hjw2 hb.1
        have hjw3 := hjw2.w r2
        rw [show ((70 : Int32) + (5 : Int32) * nI i) + (0 : Int32) = nI (70 + 5 * i + 0) from ix70 i 0, g_ar_n (by omega) (by decide), (hjw2.2.2 i hk').1, f, c_I_s, show ((70 : Int32) + (5 : Int32) * nI i) + (1 : Int32) = nI (70 + 5 * i + 1) from ix70 i 1, g_ar_n (by omega) (by decide), (hjw3.2.2 i hk').2.1, has_n (jw_31 hW.d hb.1) (by omega)]
        have h2 : RepR (w_ar τ 31 0 4 (nI (v_li (GV G)))) G := by
          have hA : ∀ k, m_ar (w_ar τ 31 0 4 (nI (v_li (GV G)))) 31 0 k = m_ar σ 31 0 k := fun k => by
            rw [m_ar_ar]
            by_cases e : k = 4
            · rw [if_pos ⟨rfl, rfl, e⟩, e]; exact hjw.2.1.symm
            · rw [if_neg (fun z => e z.2.2), r2.2.2.1 0 (by decide) (by decide) (by decide), m_ar_ar, if_neg (fun z => e z.2.2)]
          refine RepR.upd (σ := σ) G.1 hW ⟨fun k hk => r2.1 k (by omega), fun j hj => ?_, r2.2.2.2 4, fun k _ => hA k, fun k _ => by show m_la τ 31 1 k = _; rw [r2.2.2.2 1]; rfl⟩ ⟨(r2.1 2 (by omega)).trans h.1.1, (r2.2.1 3).trans h.1.2.1, (r2.2.1 4).trans h.1.2.2.1⟩ h
          funext k
          rw [m_ar_ar, if_neg (by omega), r2.2.2.1 j (by omega) (by omega) (by omega), m_ar_ar, if_neg (by omega)]
        have ih := ih _ (by omega) (by omega) h2
        cases hx : (jwJ (GD G) (v_li (GV G) ||| 2 ^ i) (d_fs (GD G) i)).1.testBit (d_sn (GD G) i)
        · rw [bs_t (by unfold paB; rw [hl, hx]; rfl)] at ih
          rw [if_pos (show (if false = true then (1 : Int32) else 0) = 0 from rfl), show ∀ x, s_ar τ 31 0 2950 (4 : Int32) x = s_ar τ 31 0 2950 (nI 4) x from fun _ => rfl, s_ar_n (by decide) (by decide), or_n]
          exact ih
        · rw [bs_f (by unfold paB; rw [hl, hx]; rfl)] at ih
          rw [if_neg (show ¬ (if true = true then (1 : Int32) else 0) = 0 by decide), show ∀ x, s_ar τ 31 0 2950 (4 : Int32) x = s_ar τ 31 0 2950 (nI 4) x from fun _ => rfl, s_ar_n (by decide) (by decide), show (0 : Int32) = nI 0 from rfl, or_n, Nat.or_zero]
          exact ih
      · rw [bs_f (by unfold paB; rw [hl]; rfl)] at ih
        rw [if_pos (show (if true = true then (1 : Int32) else 0) = 1 from rfl)]
        exact ih σ (by omega) (by omega) h
theorem parting_c (hW : WFG G) (h : RepC σ G) : OC (fX11_parting 0  σ) (spPr  G) := by
  have hd := hW.d.1
  unfold fX11_parting spPr
  obtain ⟨p, -, e, hk, hp⟩ := h.pl
  obtain ⟨τ, f, r3⟩ := pa_lc (L := v_li (GV G)) hW.d hW.v.2.2.2.1 hk FU 0 σ (by omega) (FU_gt (by omega)) hp
  have f : fX0_partingShafts 12 p (nI (v_li (GV G))) σ = _ := f
  rw [show tg 0 9 = 4 from rfl, show tg 4 1 = 6 from rfl, show tg 0 16 = 12 from rfl, r_rf_e e hk, r_sc_s, h.sv.2.2.2.1, f, c_I_s]
  exact OC.ans hW (h.c12 hW r3) _
theorem parting_r (hW : WFG G) (h : RepR σ G) : OR (fX12_parting 31  σ) (spPr  G) := by
  have hd := hW.d.1
  unfold fX12_parting spPr
  rw [show g_ar σ 31 0 2950 (4 : Int32) = g_ar σ 31 0 2950 (nI 4) from rfl, g_ar_n (by decide) (by decide), h.jw.2.1]
  exact pa_lr hW FU 0 σ (by omega) (FU_gt (by omega)) h
theorem joined_s (a : Int32) (σ : Mm) (h : Rel σ) : ok (fX11_joined 0 a σ) (fun q => ok (fX12_joined 31 a q.2) (fun q' => q'.1 = q.1 ∧ Rel q'.2)) :=
  simS (fc := fX11_joined 0 a) (fr := fX12_joined 31 a) (ks := [0, 1, 2, 3, 4, 5, 6, 7, 8, 9, 10, 11]) (by decide) (spJo a) (fun σ G => joined_c a) (fun σ G => joined_r a) (fun G hW => by unfold spJo; repeat (first | exact hW | split)) (fun σ x τ ee => F_sub (frX11_joined 0 a (by decide) σ ee) (by decide)) (fun σ x τ ee => F_sub (frX12_joined 31 a (by decide) σ ee) (by decide)) σ h
theorem parting_s  (σ : Mm) (h : Rel σ) : ok (fX11_parting 0  σ) (fun q => ok (fX12_parting 31  q.2) (fun q' => q'.1 = q.1 ∧ Rel q'.2)) :=
  simS (fc := fX11_parting 0 ) (fr := fX12_parting 31 ) (ks := [0, 1, 2, 3, 4, 5, 6, 7, 8, 9, 10, 11]) (by decide) (spPr ) (fun σ G hW h => parting_c hW h) (fun σ G hW h => parting_r hW h) (fun G hW => by unfold spPr; repeat (first | exact hW | split)) (fun σ x τ ee => F_sub (frX11_parting 0  (by decide) σ ee) (by decide)) (fun σ x τ ee => F_sub (frX12_parting 31  (by decide) σ ee) (by decide)) σ h
end O
