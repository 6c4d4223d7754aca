/-! PURE 24: what is dragged, what is stronger (reference) -/
def RG (σ τ : Mm) : Prop := (∀ k, m_sc τ 31 k = m_sc σ 31 k) ∧ (∀ k, m_lg τ 31 k = m_lg σ 31 k) ∧ (∀ j, j ≠ 8 → m_ar τ 31 j = m_ar σ 31 j) ∧ ∀ j, m_la τ 31 j = m_la σ 31 j
/-- a place of a vane or a shaft that is none -/
def UN (σ : Mm) (i : Nat) : Prop := (∃ v, v < 8 ∧ m_ar σ 31 0 1 ≤ nI v ∧ i = 2470 + 6 * v + 3) ∨ ∃ s, s < 10 ∧ m_ar σ 31 0 2 ≤ nI s ∧ i = 2520 + 5 * s + 4
def RT (σ τ : Mm) : Prop := (∀ k, k < 26 ∨ 29 < k → m_sc τ 31 k = m_sc σ 31 k) ∧ (∀ k, m_lg τ 31 k = m_lg σ 31 k) ∧ (∀ j, j ≠ 0 → j ≠ 8 → j ≠ 9 → m_ar τ 31 j = m_ar σ 31 j) ∧ (∀ i, i < 2453 ∨ i = 2456 ∨ UN σ i → m_ar τ 31 0 i = m_ar σ 31 0 i) ∧ ∀ j, m_la τ 31 j = m_la σ 31 j
def RB (σ τ : Mm) : Prop := (∀ k, k < 26 ∨ 29 < k → m_sc τ 31 k = m_sc σ 31 k) ∧ (∀ k, m_lg τ 31 k = m_lg σ 31 k) ∧ (∀ j, j ≠ 0 → j ≠ 8 → j ≠ 9 → m_ar τ 31 j = m_ar σ 31 j) ∧ (∀ i, i < 2450 → m_ar τ 31 0 i = m_ar σ 31 0 i) ∧ ∀ j, m_la τ 31 j = m_la σ 31 j
def nzN (g : Nat → Int) : Nat → Nat
  | 0 => 0
  | n + 1 => nzN g n + if g n = 0 then 0 else 1
section WR
variable {σ τ ω : Mm} {v : Nat} {D : PD} {V : SD} {g : Nat → Int}
theorem RG.rf : RG σ σ := ⟨fun _ => rfl, fun _ => rfl, fun _ _ => rfl, fun _ => rfl⟩
theorem RG.tr (h : RG σ τ) (h2 : RG τ ω) : RG σ ω := ⟨fun k => (h2.1 k).trans (h.1 k), fun k => (h2.2.1 k).trans (h.2.1 k), fun j hj => (h2.2.2.1 j hj).trans (h.2.2.1 j hj), fun j => (h2.2.2.2 j).trans (h.2.2.2 j)⟩
theorem RG.w8 (i : Nat) (x : Int32) : RG σ (w_ar σ 31 8 i x) := ⟨fun _ => rfl, fun _ => rfl, fun j hj => by funext k; rw [m_ar_ar, if_neg (fun z => hj z.2.1)], fun _ => rfl⟩
theorem RT.rf : RT σ σ := ⟨fun _ _ => rfl, fun _ => rfl, fun _ _ _ _ => rfl, fun _ _ => rfl, fun _ => rfl⟩
theorem RT.un (h : RT σ τ) {i : Nat} (u : UN σ i) : UN τ i := by
  unfold UN; rw [h.2.2.2.1 1 (by omega), h.2.2.2.1 2 (by omega)]; exact u
theorem RT.tr (h : RT σ τ) (h2 : RT τ ω) : RT σ ω := ⟨fun k q => (h2.1 k q).trans (h.1 k q), fun k => (h2.2.1 k).trans (h.2.1 k), fun j h0 h8 h9 => (h2.2.2.1 j h0 h8 h9).trans (h.2.2.1 j h0 h8 h9), fun i hi => (h2.2.2.2.1 i (hi.elim Or.inl (fun z => Or.inr (z.elim Or.inl (fun u => Or.inr (h.un u)))))).trans (h.2.2.2.1 i hi), fun j => (h2.2.2.2.2 j).trans (h.2.2.2.2 j)⟩
theorem RB.tr (h : RB σ τ) (h2 : RB τ ω) : RB σ ω := ⟨fun k q => (h2.1 k q).trans (h.1 k q), fun k => (h2.2.1 k).trans (h.2.1 k), fun j h0 h8 h9 => (h2.2.2.1 j h0 h8 h9).trans (h.2.2.1 j h0 h8 h9), fun i hi => (h2.2.2.2.1 i hi).trans (h.2.2.2.1 i hi), fun j => (h2.2.2.2.2 j).trans (h.2.2.2.2 j)⟩
theorem RT.b (h : RT σ τ) : RB σ τ := ⟨h.1, h.2.1, h.2.2.1, fun i hi => h.2.2.2.1 i (by omega), h.2.2.2.2⟩
theorem RG.t (h : RG σ τ) : RT σ τ := ⟨fun k _ => h.1 k, h.2.1, fun j _ h8 _ => h.2.2.1 j h8, fun i _ => by rw [h.2.2.1 0 (by decide)], h.2.2.2⟩
theorem WkR.rg (h : WkR σ D V) (w : RG σ τ) : WkR τ D V := by
  unfold WkR; rw [w.2.2.1 0 (by decide)]; exact h
theorem nz_le : ∀ n, nzN g n ≤ n := by
  intro n
  induction n with
  | zero => exact Nat.le_refl _
  | succ n ih => rw [nzN]; split <;> omega
theorem nz_all : ∀ n, nzN g n = n → ∀ i, i < n → g i ≠ 0 := by
  intro n
  induction n with
  | zero => intro _ i hi; omega
  | succ n ih =>
    intro h i hi
    rw [nzN] at h
    have hl := nz_le (g := g) n
    by_cases c : g n = 0
    · rw [if_pos c] at h; omega
    · rw [if_neg c] at h
      by_cases e : i = n
      · rw [e]; exact c
      · exact ih (by omega) i (by omega)
theorem nz_up {g' : Nat → Int} {o : Nat} (h0 : g o = 0) (h1 : g' o ≠ 0) (h2 : ∀ i, i ≠ o → g' i = g i) : ∀ n, nzN g' n = nzN g n + if o < n then 1 else 0 := by
  intro n
  induction n with
  | zero => rfl
  | succ n ih =>
    rw [nzN, nzN, ih]
    by_cases e : n = o
    · subst e
      rw [if_neg h1, if_pos h0, if_neg (by omega), if_pos (by omega)]
    · rw [h2 n e]
      by_cases c : o < n
      · have c2 : o < n + 1 := by omega
        simp only [c, c2, if_true]; omega
      · have c2 : ¬ o < n + 1 := by omega
        simp only [c, c2, if_false]; omega
theorem nz_ad {k : Nat} (hD : WFD D) (hk : k < d_s D) (hg : oneG g) (h : drB D V g k = true) : nzN (adZ D g k) (d_v D) = nzN g (d_v D) + 1 := by
  have hb := hD.2.2 k hk
  have h1 := dr_1 h
  have g1 := hg (d_fs D k)
  have g2 := hg (d_sn D k)
  obtain ⟨o, ho⟩ : ∃ o, o = if g (d_fs D k) = 0 then d_fs D k else d_sn D k := ⟨_, rfl⟩
  have ho2 : o < d_v D := by rw [ho]; split <;> omega
  have ho3 : g o = 0 := by rw [ho]; split <;> omega
  rw [nz_up (g := g) (o := o) ho3 ?_ ?_ (d_v D), if_pos ho2]
  · unfold adZ
    rw [← ho, if_pos rfl]; cases d_be D k <;> simp <;> omega
  · intro i hi
    unfold adZ
    rw [← ho, if_neg hi]
theorem d94_eq {k : Nat} {a b v4 v5 x : Int32} {K : Int32 → Mm → Option (Int32 × Mm)} : fX12_dragsBy_94 31 a b K (nI k) v4 v5 x x σ = K (nI (k + 1)) σ := by
  unfold fX12_dragsBy_94
  rw [if_pos rfl, nI_s]
theorem d94_ne {k : Nat} {a b x y : Int32} {K : Int32 → Mm → Option (Int32 × Mm)} (hD : WFD D) (hV : WFV D V) (h : WkR σ D V) (hg : oneG g) (hS : SpR σ g) (hk : k < d_s D) (hxy : y ≠ x) : fX12_dragsBy_94 31 a b K (nI k) (nI (d_fs D k)) (nI (d_sn D k)) x y σ = if ouB D V g k = true then fX12_dragsBy_142 31 a b K (nI (d_fs D k)) (nI (d_sn D k)) (iI ((if d_be D k then 1 else -1) * (g (d_fs D k) + g (d_sn D k)))) σ else K (nI (k + 1)) σ := by
  have hd := hD.1
  have hb := hD.2.2 k hk
  unfold fX12_dragsBy_94
  rw [if_neg hxy, isOut_r hD hV h hg hS hk, c_I_s, nI_s]
  cases ouB D V g k
  · rfl
  · rw [if_neg (by decide), if_pos rfl, g_ar_n (by omega) (by decide), hS _ (by omega), g_ar_n (by omega) (by decide), hS _ (by omega), sa2 hD h hk, c_I_s, iI_add]
    cases d_be D k
    · rw [if_pos (by decide), iI_neg]
      simp only [Bool.false_eq_true, if_false, Int.neg_mul, Int.one_mul]
    · rw [if_neg (by decide)]
      simp only [if_true, Int.one_mul]
theorem db30 (hD : WFD D) (hV : WFV D V) (a b : Int32) : ∀ (n m k : Nat) (g : Nat → Int) (σ : Mm), k ≤ d_s D → d_v D ≤ nzN g (d_v D) + m → (∀ j, j < k → drB D V g j = false) → 11 * m + (d_s D - k) < n → WkR σ D V → oneG g → SpR σ g → ∃ τ, fX12_dragsBy_30 31 a b n (nI k) σ = fX12_dragsBy_181 31 a b FU (0 : Int32) τ ∧ RG σ τ ∧ oneG (enZ D V m g) ∧ SpR τ (enZ D V m g) := by
  intro n
  induction n with
  | zero => intro m k g σ _ _ _ h; omega
  | succ n ih =>
    intro m k g σ hk hm hf hn h hg hS
    have hd := hD.1
    rw [fX12_dragsBy_30, show g_ar σ 31 0 2950 (2 : Int32) = g_ar σ 31 0 2950 (nI 2) from rfl, g_ar_n (by decide) (by decide), h.1.2.2, ifle_n (by omega) (by omega)]
    by_cases c : d_s D ≤ k
    · rw [if_pos c]
      have e : enZ D V m g = g := by
        cases m with
        | zero => rfl
        | succ m => rw [enZ, show fsF (drB D V g) (d_s D) = none from (ffF_none _ _ _).mpr (fun j _ hj => hf j (by omega))]
      rw [e]
      exact ⟨σ, rfl, RG.rf, hg, hS⟩
    · have hk' : k < d_s D := by omega
      have hb := hD.2.2 k hk'
      have g1 := hg (d_fs D k)
      have g2 := hg (d_sn D k)
      have next : drB D V g k = false → ∃ τ, fX12_dragsBy_30 31 a b n (nI (k + 1)) σ = fX12_dragsBy_181 31 a b FU (0 : Int32) τ ∧ RG σ τ ∧ oneG (enZ D V m g) ∧ SpR τ (enZ D V m g) := fun hdr => ih m (k + 1) g σ (by omega) hm (fun j hj => by
        by_cases e : j = k
        · rw [e]; exact hdr
        · exact hf j (by omega)) (by omega) h hg hS
      have act : drB D V g k = true → ∃ τ, fX12_dragsBy_142 31 a b (fX12_dragsBy_30 31 a b n) (nI (d_fs D k)) (nI (d_sn D k)) (iI ((if d_be D k then 1 else -1) * (g (d_fs D k) + g (d_sn D k)))) σ = fX12_dragsBy_181 31 a b FU (0 : Int32) τ ∧ RG σ τ ∧ oneG (enZ D V m g) ∧ SpR τ (enZ D V m g) := by
        intro hdr
        have hfs : fsF (drB D V g) (d_s D) = some k := by
          cases hx : fsF (drB D V g) (d_s D) with
          | none =>
            have := (ffF_none _ _ _).mp hx k (by omega) (by omega)
            rw [hdr] at this; cases this
          | some j =>
            obtain ⟨-, hj, hjd, hjl⟩ := ffF_some _ _ _ _ hx
            by_cases e1 : j < k
            · rw [hf j e1] at hjd; cases hjd
            · by_cases e2 : k < j
              · rw [hjl k (by omega) e2] at hdr; cases hdr
              · rw [show j = k by omega]
        have hna := nz_ad hD hk' hg hdr
        have hle := nz_le (g := adZ D g k) (d_v D)
        obtain ⟨m', rfl⟩ : ∃ m', m = m' + 1 := ⟨m - 1, by omega⟩
        have hen : enZ D V (m' + 1) g = enZ D V m' (adZ D g k) := by rw [enZ, hfs]
        rw [hen]
        have key : ∀ o, o = (if g (d_fs D k) = 0 then d_fs D k else d_sn D k) → ∃ τ, fX12_dragsBy_30 31 a b n (0 : Int32) (w_ar σ 31 8 o (iI ((if d_be D k then 1 else -1) * (g (d_fs D k) + g (d_sn D k))))) = fX12_dragsBy_181 31 a b FU (0 : Int32) τ ∧ RG σ τ ∧ oneG (enZ D V m' (adZ D g k)) ∧ SpR τ (enZ D V m' (adZ D g k)) := by
          intro o ho
          have w1 : RG σ (w_ar σ 31 8 o (iI ((if d_be D k then 1 else -1) * (g (d_fs D k) + g (d_sn D k))))) := RG.w8 _ _
          have hS' : SpR (w_ar σ 31 8 o (iI ((if d_be D k then 1 else -1) * (g (d_fs D k) + g (d_sn D k))))) (adZ D g k) := by
            intro u hu
            rw [m_ar_ar]
            unfold adZ
            rw [← ho]
            by_cases e : u = o
            · rw [if_pos ⟨rfl, rfl, e⟩, if_pos e]
            · rw [if_neg (fun z => e z.2.2), if_neg e]; exact hS u hu
          obtain ⟨τ, e, r1, r2, r3⟩ := ih m' 0 (adZ D g k) _ (by omega) (by omega) (fun j hj => by omega) (by omega) (h.rg w1) (ad_one hg hdr) hS'
          exact ⟨τ, e, w1.tr r1, r2, r3⟩
        unfold fX12_dragsBy_142
        rw [g_ar_n (by omega) (by decide), hS _ (by omega), s_ar_n (by omega) (by decide), s_ar_n (by omega) (by decide)]
        by_cases c0 : g (d_fs D k) = 0
        · rw [if_pos (by rw [c0]; rfl)]
          exact key _ (by rw [if_pos c0])
        · rw [if_neg (by rw [iI_0 (by omega) (by omega)]; exact c0)]
          exact key _ (by rw [if_neg c0])
      rw [if_neg c, sa0 hD h hk', c_I_s, sa1 hD h hk', c_I_s, isJoining_r hD hV h hk', c_I_s, nI_s]
      cases hj : joB V k
      · rw [if_pos (by decide)]
        exact next (by unfold drB; rw [hj]; simp)
      · rw [if_neg (by decide), g_ar_n (by omega) (by decide), hS _ (by omega), g_ar_n (by omega) (by decide), g_ar_n (by omega) (by decide), hS _ (by omega)]
        by_cases c1 : g (d_fs D k) = 0
        · have d1 : (g (d_fs D k) == 0) = true := beq_iff_eq.mpr c1
          rw [if_pos (by rw [c1]; rfl)]
          by_cases c2 : g (d_sn D k) = 0
          · have d2 : (g (d_sn D k) == 0) = true := beq_iff_eq.mpr c2
            rw [if_pos (by rw [c2]; rfl), d94_eq]
            exact next (by unfold drB; rw [d1, d2]; simp)
          · have d2 : (g (d_sn D k) == 0) = false := beq_eq_false_iff_ne.mpr c2
            rw [if_neg (by rw [iI_0 (by omega) (by omega)]; exact c2), d94_ne hD hV h hg hS hk' (by decide)]
            cases ho : ouB D V g k
            · rw [if_neg (by decide)]
              exact next (by unfold drB; rw [ho]; simp)
            · rw [if_pos rfl]
              exact act (by unfold drB; rw [ho, hj, d1, d2]; simp)
        · have d1 : (g (d_fs D k) == 0) = false := beq_eq_false_iff_ne.mpr c1
          rw [if_neg (by rw [iI_0 (by omega) (by omega)]; exact c1)]
          by_cases c2 : g (d_sn D k) = 0
          · have d2 : (g (d_sn D k) == 0) = true := beq_iff_eq.mpr c2
            rw [if_pos (by rw [c2]; rfl), d94_ne hD hV h hg hS hk' (by decide)]
            cases ho : ouB D V g k
            · rw [if_neg (by decide)]
              exact next (by unfold drB; rw [ho]; simp)
            · rw [if_pos rfl]
              exact act (by unfold drB; rw [ho, hj, d1, d2]; simp)
          · have d2 : (g (d_sn D k) == 0) = false := beq_eq_false_iff_ne.mpr c2
            rw [if_neg (by rw [iI_0 (by omega) (by omega)]; exact c2), d94_eq]
            exact next (by unfold drB; rw [d1, d2]; simp)
theorem db230 (hD : WFD D) (hV : WFV D V) (h : WkR σ D V) (hg : oneG g) (hS : SpR σ g) (a b : Int32) : ∀ (n k : Nat), k ≤ d_s D → d_s D - k < n → fX12_dragsBy_230 31 a b n (nI k) σ = some (if (ffF (fun s => joB V s && ouB D V g s) (d_s D - k) k).isNone then 1 else 0, σ) := by
  intro n
  induction n with
  | zero => intro k _ h; omega
  | succ n ih =>
    intro k hk hn
    have hd := hD.1
    rw [fX12_dragsBy_230, show g_ar σ 31 0 2950 (2 : Int32) = g_ar σ 31 0 2950 (nI 2) from rfl, g_ar_n (by decide) (by decide), h.1.2.2, ifle_n (by omega) (by omega)]
    by_cases c : k < d_s D
    · rw [if_neg (by omega), isJoining_r hD hV h c, c_I_s, nI_s, show d_s D - k = (d_s D - (k + 1)) + 1 by omega, ffF]
      have ih := ih (k + 1) (by omega) (by omega)
      cases hl : joB V k
      · rw [if_pos (by decide)]
        simp only [Bool.false_and, Bool.false_eq_true, if_false]
        exact ih
      · rw [if_neg (by decide), isOut_r hD hV h hg hS c, c_I_s]
        cases ouB D V g k
        · rw [if_pos (by decide)]
          simp only [Bool.and_false, Bool.false_eq_true, if_false]
          exact ih
        · rfl
    · have : k = d_s D := by omega
      subst this
      rw [if_pos (Nat.le_refl _), Nat.sub_self]
      rfl
theorem db181 (hD : WFD D) (hV : WFV D V) (h : WkR σ D V) (hg : oneG g) (hS : SpR σ g) (a b : Int32) : ∀ (n k : Nat), k ≤ d_v D → d_v D - k < n → fX12_dragsBy_181 31 a b n (nI k) σ = some (if ((ffF (fun v => (g v != 0) && (v_he V).testBit v) (d_v D - k) k).isNone && (fsF (fun s => joB V s && ouB D V g s) (d_s D)).isNone) = true then 1 else 0, σ) := by
  intro n
  induction n with
  | zero => intro k _ h; omega
  | succ n ih =>
    intro k hk hn
    have hd := hD.1
    have gk := hg k
    rw [fX12_dragsBy_181, show g_ar σ 31 0 2950 (1 : Int32) = g_ar σ 31 0 2950 (nI 1) from rfl, g_ar_n (by decide) (by decide), h.1.2.1, ifle_n (by omega) (by omega)]
    by_cases c : k < d_v D
    · rw [if_neg (by omega), g_ar_n (by omega) (by decide), hS _ (by omega), nI_s, show d_v D - k = (d_v D - (k + 1)) + 1 by omega, ffF]
      have ih := ih (k + 1) (by omega) (by omega)
      by_cases c1 : g k = 0
      · have d1 : (g k != 0) = false := by simp [c1]
        rw [if_pos (by rw [c1]; rfl), d1]
        simp only [Bool.false_and, Bool.false_eq_true, if_false]
        exact ih
      · have d1 : (g k != 0) = true := by simp [c1]
        rw [if_neg (by rw [iI_0 (by omega) (by omega)]; exact c1), ln_2455, g_ar_n (by decide) (by decide), h.2.2.2.2.2.2.2, has_n (he_b hD hV) (by omega), d1]
        cases (v_he V).testBit k
        · rw [if_neg (by decide)]
          simp only [Bool.and_false, Bool.false_eq_true, if_false]
          exact ih
        · rfl
    · have : k = d_v D := by omega
      subst this
      have e := db230 hD hV h hg hS a b FU 0 (by omega) (FU_gt (by omega))
      rw [if_pos (Nat.le_refl _), Nat.sub_self]
      refine Eq.trans e ?_
      rfl
theorem mo_he (hD : WFD D) (hV : WFV D V) : (moN D g &&& v_he V == 0) = (fsF (fun v => (g v != 0) && (v_he V).testBit v) (d_v D)).isNone := by
  cases hx : fsF (fun v => (g v != 0) && (v_he V).testBit v) (d_v D) with
  | none =>
    have hn := (ffF_none _ _ _).mp hx
    have : moN D g &&& v_he V = 0 := by
      apply Nat.eq_of_testBit_eq
      intro j
      unfold moN
      rw [Nat.testBit_and, bsN_bit, Nat.zero_testBit]
      by_cases c : j < d_v D
      · have := hn j (by omega) (by omega)
        rw [decide_eq_true c, Bool.true_and]; exact this
      · rw [decide_eq_false c]; rfl
    rw [this]; rfl
  | some j =>
    obtain ⟨-, hj, hjd, -⟩ := ffF_some _ _ _ _ hx
    have : (moN D g &&& v_he V).testBit j = true := by
      unfold moN
      rw [Nat.testBit_and, bsN_bit, decide_eq_true (show j < d_v D by omega), Bool.true_and]; exact hjd
    have h0 : moN D g &&& v_he V ≠ 0 := fun e => by rw [e, Nat.zero_testBit] at this; cases this
    rw [beq_eq_false_iff_ne.mpr h0]; rfl
theorem db2 (a b : Int32) : ∀ (n i : Nat) (σ : Mm), i ≤ 8 → 8 - i < n → (∀ k, k < i → m_ar σ 31 8 k = 0) → ∃ τ, fX12_dragsBy_2 31 a b n (nI i) σ = fX12_dragsBy_21 31 a b τ ∧ RG σ τ ∧ SpR τ (fun _ => 0) := by
  intro n
  induction n with
  | zero => intro i σ _ h; omega
  | succ n ih =>
    intro i σ hi hn h
    rw [fX12_dragsBy_2, ln_8, ifle_n (by omega) (by omega)]
    by_cases c : 8 ≤ i
    · rw [if_pos c]
      exact ⟨σ, rfl, RG.rf, fun v hv => h v (by omega)⟩
    · rw [if_neg c, s_ar_n (by omega) (by decide), nI_s]
      obtain ⟨τ, e, w, hS⟩ := ih (i + 1) (w_ar σ 31 8 i 0) (by omega) (by omega) (fun k hk => by
        rw [m_ar_ar]
        by_cases c : k = i
        · simp [c]
        · rw [if_neg (fun z => c z.2.2)]; exact h k (by omega))
      exact ⟨τ, e, (RG.w8 _ _).tr w, hS⟩
theorem dragsBy_r {t : Int} (hD : WFD D) (hV : WFV D V) (h : WkR σ D V) (hv : v < d_v D) (ht : t = 1 ∨ t = -1) : ∃ τ, fX12_dragsBy 31 (nI v) (iI t) σ = some (if egB D V (egZ D V v t) then 1 else 0, τ) ∧ RG σ τ ∧ oneG (egZ D V v t) ∧ SpR τ (egZ D V v t) := by
  have hd := hD.1
  unfold fX12_dragsBy
  obtain ⟨τ1, e1, w1, s1⟩ := db2 (nI v) (iI t) FU 0 σ (by omega) (FU_gt (by omega)) (fun k hk => by omega)
  rw [show (0 : Int32) = nI 0 from rfl, e1]
  unfold fX12_dragsBy_21
  rw [s_ar_n (by omega) (by decide)]
  have w2 : RG σ (w_ar τ1 31 8 v (iI t)) := w1.tr (RG.w8 _ _)
  have hg : oneG (beZ v t) := by intro i; unfold beZ; split <;> omega
  have hS : SpR (w_ar τ1 31 8 v (iI t)) (beZ v t) := by
    intro u hu
    rw [m_ar_ar]
    unfold beZ
    by_cases e : u = v
    · rw [if_pos ⟨rfl, rfl, e⟩, if_pos e]
    · rw [if_neg (fun z => e z.2.2), if_neg e]; exact s1 u hu
  obtain ⟨τ, e, w3, r1, r2⟩ := db30 hD hV (nI v) (iI t) FU 8 0 (beZ v t) _ (by omega) (by omega) (fun j hj => by omega) (FU_gt (by omega)) (h.rg w2) hg hS
  refine ⟨τ, ?_, w2.tr w3, r1, r2⟩
  refine Eq.trans e ?_
  refine Eq.trans (db181 hD hV (h.rg (w2.tr w3)) r1 r2 (nI v) (iI t) FU 0 (by omega) (FU_gt (by omega))) ?_
  rw [show egB D V (egZ D V v t) = ((fsF (fun u => (egZ D V v t u != 0) && (v_he V).testBit u) (d_v D)).isNone && (fsF (fun s => joB V s && ouB D V (egZ D V v t) s) (d_s D)).isNone) by unfold egB; rw [mo_he hD hV]]
  rfl
theorem ga_one {z : Int} (hD : WFD D) (hV : WFV D V) (hv : v < d_v D) (hz : z = -1 ∨ z = 0 ∨ z = 1) : faN D V v (v_pt V v) ≤ faN D V v (tnN D V v z) + 1 ∧ faN D V v (tnN D V v z) ≤ faN D V v (v_pt V v) + 1 := by
  have hb := hD.2.1 v hv
  have hwl := wt_lt (V := V) hD hv
  have hpt := hV.2.1 v hv
  have htl : tnN D V v z < d_te D v := tn_lt (by omega)
  have e := tn_e (D := D) (V := V) (v := v) hpt (by omega) hz
  rw [fa_e hwl hpt, fa_e hwl htl]
  generalize tnN D V v z = q at *
  generalize v_pt V v = p at *
  generalize wtN D V v = w at *
  generalize d_te D v = t at *
  rcases hz with rfl | rfl | rfl
  · split at e
    · split <;> split <;> omega
    · split at e <;> split <;> split <;> omega
  · split at e
    · split <;> split <;> omega
    · split at e <;> split <;> split <;> omega
  · split at e
    · split <;> split <;> omega
    · split at e <;> split <;> split <;> omega
theorem ga_own (hD : WFD D) (hV : WFV D V) (hv : v < d_v D) (hr : rgB D V v = false) : (faN D V v (v_pt V v) : Int) - faN D V v (tnN D V v (swZ D V v)) = 1 := by
  have hb := hD.2.1 v hv
  have hwl := wt_lt (V := V) hD hv
  have hpt := hV.2.1 v hv
  have hne : v_pt V v ≠ wtN D V v := by
    intro e
    unfold rgB at hr
    rw [beq_iff_eq.mpr e] at hr
    simp at hr
  have hsw := tr_e (D := D) (V := V) hwl hpt
  have htl : tnN D V v (swZ D V v) < d_te D v := tn_lt (by omega)
  have e := tn_e (D := D) (V := V) (v := v) (g := swZ D V v) hpt (by omega) (by have := sw_1 (D := D) (V := V) (v := v); omega)
  have es : swZ D V v = if trN D V v (v_pt V v) ≤ d_te D v - trN D V v (v_pt V v) then 1 else -1 := rfl
  rw [fa_e hwl hpt, fa_e hwl htl]
  generalize tnN D V v (swZ D V v) = q at *
  generalize swZ D V v = z at *
  generalize trN D V v (v_pt V v) = r at *
  generalize v_pt V v = p at *
  generalize wtN D V v = w at *
  generalize d_te D v = t at *
  split at es
  · subst es
    split at hsw <;> (repeat' split at e) <;> (repeat' split) <;> omega
  · subst es
    split at hsw <;> (repeat' split at e) <;> (repeat' split) <;> omega
theorem st_l (hD : WFD D) (hV : WFV D V) (h : WkR σ D V) (hg : oneG g) (hS : SpR σ g) (hv : v < d_v D) (hr : rgB D V v = false) (ho : g v = swZ D V v) : ∀ (n i : Nat), i ≤ d_v D → d_v D - i < n → fX12_isStronger_22 31 (nI v) n (iI (foZ D V g i + if v < i then 0 else (v_sg V (d_ho D v) : Int))) (nI i) σ = some (if 0 < foZ D V g (d_v D) then 1 else 0, σ) := by
  intro n
  induction n with
  | zero => intro i _ h; omega
  | succ n ih =>
    intro i hi hn
    have hd := hD.1
    have hfr := fo_r (g := g) hD hV
    rw [fX12_isStronger_22, show g_ar σ 31 0 2950 (1 : Int32) = g_ar σ 31 0 2950 (nI 1) from rfl, g_ar_n (by decide) (by decide), h.1.2.1, ifle_n (by omega) (by omega)]
    by_cases c : d_v D ≤ i
    · have : i = d_v D := by omega
      subst this
      have := hfr (d_v D) (Nat.le_refl _)
      rw [if_pos c, if_pos hv, Int.add_zero, show (0 : Int32) = iI 0 from rfl, ifle_i (by omega) (by omega) (by omega) (by omega)]
      by_cases c2 : foZ D V g (d_v D) ≤ 0
      · rw [if_pos c2, if_neg (by omega)]
      · rw [if_neg c2, if_pos (by omega)]
    · have hv' : i < d_v D := by omega
      have hb := hD.2.1 i hv'
      have hf := hV.1 (d_ho D i) (by omega)
      have gi := hg i
      have ih := ih (i + 1) (by omega) (by omega)
      rw [foZ] at ih
      rw [if_neg c, g_ar_n (by omega) (by decide), hS _ (by omega), nI_s]
      by_cases c1 : g i = 0
      · have hiv : i ≠ v := fun e => by
          have := sw_1 (D := D) (V := V) (v := v)
          rw [e, ho] at c1; omega
        rw [if_pos c1, Int.add_zero] at ih
        rw [if_pos (by rw [c1]; rfl)]
        have e : (if v < i + 1 then (0 : Int) else (v_sg V (d_ho D v) : Int)) = if v < i then 0 else (v_sg V (d_ho D v) : Int) := by
          by_cases c3 : v < i
          · rw [if_pos c3, if_pos (by omega)]
          · rw [if_neg c3, if_neg (by omega)]
        rw [e] at ih
        exact ih
      · rw [if_neg c1] at ih
        rw [if_neg (by rw [iI_0 (by omega) (by omega)]; exact c1), va2 hD h hv', c_I_s, nI_iI (d_st D i), iI_sub]
        by_cases hiv : i = v
        · subst hiv
          rw [if_pos (by omega), show gaZ D V g i = 1 by
            unfold gaZ
            rw [if_neg (by intro q; unfold rgB at hr; rw [q] at hr; simp at hr), ho]
            exact ga_own hD hV hv hr] at ih
          rw [if_pos rfl, if_neg (by omega)]
          rw [show foZ D V g i + (v_sg V (d_ho D i) : Int) - (d_st D i : Int) = foZ D V g i + (1 * (v_sg V (d_ho D i) : Int) - (d_st D i : Int)) + 0 by omega]
          exact ih
        · have e : (if v < i + 1 then (0 : Int) else (v_sg V (d_ho D v) : Int)) = if v < i then 0 else (v_sg V (d_ho D v) : Int) := by
            by_cases c3 : v < i
            · rw [if_pos c3, if_pos (by omega)]
            · rw [if_neg c3, if_neg (by omega)]
          rw [e] at ih
          generalize (if v < i then (0 : Int) else (v_sg V (d_ho D v) : Int)) = w at *
          rw [if_neg (fun z => hiv ((nI_inj (by omega) (by omega)).mp z)), isCalm_r hD hV h hv', c_I_s]
          have go : ∀ x : Int, x = gaZ D V g i * (v_sg V (d_ho D i) : Int) → fX12_isStronger_22 31 (nI v) n (iI (foZ D V g i + w - (d_st D i : Int)) + iI x) (nI (i + 1)) σ = some (if 0 < foZ D V g (d_v D) then 1 else 0, σ) := by
            intro x hx
            rw [iI_add, hx, show foZ D V g i + w - (d_st D i : Int) + gaZ D V g i * (v_sg V (d_ho D i) : Int) = foZ D V g i + (gaZ D V g i * (v_sg V (d_ho D i) : Int) - (d_st D i : Int)) + w by omega]
            exact ih
          cases hc : clB D V i
          · have hga : gaZ D V g i = (faN D V i (v_pt V i) : Int) - faN D V i (tnN D V i (g i)) := by unfold gaZ; rw [hc, if_neg (by decide)]
            have h1 := ga_one (z := g i) hD hV hv' gi
            have hf1 : faN D V i (v_pt V i) ≤ 60 := by unfold faN; omega
            have hf2 : faN D V i (tnN D V i (g i)) ≤ 60 := by unfold faN; omega
            rw [if_pos (by decide), va3 hD h hv', c_I_s, farFrom_r hD hV h hv' (hV.2.1 i hv'), c_I_s, g_ar_n (by omega) (by decide), hS _ (by omega), turned_r hD hV h hv' gi, c_I_s, farFrom_r hD hV h hv' (tn_lt (by omega)), c_I_s, va1 hD h hv', c_I_s, ln_2460, ln_2, nI_mul, nI_ad, ln_1, nI_ad, g_ar_n (by omega) (by decide), (h.2.2.2.1 _ (by omega)).2, ifle_n (by omega) (by omega), ifle_n (by omega) (by omega)]
            by_cases c4 : faN D V i (v_pt V i) ≤ faN D V i (tnN D V i (g i))
            · rw [if_pos c4]
              by_cases c5 : faN D V i (tnN D V i (g i)) ≤ faN D V i (v_pt V i)
              · rw [if_pos c5]
                exact go 0 (by rw [hga, show ((faN D V i (v_pt V i) : Int) - faN D V i (tnN D V i (g i))) = 0 by omega, Int.zero_mul])
              · rw [if_neg c5, nI_iI (v_sg V (d_ho D i)), iI_neg]
                exact go (-(v_sg V (d_ho D i) : Int)) (by rw [hga, show ((faN D V i (v_pt V i) : Int) - faN D V i (tnN D V i (g i))) = -1 by omega]; omega)
            · rw [if_neg c4, nI_iI (v_sg V (d_ho D i))]
              exact go (v_sg V (d_ho D i) : Int) (by rw [hga, show ((faN D V i (v_pt V i) : Int) - faN D V i (tnN D V i (g i))) = 1 by omega]; omega)
          · rw [if_neg (by decide)]
            have hga : gaZ D V g i = 0 := by unfold gaZ; rw [hc, if_pos rfl]
            have := go 0 (by rw [hga, Int.zero_mul])
            rw [show iI 0 = (0 : Int32) from rfl, Int32.add_zero] at this
            exact this
theorem isStronger_r (hD : WFD D) (hV : WFV D V) (h : WkR σ D V) (hg : oneG g) (hS : SpR σ g) (hv : v < d_v D) (hr : rgB D V v = false) (ho : g v = swZ D V v) : fX12_isStronger 31 (nI v) σ = some (if 0 < foZ D V g (d_v D) then 1 else 0, σ) := by
  have hd := hD.1
  have hb := hD.2.1 v hv
  have e := st_l hD hV h hg hS hv hr ho FU 0 (by omega) (FU_gt (by omega))
  rw [if_neg (by omega), show foZ D V g 0 = 0 from rfl, Int.zero_add] at e
  unfold fX12_isStronger
  rw [va1 hD h hv, c_I_s, show ((2460 : Int32) + (2 : Int32) * nI (d_ho D v)) + (1 : Int32) = nI (2460 + 2 * d_ho D v + 1) by rw [ln_2460, ln_2, nI_mul, nI_ad, ln_1, nI_ad], g_ar_n (by omega) (by decide), (h.2.2.2.1 _ (by omega)).2]
  exact e
end WR
