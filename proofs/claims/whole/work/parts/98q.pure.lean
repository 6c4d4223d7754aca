/-! PURE 55: orders, of the reference, to the end -/
def ofin (a : Int32) (τ : Mm) : Option (Int32 × Mm) := r_sc τ 31 18 (fun x => if x = 0 then (g_ar τ 31 0 2950 (1966 : Int32) (fun x28 => s_ar τ 31 0 2950 (6 : Int32) x28 (fun σ29 => fX12_orders_102 31 a FU (120 : Int32) σ29))) else (r_sc τ 31 23 (fun x24 => c_I (fX12_taken 31 x24 τ) (fun x27 σ25 => some (x27, σ25)))))
def OiR (τ : Mm) : RZ OS → Prop
  | .ok s => (m_sc τ 31 18 = 0 ∧ m_sc τ 31 17 = -1) ∧ RoR τ s
  | .error f => ErR τ f
section O
variable {σ τ ω : Mm} {X : TX} {p R : Nat} {D : PD} {s : OS} {G : GS} {β : Type}
theorem s42y {a v2 v3 s0 : Int32} (h : (¬ a < 10 ∧ a ≤ 18) ∨ ((a < 10 ∨ ¬ a ≤ 18) ∧ (a = 20 ∨ a = 22))) : fX12_step_42 31 a v2 v3 s0 σ = fX12_step_99 31 a v2 v3 s0 σ := by
  have k56 : a = 20 ∨ a = 22 → fX12_step_56 31 a v2 v3 s0 σ = fX12_step_99 31 a v2 v3 s0 σ := fun q => by
    unfold fX12_step_56
    by_cases c : a = 20
    · rw [if_pos c, if_neg (by decide)]
    · rw [if_neg c, if_pos (q.resolve_left c), if_neg (by decide)]
  unfold fX12_step_42
  rcases h with ⟨h1, h2⟩ | ⟨h1, h2⟩
  · rw [if_neg h1, if_pos h2, if_neg (by decide)]
  · by_cases c : a < 10
    · rw [if_pos c]; exact k56 h2
    · rw [if_neg c, if_neg (h1.resolve_left c)]; exact k56 h2
theorem s42n {a v2 v3 s0 : Int32} (h1 : a < 10 ∨ ¬ a ≤ 18) (h20 : ¬ a = 20) (h22 : ¬ a = 22) : fX12_step_42 31 a v2 v3 s0 σ = if a = 21 then (r_sc σ 31 22 (fun x27 => if x27 = 0 then (c_I (fX12_fails 31 (2 : Int32) σ) (fun x30 σ28 => b_z x30 σ28)) else (fX12_step_99 31 a v2 v3 s0 σ))) else (c_I (fX12_fails 31 (2 : Int32) σ) (fun x25 σ23 => b_z x25 σ23)) := by
  have k56 : fX12_step_56 31 a v2 v3 s0 σ = if a = 21 then (r_sc σ 31 22 (fun x27 => if x27 = 0 then (c_I (fX12_fails 31 (2 : Int32) σ) (fun x30 σ28 => b_z x30 σ28)) else (fX12_step_99 31 a v2 v3 s0 σ))) else (c_I (fX12_fails 31 (2 : Int32) σ) (fun x25 σ23 => b_z x25 σ23)) := by
    unfold fX12_step_56
    rw [if_neg h20, if_neg h22]
    rfl
  unfold fX12_step_42
  by_cases c : a < 10
  · rw [if_pos c]; exact k56
  · rw [if_neg c, if_neg (h1.resolve_left c)]; exact k56
theorem krY {k : Nat} (h : isStp k = true) : (¬ krI k < 10 ∧ krI k ≤ 18) ∨ ((krI k < 10 ∨ ¬ krI k ≤ 18) ∧ (krI k = 20 ∨ krI k = 22)) := by
  have h' := isStp_e.mp h
  have : k = 10 ∨ k = 11 ∨ k = 12 ∨ k = 13 ∨ k = 14 ∨ k = 15 ∨ k = 16 ∨ k = 17 ∨ k = 18 ∨ k = 20 ∨ k = 22 := by omega
  rcases this with rfl | rfl | rfl | rfl | rfl | rfl | rfl | rfl | rfl | rfl | rfl <;> decide
theorem krN {k : Nat} (h : ¬ isStp k = true) (hk : k ≤ 23) : (krI k < 10 ∨ ¬ krI k ≤ 18) ∧ ¬ krI k = 20 ∧ ¬ krI k = 22 := by
  have h' : ¬ ((10 ≤ k ∧ k ≤ 18) ∨ k = 20 ∨ k = 22) := fun q => h (isStp_e.mpr q)
  have : k = 0 ∨ k = 1 ∨ k = 2 ∨ k = 3 ∨ k = 4 ∨ k = 5 ∨ k = 6 ∨ k = 7 ∨ k = 8 ∨ k = 9 ∨ k = 19 ∨ k = 21 ∨ k = 23 := by omega
  rcases this with rfl | rfl | rfl | rfl | rfl | rfl | rfl | rfl | rfl | rfl | rfl | rfl | rfl <;> decide
theorem step_r (hX : WTx X) (hD : WFD D) (hP : PlR (m_ar σ 31 0) (m_la σ 31 1) 0 0 D) (hI : IvO D s) (hC : RoR σ s) (h : TxR σ X p) : ok (fX12_step 31 σ) (SR σ X (sSt X D s p)) := by
  have hW := tW_le X p
  have hi := hI.1
  have ert : ok (c_I (fX12_fails 31 (2 : Int32) σ) (fun x τ => b_z x τ)) (SR σ X (.error (rT X p))) := ok_mono (ftz h) (fun q w => ⟨w.1, w.2.1, w.2.2.fr⟩)
  have nok : ∀ n, tW X p = n → n < 23 → tK X p ≠ 1 := fun n e hn q => by
    unfold tW at e; rw [if_neg (by omega)] at e; omega
  have erk : tW X p < 23 → ∀ kd : Nat, ok (c_I (fX12_fails 31 (nI kd) σ) (fun x τ => b_z x τ)) (SR σ X (.error (kd, tA X p))) := fun q kd => ok_mono (fkz h (nok _ rfl q)) (fun q w => ⟨w.1, w.2.1, w.2.2.fr⟩)
  have n18 : krI (tW X p) = 18 ↔ tW X p = 18 := krI_j hW (b := 18) (by decide)
  have n20 : krI (tW X p) = 20 ↔ tW X p = 20 := krI_j hW (b := 20) (by decide)
  have n21 : krI (tW X p) = 21 ↔ tW X p = 21 := krI_j hW (b := 21) (by decide)
  have e42 : fX12_step 31 σ = fX12_step_42 31 (krI (tW X p)) (nI (o_r s.1)) (nI (2080 + 6 * o_r s.1)) (if opn (tW X p) = true then 1 else 0) σ := by
    unfold fX12_step
    rw [inWords_r hX h, c_I_s, show (1966 : Int32) = nI 1966 from rfl, g_ar_n (by decide) (by decide), hC.1, show (2080 : Int32) = nI 2080 from rfl, ln_6, nI_mul, nI_ad]
    by_cases c18 : tW X p = 18
    · rw [if_pos (n18.mpr c18), if_pos (opn_e.mpr (Or.inl c18))]
    · rw [if_neg (fun q => c18 (n18.mp q))]
      by_cases c20 : tW X p = 20
      · rw [if_pos (n20.mpr c20), if_pos (opn_e.mpr (Or.inr c20))]
      · rw [if_neg (fun q => c20 (n20.mp q)), if_neg (fun q => (opn_e.mp q).elim c18 c20)]
  rw [e42]
  unfold sSt
  by_cases c21 : tW X p = 21
  · have ns : ¬ isStp (tW X p) = true := fun q => by have := isStp_e.mp q; omega
    have no : ¬ opn (tW X p) = true := fun q => by have := opn_e.mp q; omega
    have ek : krI (tW X p) = nI (pm 21) := by rw [c21]; rfl
    obtain ⟨y1, y2, y3⟩ := krN ns hW
    rw [s42n y1 y2 y3, if_pos (n21.mpr c21), if_pos c21, r_sc_s, hC.2.2.1]
    by_cases c0 : s.2.2 = 0
    · rw [if_pos (show nI s.2.2 = 0 by rw [c0]; rfl), if_pos c0]
      exact ert
    · rw [if_neg (fun q => c0 ((nI_eq0 (by omega)).mp q)), if_neg c0, if_neg no]
      unfold fX12_step_99
      rw [if_pos (n21.mpr c21), if_pos rfl, ek]
      exact stepE hX hD hI hC h (by omega)
  · rw [if_neg c21]
    by_cases cs : isStp (tW X p) = true
    · have cs' := isStp_e.mp cs
      have ek : krI (tW X p) = nI (pm (tW X p)) := if_pos (by omega)
      rw [s42y (krY cs), if_pos cs]
      unfold fX12_step_99
      rw [if_neg (fun q => c21 (n21.mp q)), r_sc_s, hC.2.2.2.1]
      by_cases cm : 30 ≤ o_m s.1
      · rw [if_pos (show nI (o_m s.1) = 30 by rw [show o_m s.1 = 30 by omega]; rfl), if_pos cm]
        exact erk (by omega) 6
      · rw [if_neg (show ¬ nI (o_m s.1) = 30 from fun q => absurd ((nI_inj (b := 30) (by omega) (by decide)).mp q) (by omega)), if_neg cm]
        by_cases co : opn (tW X p) = true
        · rw [if_pos co, if_neg (show ¬ (1 : Int32) = 0 by decide), r_sc_s, hC.2.2.1]
          by_cases c3 : 3 ≤ s.2.2
          · rw [if_pos (show nI s.2.2 = 3 by rw [show s.2.2 = 3 by omega]; rfl), if_pos ⟨co, c3⟩]
            exact erk (by omega) 7
          · rw [if_neg (show ¬ nI s.2.2 = 3 from fun q => absurd ((nI_inj (b := 3) (by omega) (by decide)).mp q) (by omega)), if_neg (fun q => c3 q.2), ek]
            have := stepB hX hD hP hI hC h cs (by omega) (fun _ => by omega)
            rw [if_pos co] at this
            exact this
        · rw [if_neg co, if_pos rfl, if_neg (fun q => co q.1), ek]
          have := stepB hX hD hP hI hC h cs (by omega) (fun q => absurd q co)
          rw [if_neg co] at this
          exact this
    · obtain ⟨y1, y2, y3⟩ := krN cs hW
      rw [s42n y1 y2 y3, if_neg (fun q => c21 (n21.mp q)), if_neg cs]
      exact ert
theorem or57e {a : Int32} {f : Nat × Nat} (hf : 1 ≤ f.1 ∧ f.1 ≤ 7) (e : ErR σ f) : fX12_orders_57 31 a σ = ofin a σ := by
  unfold fX12_orders_57
  rw [r_sc_s, e.1, if_neg (fun q => absurd ((nI_eq0 (by omega)).mp q) (by omega))]
  rfl
theorem or38 (hX : WTx X) (hD : WFD D) {a : Int32} : ∀ m n (σ : Mm) (s : OS) (p : Nat), m < n → o_r s.1 + m = 61 → IvO D s → TxR σ X p → PlR (m_ar σ 31 0) (m_la σ 31 1) 0 0 D → RoR σ s → ∃ τ, fX12_orders_38 31 a n 1 σ = ofin a τ ∧ FR σ τ ∧ OiR τ (spOr X D m s p) := by
  intro m
  induction m with
  | zero => intro n σ s p _ hs hI; have := hI.1; omega
  | succ m ih =>
    intro n σ s p hn hs hI h hP hC
    obtain ⟨n, rfl⟩ : ∃ k, n = k + 1 := ⟨n - 1, by omega⟩
    have hk := tK_le X p
    have hi := hI.1
    rw [fX12_orders_38, spOr, if_neg (by decide), r_sc_s, h.2.2.1.1]
    by_cases c : tK X p = 0
    · rw [if_pos (show nI (tK X p) = 0 by rw [c]; rfl), if_pos c]
      unfold fX12_orders_57
      rw [r_sc_s, h.2.2.2.1, if_pos rfl, r_sc_s, hC.2.2.1]
      by_cases c0 : 0 < s.2.2
      · rw [if_neg (show ¬ nI s.2.2 ≤ 0 from fun q => absurd ((nI_len (b := 0) (by omega) (by decide)).mp q) (by omega)), if_pos c0]
        obtain ⟨⟨x, τ⟩, e1, e2, e3, e4⟩ := fails_r h 2
        refine ⟨τ, ?_, e4.fr, e3⟩
        rw [show fX12_fails 31 (2 : Int32) σ = some (x, τ) from e1, c_I_s]
        rfl
      · rw [if_pos (show nI s.2.2 ≤ 0 from (nI_len (b := 0) (by omega) (by decide)).mpr (by omega)), if_neg c0]
        exact ⟨σ, rfl, FR.rf, ⟨h.2.2.2.1, h.2.2.2.2⟩, hC⟩
    · rw [if_neg (fun q => c ((nI_eq0 (by omega)).mp q)), if_neg c]
      obtain ⟨⟨x, τ⟩, e1, e2⟩ := step_r hX hD hP hI hC h
      rw [e1, c_I_s]
      cases e3 : sSt X D s p with
      | error f =>
        rw [e3] at e2
        have ex : x = 0 := e2.1
        subst ex
        obtain ⟨n, rfl⟩ : ∃ k, n = k + 1 := ⟨n - 1, by omega⟩
        have hf := EB.st f e3
        rw [fX12_orders_38, if_pos rfl, or57e hf e2.2.1]
        exact ⟨τ, rfl, e2.2.2, e2.2.1⟩
      | ok r =>
        rw [e3] at e2
        have ex : x = 1 := e2.1
        subst ex
        obtain ⟨w1, w2⟩ := sSt_w hI e3
        obtain ⟨ω, g1, g2, g3⟩ := ih n τ r.1 r.2 (by omega) (by omega) w1 e2.2.1 (hP.fr hD e2.2.2.2) e2.2.2.1
        exact ⟨ω, g1, e2.2.2.2.tr g2, g3⟩
theorem oc102 {a : Int32} : ∀ k i (σ : Mm), i ≤ 490 → 490 - i < k → ∃ τ, fX12_orders_102 31 a k (nI i) σ = (r_sc τ 31 23 (fun x40 => c_I (fX12_taken 31 x40 τ) (fun x43 σ41 => some (x43, σ41)))) ∧ m_la τ = m_la σ ∧ m_sc τ = m_sc σ ∧ m_lg τ = m_lg σ ∧ (∀ j, j ≠ 0 → m_ar τ 31 j = m_ar σ 31 j) ∧ ∀ q, m_ar τ 31 0 q = if i ≤ q ∧ q < 490 then m_ar σ 31 0 (1960 + q) else m_ar σ 31 0 q := by
  intro k
  induction k with
  | zero => intro i σ _ h; omega
  | succ k ih =>
    intro i σ hi hk
    rw [fX12_orders_102, ln_490, ifle_n (by decide) (by omega)]
    by_cases c : 490 ≤ i
    · rw [if_pos c]
      exact ⟨σ, rfl, rfl, rfl, rfl, fun _ _ => rfl, fun q => by rw [if_neg (by omega)]⟩
    · rw [if_neg c, ln_1960, nI_ad, g_ar_n (by omega) (by decide), s_ar_n (by omega) (by decide), nI_s]
      obtain ⟨τ, e1, e2, e3, e4, e5, e6⟩ := ih (i + 1) (w_ar σ 31 0 i (m_ar σ 31 0 (1960 + i))) (by omega) (by omega)
      refine ⟨τ, e1, e2, e3, e4, fun j hj => ?_, fun q => ?_⟩
      · rw [e5 j hj]; funext q; rw [m_ar_ar, if_neg (by omega)]
      · rw [e6 q, m_ar_ar, m_ar_ar, if_neg (show ¬ (31 = 31 ∧ 0 = 0 ∧ 1960 + q = i) by omega)]
        by_cases c1 : q = i
        · rw [if_neg (by omega), if_pos ⟨rfl, rfl, c1⟩, if_pos (by omega), c1]
        · rw [if_neg (show ¬ (31 = 31 ∧ 0 = 0 ∧ q = i) from fun z => c1 z.2.2)]
          by_cases c2 : i + 1 ≤ q ∧ q < 490
          · rw [if_pos c2, if_pos (by omega)]
          · rw [if_neg c2, if_neg (by omega)]
theorem StR.cg6 {A A' : Nat → Int32} {V : SD} (hD : WFD D) (hA : ∀ k, k < 120 → k ≠ 6 → A' k = A k) (h : StR A 0 D V) : StR A' 0 D V := by
  obtain ⟨a, b, c, d, e, f⟩ := h
  obtain ⟨⟨b1, b2, b3⟩, -, -⟩ := hD
  refine ⟨fun q hq => ⟨?_, ?_⟩, fun v hv => ⟨?_, ?_, ?_⟩, fun k hk => ?_, ?_, ?_, ?_⟩
  · rw [hA _ (by omega) (by omega)]; exact (a q hq).1
  · rw [hA _ (by omega) (by omega)]; exact (a q hq).2
  · rw [hA _ (by omega) (by omega)]; exact (b v hv).1
  · rw [hA _ (by omega) (by omega)]; exact (b v hv).2.1
  · rw [hA _ (by omega) (by omega)]; exact (b v hv).2.2
  · rw [hA _ (by omega) (by omega)]; exact c k hk
  · rw [hA _ (by omega) (by omega)]; exact d
  · rw [hA _ (by omega) (by omega)]; exact e
  · rw [hA _ (by omega) (by omega)]; exact f
theorem RoR.orr {A' : Nat → Int32} (h : RoR σ s) (hg : o_g s.1 = true) (hd : s.2.2 = 0) (hr : o_r s.1 ≤ 60) (h6 : A' 6 = nI (o_r s.1)) (hA : ∀ q, 120 ≤ q → q < 490 → A' q = m_ar σ 31 0 (1960 + q)) : OrR A' 0 s.1 := by
  refine ⟨by rw [if_pos hg]; exact h6, fun _ r hr' => ?_⟩
  obtain ⟨⟨b0, b1, b2, b3, b4, b5⟩, b6, b7⟩ := h.2.1 r hr'
  have e : ∀ x, x < 6 → A' (0 + (120 + x) + 6 * r) = m_ar σ 31 0 (2080 + 6 * r + x) := fun x hx => by
    rw [hA _ (by omega) (by omega), show 1960 + (0 + (120 + x) + 6 * r) = 2080 + 6 * r + x by omega]
  have e0 : A' (0 + 120 + 6 * r) = m_ar σ 31 0 (2080 + 6 * r) := e 0 (by decide)
  have e1 : A' (0 + 121 + 6 * r) = m_ar σ 31 0 (2080 + 6 * r + 1) := e 1 (by decide)
  have e2 : A' (0 + 122 + 6 * r) = m_ar σ 31 0 (2080 + 6 * r + 2) := e 2 (by decide)
  have e3 : A' (0 + 123 + 6 * r) = m_ar σ 31 0 (2080 + 6 * r + 3) := e 3 (by decide)
  have e4 : A' (0 + 124 + 6 * r) = m_ar σ 31 0 (2080 + 6 * r + 4) := e 4 (by decide)
  have e5 : A' (0 + 125 + 6 * r) = m_ar σ 31 0 (2080 + 6 * r + 5) := e 5 (by decide)
  rw [e0, e1, e2, e3, e4, e5]
  refine ⟨b0, b1, b2, b3, b4, b5, fun z => ?_⟩
  have b7' : (o_k s.1 r = 18 ∨ o_k s.1 r = 20) → m_ar σ 31 0 (2080 + 6 * r + 4) = nI (o_p s.1 r) := fun z => by
    rcases b7 z with ⟨i, hi, -⟩ | w
    · omega
    · exact w
  rcases z with z | z | z
  · exact b7' (Or.inl z)
  · exact b7' (Or.inr z)
  · exact b6 z
theorem orders_r (a : Int32) (hW : WFG G) (h : RepR σ G) : OR (fX12_orders 31 a σ) (spOl a G) := by
  have h9 := hW.2.1.1
  unfold fX12_orders spOl
  have hno : ∀ (x : Option (Int32 × Mm)), x = some (0, σ) → OR (c_I x (fun x3 σ1 => if x3 = 0 then (c_I (fX12_refuse 31 (1 : Int32) σ1) (fun x9 σ7 => some (x9, σ7))) else (s_ar σ1 31 0 2950 (1966 : Int32) (0 : Int32) (fun σ4 => p_sc σ4 31 22 (0 : Int32) (fun σ5 => p_sc σ5 31 23 (0 : Int32) (fun σ6 => fX12_orders_38 31 a FU (1 : Int32) σ6)))))) (-1, stq 1 G) := fun x e => by
    rw [e, c_I_s, if_pos rfl]; exact OR.non hW h _
  rcases i_cases a with ha | ⟨n, hn, rfl⟩
  · rw [if_pos (Or.inl ha)]
    exact hno _ (by unfold fX12_begins; rw [if_pos ha])
  · by_cases c : (g_x G).1 < n
    · rw [if_pos (Or.inr (Or.inl ((nI_ltn (by omega) (by omega)).mpr c)))]
      exact hno _ (by unfold fX12_begins; rw [if_neg (nI_neg0 hn), r_sc_s, h.2.2.1.1, if_pos ((nI_ltn (by omega) (by omega)).mpr c)])
    · by_cases c3 : 300 < n
      · rw [if_pos (Or.inr (Or.inr ((nI_ltn (by omega) (by omega)).mpr c3)))]
        exact hno _ (by unfold fX12_begins; rw [if_neg (nI_neg0 hn), r_sc_s, h.2.2.1.1, if_neg (fun q => c ((nI_ltn (by omega) (by omega)).mp q)), if_neg (show ¬ nI n ≤ 300 from fun q => absurd ((nI_len (b := 300) (by omega) (by decide)).mp q) (by omega))])
      · rw [if_neg (fun q => q.elim (nI_neg0 hn) (fun q => q.elim (fun q => c ((nI_ltn (by omega) (by omega)).mp q)) (fun q => c3 ((nI_ltn (by omega) (by omega)).mp q)))), nI_cl hn]
        obtain ⟨τ1, e1, x1, f1, a1, l1, s1⟩ := begins_r (m := 300) hW h (n := n) (by omega) ((nI_len (b := 300) (by omega) (by decide)).mpr (by omega))
        have hX := (tx_w hW (n := n) (by omega)).1
        have hD := hW.d
        rw [e1, c_I_s, if_neg (by decide), show (1966 : Int32) = nI 1966 from rfl, s_ar_n (by decide) (by decide), p_sc_s, p_sc_s]
        have hP2 : PlR (m_ar (w_sc (w_sc (w_ar τ1 31 0 1966 0) 31 22 0) 31 23 0) 31 0) (m_la (w_sc (w_sc (w_ar τ1 31 0 1966 0) 31 22 0) 31 23 0) 31 1) 0 0 (GD G) := by
          refine PlR.cg (i := 0) hD (fun k _ hk => ?_) (fun k _ hk => ?_) h.2.2.2.1.1
          · show m_ar (w_ar τ1 31 0 1966 0) 31 0 k = m_ar σ 31 0 k
            rw [m_ar_ar, if_neg (by omega), a1]
          · show m_la τ1 31 1 k = m_la σ 31 1 k
            rw [l1]
        have hR2 : RoR (w_sc (w_sc (w_ar τ1 31 0 1966 0) 31 22 0) 31 23 0) Sy := by
          refine ⟨?_, fun r hr => absurd hr (Nat.not_lt_zero _), ?_, ?_, fun i hi => absurd hi (Nat.not_lt_zero _)⟩
          · show m_ar (w_ar τ1 31 0 1966 0) 31 0 1966 = nI 0
            rw [m_ar_ar, if_pos ⟨rfl, rfl, rfl⟩]; rfl
          · rw [m_sc_sc, if_neg (by omega), m_sc_sc, if_pos ⟨rfl, rfl⟩]; rfl
          · rw [m_sc_sc, if_pos ⟨rfl, rfl⟩]; rfl
        obtain ⟨τ3, e3, f3, v3⟩ := or38 hX hD (a := nI n) 61 FU (w_sc (w_sc (w_ar τ1 31 0 1966 0) 31 22 0) 31 23 0) Sy 0 (FU_gt (by decide)) rfl Sy_w (((x1.ar _ _).s2 _ (Or.inl rfl)).s2 _ (Or.inr rfl)) hP2 hR2
        have g3 : FR0 σ τ3 := (f1.tr (((FR.rf.ar (by decide)).s2 (Or.inl rfl)).s2 (Or.inr rfl))).tr f3
        have h10 : m_sc τ3 31 10 = 0 := by
          rw [f3.2.1 10 (by decide) (by decide) (by decide), m_sc_sc, if_neg (by omega), m_sc_sc, if_neg (by omega)]; exact s1
        rw [e3]
        unfold ofin
        cases er : spOr (txG G n) (GD G) 61 Sy 0 with
        | error f =>
          rw [er] at v3
          have hf := EB.or 61 Sy 0 f er
          have v3 : ErR τ3 f := v3
          rw [r_sc_s, v3.1, if_neg (show ¬ nI f.1 = 0 from fun q => absurd ((nI_eq0 (by omega)).mp q) (by omega)), r_sc_s, taken_1 hf v3.1, c_I_s]
          exact ⟨_, rfl, flt_r hW h g3 h10 v3⟩
        | ok s =>
          rw [er] at v3
          obtain ⟨⟨z1, z2⟩, z3⟩ := v3
          have hwf := spOr_w 61 Sy 0 s Sy_w er
          have hg := spOr_g 61 Sy 0 s rfl er
          have hr60 : o_r s.1 ≤ 60 := by have := hwf.1.1; omega
          obtain ⟨τ5, e5, l5, s5, g5, a5, b5⟩ := oc102 (a := nI n) FU 120 (w_ar τ3 31 0 6 (nI (o_r s.1))) (by decide) (FU_gt (by decide))
          have hA1 : ∀ q, q < 120 → q ≠ 6 → m_ar τ5 31 0 q = m_ar τ3 31 0 q := fun q q1 q2 => by rw [b5, if_neg (by omega), m_ar_ar, if_neg (by omega)]
          have hA2 : ∀ q, 490 ≤ q → m_ar τ5 31 0 q = m_ar τ3 31 0 q := fun q q1 => by rw [b5, if_neg (by omega), m_ar_ar, if_neg (by omega)]
          have hA3 : ∀ q, 120 ≤ q → q < 490 → m_ar τ5 31 0 q = m_ar τ3 31 0 (1960 + q) := fun q q1 q2 => by rw [b5, if_pos ⟨q1, q2⟩, m_ar_ar, if_neg (by omega)]
          have hA6 : m_ar τ5 31 0 6 = nI (o_r s.1) := by rw [b5, if_neg (by omega), m_ar_ar, if_pos ⟨rfl, rfl, rfl⟩]
          have hs : m_sc τ5 = m_sc τ3 := s5
          have hl : m_la τ5 = m_la τ3 := l5
          have hgg : m_lg τ5 = m_lg τ3 := g5
          have haj : ∀ j, j ≠ 0 → m_ar τ5 31 j = m_ar τ3 31 j := fun j hj => by rw [a5 j hj]; funext q; rw [m_ar_ar, if_neg (by omega)]
          rw [r_sc_s, z1, if_pos rfl, show (1966 : Int32) = nI 1966 from rfl, g_ar_n (by decide) (by decide), z3.1, ln_6, s_ar_n (by decide) (by decide), ln_120, e5, r_sc_s, hs, z3.2.2.2.1, taken_0 (by rw [hs]; exact z1), c_I_s]
          have us : ∀ k, k ≠ 2 → k ≠ 16 → m_sc (w_sc (w_sc τ5 31 16 0) 31 2 0) 31 k = m_sc τ3 31 k := fun k a b => by rw [m_sc_sc, if_neg (by omega), m_sc_sc, if_neg (by omega), hs]
          have h3 := hW.2.2.2.1
          refine ⟨_, rfl, RepR.gen (σ := σ) _ _ _ _ _ _ (fun j hj => ?_) ?_ ?_ ⟨rfl, ?_, ?_, ?_, ?_⟩ ?_ ⟨?_, fun k hk => absurd hk (Nat.not_lt_zero _)⟩ ⟨?_, ?_, ?_⟩ (fun i hi => ?_) h⟩
          · show m_ar τ5 31 j = m_ar σ 31 j
            rw [haj j (by omega)]; exact g3.2.2.1 j (by omega) (by omega) (by omega)
          · show m_la τ5 31 4 = m_la σ 31 4
            rw [hl]; exact g3.2.2.2.2.1 4 (by decide)
          · rw [us 42 (by decide) (by decide)]; exact g3.2.1 42 (by decide) (by decide) (by decide)
          · show m_lg τ5 31 3 = g_t G
            rw [hgg, g3.1]; exact h.1.2.1
          · show m_lg τ5 31 4 = g_b G
            rw [hgg, g3.1]; exact h.1.2.2.1
          · rw [m_sc_sc, if_neg (by omega), m_sc_sc]; exact if_pos ⟨rfl, rfl⟩
          · rw [us 17 (by decide) (by decide)]; exact z2
          · rw [us 44 (by decide) (by decide), g3.2.1 44 (by decide) (by decide) (by decide)]; exact h.2.2.2.2.1.1
          · rw [us 10 (by decide) (by decide), h10]; rfl
          · show PlR (m_ar τ5 31 0) (m_la τ5 31 1) 0 0 (GD G)
            refine PlR.cg0 (A := m_ar τ3 31 0) hD (fun k hk => hA1 k (by omega) (by omega)) ?_
            rw [hl]
            exact PlR.cg (i := 0) hD (fun k _ hk => g3.2.2.2.1 k (by omega)) (fun k _ hk => g3.2.2.2.2.2 k (by omega)) h.2.2.2.1.1
          · show StR (m_ar τ5 31 0) 0 (GD G) (GV G)
            exact StR.cg6 (A := m_ar τ3 31 0) hD hA1 (StR.cg (i := 0) hD (fun k _ hk => g3.2.2.2.1 k (by omega)) h.2.2.2.1.2.1)
          · show OrR (m_ar τ5 31 0) 0 s.1
            exact z3.orr hg hwf.2 hr60 hA6 hA3
          · refine TwR.cg (hW.2.2.2.2.1 i hi) (fun k q1 q2 => ?_) (fun k q1 q2 => ?_) (h.2.2.2.2.1.2 i hi)
            · show m_ar τ5 31 0 k = m_ar σ 31 0 k
              rw [hA2 k (by omega)]; exact g3.2.2.2.1 k (by omega)
            · show m_la τ5 31 1 k = m_la σ 31 1 k
              rw [hl]; exact g3.2.2.2.2.2 k (by omega)
theorem orders_w (a : Int32) (hW : WFG G) : WFG (spOl a G).2 := by
  unfold spOl
  split
  · exact hW
  · split
    · exact flt_w hW
    · rename_i r er
      have hwf := spOr_w 61 Sy 0 r Sy_w er
      exact ⟨hW.1, ⟨Nat.zero_le _, fun k hk => absurd hk (Nat.not_lt_zero _)⟩, ⟨hW.2.2.1.1, hW.2.2.1.2.1, hwf.1.f hwf.2⟩, hW.2.2.2⟩
theorem orders_s (a : Int32) (σ : Mm) (h : Rel σ) : ok (fX11_orders 0 a σ) (fun q => ok (fX12_orders 31 a q.2) (fun q' => q'.1 = q.1 ∧ Rel q'.2)) :=
  simS (fc := fX11_orders 0 a) (fr := fX12_orders 31 a) (ks := [1, 5, 6, 7, 11]) (by decide) (spOl a) (fun σ G => orders_c a) (fun σ G => orders_r a) (fun G hW => orders_w a hW) (fun σ x τ ee => F_sub (frX11_orders 0 a (by decide) σ ee) (by decide)) (fun σ x τ ee => F_sub (frX12_orders 31 a (by decide) σ ee) (by decide)) σ h
end O
