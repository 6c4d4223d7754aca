/-! PURE 44: the same of the reference -/
def ErR (τ : Mm) (f : Nat × Nat) : Prop := m_sc τ 31 18 = nI f.1 ∧ m_sc τ 31 17 = nI f.2
def RQ (σ τ : Mm) : Prop := m_ar τ = m_ar σ ∧ m_la τ = m_la σ ∧ m_lg τ = m_lg σ ∧ ∀ k, k ≠ 12 → k ≠ 13 → k ≠ 14 → k ≠ 15 → k ≠ 17 → k ≠ 18 → k ≠ 20 → m_sc τ 31 k = m_sc σ 31 k
def RR (σ : Mm) (X : TX) : RZ Nat → Int32 × Mm → Prop
  | .ok p, q => q.1 = 1 ∧ TxR q.2 X p ∧ RQ σ q.2
  | .error f, q => q.1 = 0 ∧ ErR q.2 f ∧ RQ σ q.2
def RN (σ : Mm) (X : TX) (to : Nat) : RZ (Nat × Nat) → Int32 × Mm → Prop
  | .ok a, q => q.1 = 1 ∧ TxR q.2 X a.2 ∧ RQ (w_ar σ 31 0 to (nI a.1)) q.2
  | .error f, q => q.1 = 0 ∧ ErR q.2 f ∧ RQ σ q.2
def RO (σ : Mm) (X : TX) (p : Nat) : RZ (Nat × Nat) → Int32 × Mm → Prop
  | .ok a, q => q.1 = 1 ∧ TxR q.2 X p ∧ m_sc q.2 31 20 = nI a.1 ∧ RQ σ q.2
  | .error f, q => q.1 = 0 ∧ ErR q.2 f ∧ RQ σ q.2
section O
variable {σ τ : Mm} {X : TX} {p : Nat} {β : Type}
theorem RQ.rf : RQ σ σ := ⟨rfl, rfl, rfl, fun _ _ _ _ _ _ _ _ => rfl⟩
theorem RQ.tr {ω : Mm} (h : RQ σ τ) (h2 : RQ τ ω) : RQ σ ω := ⟨h2.1.trans h.1, h2.2.1.trans h.2.1, h2.2.2.1.trans h.2.2.1, fun k a b c d e f g => (h2.2.2.2 k a b c d e f g).trans (h.2.2.2 k a b c d e f g)⟩
theorem RF.q (h : RF σ τ) : RQ σ τ := ⟨h.1, h.2.1, h.2.2.1, fun k a b c d _ _ _ => h.2.2.2 k a b c d⟩
theorem RQ.w {k : Nat} (v : Int32) (hk : k = 17 ∨ k = 18 ∨ k = 20) : RQ σ (w_sc σ 31 k v) := ⟨rfl, rfl, rfl, fun i a b c d e f g => by rw [m_sc_sc, if_neg (by omega)]⟩
theorem bR {res : RZ Nat} {k : Nat → RZ β} {r : Option (Int32 × Mm)} {K : Mm → Option (Int32 × Mm)} {Q : RZ β → Int32 × Mm → Prop} (h : ok r (RR σ X res)) (he : ∀ f τ, ErR τ f → RQ σ τ → Q (.error f) (0, τ)) (hk : ∀ a τ, res = .ok a → TxR τ X a → RQ σ τ → ok (K τ) (Q (k a))) : ok (c_I r (fun x τ => if x = 0 then some ((0 : Int32), τ) else K τ)) (Q (eb res k)) := by
  obtain ⟨⟨x, τ⟩, rfl, h⟩ := h
  rw [c_I_s]
  cases res with
  | error f =>
    obtain ⟨h1, h2, h3⟩ := h
    rw [if_pos h1]; exact ok_some (he f τ h2 h3)
  | ok a =>
    obtain ⟨h1, h2, h3⟩ := h
    have h1 : x = 1 := h1
    rw [if_neg (by rw [h1]; decide)]; exact hk a τ rfl h2 h3
theorem bN {to : Nat} {res : RZ (Nat × Nat)} {k : Nat × Nat → RZ β} {r : Option (Int32 × Mm)} {K : Mm → Option (Int32 × Mm)} {Q : RZ β → Int32 × Mm → Prop} (h : ok r (RN σ X to res)) (he : ∀ f τ, ErR τ f → RQ σ τ → Q (.error f) (0, τ)) (hk : ∀ a τ, res = .ok a → TxR τ X a.2 → RQ (w_ar σ 31 0 to (nI a.1)) τ → ok (K τ) (Q (k a))) : ok (c_I r (fun x τ => if x = 0 then some ((0 : Int32), τ) else K τ)) (Q (eb res k)) := by
  obtain ⟨⟨x, τ⟩, rfl, h⟩ := h
  rw [c_I_s]
  cases res with
  | error f =>
    obtain ⟨h1, h2, h3⟩ := h
    rw [if_pos h1]; exact ok_some (he f τ h2 h3)
  | ok a =>
    obtain ⟨h1, h2, h3⟩ := h
    have h1 : x = 1 := h1
    rw [if_neg (by rw [h1]; decide)]; exact hk a τ rfl h2 h3
theorem bO {res : RZ (Nat × Nat)} {k : Nat × Nat → RZ β} {r : Option (Int32 × Mm)} {K : Mm → Option (Int32 × Mm)} {Q : RZ β → Int32 × Mm → Prop} (h : ok r (RO σ X p res)) (he : ∀ f τ, ErR τ f → RQ σ τ → Q (.error f) (0, τ)) (hk : ∀ a τ, res = .ok a → TxR τ X p → m_sc τ 31 20 = nI a.1 → RQ σ τ → ok (K τ) (Q (k a))) : ok (c_I r (fun x τ => if x = 0 then some ((0 : Int32), τ) else K τ)) (Q (eb res k)) := by
  obtain ⟨⟨x, τ⟩, rfl, h⟩ := h
  rw [c_I_s]
  cases res with
  | error f =>
    obtain ⟨h1, h2, h3⟩ := h
    rw [if_pos h1]; exact ok_some (he f τ h2 h3)
  | ok a =>
    obtain ⟨h1, h2, h3, h4⟩ := h
    have h1 : x = 1 := h1
    rw [if_neg (by rw [h1]; decide)]; exact hk a τ rfl h2 h3 h4
/-! words -/
theorem iw25 {k14 : Int32 → Int32 → Mm → Option (Int32 × Mm)} {v : Int32} {j : Nat} (hj : j < 23) : ∀ n i, kS j ≤ i → i ≤ kS (j + 1) - 1 → kS (j + 1) - 1 - i < n → fX12_inWords_25 31 k14 n v (nI (kS j)) (nI i) σ = fX12_inWords_42 31 k14 v (nI (kS j)) (nI (kS (j + 1) - 1)) σ := by
  intro n
  induction n with
  | zero => intro i _ _ h; omega
  | succ n ih =>
    intro i h1 h2 h3
    obtain ⟨t1, t2, t3, t4⟩ := kS_t j hj
    rw [fX12_inWords_25, g_ky_n (by omega)]
    by_cases c : i = kS (j + 1) - 1
    · rw [c, t4, if_pos rfl]
    · have hl := kyN_l j hj (i - kS j) (by omega) (by omega)
      rw [show kS j + (i - kS j) = i by omega] at hl
      rw [hl.2.2, ln_32, if_neg (fun q => absurd ((nI_inj (by omega) (by omega)).mp q) (by omega)), nI_s]
      exact ih (i + 1) (by omega) (by omega) (by omega)
theorem iw68_0 {k14 : Int32 → Int32 → Mm → Option (Int32 × Mm)} {v2 v3 v4 v6 : Int32} {n : Nat} : fX12_inWords_68 31 k14 (n + 1) v2 v3 v4 0 v6 σ = k14 (v2 + 1) (v4 + 1) σ := by
  rw [fX12_inWords_68]
  by_cases c : v4 ≤ v6
  · rw [if_pos c, fX12_inWords_115, if_pos rfl]
  · rw [if_neg c, if_pos rfl, fX12_inWords_115, if_pos rfl]
theorem iw68 (hX : WTx X) (h : TRB σ X) {k14 : Int32 → Int32 → Mm → Option (Int32 × Mm)} {v2 : Int32} {j a e : Nat} (hj : j < 23) (he : e ≤ X.1) (ha : a ≤ e) (h13 : m_sc σ 31 13 = nI a) (hlen : e - a = kS (j + 1) - 1 - kS j) : ∀ n i, i ≤ e - a → (∀ i', i' < i → X.2 (a + i') = kyN.getD (kS j + i') 0) → e - a - i + 1 < n → fX12_inWords_68 31 k14 n v2 (nI (kS j)) (nI (kS (j + 1) - 1)) 1 (nI (kS j + i)) σ = if ∀ i', i' < e - a → X.2 (a + i') = kyN.getD (kS j + i') 0 then some (v2, σ) else k14 (v2 + 1) (nI (kS (j + 1) - 1) + 1) σ := by
  intro n
  induction n with
  | zero => intro i _ _ h; omega
  | succ n ih =>
    intro i h1 h2 h3
    obtain ⟨t1, t2, t3, t4⟩ := kS_t j hj
    have hL := hX.1
    rw [fX12_inWords_68]
    by_cases c : i = e - a
    · rw [if_pos ((nI_len (by omega) (by omega)).mpr (by omega)), fX12_inWords_115, if_neg (by decide), if_pos (by rw [← c]; exact h2)]
    · have hl := kyN_l j hj i (by omega) (by omega)
      rw [if_neg (fun q => absurd ((nI_len (by omega) (by omega)).mp q) (by omega)), if_neg (by decide), g_ky_n (by omega), r_sc_s, h13, nI_ad, nI_sub (by omega), show a + (kS j + i) - kS j = a + i by omega, byteAt_1 hX h (by omega), c_I_s, hl.2.2, nI_s]
      have hb := hX.2 (a + i) (by omega)
      by_cases c2 : X.2 (a + i) = kyN.getD (kS j + i) 0
      · rw [if_pos (by rw [c2])]
        exact ih (i + 1) (by omega) (fun i' hi' => by
          by_cases e : i' = i
          · rw [e]; exact c2
          · exact h2 i' (by omega)) (by omega)
      · rw [if_neg (fun q => c2 ((nI_inj (by omega) (by omega)).mp q).symm), if_neg (fun q => c2 (q i (by omega)))]
        obtain ⟨m, hm⟩ : ∃ m, n = m + 1 := ⟨n - 1, by omega⟩
        rw [hm, iw68_0]
theorem iw14 (hX : WTx X) (h : TRB σ X) {a e : Nat} (he : e ≤ X.1) (ha : a ≤ e) (h13 : m_sc σ 31 13 = nI a) (h14 : m_sc σ 31 14 = nI e) {r : Int32} (hr : ∀ j, j < 23 → lm X.2 a (e - a) j → r = nI j) (hr2 : (∀ j, j < 23 → ¬ lm X.2 a (e - a) j) → r = -1) : ∀ n j, j ≤ 23 → 23 - j < n → (∀ i, i < j → ¬ lm X.2 a (e - a) i) → fX12_inWords_14 31 n (nI j) (nI (kS j)) σ = some (r, σ) := by
  intro n
  induction n with
  | zero => intro j _ h; omega
  | succ n ih =>
    intro j h1 h2 h3
    have hL := hX.1
    rw [fX12_inWords_14, ln_119]
    by_cases c : j = 23
    · subst c
      rw [if_pos (by decide), hr2 h3]
    · have hj : j < 23 := by omega
      obtain ⟨t1, t2, t3, t4⟩ := kS_t j hj
      have hnx : ¬ lm X.2 a (e - a) j → fX12_inWords_14 31 n (nI j + 1) (nI (kS (j + 1) - 1) + 1) σ = some (r, σ) := fun q => by
        rw [nI_s, nI_s, show kS (j + 1) - 1 + 1 = kS (j + 1) by omega]
        exact ih (j + 1) (by omega) (by omega) (fun i hi => by
          by_cases e : i = j
          · rw [e]; exact q
          · exact h3 i (by omega))
      rw [if_neg (fun q => absurd ((nI_len (by omega) (by omega)).mp q) (by omega)), iw25 hj FU (kS j) (Nat.le_refl _) (by omega) (FU_gt (by omega)), fX12_inWords_42, r_sc_s, r_sc_s, h14, h13, nI_sub (by omega), nI_sub ha]
      by_cases c2 : e - a = kS (j + 1) - 1 - kS j
      · rw [if_pos (by rw [c2])]
        have := iw68 (k14 := fX12_inWords_14 31 n) (v2 := nI j) hX h hj he ha h13 c2 FU 0 (Nat.zero_le _) (fun i' hi' => absurd hi' (Nat.not_lt_zero _)) (FU_gt (by omega))
        refine this.trans ?_
        by_cases c3 : ∀ i', i' < e - a → X.2 (a + i') = kyN.getD (kS j + i') 0
        · rw [if_pos c3, hr j hj ⟨c2, c3⟩]
        · rw [if_neg c3]; exact hnx (fun q => c3 q.2)
      · rw [if_neg (fun q => c2 ((nI_inj (by omega) (by omega)).mp q).symm)]
        obtain ⟨m, hm⟩ : ∃ m, FU = m + 1 := ⟨FU - 1, by have := FU_gt (n := 1) (by decide); omega⟩
        rw [hm, iw68_0]
        exact hnx (fun q => c2 q.1)
theorem inWords_r (hX : WTx X) (h : TxR σ X p) : fX12_inWords 31 σ = some (krI (tW X p), σ) := by
  unfold fX12_inWords
  have hk := tK_le X p
  rw [r_sc_s, h.2.2.1.1, ln_2]
  by_cases c : tK X p = 2
  · obtain ⟨w1, w2, w3⟩ := wd_p c
    have hE := tE_le h.1
    rw [if_pos (by rw [c])]
    have eW : tW X p = kwF (if tE X p - tA X p ≤ 8 then pk X.2 (tA X p) (tE X p - tA X p) else 0) 23 := by unfold tW; rw [if_pos c, tw]
    rw [eW]
    exact iw14 hX h.2.1 hE (by omega) h.2.2.1.2.1 h.2.2.1.2.2.1 (fun j hj q => lm_w hj w3 q) (fun q => lm_n w3 q) FU 0 (by decide) (FU_gt (by decide)) (fun i hi => absurd hi (Nat.not_lt_zero _))
  · rw [if_neg (fun q => c ((nI_inj (by omega) (by omega)).mp q)), tW, if_neg c]; rfl
theorem krI_j {a b : Nat} (ha : a ≤ 23) (hb : b < 23) : krI a = nI b ↔ a = pi b := by
  unfold krI
  obtain ⟨q1, q2⟩ := pi_lt b hb
  by_cases c : a < 23
  · obtain ⟨r1, r2⟩ := pm_lt a c
    rw [if_pos c, nI_inj (by omega) (by omega)]
    exact ⟨fun q => by rw [← q, r2], fun q => by rw [q, q2]⟩
  · rw [if_neg c]
    exact ⟨fun q => absurd q.symm (nI_nem (by omega)), fun q => by omega⟩
theorem krI_m {a : Nat} (ha : a ≤ 23) : krI a = -1 ↔ a = 23 := by
  unfold krI
  by_cases c : a < 23
  · have := (pm_lt a c).1
    rw [if_pos c]
    exact ⟨fun q => absurd q (nI_nem (by omega)), fun q => by omega⟩
  · rw [if_neg c]
    exact ⟨fun _ => by omega, fun _ => rfl⟩
theorem isName_r (hX : WTx X) (h : TxR σ X p) : fX12_isName 31 σ = some (if isNm X p = true then 1 else 0, σ) := by
  unfold fX12_isName
  have hk := tK_le X p
  have hL := hX.1
  have hE := tE_le h.1
  rw [r_sc_s, h.2.2.1.1, ln_2]
  by_cases c : tK X p = 2
  · obtain ⟨w1, w2, w3⟩ := wd_p c
    rw [if_pos (by rw [c]), r_sc_s, r_sc_s, h.2.2.1.2.1, h.2.2.1.2.2.1, nI_sub (by omega), ln_8]
    by_cases c3 : tE X p - tA X p ≤ 8
    · rw [if_neg (fun q => absurd ((nI_ltn (by omega) (by omega)).mp q) (by omega)), inWords_r hX h, c_I_s]
      by_cases c4 : tW X p = 23
      · rw [if_pos ((krI_m (tW_le X p)).mpr c4), if_pos (isNm_e.mpr ⟨c, c3, c4⟩)]
      · rw [if_neg (fun q => c4 ((krI_m (tW_le X p)).mp q)), if_neg (fun q => c4 (isNm_e.mp q).2.2)]
    · rw [if_pos ((nI_ltn (by omega) (by omega)).mpr (by omega)), if_neg (fun q => c3 (isNm_e.mp q).2.1)]
  · rw [if_neg (fun q => c ((nI_inj (by omega) (by omega)).mp q)), if_neg (fun q => c (isNm_e.mp q).1)]
theorem nameHere_l (hX : WTx X) (h : TxR σ X p) : ∀ n i, tA X p ≤ i → i ≤ tE X p → tE X p - i < n → fX12_nameHere_7 31 n (pk X.2 (tA X p) (i - tA X p)) (nI i) σ = some (pk X.2 (tA X p) (tE X p - tA X p), σ) := by
  intro n
  induction n with
  | zero => intro i _ _ h; omega
  | succ n ih =>
    intro i h1 h2 h3
    have hL := hX.1
    have hE := tE_le h.1
    rw [fX12_nameHere_7, r_sc_s, h.2.2.1.2.2.1]
    by_cases c : i = tE X p
    · rw [if_pos ((nI_len (by omega) (by omega)).mpr (by omega)), c]
    · rw [if_neg (fun q => absurd ((nI_len (by omega) (by omega)).mp q) (by omega)), byteAt_1 hX h.2.1 (by omega), c_I_s, nI_s, ← ih (i + 1) (by omega) (by omega) (by omega), show i + 1 - tA X p = (i - tA X p) + 1 by omega, pk, show tA X p + (i - tA X p) = i by omega]
theorem nameHere_r (hX : WTx X) (h : TxR σ X p) (hk : isNm X p = true) : fX12_nameHere 31 σ = some (tw X p, σ) := by
  obtain ⟨k1, k2, k3⟩ := isNm_e.mp hk
  obtain ⟨w1, w2, w3⟩ := wd_p k1
  have hL := hX.1
  have hE := tE_le h.1
  unfold fX12_nameHere
  have := nameHere_l hX h FU (tA X p) (Nat.le_refl _) (by omega) (FU_gt (by omega))
  rw [Nat.sub_self] at this
  rw [r_sc_s, h.2.2.1.2.1, tw, if_pos k2]
  exact this
theorem findHere_l (hX : WTx X) (h : TxR σ X p) (hk : isNm X p = true) {b m : Nat} (hb : b + m ≤ 120) : ∀ n i, i ≤ ixN (fun k => m_la σ 31 1 (b + k)) m (tw X p) → ixN (fun k => m_la σ 31 1 (b + k)) m (tw X p) - i < n → fX12_findHere_2 31 (nI b) (nI m) n (nI i) σ = some (ixI (fun k => m_la σ 31 1 (b + k)) m (tw X p), σ) := by
  intro n
  induction n with
  | zero => intro i _ h; omega
  | succ n ih =>
    intro i h1 h2
    obtain ⟨p1, p2, p3⟩ := ixN_p (fun k => m_la σ 31 1 (b + k)) m (tw X p)
    rw [fX12_findHere_2]
    by_cases c : i = ixN (fun k => m_la σ 31 1 (b + k)) m (tw X p)
    · unfold ixI
      rw [← c] at p3 ⊢
      by_cases c2 : i < m
      · rw [if_neg (fun q => absurd ((nI_len (by omega) (by omega)).mp q) (by omega)), nI_ad, g_la_n (by omega) (by omega), nameHere_r hX h hk, c_L_e rfl, if_pos ((lgc_e _ _).mpr (p3 c2)), if_pos c2]
      · rw [if_pos ((nI_len (by omega) (by omega)).mpr (by omega)), if_neg c2]
    · rw [if_neg (fun q => absurd ((nI_len (by omega) (by omega)).mp q) (by omega)), nI_ad, g_la_n (by omega) (by omega), nameHere_r hX h hk, c_L_e rfl, if_neg (fun q => p2 i (by omega) ((lgc_e _ _).mp q)), nI_s]
      exact ih (i + 1) (by omega) (by omega)
theorem findHere_r (hX : WTx X) (h : TxR σ X p) (hk : isNm X p = true) {b m : Nat} (hb : b + m ≤ 120) {f : Nat → Int64} (hf : ∀ k, k < m → m_la σ 31 1 (b + k) = f k) : fX12_findHere 31 (nI b) (nI m) σ = some (ixI f m (tw X p), σ) := by
  have := (ixN_p (fun k => m_la σ 31 1 (b + k)) m (tw X p)).1
  rw [← ixI_cg (f := fun k => m_la σ 31 1 (b + k)) hf]
  exact findHere_l hX h hk hb FU 0 (Nat.zero_le _) (FU_gt (by omega))
/-! what fails, what is taken -/
theorem fails_r (h : TxR σ X p) (kd : Nat) : ok (fX12_fails 31 (nI kd) σ) (fun q => q.1 = 0 ∧ ErR q.2 (if tK X p = 1 then 1 else kd, tA X p) ∧ RQ σ q.2) := by
  unfold fX12_fails
  have hk := tK_le X p
  rw [r_sc_s, h.2.2.2.1, if_pos rfl, r_sc_s, h.2.2.1.1, ln_1]
  by_cases c : tK X p = 1
  · rw [if_pos (by rw [c]), if_pos c, p_sc_s, r_sc_s, p_sc_s]
    refine ok_some ⟨rfl, ⟨?_, ?_⟩, (RQ.w _ (by decide)).tr (RQ.w _ (by decide))⟩
    · rw [m_sc_sc, if_neg (by omega), m_sc_sc, if_pos ⟨rfl, rfl⟩]
    · rw [m_sc_sc, if_pos ⟨rfl, rfl⟩, m_sc_sc, if_neg (by omega), h.2.2.1.2.1]
  · rw [if_neg (fun q => c ((nI_inj (by omega) (by omega)).mp q)), if_neg c, p_sc_s, r_sc_s, p_sc_s]
    refine ok_some ⟨rfl, ⟨?_, ?_⟩, (RQ.w _ (by decide)).tr (RQ.w _ (by decide))⟩
    · rw [m_sc_sc, if_neg (by omega), m_sc_sc, if_pos ⟨rfl, rfl⟩]
    · rw [m_sc_sc, if_pos ⟨rfl, rfl⟩, m_sc_sc, if_neg (by omega), h.2.2.1.2.1]
theorem ftz (h : TxR σ X p) : ok (c_I (fX12_fails 31 (nI 2) σ) (fun x τ => b_z x τ)) (fun q => q.1 = 0 ∧ ErR q.2 (rT X p) ∧ RQ σ q.2) := rfz (P := fun τ => ErR τ (rT X p) ∧ RQ σ τ) (fails_r h 2)
theorem fkz (h : TxR σ X p) {kd : Nat} (hk : tK X p ≠ 1) : ok (c_I (fX12_fails 31 (nI kd) σ) (fun x τ => b_z x τ)) (fun q => q.1 = 0 ∧ ErR q.2 (kd, tA X p) ∧ RQ σ q.2) := by
  have := fails_r h kd
  rw [if_neg hk] at this
  exact rfz (P := fun τ => ErR τ (kd, tA X p) ∧ RQ σ τ) this
theorem avr (hX : WTx X) (h : TxR σ X p) : ok (c_V (fX12_ahead 31 σ) (fun τ => some ((1 : Int32), τ))) (fun q => q.1 = 1 ∧ TxR q.2 X (tE X p) ∧ RQ σ q.2) := by
  obtain ⟨τ, e1, e2, e3⟩ := ah_r hX h
  rw [e1, c_V_s]
  exact ok_some ⟨rfl, e2, e3.q⟩
theorem isSign_r (hX : WTx X) (h : TxR σ X p) {c : Nat} (hc : c < 256) : fX12_isSign 31 (nI c) σ = some (if tK X p = 4 ∧ tB X p = c then 1 else 0, σ) := by
  unfold fX12_isSign
  have hk := tK_le X p
  rw [r_sc_s, h.2.2.1.1, ln_4]
  by_cases c1 : tK X p = 4
  · rw [if_pos (by rw [c1]), r_sc_s, h.2.2.1.2.2.2.1 c1]
    have hb : tB X p < 256 := by
      by_cases c2 : tA X p < X.1
      · exact hX.2 _ c2
      · unfold tK at c1; rw [if_pos (by omega)] at c1; cases c1
    by_cases c2 : tB X p = c
    · rw [if_pos (by rw [c2]), if_pos ⟨c1, c2⟩]
    · rw [if_neg (fun q => c2 ((nI_inj (by omega) (by omega)).mp q)), if_neg (fun q => c2 q.2)]
  · rw [if_neg (fun q => c1 ((nI_inj (by omega) (by omega)).mp q)), if_neg (fun q => c1 q.1)]
theorem wantSign_r (hX : WTx X) (h : TxR σ X p) : ok (fX12_wantSign 31 59 σ) (RR σ X (sSg X p)) := by
  unfold fX12_wantSign sSg
  rw [ln_59, isSign_r hX h (by decide), c_I_s]
  by_cases c : tK X p = 4 ∧ tB X p = 59
  · rw [if_pos c, if_neg (by decide), if_pos c]
    exact avr hX h
  · rw [if_neg c, if_pos rfl, if_neg c, ln_2]
    exact ftz h
theorem wantWord_r (hX : WTx X) (h : TxR σ X p) {j : Nat} (hj : j < 23) : ok (fX12_wantWord 31 (nI j) σ) (RR σ X (sKw X (pi j) p)) := by
  unfold fX12_wantWord sKw
  rw [inWords_r hX h, c_I_s]
  by_cases c : tW X p = pi j
  · rw [if_pos ((krI_j (tW_le X p) hj).mpr c), if_pos c]
    exact avr hX h
  · rw [if_neg (fun q => c ((krI_j (tW_le X p) hj).mp q)), if_neg c, ln_2]
    exact ftz h
theorem TxR.ar (h : TxR σ X p) (i : Nat) (v : Int32) : TxR (w_ar σ 31 0 i v) X p := ⟨h.1, ⟨h.2.1.1, fun k hk => by rw [m_ar_ar, if_neg (by omega)]; exact h.2.1.2 k hk⟩, h.2.2⟩
theorem TxR.la (h : TxR σ X p) (i : Nat) (v : Int64) : TxR (w_la σ 31 1 i v) X p := h
theorem number_r (hX : WTx X) (h : TxR σ X p) {to lo hi : Nat} (h0 : to < 2950) (h1 : lo < 10000) (h2 : hi < 10000) : ok (fX12_number 31 (nI to) (nI lo) (nI hi) σ) (RN σ X to (sNu X lo hi p)) := by
  unfold fX12_number sNu
  have hk := tK_le X p
  rw [r_sc_s, h.2.2.1.1, ln_3]
  by_cases c : tK X p = 3
  · have hn := (tN_lt c).1
    rw [if_pos (by rw [c]), if_pos c, r_sc_s, h.2.2.1.2.2.2.2 c, r_sc_s, h.2.2.1.2.2.2.2 c, ln_4]
    by_cases c1 : tN X p < lo
    · rw [if_pos ((nI_ltn (by omega) (by omega)).mpr c1), if_neg (by omega)]
      exact fkz h (by omega)
    · rw [if_neg (fun q => c1 ((nI_ltn (by omega) (by omega)).mp q))]
      by_cases c2 : tN X p ≤ hi
      · rw [if_pos ((nI_len (by omega) (by omega)).mpr c2), if_pos (by omega), r_sc_s, h.2.2.1.2.2.2.2 c, s_ar_n h0 (by decide)]
        exact avr hX (h.ar _ _)
      · rw [if_neg (fun q => c2 ((nI_len (by omega) (by omega)).mp q)), if_neg (by omega)]
        exact fkz h (by omega)
  · rw [if_neg (fun q => c ((nI_inj (by omega) (by omega)).mp q)), if_neg c, ln_2]
    exact ftz h
theorem oldOne_r (hX : WTx X) (h : TxR σ X p) {b s m : Nat} (hb : b + s + m ≤ 120) {f : Nat → Int64} (hf : ∀ k, k < m → m_la σ 31 1 (b + s + k) = f k) : ok (fX12_oldOne 31 (nI b) (nI m) (nI s) σ) (RO σ X p (sFd X f m p)) := by
  unfold fX12_oldOne sFd
  rw [isName_r hX h, c_I_s]
  by_cases c : isNm X p = true
  · have hk1 : tK X p ≠ 1 := by rw [(isNm_e.mp c).1]; decide
    rw [if_pos c, if_neg (by decide), nI_ad, findHere_r hX h c hb hf, c_I_s, p_sc_s, r_sc_s, m_sc_sc, if_pos (show 31 = 31 ∧ 20 = 20 from ⟨rfl, rfl⟩), if_pos c]
    have h' : ∀ v, TxR (w_sc σ 31 20 v) X p := fun v => by
      obtain ⟨a, ⟨b1, b2⟩, ⟨c1, c2, c3, c4, c5⟩, d1, d2⟩ := h
      refine ⟨a, ⟨?_, b2⟩, ⟨?_, ?_, ?_, fun q => ?_, fun q => ?_⟩, ?_, ?_⟩ <;> rw [m_sc_sc, if_neg (by omega)]
      · exact b1
      · exact c1
      · exact c2
      · exact c3
      · exact c4 q
      · exact c5 q
      · exact d1
      · exact d2
    by_cases c2 : ixN f m (tw X p) < m
    · rw [if_neg (fun q => (ixI_m (by omega)).mp q c2), if_pos c2]
      exact ok_some ⟨rfl, h' _, by rw [m_sc_sc, if_pos ⟨rfl, rfl⟩, ixI, if_pos c2], RQ.w _ (by decide)⟩
    · rw [if_pos ((ixI_m (by omega)).mpr c2), if_neg c2, ln_3]
      exact ok_mono (fkz (h' _) hk1) (fun q w => ⟨w.1, w.2.1, (RQ.w _ (by decide)).tr w.2.2⟩)
  · rw [if_neg c, if_pos rfl, if_neg c, ln_2]
    exact ftz h
theorem isNew_r (hX : WTx X) (h : TxR σ X p) (hk : isNm X p = true) {D : PD} (hD : d_p D ≤ 4 ∧ d_v D ≤ 8 ∧ d_s D ≤ 10) (hP : PlR (m_ar σ 31 0) (m_la σ 31 1) 1960 88 D) : fX12_isNew 31 σ = some (if nwB D (tw X p) = true then 1 else 0, σ) := by
  obtain ⟨⟨q1, q2, q3⟩, -, -, n1, n2, n3⟩ := hP
  unfold fX12_isNew nwB
  rw [show (1960 : Int32) = nI 1960 from rfl, show (1961 : Int32) = nI 1961 from rfl, show (1962 : Int32) = nI 1962 from rfl, show (88 : Int32) = nI 88 from rfl, show (92 : Int32) = nI 92 from rfl, show (100 : Int32) = nI 100 from rfl, g_ar_n (by decide) (by decide), q1, findHere_r hX h hk (by omega) n1, c_I_s, g_ar_n (by decide) (by decide), q2, findHere_r hX h hk (by omega) n2, c_I_s, g_ar_n (by decide) (by decide), q3, findHere_r hX h hk (by omega) n3, c_I_s]
  by_cases c1 : ixN (d_np D) (d_p D) (tw X p) < d_p D
  · rw [if_neg (fun q => (ixI_m (by omega)).mp q c1)]; simp [c1]
  · rw [if_pos ((ixI_m (by omega)).mpr c1)]
    by_cases c2 : ixN (d_nv D) (d_v D) (tw X p) < d_v D
    · rw [if_neg (fun q => (ixI_m (by omega)).mp q c2)]; simp [c2]
    · rw [if_pos ((ixI_m (by omega)).mpr c2)]
      by_cases c3 : ixN (d_ns D) (d_s D) (tw X p) < d_s D
      · rw [if_neg (fun q => (ixI_m (by omega)).mp q c3)]; simp [c3]
      · rw [if_pos ((ixI_m (by omega)).mpr c3)]; simp [c1, c2, c3]
def NwR (σ : Mm) (X : TX) (i : Nat) (w : Int64) : RZ Nat → Int32 × Mm → Prop
  | .ok p, q => q.1 = 1 ∧ TxR q.2 X p ∧ RQ (w_la σ 31 1 i w) q.2
  | .error f, q => q.1 = 0 ∧ ErR q.2 f ∧ RQ σ q.2
theorem newOne_r (hX : WTx X) (h : TxR σ X p) {D : PD} (hD : d_p D ≤ 4 ∧ d_v D ≤ 8 ∧ d_s D ≤ 10) (hP : PlR (m_ar σ 31 0) (m_la σ 31 1) 1960 88 D) {a m s n : Nat} (ha : a < 3) (hm : m ≤ 10) (hs : s ≤ 12) (hn : n < m) (hc : m_ar σ 31 0 (1960 + a) = nI n) : ok (fX12_newOne 31 (nI a) (nI m) (nI s) σ) (NwR σ X (88 + s + n) (tw X (tE X p)) (sNw X D (tE X p))) := by
  unfold fX12_newOne sNw
  obtain ⟨τ, e1, e2, e3⟩ := ah_r hX h
  rw [ln_1960, nI_ad, g_ar_n (by omega) (by decide), hc, if_neg (fun q => absurd ((nI_inj (by omega) (by omega)).mp q) (by omega)), e1, c_V_s, isName_r hX e2, c_I_s]
  by_cases c : isNm X (tE X p) = true
  · have hk1 : tK X (tE X p) ≠ 1 := by rw [(isNm_e.mp c).1]; decide
    rw [if_pos c, if_neg (by decide), isNew_r hX e2 c hD (by rw [e3.1, e3.2.1]; exact hP), c_I_s, if_pos c]
    by_cases c2 : nwB D (tw X (tE X p)) = true
    · rw [if_pos c2, if_neg (by decide), if_pos c2, g_ar_n (by omega) (by decide), e3.1, hc, nameHere_r hX e2 c, c_L_e rfl, ln_88, nI_ad, nI_ad, s_la_n (by omega) (by decide)]
      refine ok_mono (avr hX (e2.la _ _)) (fun q w => ⟨w.1, w.2.1, RQ.tr ?_ w.2.2⟩)
      refine ⟨e3.1, ?_, e3.2.2.1, e3.q.2.2.2⟩
      funext o j k
      rw [m_la_la, m_la_la, e3.2.1]
    · rw [if_neg c2, if_pos rfl, if_neg c2, ln_3]
      exact ok_mono (fkz e2 hk1) (fun q w => ⟨w.1, w.2.1, e3.q.tr w.2.2⟩)
  · rw [if_neg c, if_pos rfl, if_neg c, ln_2]
    exact ok_mono (ftz e2) (fun q w => ⟨w.1, w.2.1, e3.q.tr w.2.2⟩)
theorem newOne_m (h : TxR σ X p) {a m s : Nat} (hk : tK X p ≠ 1) (ha : a < 3) (hc : m_ar σ 31 0 (1960 + a) = nI m) : ok (fX12_newOne 31 (nI a) (nI m) (nI s) σ) (fun q => q.1 = 0 ∧ ErR q.2 (6, tA X p) ∧ RQ σ q.2) := by
  unfold fX12_newOne
  rw [ln_1960, nI_ad, g_ar_n (by omega) (by decide), hc, if_pos rfl, ln_6]
  exact fkz h hk
end O
