/-! PURE 42: words that are kept; how the reference comes to its tokens -/
def kyN : List Nat := [32, 112, 108, 97, 99, 101, 32, 118, 97, 110, 101, 32, 103, 101, 97, 114, 32, 98, 101, 108, 116, 32, 116, 101, 101, 116, 104, 32, 97, 116, 32, 115, 116, 105, 102, 102, 32, 112, 111, 105, 110, 116, 115, 32, 111, 102, 32, 115, 108, 97, 99, 107, 32, 119, 105, 110, 100, 32, 103, 117, 115, 116, 32, 119, 97, 105, 116, 32, 108, 105, 102, 116, 32, 108, 111, 119, 101, 114, 32, 104, 111, 108, 100, 32, 102, 114, 101, 101, 32, 116, 117, 114, 110, 32, 119, 104, 101, 110, 32, 114, 105, 103, 104, 116, 32, 108, 111, 111, 112, 32, 101, 110, 100, 32, 115, 116, 111, 112, 32]
def kS (j : Nat) : Nat := [1, 7, 12, 17, 22, 28, 31, 37, 44, 47, 53, 58, 63, 68, 73, 79, 84, 89, 94, 99, 105, 110, 114, 119].getD j 0
def pmL : List Nat := [0, 1, 4, 5, 6, 7, 2, 3, 8, 9, 10, 12, 13, 14, 15, 16, 17, 11, 18, 19, 20, 21, 22]
def pm (k : Nat) : Nat := pmL.getD k 0
def piL : List Nat := [0, 1, 6, 7, 2, 3, 4, 5, 8, 9, 10, 17, 11, 12, 13, 14, 15, 16, 18, 19, 20, 21, 22]
def pi (j : Nat) : Nat := piL.getD j 0
def krI (k : Nat) : Int32 := if k < 23 then nI (pm k) else -1
theorem pm_lt : ∀ k, k < 23 → pm k < 23 ∧ pi (pm k) = k := by decide
theorem pi_lt : ∀ j, j < 23 → pi j < 23 ∧ pm (pi j) = j := by decide
theorem kS_t : ∀ j, j < 23 → kS j + 1 < kS (j + 1) ∧ kS (j + 1) ≤ 119 ∧ kS (j + 1) - 1 - kS j ≤ 6 ∧ kyB.getD (kS (j + 1) - 1) 0 = 32 := by decide
theorem kyN_l : ∀ j, j < 23 → ∀ i, i < 6 → i < kS (j + 1) - 1 - kS j → 97 ≤ kyN.getD (kS j + i) 0 ∧ kyN.getD (kS j + i) 0 ≤ 122 ∧ kyB.getD (kS j + i) 0 = nI (kyN.getD (kS j + i) 0) := by decide
def pkN (T : Nat → Nat) (a : Nat) : Nat → Nat
  | 0 => 0
  | n + 1 => 256 * pkN T a n + T (a + n)
theorem kwL_n : ∀ k, k < 23 → kwL.getD k 0 = lN (pkN (fun i => kyN.getD i 0) (kS (pm k)) (kS (pm k + 1) - 1 - kS (pm k))) ∧ kwL.getD k 0 ≠ 0 := by decide
theorem kwL_j : ∀ k, k < 23 → ∀ k', k' < 23 → kwL.getD k 0 = kwL.getD k' 0 → k = k' := by decide
theorem pk_s {x d : Nat} (hx : x < 2 ^ 56) (hd : d < 256) : (lN x <<< ((8 : Int32).toInt64 &&& 63)) ||| (nI d).toInt64 = lN (256 * x + d) := by
  rw [nI_l (by omega), show ((8 : Int32).toInt64 &&& 63 : Int64) = 8 from by decide]
  apply Int64.toBitVec_inj.mp
  rw [Int64.toBitVec_or, Int64.toBitVec_shiftLeft]
  show BitVec.ofNat 64 x <<< (8 : BitVec 64) ||| BitVec.ofNat 64 d = BitVec.ofNat 64 (256 * x + d)
  apply BitVec.eq_of_toNat_eq
  rw [BitVec.toNat_or, BitVec.shiftLeft_eq', BitVec.toNat_shiftLeft, BitVec.toNat_ofNat, BitVec.toNat_ofNat, BitVec.toNat_ofNat, show (8 : BitVec 64).toNat = 8 from rfl, Nat.mod_eq_of_lt (show x < 2 ^ 64 by omega), Nat.mod_eq_of_lt (show d < 2 ^ 64 by omega), Nat.mod_eq_of_lt (show 256 * x + d < 2 ^ 64 by omega)]
  have e : x <<< 8 = 256 * x := by rw [Nat.shiftLeft_eq]; omega
  rw [Nat.mod_eq_of_lt (by rw [e]; omega), ← Nat.shiftLeft_add_eq_or_of_lt (by omega), e]
theorem pkN_b {T : Nat → Nat} {a : Nat} : ∀ n, (∀ i, i < n → 97 ≤ T (a + i) ∧ T (a + i) ≤ 122) → 2 * pkN T a n < 256 ^ n := by
  intro n
  induction n with
  | zero => intro _; show 2 * 0 < 1; decide
  | succ n ih =>
    intro h
    have h1 := ih (fun i hi => h i (by omega))
    have h2 := h n (by omega)
    rw [pkN, Nat.pow_succ]; omega
theorem pk_n {T : Nat → Nat} {a : Nat} : ∀ n, n ≤ 8 → (∀ i, i < n → 97 ≤ T (a + i) ∧ T (a + i) ≤ 122) → pk T a n = lN (pkN T a n) := by
  intro n
  induction n with
  | zero => intro _ _; rfl
  | succ n ih =>
    intro hn h
    have h1 := pkN_b n (fun i hi => h i (by omega))
    have h2 := h n (by omega)
    have h3 : 256 ^ n ≤ 256 ^ 7 := Nat.pow_le_pow_right (by decide) (by omega)
    rw [pk, ih (by omega) (fun i hi => h i (by omega)), pk_s (by omega) (by omega), pkN]
theorem pkN_j {T T' : Nat → Nat} {a a' : Nat} : ∀ n m, (∀ i, i < n → 97 ≤ T (a + i) ∧ T (a + i) ≤ 122) → (∀ i, i < m → 97 ≤ T' (a' + i) ∧ T' (a' + i) ≤ 122) → pkN T a n = pkN T' a' m → n = m ∧ ∀ i, i < n → T (a + i) = T' (a' + i) := by
  intro n
  induction n with
  | zero =>
    intro m _ h2 e
    cases m with
    | zero => exact ⟨rfl, fun i hi => absurd hi (Nat.not_lt_zero _)⟩
    | succ m => rw [pkN, pkN] at e; have := h2 m (by omega); omega
  | succ n ih =>
    intro m h1 h2 e
    cases m with
    | zero => rw [pkN, pkN] at e; have := h1 n (by omega); omega
    | succ m =>
      rw [pkN, pkN] at e
      have q1 := h1 n (by omega)
      have q2 := h2 m (by omega)
      obtain ⟨r1, r2⟩ := ih m (fun i hi => h1 i (by omega)) (fun i hi => h2 i (by omega)) (by omega)
      refine ⟨by omega, fun i hi => ?_⟩
      by_cases c : i = n
      · subst c; subst r1; omega
      · exact r2 i (by omega)
theorem pkN_cg {T T' : Nat → Nat} {a a' : Nat} : ∀ n, (∀ i, i < n → T (a + i) = T' (a' + i)) → pkN T a n = pkN T' a' n := by
  intro n
  induction n with
  | zero => intro _; rfl
  | succ n ih => intro h; rw [pkN, pkN, ih (fun i hi => h i (by omega)), h n (by omega)]
theorem lN_j {a b : Nat} (ha : a < 2 ^ 64) (hb : b < 2 ^ 64) (e : lN a = lN b) : a = b := by
  have h : (Int64.ofNat a).toBitVec.toNat = (Int64.ofNat b).toBitVec.toNat := by rw [show Int64.ofNat a = Int64.ofNat b from e]
  have h2 : (BitVec.ofNat 64 a).toNat = (BitVec.ofNat 64 b).toNat := h
  rw [BitVec.toNat_ofNat, BitVec.toNat_ofNat, Nat.mod_eq_of_lt ha, Nat.mod_eq_of_lt hb] at h2
  exact h2
/-- a word is the reference's j-th -/
def lm (T : Nat → Nat) (a n j : Nat) : Prop := n = kS (j + 1) - 1 - kS j ∧ ∀ i, i < n → T (a + i) = kyN.getD (kS j + i) 0
theorem lm_k {T : Nat → Nat} {a n k : Nat} (hk : k < 23) (h : ∀ i, i < n → 97 ≤ T (a + i) ∧ T (a + i) ≤ 122) : kwL.getD k 0 = (if n ≤ 8 then pk T a n else 0) ↔ lm T a n (pm k) := by
  obtain ⟨e1, e2⟩ := kwL_n k hk
  have hp := pm_lt k hk
  have ht := kS_t (pm k) hp.1
  by_cases c : n ≤ 8
  · rw [if_pos c, pk_n n c h, e1]
    have b1 := pkN_b n h
    have hl : ∀ i, i < kS (pm k + 1) - 1 - kS (pm k) → 97 ≤ (fun i => kyN.getD i 0) (kS (pm k) + i) ∧ (fun i => kyN.getD i 0) (kS (pm k) + i) ≤ 122 := fun i hi => by
      have := kyN_l (pm k) hp.1 i (by omega) hi
      exact ⟨this.1, this.2.1⟩
    have b2 := pkN_b (T := fun i => kyN.getD i 0) (a := kS (pm k)) _ hl
    have p1 : 256 ^ n ≤ 256 ^ 8 := Nat.pow_le_pow_right (by decide) c
    have p2 : 256 ^ (kS (pm k + 1) - 1 - kS (pm k)) ≤ 256 ^ 8 := Nat.pow_le_pow_right (by decide) (by omega)
    constructor
    · intro q
      obtain ⟨q1, q2⟩ := pkN_j (T := fun i => kyN.getD i 0) (a := kS (pm k)) _ _ hl h (lN_j (by omega) (by omega) q)
      exact ⟨q1.symm, fun i hi => (q2 i (by omega)).symm⟩
    · intro q
      rw [q.1, pkN_cg (T := T) (a := a) (T' := fun i => kyN.getD i 0) (a' := kS (pm k)) _ (fun i hi => q.2 i (by rw [q.1]; exact hi))]
  · rw [if_neg c]
    exact ⟨fun q => absurd q e2, fun q => absurd q.1 (by omega)⟩
theorem kwF_p (w : Int64) : ∀ n, n ≤ 23 → (kwF w n < n ∧ kwL.getD (kwF w n) 0 = w) ∨ (kwF w n = 23 ∧ ∀ k, k < n → kwL.getD k 0 ≠ w) := by
  intro n
  induction n with
  | zero => intro _; exact Or.inr ⟨rfl, fun k hk => absurd hk (Nat.not_lt_zero _)⟩
  | succ n ih =>
    intro hn
    rw [kwF]
    by_cases c : kwL.getD n 0 = w
    · rw [if_pos c]; exact Or.inl ⟨by omega, c⟩
    · rw [if_neg c]
      rcases ih (by omega) with q | q
      · exact Or.inl ⟨by omega, q.2⟩
      · refine Or.inr ⟨q.1, fun k hk => ?_⟩
        by_cases e : k = n
        · subst e; exact c
        · exact q.2 k (by omega)
theorem lm_w {T : Nat → Nat} {a n j : Nat} (hj : j < 23) (h : ∀ i, i < n → 97 ≤ T (a + i) ∧ T (a + i) ≤ 122) (q : lm T a n j) : krI (kwF (if n ≤ 8 then pk T a n else 0) 23) = nI j := by
  obtain ⟨p1, p2⟩ := pi_lt j hj
  have e := (lm_k p1 h).mpr (by rw [p2]; exact q)
  rcases kwF_p (if n ≤ 8 then pk T a n else 0) 23 (Nat.le_refl _) with r | r
  · have := kwL_j _ r.1 _ p1 (r.2.trans e.symm)
    rw [this, krI, if_pos p1, p2]
  · exact absurd e (r.2 _ p1)
theorem lm_n {T : Nat → Nat} {a n : Nat} (h : ∀ i, i < n → 97 ≤ T (a + i) ∧ T (a + i) ≤ 122) (q : ∀ j, j < 23 → ¬ lm T a n j) : krI (kwF (if n ≤ 8 then pk T a n else 0) 23) = -1 := by
  rcases kwF_p (if n ≤ 8 then pk T a n else 0) 23 (Nat.le_refl _) with r | r
  · exact absurd ((lm_k r.1 h).mp r.2) (q _ (pm_lt _ r.1).1)
  · rw [r.1]; rfl
/-! the reference -/
theorem bt_and {n : Nat} (h : n < 256) : bt n &&& 255 = nI n := by
  rw [ln_255]
  unfold bt
  by_cases c : n < 128
  · rw [if_pos c, and_n, show 255 = 2 ^ 8 - 1 from rfl, Nat.and_two_pow_sub_one_eq_mod, Nat.mod_eq_of_lt (by omega)]
  · rw [if_neg c, show iI ((n : Int) - 256) = nI (n + 4294967040) from ?_, and_n, show 255 = 2 ^ 8 - 1 from rfl, Nat.and_two_pow_sub_one_eq_mod]
    · congr 1; omega
    · rw [nI_iI, iI, iI, ← Int32.toInt_inj, Int32.toInt_ofInt, Int32.toInt_ofInt]
      rw [show ((n + 4294967040 : Nat) : Int) = ((n : Int) - 256) + ((2 ^ 32 : Nat) : Int) by omega]
      exact (Int.add_bmod_right _ _).symm
def mnF (m : Nat) : Nat := if m < 100000 then m else 100000
def TRB (σ : Mm) (X : TX) : Prop := m_sc σ 31 11 = nI X.1 ∧ ∀ k, k < X.1 → m_ar σ 31 6 k = bt (X.2 k)
def TkR (σ : Mm) (X : TX) (p : Nat) : Prop := m_sc σ 31 12 = nI (tK X p) ∧ m_sc σ 31 13 = nI (tA X p) ∧ m_sc σ 31 14 = nI (tE X p) ∧ (tK X p = 4 → m_sc σ 31 15 = nI (tB X p)) ∧ (tK X p = 3 → m_sc σ 31 15 = nI (tN X p))
def TxR (σ : Mm) (X : TX) (p : Nat) : Prop := p ≤ X.1 ∧ TRB σ X ∧ TkR σ X p ∧ m_sc σ 31 18 = 0 ∧ m_sc σ 31 17 = -1
/-- what reading leaves -/
def RF (σ τ : Mm) : Prop := m_ar τ = m_ar σ ∧ m_la τ = m_la σ ∧ m_lg τ = m_lg σ ∧ ∀ k, k ≠ 12 → k ≠ 13 → k ≠ 14 → k ≠ 15 → m_sc τ 31 k = m_sc σ 31 k
section O
variable {σ τ : Mm} {X : TX} {p : Nat}
theorem RF.rf : RF σ σ := ⟨rfl, rfl, rfl, fun _ _ _ _ _ => rfl⟩
theorem RF.tr {ω : Mm} (h : RF σ τ) (h2 : RF τ ω) : RF σ ω := ⟨h2.1.trans h.1, h2.2.1.trans h.2.1, h2.2.2.1.trans h.2.2.1, fun k a b c d => (h2.2.2.2 k a b c d).trans (h.2.2.2 k a b c d)⟩
theorem RF.w {k : Nat} (v : Int32) (hk : k = 12 ∨ k = 13 ∨ k = 14 ∨ k = 15) : RF σ (w_sc σ 31 k v) := ⟨rfl, rfl, rfl, fun i a b c d => by rw [m_sc_sc, if_neg (by omega)]⟩
theorem TRB.x (h : TRB σ X) (w : RF σ τ) : TRB τ X := ⟨(w.2.2.2 11 (by decide) (by decide) (by decide) (by decide)).trans h.1, fun k hk => by rw [w.1]; exact h.2 k hk⟩
theorem byteAt_1 (hX : WTx X) (h : TRB σ X) {k : Nat} (hk : k < X.1) : fX12_byteAt 31 (nI k) σ = some (nI (X.2 k), σ) := by
  have hL := hX.1
  unfold fX12_byteAt
  rw [r_sc_s, h.1, if_neg (fun q => absurd ((nI_len (by omega) (by omega)).mp q) (by omega)), g_ar_n (by omega) (by decide), h.2 k hk, bt_and (hX.2 k hk)]
theorem byteAt_0 (hX : WTx X) (h : TRB σ X) {k : Nat} (hk : X.1 ≤ k) (hk2 : k ≤ 2000) : fX12_byteAt 31 (nI k) σ = some (-1, σ) := by
  have hL := hX.1
  unfold fX12_byteAt
  rw [r_sc_s, h.1, if_pos ((nI_len (by omega) (by omega)).mpr hk)]
theorem isSmall_n {b : Nat} (hb : b < 256) : fX12_isSmall (nI b) σ = some (if isLt b = true then 1 else 0, σ) := by
  unfold fX12_isSmall
  rw [ln_97, ln_122]
  by_cases c : isLt b = true
  · have := isLt_e.mp c
    rw [if_pos c, if_neg (fun q => absurd ((nI_ltn (by omega) (by omega)).mp q) (by omega)), if_neg (fun q => absurd ((nI_ltn (by omega) (by omega)).mp q) (by omega))]
  · rw [if_neg c]
    rw [isLt_e] at c
    by_cases c2 : nI b < nI 97
    · rw [if_pos c2]
    · rw [if_neg c2, if_pos]
      rw [nI_ltn (by omega) (by omega)] at c2 ⊢; omega
theorem isDigit_n {b : Nat} (hb : b < 256) : fX12_isDigit (nI b) σ = some (if isDg b = true then 1 else 0, σ) := by
  unfold fX12_isDigit
  rw [ln_48, ln_57]
  by_cases c : isDg b = true
  · have := isDg_e.mp c
    rw [if_pos c, if_neg (fun q => absurd ((nI_ltn (by omega) (by omega)).mp q) (by omega)), if_neg (fun q => absurd ((nI_ltn (by omega) (by omega)).mp q) (by omega))]
  · rw [if_neg c]
    rw [isDg_e] at c
    by_cases c2 : nI b < nI 48
    · rw [if_pos c2]
    · rw [if_neg c2, if_pos]
      rw [nI_ltn (by omega) (by omega)] at c2 ⊢; omega
theorem ah0_l (hX : WTx X) (hp : p ≤ X.1) : ∀ n i (σ : Mm), TRB σ X → m_sc σ 31 14 = nI i → i ≤ tA X p → p ≤ i → tA X p - i < n → ∃ τ, fX12_ahead_0 31 n σ = fX12_ahead_39 31 τ ∧ RF σ τ ∧ m_sc τ 31 14 = nI (tA X p) := by
  intro n
  induction n with
  | zero => intro i σ _ _ _ _ h; omega
  | succ n ih =>
    intro i σ h hi h1 h2 h3
    obtain ⟨-, t2, t3, -⟩ := til_p (fun k => isSp (X.2 k)) X.1 p
    change ∀ k, p ≤ k → k < tA X p → _ at t2
    change ¬ (tA X p < X.1 ∧ isSp (X.2 (tA X p)) = true) at t3
    have hl2 := tA_le hp
    have hL := hX.1
    rw [fX12_ahead_0, r_sc_s, hi]
    by_cases c : i = tA X p
    · refine ⟨σ, ?_, RF.rf, by rw [hi, c]⟩
      by_cases c2 : X.1 ≤ i
      · rw [byteAt_0 hX h c2 (by omega), c_I_s, if_neg (by decide), r_sc_s, hi, byteAt_0 hX h c2 (by omega), c_I_s, if_neg (by decide)]
      · have hb := hX.2 i (by omega)
        have hs : ¬ isSp (X.2 i) = true := fun q => t3 ⟨by omega, by rw [← c]; exact q⟩
        rw [isSp_e] at hs
        rw [byteAt_1 hX h (by omega), c_I_s, ln_32, if_neg (fun q => hs (Or.inl ((nI_inj (by omega) (by omega)).mp q))), r_sc_s, hi, byteAt_1 hX h (by omega), c_I_s, ln_10, if_neg (fun q => hs (Or.inr ((nI_inj (by omega) (by omega)).mp q)))]
    · obtain ⟨q1, q2⟩ := t2 i h2 (by omega)
      have q3 := isSp_e.mp q2
      obtain ⟨τ, e1, e2, e3⟩ := ih (i + 1) (w_sc σ 31 14 (nI (i + 1))) (h.x (RF.w _ (by decide))) (by rw [m_sc_sc, if_pos ⟨rfl, rfl⟩]) (by omega) (by omega) (by omega)
      refine ⟨τ, ?_, (RF.w _ (by decide)).tr e2, e3⟩
      rw [byteAt_1 hX h q1, c_I_s]
      rcases q3 with q3 | q3
      · rw [if_pos (show nI (X.2 i) = 32 by rw [q3]; rfl), r_sc_s, hi, nI_s, p_sc_s]; exact e1
      · rw [if_neg (show ¬ nI (X.2 i) = 32 by rw [q3]; decide), r_sc_s, hi, byteAt_1 hX h q1, c_I_s, if_pos (show nI (X.2 i) = 10 by rw [q3]; rfl), r_sc_s, hi, nI_s, p_sc_s]; exact e1
theorem ahw_l (hX : WTx X) {a : Nat} (ha : a ≤ X.1) : ∀ n i (σ : Mm), TRB σ X → m_sc σ 31 14 = nI i → i ≤ til (fun k => isLt (X.2 k)) X.1 a → a ≤ i → til (fun k => isLt (X.2 k)) X.1 a - i < n → ∃ τ, fX12_ahead_81 31 n σ = some τ ∧ RF σ τ ∧ m_sc τ 31 14 = nI (til (fun k => isLt (X.2 k)) X.1 a) ∧ m_sc τ 31 12 = 2 ∧ m_sc τ 31 13 = m_sc σ 31 13 := by
  intro n
  induction n with
  | zero => intro i σ _ _ _ _ h; omega
  | succ n ih =>
    intro i σ h hi h1 h2 h3
    obtain ⟨-, t2, t3, t4⟩ := til_p (fun k => isLt (X.2 k)) X.1 a
    have hl2 := t4 ha
    have hL := hX.1
    rw [fX12_ahead_81, r_sc_s, hi]
    by_cases c : i = til (fun k => isLt (X.2 k)) X.1 a
    · refine ⟨w_sc σ 31 12 2, ?_, RF.w _ (by decide), by rw [m_sc_sc, if_neg (by omega), hi, c], by rw [m_sc_sc, if_pos ⟨rfl, rfl⟩], by rw [m_sc_sc, if_neg (by omega)]⟩
      by_cases c2 : X.1 ≤ i
      · rw [byteAt_0 hX h c2 (by omega), c_I_s, show fX12_isSmall (-1) σ = some (0, σ) from rfl, c_I_s, if_pos rfl]; rfl
      · have hb := hX.2 i (by omega)
        have hs : ¬ isLt (X.2 i) = true := fun q => t3 ⟨by omega, by rw [← c]; exact q⟩
        rw [byteAt_1 hX h (by omega), c_I_s, isSmall_n hb, if_neg hs, c_I_s, if_pos rfl]; rfl
    · obtain ⟨q1, q2⟩ := t2 i h2 (by omega)
      have q2 : isLt (X.2 i) = true := q2
      obtain ⟨τ, e1, e2, e3, e4, e5⟩ := ih (i + 1) (w_sc σ 31 14 (nI (i + 1))) (h.x (RF.w _ (by decide))) (by rw [m_sc_sc, if_pos ⟨rfl, rfl⟩]) (by omega) (by omega) (by omega)
      refine ⟨τ, ?_, (RF.w _ (by decide)).tr e2, e3, e4, e5⟩
      rw [byteAt_1 hX h q1, c_I_s, isSmall_n (hX.2 i q1), if_pos q2, c_I_s, if_neg (by decide), r_sc_s, hi, nI_s, p_sc_s]; exact e1
theorem ahd_l (hX : WTx X) {a : Nat} (ha : a ≤ X.1) : ∀ n i (σ : Mm), TRB σ X → m_sc σ 31 14 = nI i → m_sc σ 31 15 = nI (mnF (nmF X.2 a (i - a))) → i ≤ til (fun k => isDg (X.2 k)) X.1 a → a ≤ i → til (fun k => isDg (X.2 k)) X.1 a - i < n → ∃ τ, fX12_ahead_128 31 n σ = fX12_ahead_183 31 τ ∧ RF σ τ ∧ m_sc τ 31 14 = nI (til (fun k => isDg (X.2 k)) X.1 a) ∧ m_sc τ 31 13 = m_sc σ 31 13 ∧ m_sc τ 31 15 = nI (mnF (nmF X.2 a (til (fun k => isDg (X.2 k)) X.1 a - a))) := by
  intro n
  induction n with
  | zero => intro i σ _ _ _ _ _ h; omega
  | succ n ih =>
    intro i σ h hi hv h1 h2 h3
    obtain ⟨-, t2, t3, t4⟩ := til_p (fun k => isDg (X.2 k)) X.1 a
    have hl2 := t4 ha
    have hL := hX.1
    rw [fX12_ahead_128, r_sc_s, hi]
    by_cases c : i = til (fun k => isDg (X.2 k)) X.1 a
    · refine ⟨σ, ?_, RF.rf, by rw [hi, c], rfl, by rw [hv, ← c]⟩
      by_cases c2 : X.1 ≤ i
      · rw [byteAt_0 hX h c2 (by omega), c_I_s, show fX12_isDigit (-1) σ = some (0, σ) from rfl, c_I_s, if_pos rfl]
      · have hb := hX.2 i (by omega)
        have hs : ¬ isDg (X.2 i) = true := fun q => t3 ⟨by omega, by rw [← c]; exact q⟩
        rw [byteAt_1 hX h (by omega), c_I_s, isDigit_n hb, if_neg hs, c_I_s, if_pos rfl]
    · obtain ⟨q1, q2⟩ := t2 i h2 (by omega)
      have q2 : isDg (X.2 i) = true := q2
      have q3 := isDg_e.mp q2
      have hm : mnF (nmF X.2 a (i - a)) ≤ 100000 := by unfold mnF; split <;> omega
      have ev : (if nI (10 * mnF (nmF X.2 a (i - a)) + X.2 i - 48) < (100000 : Int32) then nI (10 * mnF (nmF X.2 a (i - a)) + X.2 i - 48) else (100000 : Int32)) = nI (mnF (nmF X.2 a (i + 1 - a))) := by
        rw [show i + 1 - a = (i - a) + 1 by omega, nmF, show a + (i - a) = i by omega, show (100000 : Int32) = nI 100000 from rfl]
        by_cases cc : 10 * mnF (nmF X.2 a (i - a)) + X.2 i - 48 < 100000
        · rw [if_pos ((nI_ltn (by omega) (by decide)).mpr cc)]
          congr 1
          unfold mnF at cc ⊢
          split at cc
          · rename_i c5
            rw [if_pos c5, if_pos (by omega)]; omega
          · omega
        · rw [if_neg (fun q => cc ((nI_ltn (by omega) (by decide)).mp q))]
          congr 1
          unfold mnF at cc ⊢
          split at cc
          · rw [if_neg (by omega)]
          · rw [if_neg (by omega)]
      obtain ⟨τ, e1, e2, e3, e4, e5⟩ := ih (i + 1) (w_sc (w_sc σ 31 15 (nI (mnF (nmF X.2 a (i + 1 - a))))) 31 14 (nI (i + 1))) (h.x ((RF.w _ (by decide)).tr (RF.w _ (by decide)))) (by rw [m_sc_sc, if_pos ⟨rfl, rfl⟩]) (by rw [m_sc_sc, if_neg (by omega), m_sc_sc, if_pos ⟨rfl, rfl⟩]) (by omega) (by omega) (by omega)
      refine ⟨τ, ?_, ((RF.w _ (by decide)).tr (RF.w _ (by decide))).tr e2, e3, e4, e5⟩
      rw [byteAt_1 hX h q1, c_I_s, isDigit_n (hX.2 i q1), if_pos q2, c_I_s, if_neg (by decide), r_sc_s, r_sc_s, hi, hv, byteAt_1 hX h q1, c_I_s, p_sc_s, ln_10, ln_48, nI_mul, nI_ad, nI_sub (by omega), ev, r_sc_s, m_sc_sc, if_neg (by omega), hi, nI_s, p_sc_s]
      exact e1
theorem nm_lt {T : Nat → Nat} {a : Nat} : ∀ n, (∀ i, i < n → 48 ≤ T (a + i) ∧ T (a + i) ≤ 57) → nmF T a n < 10 ^ n := by
  intro n
  induction n with
  | zero => intro _; show 0 < 1; decide
  | succ n ih =>
    intro h
    have h1 := ih (fun i hi => h i (by omega))
    have h2 := h n (by omega)
    rw [nmF, Nat.pow_succ]; omega
/-- a number of few digits is no great one -/
theorem tN_lt (h : tK X p = 3) : tN X p < 10000 ∧ tA X p < X.1 := by
  unfold tK at h
  by_cases c : X.1 ≤ tA X p
  · rw [if_pos c] at h; cases h
  · rw [if_neg c] at h
    by_cases cl : isLt (tB X p) = true
    · rw [if_pos cl] at h; cases h
    · rw [if_neg cl] at h
      by_cases cd : isDg (tB X p) = true
      · rw [if_pos cd] at h
        have eE : tE X p = til (fun k => isDg (X.2 k)) X.1 (tA X p) := by unfold tE; rw [if_neg c, if_neg cl, if_pos cd]
        by_cases c4 : tE X p - tA X p ≤ 4
        · obtain ⟨-, t2, -, -⟩ := til_p (fun k => isDg (X.2 k)) X.1 (tA X p)
          have := nm_lt (T := X.2) (a := tA X p) (tE X p - tA X p) (fun i hi => isDg_e.mp (t2 (tA X p + i) (by omega) (by omega)).2)
          have h3 : 10 ^ (tE X p - tA X p) ≤ 10 ^ 4 := Nat.pow_le_pow_right (by decide) c4
          exact ⟨by unfold tN; omega, by omega⟩
        · rw [if_neg c4] at h; cases h
      · rw [if_neg cd] at h
        split at h <;> cases h
theorem ah_w (hX : WTx X) (hp : p ≤ X.1) (h : TRB σ X) (h14 : m_sc σ 31 14 = nI (tA X p)) : ∃ τ, fX12_ahead_39 31 σ = some τ ∧ RF σ τ ∧ TkR τ X p := by
  have hL := hX.1
  have hA := tA_le hp
  unfold fX12_ahead_39
  have i14 : m_sc (w_sc σ 31 13 (nI (tA X p))) 31 14 = nI (tA X p) := by rw [m_sc_sc, if_neg (by omega), h14]
  have hB : TRB (w_sc σ 31 13 (nI (tA X p))) X := h.x (RF.w _ (by decide))
  rw [r_sc_s, h14, p_sc_s, r_sc_s, i14]
  have i13 : m_sc (w_sc σ 31 13 (nI (tA X p))) 31 13 = nI (tA X p) := by rw [m_sc_sc, if_pos ⟨rfl, rfl⟩]
  have hF : RF σ (w_sc σ 31 13 (nI (tA X p))) := RF.w _ (by decide)
  generalize w_sc σ 31 13 (nI (tA X p)) = ω at *
  by_cases c : X.1 ≤ tA X p
  · rw [byteAt_0 hX hB c (by omega), c_I_s, p_sc_s, if_pos rfl, p_sc_s]
    have eK : tK X p = 0 := by unfold tK; rw [if_pos c]
    have eE : tE X p = X.1 := by unfold tE; rw [if_pos c]
    refine ⟨_, rfl, hF.tr ((RF.w _ (by decide)).tr (RF.w _ (by decide))), ?_, ?_, ?_, fun q => ?_, fun q => ?_⟩
    · rw [m_sc_sc, if_pos ⟨rfl, rfl⟩, eK]; rfl
    · rw [m_sc_sc, if_neg (by omega), m_sc_sc, if_neg (by omega), i13]
    · rw [m_sc_sc, if_neg (by omega), m_sc_sc, if_neg (by omega), i14, eE]; congr 1; omega
    · rw [eK] at q; cases q
    · rw [eK] at q; cases q
  · have hb := hX.2 (tA X p) (by omega)
    rw [byteAt_1 hX hB (by omega), c_I_s, p_sc_s, if_neg (nI_nem (by omega)), isSmall_n hb, c_I_s]
    have hF2 : RF σ (w_sc ω 31 15 (nI (X.2 (tA X p)))) := hF.tr (RF.w _ (by decide))
    have hB2 : TRB (w_sc ω 31 15 (nI (X.2 (tA X p)))) X := hB.x (RF.w _ (by decide))
    have j13 : m_sc (w_sc ω 31 15 (nI (X.2 (tA X p)))) 31 13 = nI (tA X p) := by rw [m_sc_sc, if_neg (by omega), i13]
    have j14 : m_sc (w_sc ω 31 15 (nI (X.2 (tA X p)))) 31 14 = nI (tA X p) := by rw [m_sc_sc, if_neg (by omega), i14]
    have j15 : m_sc (w_sc ω 31 15 (nI (X.2 (tA X p)))) 31 15 = nI (X.2 (tA X p)) := by rw [m_sc_sc, if_pos ⟨rfl, rfl⟩]
    generalize w_sc ω 31 15 (nI (X.2 (tA X p))) = υ at *
    by_cases cl : isLt (X.2 (tA X p)) = true
    · rw [if_pos cl, if_neg (by decide)]
      have eE : tE X p = til (fun k => isLt (X.2 k)) X.1 (tA X p) := by unfold tE; rw [if_neg c, if_pos (show isLt (tB X p) = true from cl)]
      have eK : tK X p = 2 := by unfold tK; rw [if_neg c, if_pos (show isLt (tB X p) = true from cl)]
      obtain ⟨t1, -, -, t4⟩ := til_p (fun k => isLt (X.2 k)) X.1 (tA X p)
      have := t4 hA
      obtain ⟨τ, e1, e2, e3, e4, e5⟩ := ahw_l hX hA FU (tA X p) υ hB2 j14 t1 (Nat.le_refl _) (FU_gt (by omega))
      refine ⟨τ, e1, hF2.tr e2, ?_, ?_, ?_, fun q => ?_, fun q => ?_⟩
      · rw [e4, eK]; rfl
      · rw [e5, j13]
      · rw [e3, eE]
      · rw [eK] at q; cases q
      · rw [eK] at q; cases q
    · rw [if_neg cl, if_pos rfl, isDigit_n hb, c_I_s]
      by_cases cd : isDg (X.2 (tA X p)) = true
      · rw [if_pos cd, if_neg (by decide), p_sc_s]
        have eE : tE X p = til (fun k => isDg (X.2 k)) X.1 (tA X p) := by unfold tE; rw [if_neg c, if_neg (show ¬ isLt (tB X p) = true from cl), if_pos (show isDg (tB X p) = true from cd)]
        have eK : tK X p = if tE X p - tA X p ≤ 4 then 3 else 1 := by unfold tK; rw [if_neg c, if_neg (show ¬ isLt (tB X p) = true from cl), if_pos (show isDg (tB X p) = true from cd)]
        obtain ⟨t1, -, -, t4⟩ := til_p (fun k => isDg (X.2 k)) X.1 (tA X p)
        have t5 := t4 hA
        obtain ⟨τ, e1, e2, e3, e4, e5⟩ := ahd_l hX hA FU (tA X p) (w_sc υ 31 15 0) (hB2.x (RF.w _ (by decide))) (by rw [m_sc_sc, if_neg (by omega), j14]) (by rw [m_sc_sc, if_pos ⟨rfl, rfl⟩, Nat.sub_self]; rfl) t1 (Nat.le_refl _) (FU_gt (by omega))
        have e4' : m_sc τ 31 13 = nI (tA X p) := by rw [e4, m_sc_sc, if_neg (by omega), j13]
        rw [← eE] at e3 e5 t1 t5
        rw [e1]
        unfold fX12_ahead_183
        rw [r_sc_s, r_sc_s, e3, e4', nI_sub t1, ln_4]
        by_cases c4 : tE X p - tA X p ≤ 4
        · rw [if_pos ((nI_len (by omega) (by omega)).mpr c4), p_sc_s]
          have eK3 : tK X p = 3 := by rw [eK, if_pos c4]
          refine ⟨_, rfl, hF2.tr (((RF.w _ (by decide)).tr e2).tr (RF.w _ (by decide))), ?_, ?_, ?_, fun q => ?_, fun q => ?_⟩
          · rw [m_sc_sc, if_pos ⟨rfl, rfl⟩, eK3]; rfl
          · rw [m_sc_sc, if_neg (by omega), e4']
          · rw [m_sc_sc, if_neg (by omega), e3]
          · rw [eK3] at q; cases q
          · have hn := (tN_lt eK3).1
            rw [m_sc_sc, if_neg (by omega), e5]
            unfold tN at hn ⊢
            rw [mnF, if_pos (by omega)]
        · rw [if_neg (fun q => c4 ((nI_len (by omega) (by omega)).mp q)), p_sc_s]
          have eK3 : tK X p = 1 := by rw [eK, if_neg c4]
          refine ⟨_, rfl, hF2.tr (((RF.w _ (by decide)).tr e2).tr (RF.w _ (by decide))), ?_, ?_, ?_, fun q => ?_, fun q => ?_⟩
          · rw [m_sc_sc, if_pos ⟨rfl, rfl⟩, eK3]; rfl
          · rw [m_sc_sc, if_neg (by omega), e4']
          · rw [m_sc_sc, if_neg (by omega), e3]
          · rw [eK3] at q; cases q
          · rw [eK3] at q; cases q
      · rw [if_neg cd, if_pos rfl, r_sc_s, j14, nI_s, p_sc_s]
        have eE : tE X p = tA X p + 1 := by unfold tE; rw [if_neg c, if_neg (show ¬ isLt (tB X p) = true from cl), if_neg (show ¬ isDg (tB X p) = true from cd)]
        have eK : tK X p = if isSg (tB X p) = true then 4 else 1 := by unfold tK; rw [if_neg c, if_neg (show ¬ isLt (tB X p) = true from cl), if_neg (show ¬ isDg (tB X p) = true from cd)]
        have hfin : ∀ v, v = nI (tK X p) → ∃ τ, some (w_sc (w_sc υ 31 14 (nI (tA X p + 1))) 31 12 v) = some τ ∧ RF σ τ ∧ TkR τ X p := by
          intro v hv
          refine ⟨_, rfl, hF2.tr ((RF.w _ (by decide)).tr (RF.w _ (by decide))), ?_, ?_, ?_, fun q => ?_, fun q => ?_⟩
          · rw [m_sc_sc, if_pos ⟨rfl, rfl⟩, hv]
          · rw [m_sc_sc, if_neg (by omega), m_sc_sc, if_neg (by omega), j13]
          · rw [m_sc_sc, if_neg (by omega), m_sc_sc, if_pos ⟨rfl, rfl⟩, eE]
          · rw [m_sc_sc, if_neg (by omega), m_sc_sc, if_neg (by omega), j15]; rfl
          · rw [eK] at q; split at q <;> cases q
        simp only [p_sc_s]
        by_cases cs : isSg (X.2 (tA X p)) = true
        · have eK4 : tK X p = 4 := by rw [eK, if_pos (show isSg (tB X p) = true from cs)]
          rcases isSg_e.mp cs with q | q | q | q <;> rw [q] <;> exact hfin 4 (by rw [eK4]; rfl)
        · have eK1 : tK X p = 1 := by rw [eK, if_neg (show ¬ isSg (tB X p) = true from cs)]
          have cs' : ¬ (X.2 (tA X p) = 59 ∨ X.2 (tA X p) = 60 ∨ X.2 (tA X p) = 62 ∨ X.2 (tA X p) = 61) := fun q => cs (isSg_e.mpr q)
          rw [ln_59, ln_60, ln_62, ln_61, if_neg (fun q => cs' (Or.inl ((nI_inj (by omega) (by omega)).mp q))), if_neg (fun q => cs' (Or.inr (Or.inl ((nI_inj (by omega) (by omega)).mp q)))), if_neg (fun q => cs' (Or.inr (Or.inr (Or.inl ((nI_inj (by omega) (by omega)).mp q))))), if_neg (fun q => cs' (Or.inr (Or.inr (Or.inr ((nI_inj (by omega) (by omega)).mp q)))))]
          exact hfin 1 (by rw [eK1]; rfl)
theorem ahead_r (hX : WTx X) (hp : p ≤ X.1) (h : TRB σ X) (hn : m_sc σ 31 14 = nI p) (hf : m_sc σ 31 18 = 0 ∧ m_sc σ 31 17 = -1) : ∃ τ, fX12_ahead 31 σ = some τ ∧ TxR τ X p ∧ RF σ τ := by
  have hL := hX.1
  have hA := tA_le hp
  obtain ⟨ω, e1, e2, e3⟩ := ah0_l hX hp FU p σ h hn (til_p _ _ _).1 (Nat.le_refl _) (FU_gt (by omega))
  obtain ⟨τ, f1, f2, f3⟩ := ah_w hX hp (h.x e2) e3
  refine ⟨τ, by unfold fX12_ahead; rw [e1, f1], ⟨hp, h.x (e2.tr f2), f3, ?_, ?_⟩, e2.tr f2⟩
  · rw [(e2.tr f2).2.2.2 18 (by decide) (by decide) (by decide) (by decide), hf.1]
  · rw [(e2.tr f2).2.2.2 17 (by decide) (by decide) (by decide) (by decide), hf.2]
theorem ah_r (hX : WTx X) (h : TxR σ X p) : ∃ τ, fX12_ahead 31 σ = some τ ∧ TxR τ X (tE X p) ∧ RF σ τ := ahead_r hX (tE_le h.1) h.2.1 h.2.2.1.2.2.1 h.2.2.2
end O
