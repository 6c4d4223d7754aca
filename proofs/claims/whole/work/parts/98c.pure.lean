/-! PURE 41: a text and its tokens, plainly; how the class comes to them -/
abbrev TX : Type := Nat × (Nat → Nat)
def WTx (X : TX) : Prop := X.1 ≤ 900 ∧ ∀ k, k < X.1 → X.2 k < 256
def unt (P : Nat → Bool) (L : Nat) : Nat → Nat → Nat
  | 0, i => i
  | n + 1, i => if i < L ∧ P i = true then unt P L n (i + 1) else i
def til (P : Nat → Bool) (L i : Nat) : Nat := unt P L (L - i) i
theorem unt_p (P : Nat → Bool) (L : Nat) : ∀ n i, i ≤ unt P L n i ∧ (∀ k, i ≤ k → k < unt P L n i → k < L ∧ P k = true) ∧ (L - i ≤ n → ¬ (unt P L n i < L ∧ P (unt P L n i) = true)) ∧ (i ≤ L → unt P L n i ≤ L) := by
  intro n
  induction n with
  | zero => intro i; exact ⟨Nat.le_refl _, fun k h1 h2 => absurd h2 (by show ¬ k < i; omega), fun h q => by have : i < L := q.1; omega, fun h => h⟩
  | succ n ih =>
    intro i
    rw [unt]
    by_cases c : i < L ∧ P i = true
    · rw [if_pos c]
      obtain ⟨a1, a2, a3, a4⟩ := ih (i + 1)
      refine ⟨by omega, fun k h1 h2 => ?_, fun h => a3 (by omega), fun _ => a4 c.1⟩
      by_cases e : k = i
      · subst e; exact c
      · exact a2 k (by omega) h2
    · rw [if_neg c]
      exact ⟨Nat.le_refl _, fun k h1 h2 => by omega, fun _ => c, fun h => h⟩
theorem til_p (P : Nat → Bool) (L i : Nat) : i ≤ til P L i ∧ (∀ k, i ≤ k → k < til P L i → k < L ∧ P k = true) ∧ ¬ (til P L i < L ∧ P (til P L i) = true) ∧ (i ≤ L → til P L i ≤ L) := by
  obtain ⟨a, b, c, d⟩ := unt_p P L (L - i) i
  exact ⟨a, b, c (Nat.le_refl _), d⟩
theorem til_1 {P : Nat → Bool} {L i : Nat} (h : i < L) (hP : P i = true) : i < til P L i := by
  obtain ⟨a, b, c, d⟩ := til_p P L i
  rcases Nat.lt_or_ge i (til P L i) with q | q
  · exact q
  · have e : til P L i = i := by omega
    rw [e] at c
    exact absurd ⟨h, hP⟩ c
def isSp (b : Nat) : Bool := decide (b = 32) || decide (b = 10)
def isLt (b : Nat) : Bool := decide (97 ≤ b) && decide (b ≤ 122)
def isDg (b : Nat) : Bool := decide (48 ≤ b) && decide (b ≤ 57)
def isSg (b : Nat) : Bool := decide (b = 59) || decide (b = 60) || decide (b = 62) || decide (b = 61)
theorem isSp_e {b : Nat} : isSp b = true ↔ b = 32 ∨ b = 10 := by simp [isSp]
theorem isLt_e {b : Nat} : isLt b = true ↔ 97 ≤ b ∧ b ≤ 122 := by simp [isLt]
theorem isDg_e {b : Nat} : isDg b = true ↔ 48 ≤ b ∧ b ≤ 57 := by simp [isDg]
theorem isSg_e {b : Nat} : isSg b = true ↔ b = 59 ∨ b = 60 ∨ b = 62 ∨ b = 61 := by simp [isSg, or_assoc]
def pk (T : Nat → Nat) (a : Nat) : Nat → Int64
  | 0 => 0
  | n + 1 => (pk T a n <<< ((8 : Int32).toInt64 &&& 63)) ||| (nI (T (a + n))).toInt64
def nmF (T : Nat → Nat) (a : Nat) : Nat → Nat
  | 0 => 0
  | n + 1 => nmF T a n * 10 + (T (a + n) - 48)
def kwF (w : Int64) : Nat → Nat
  | 0 => 23
  | n + 1 => if kwL.getD n 0 = w then n else kwF w n
def kcI (k : Nat) : Int32 := if k < 23 then nI k else -1
def tA (X : TX) (p : Nat) : Nat := til (fun k => isSp (X.2 k)) X.1 p
def tB (X : TX) (p : Nat) : Nat := X.2 (tA X p)
def tE (X : TX) (p : Nat) : Nat := if X.1 ≤ tA X p then X.1 else if isLt (tB X p) = true then til (fun k => isLt (X.2 k)) X.1 (tA X p) else if isDg (tB X p) = true then til (fun k => isDg (X.2 k)) X.1 (tA X p) else tA X p + 1
def tK (X : TX) (p : Nat) : Nat := if X.1 ≤ tA X p then 0 else if isLt (tB X p) = true then 2 else if isDg (tB X p) = true then (if tE X p - tA X p ≤ 4 then 3 else 1) else if isSg (tB X p) = true then 4 else 1
def tw (X : TX) (p : Nat) : Int64 := if tE X p - tA X p ≤ 8 then pk X.2 (tA X p) (tE X p - tA X p) else 0
def tW (X : TX) (p : Nat) : Nat := if tK X p = 2 then kwF (tw X p) 23 else 23
def tN (X : TX) (p : Nat) : Nat := nmF X.2 (tA X p) (tE X p - tA X p)
theorem kwF_le (w : Int64) : ∀ n, n ≤ 23 → kwF w n ≤ 23 := by
  intro n
  induction n with
  | zero => intro _; exact Nat.le_refl _
  | succ n ih =>
    intro h; rw [kwF]; split
    · omega
    · exact ih (by omega)
theorem tW_le (X : TX) (p : Nat) : tW X p ≤ 23 := by
  unfold tW; split
  · exact kwF_le _ _ (Nat.le_refl _)
  · exact Nat.le_refl _
theorem tA_le {X : TX} {p : Nat} (h : p ≤ X.1) : tA X p ≤ X.1 := (til_p _ X.1 p).2.2.2 h
theorem tE_le {X : TX} {p : Nat} (h : p ≤ X.1) : tE X p ≤ X.1 := by
  have ha := tA_le h
  unfold tE
  by_cases c : X.1 ≤ tA X p
  · rw [if_pos c]; exact Nat.le_refl _
  · rw [if_neg c]
    split
    · exact (til_p _ X.1 _).2.2.2 ha
    · split
      · exact (til_p _ X.1 _).2.2.2 ha
      · omega
/-! bytes -/
theorem bt_eq {n m : Nat} (hn : n < 256) (hm : m < 128) : bt n = nI m ↔ n = m := by
  unfold bt
  by_cases c : n < 128
  · rw [if_pos c, nI_inj (by omega) (by omega)]
  · rw [if_neg c, nI_iI, iI_eq (by omega) (by omega) (by omega) (by omega)]; omega
theorem bt_lt {n m : Nat} (hn : n < 256) (hm : m ≤ 128) : bt n < nI m ↔ n < m ∨ 128 ≤ n := by
  unfold bt
  by_cases c : n < 128
  · rw [if_pos c, nI_ltn (by omega) (by omega)]; omega
  · rw [if_neg c, nI_iI, iI_lt (by omega) (by omega) (by omega) (by omega)]; omega
theorem bt_gt {n m : Nat} (hn : n < 256) (hm : m < 128) : nI m < bt n ↔ m < n ∧ n < 128 := by
  unfold bt
  by_cases c : n < 128
  · rw [if_pos c, nI_ltn (by omega) (by omega)]; omega
  · rw [if_neg c, nI_iI, iI_lt (by omega) (by omega) (by omega) (by omega)]; omega
theorem bt_lo {n : Nat} (h : n < 128) : bt n = nI n := if_pos h
theorem lgc_e (a b : Int64) : lg_cmp a b = 0 ↔ a = b := by rw [lgc_0, Int64.toInt_inj]
theorem kd1 {q : Nat} (h : q ≠ 1) : KD q ∉ [6] := by
  by_cases c : q < 32
  · exact (show ∀ q, q < 32 → q ≠ 1 → KD q ∉ [6] by decide) q c h
  · have e : KD q = 99 := by
      unfold KD
      have : kdL.length = 32 := rfl
      rw [List.getD_eq_getElem?_getD, List.getElem?_eq_none (by omega)]; rfl
    rw [e]; decide
/-! the class -/
def TXB (σ : Mm) (X : TX) : Prop := m_sc σ 1 2 = nI X.1 ∧ ∀ k, k < X.1 → m_ar σ 1 0 k = bt (X.2 k)
def TkC (σ : Mm) (X : TX) (p : Nat) : Prop := m_sc σ 1 3 = nI (tA X p) ∧ m_sc σ 1 4 = nI (tE X p) ∧ m_sc σ 1 5 = nI (tK X p) ∧ m_sc σ 1 6 = kcI (tW X p) ∧ (tK X p = 4 → m_sc σ 1 7 = nI (tB X p)) ∧ (tK X p = 2 → m_lg σ 1 8 = tw X p) ∧ (tK X p = 3 → m_sc σ 1 9 = nI (tN X p))
def TxC (σ : Mm) (X : TX) (p : Nat) : Prop := p ≤ X.1 ∧ TXB σ X ∧ TkC σ X p ∧ m_sc σ 1 11 = 0 ∧ m_sc σ 1 12 = -1
def ScF (σ τ : Mm) : Prop := m_ar τ = m_ar σ ∧ ∀ k, k ≠ 3 → k ≠ 4 → k ≠ 5 → k ≠ 6 → k ≠ 7 → k ≠ 9 → m_sc τ 1 k = m_sc σ 1 k
section O
variable {σ τ : Mm} {X : TX} {p : Nat}
theorem TXB.x (h : TXB σ X) (w : ScF σ τ) : TXB τ X := ⟨(w.2 2 (by decide) (by decide) (by decide) (by decide) (by decide) (by decide)).trans h.1, fun k hk => by rw [w.1]; exact h.2 k hk⟩
theorem ScF.tr {ω : Mm} (h : ScF σ τ) (h2 : ScF τ ω) : ScF σ ω := ⟨h2.1.trans h.1, fun k a b c d e f => (h2.2 k a b c d e f).trans (h.2 k a b c d e f)⟩
theorem adv_l (hX : WTx X) (hp : p ≤ X.1) (h : TXB σ X) : ∀ n i, i ≤ tA X p → p ≤ i → tA X p - i < n → fX6_advance_5 1 n (nI i) σ = fX6_advance_41 1 (nI (tA X p)) σ := by
  intro n
  induction n with
  | zero => intro i _ _ h; omega
  | succ n ih =>
    intro i h1 h2 h3
    obtain ⟨-, t2, t3, -⟩ := til_p (fun k => isSp (X.2 k)) X.1 p
    change ∀ k, p ≤ k → k < tA X p → _ at t2
    have hl2 := tA_le hp
    change ¬ (tA X p < X.1 ∧ isSp (X.2 (tA X p)) = true) at t3
    have hL := hX.1
    rw [fX6_advance_5, r_sc_s, h.1]
    by_cases c : i = tA X p
    · rw [c]
      by_cases c2 : X.1 ≤ tA X p
      · rw [if_pos ((nI_len (by omega) (by omega)).mpr c2)]
      · have hb := hX.2 (tA X p) (by omega)
        have hs : ¬ isSp (X.2 (tA X p)) = true := fun q => t3 ⟨by omega, q⟩
        rw [isSp_e] at hs
        rw [if_neg (fun q => c2 ((nI_len (by omega) (by omega)).mp q)), g_ar_n (by omega) (by decide), h.2 _ (by omega), ln_32, if_neg (fun q => hs (Or.inl ((bt_eq hb (by decide)).mp q))), g_ar_n (by omega) (by decide), h.2 _ (by omega), ln_10, if_neg (fun q => hs (Or.inr ((bt_eq hb (by decide)).mp q)))]
    · obtain ⟨q1, q2⟩ := t2 i h2 (by omega)
      have hb := hX.2 i q1
      have q3 := isSp_e.mp q2
      rw [if_neg (fun q => absurd ((nI_len (by omega) (by omega)).mp q) (by omega)), g_ar_n (by omega) (by decide), h.2 i q1, nI_s]
      rcases q3 with q3 | q3
      · rw [if_pos (show bt (X.2 i) = 32 by rw [q3]; rfl)]
        exact ih (i + 1) (by omega) (by omega) (by omega)
      · rw [if_neg (show ¬ bt (X.2 i) = 32 by rw [q3]; decide), g_ar_n (by omega) (by decide), h.2 i q1, if_pos (show bt (X.2 i) = 10 by rw [q3]; rfl)]
        exact ih (i + 1) (by omega) (by omega) (by omega)
theorem sw_l (hX : WTx X) {a : Nat} (ha : a ≤ X.1) : ∀ n i (σ : Mm), TXB σ X → a ≤ i → i ≤ til (fun k => isLt (X.2 k)) X.1 a → til (fun k => isLt (X.2 k)) X.1 a - i < n → m_lg σ 1 8 = pk X.2 a (i - a) → ∃ τ, fX6_scanWord_10 1 n (nI i) σ = fX6_scanWord_65 1 (nI (til (fun k => isLt (X.2 k)) X.1 a)) τ ∧ m_sc τ = m_sc σ ∧ m_ar τ = m_ar σ ∧ m_lg τ 1 8 = pk X.2 a (til (fun k => isLt (X.2 k)) X.1 a - a) := by
  intro n
  induction n with
  | zero => intro i σ _ _ _ h; omega
  | succ n ih =>
    intro i σ h h1 h2 h3 h4
    obtain ⟨-, t2, t3, t4⟩ := til_p (fun k => isLt (X.2 k)) X.1 a
    have hl2 := t4 ha
    have hL := hX.1
    rw [fX6_scanWord_10, r_sc_s, h.1]
    by_cases c : i = til (fun k => isLt (X.2 k)) X.1 a
    · refine ⟨σ, ?_, rfl, rfl, by rw [h4, c]⟩
      rw [← c] at t3 ⊢
      by_cases c2 : X.1 ≤ i
      · rw [if_pos ((nI_len (by omega) (by omega)).mpr c2)]
      · have hb := hX.2 i (by omega)
        have hs : ¬ isLt (X.2 i) = true := fun q => t3 ⟨by omega, q⟩
        rw [isLt_e] at hs
        rw [if_neg (fun q => c2 ((nI_len (by omega) (by omega)).mp q)), g_ar_n (by omega) (by decide), h.2 _ (by omega), ln_97]
        by_cases c3 : bt (X.2 i) < nI 97
        · rw [if_pos c3]
        · rw [if_neg c3, g_ar_n (by omega) (by decide), h.2 _ (by omega), ln_122, if_pos]
          rw [bt_lt hb (by decide)] at c3
          rw [bt_gt hb (by decide)]; omega
    · obtain ⟨q1, q2⟩ := t2 i h1 (by omega)
      have hb := hX.2 i q1
      have q3 := isLt_e.mp q2
      rw [if_neg (fun q => absurd ((nI_len (by omega) (by omega)).mp q) (by omega)), g_ar_n (by omega) (by decide), h.2 i q1, nI_s, ln_97, if_neg (fun q => absurd ((bt_lt hb (by decide)).mp q) (by omega)), g_ar_n (by omega) (by decide), h.2 i q1, ln_122, if_neg (fun q => absurd ((bt_gt hb (by decide)).mp q) (by omega)), r_lg_s, g_ar_n (by omega) (by decide), h.2 i q1, p_lg_s, bt_lo (by omega), h4]
      obtain ⟨τ, e1, e2, e3, e4⟩ := ih (i + 1) (w_lg σ 1 8 ((pk X.2 a (i - a) <<< ((8 : Int32).toInt64 &&& 63)) ||| (nI (X.2 i)).toInt64)) h (by omega) (by omega) (by omega) (by
        rw [m_lg_lg, if_pos ⟨rfl, rfl⟩, show i + 1 - a = (i - a) + 1 by omega, pk, show a + (i - a) = i by omega])
      exact ⟨τ, e1, e2, e3, e4⟩
theorem sn_l (hX : WTx X) {a : Nat} (ha : a ≤ X.1) : ∀ n i (σ : Mm), TXB σ X → a ≤ i → i ≤ til (fun k => isDg (X.2 k)) X.1 a → til (fun k => isDg (X.2 k)) X.1 a - i < n → m_sc σ 1 9 = nI (nmF X.2 a (i - a)) → ∃ τ, fX6_scanNumber_10 1 n (nI i) σ = fX6_scanNumber_67 1 (nI (til (fun k => isDg (X.2 k)) X.1 a)) τ ∧ (∀ k, k ≠ 9 → m_sc τ 1 k = m_sc σ 1 k) ∧ m_ar τ = m_ar σ ∧ m_sc τ 1 9 = nI (nmF X.2 a (til (fun k => isDg (X.2 k)) X.1 a - a)) := by
  intro n
  induction n with
  | zero => intro i σ _ _ _ h; omega
  | succ n ih =>
    intro i σ h h1 h2 h3 h4
    obtain ⟨-, t2, t3, t4⟩ := til_p (fun k => isDg (X.2 k)) X.1 a
    have hl2 := t4 ha
    have hL := hX.1
    rw [fX6_scanNumber_10, r_sc_s, h.1]
    by_cases c : i = til (fun k => isDg (X.2 k)) X.1 a
    · refine ⟨σ, ?_, fun _ _ => rfl, rfl, by rw [h4, c]⟩
      rw [← c] at t3 ⊢
      by_cases c2 : X.1 ≤ i
      · rw [if_pos ((nI_len (by omega) (by omega)).mpr c2)]
      · have hb := hX.2 i (by omega)
        have hs : ¬ isDg (X.2 i) = true := fun q => t3 ⟨by omega, q⟩
        rw [isDg_e] at hs
        rw [if_neg (fun q => c2 ((nI_len (by omega) (by omega)).mp q)), g_ar_n (by omega) (by decide), h.2 _ (by omega), ln_48]
        by_cases c3 : bt (X.2 i) < nI 48
        · rw [if_pos c3]
        · rw [if_neg c3, g_ar_n (by omega) (by decide), h.2 _ (by omega), ln_57, if_pos]
          rw [bt_lt hb (by decide)] at c3
          rw [bt_gt hb (by decide)]; omega
    · obtain ⟨q1, q2⟩ := t2 i h1 (by omega)
      have hb := hX.2 i q1
      have q3 := isDg_e.mp q2
      rw [if_neg (fun q => absurd ((nI_len (by omega) (by omega)).mp q) (by omega)), g_ar_n (by omega) (by decide), h.2 i q1, nI_s, ln_48, if_neg (fun q => absurd ((bt_lt hb (by decide)).mp q) (by omega)), g_ar_n (by omega) (by decide), h.2 i q1, ln_57, if_neg (fun q => absurd ((bt_gt hb (by decide)).mp q) (by omega)), r_sc_s, g_ar_n (by omega) (by decide), h.2 i q1, p_sc_s, bt_lo (by omega), h4, ln_10, nI_mul, nI_ad, nI_sub (by omega)]
      obtain ⟨τ, e1, e2, e3, e4⟩ := ih (i + 1) (w_sc σ 1 9 (nI (nmF X.2 a (i - a) * 10 + X.2 i - 48))) ⟨by rw [m_sc_sc, if_neg (by omega)]; exact h.1, h.2⟩ (by omega) (by omega) (by omega) (by
        rw [m_sc_sc, if_pos ⟨rfl, rfl⟩, show i + 1 - a = (i - a) + 1 by omega, nmF, show a + (i - a) = i by omega]
        congr 1; omega)
      exact ⟨τ, e1, fun k hk => by rw [e2 k hk, m_sc_sc, if_neg (by omega)], e3, e4⟩
theorem kw_l {w : Int64} : ∀ n i (σ : Mm), i ≤ 23 → 23 - i < n → m_lg σ 1 8 = w → m_sc σ 1 6 = kcI (kwF w i) → ∃ τ, fX6_scanWord_96 1 n (nI i) σ = some τ ∧ m_lg τ = m_lg σ ∧ m_ar τ = m_ar σ ∧ (∀ k, k ≠ 6 → m_sc τ 1 k = m_sc σ 1 k) ∧ m_sc τ 1 6 = kcI (kwF w 23) := by
  intro n
  induction n with
  | zero => intro i σ _ h; omega
  | succ n ih =>
    intro i σ h1 h2 h3 h4
    rw [fX6_scanWord_96, ln_23]
    by_cases c : i = 23
    · rw [if_pos ((nI_len (by omega) (by omega)).mpr (by omega))]
      exact ⟨σ, rfl, rfl, rfl, fun _ _ => rfl, by rw [h4, c]⟩
    · rw [if_neg (fun q => absurd ((nI_len (by omega) (by omega)).mp q) (by omega)), g_kw_n (by omega), r_lg_s, h3, nI_s]
      by_cases c2 : kwL.getD i 0 = w
      · rw [if_pos ((lgc_e _ _).mpr c2), p_sc_s]
        obtain ⟨τ, e1, e2, e3, e4, e5⟩ := ih (i + 1) (w_sc σ 1 6 (nI i)) (by omega) (by omega) h3 (by
          rw [m_sc_sc, if_pos ⟨rfl, rfl⟩, kwF, if_pos c2, kcI, if_pos (by omega)])
        exact ⟨τ, e1, e2, e3, fun k hk => by rw [e4 k hk, m_sc_sc, if_neg (by omega)], e5⟩
      · rw [if_neg (fun q => c2 ((lgc_e _ _).mp q))]
        exact ih (i + 1) σ (by omega) (by omega) h3 (by rw [kwF, if_neg c2]; exact h4)
theorem scanWord_c (hX : WTx X) (h : TXB σ X) {a : Nat} (ha : a ≤ X.1) (h3 : m_sc σ 1 3 = nI a) (h6 : m_sc σ 1 6 = -1) : ∃ τ, fX6_scanWord 1 σ = some τ ∧ m_ar τ = m_ar σ ∧ (∀ k, k ≠ 4 → k ≠ 5 → k ≠ 6 → m_sc τ 1 k = m_sc σ 1 k) ∧ m_sc τ 1 4 = nI (til (fun k => isLt (X.2 k)) X.1 a) ∧ m_sc τ 1 5 = nI 2 ∧
    m_sc τ 1 6 = kcI (kwF (if til (fun k => isLt (X.2 k)) X.1 a - a ≤ 8 then pk X.2 a (til (fun k => isLt (X.2 k)) X.1 a - a) else 0) 23) ∧ m_lg τ 1 8 = (if til (fun k => isLt (X.2 k)) X.1 a - a ≤ 8 then pk X.2 a (til (fun k => isLt (X.2 k)) X.1 a - a) else 0) := by
  have hL := hX.1
  obtain ⟨t1, -, -, t4⟩ := til_p (fun k => isLt (X.2 k)) X.1 a
  have hl2 := t4 ha
  unfold fX6_scanWord
  rw [r_sc_s, h3, p_lg_s]
  obtain ⟨τ, e1, e2, e3, e4⟩ := sw_l (σ := w_lg σ 1 8 0) hX ha FU a h (Nat.le_refl _) t1 (FU_gt (by omega)) (by rw [m_lg_lg, if_pos ⟨rfl, rfl⟩, Nat.sub_self]; rfl)
  rw [e1]
  generalize til (fun k => isLt (X.2 k)) X.1 a = e at *
  have e2' : m_sc τ = m_sc σ := e2
  unfold fX6_scanWord_65
  have r4 : m_sc (w_sc (w_sc τ 1 4 (nI e)) 1 5 2) 1 4 = nI e := by rw [m_sc_sc, if_neg (by omega), m_sc_sc, if_pos ⟨rfl, rfl⟩]
  have r3 : m_sc (w_sc (w_sc τ 1 4 (nI e)) 1 5 2) 1 3 = nI a := by rw [m_sc_sc, if_neg (by omega), m_sc_sc, if_neg (by omega), e2', h3]
  rw [p_sc_s, p_sc_s, r_sc_s, r_sc_s, r4, r3, nI_sub t1, ln_8]
  have hk : m_sc (w_sc (w_sc τ 1 4 (nI e)) 1 5 2) 1 6 = -1 := by rw [m_sc_sc, if_neg (by omega), m_sc_sc, if_neg (by omega), e2', h6]
  have hs : ∀ (ω : Mm), m_sc ω = m_sc (w_sc (w_sc τ 1 4 (nI e)) 1 5 2) → m_ar ω = m_ar τ → ∀ w, m_lg ω 1 8 = w → ∃ τ', fX6_scanWord_96 1 FU (0 : Int32) ω = some τ' ∧ m_ar τ' = m_ar σ ∧ (∀ k, k ≠ 4 → k ≠ 5 → k ≠ 6 → m_sc τ' 1 k = m_sc σ 1 k) ∧ m_sc τ' 1 4 = nI e ∧ m_sc τ' 1 5 = nI 2 ∧ m_sc τ' 1 6 = kcI (kwF w 23) ∧ m_lg τ' 1 8 = w := by
    intro ω h1 h2 w hw
    obtain ⟨τ', f1, f2, f3, f4, f5⟩ := kw_l (w := w) FU 0 ω (by decide) (FU_gt (by decide)) hw (by rw [h1, hk]; rfl)
    refine ⟨τ', f1, f3.trans (h2.trans e3), fun k k4 k5 k6 => ?_, ?_, ?_, f5, by rw [f2, hw]⟩
    · rw [f4 k k6, h1, m_sc_sc, if_neg (by omega), m_sc_sc, if_neg (by omega), e2']
    · rw [f4 4 (by decide), h1, m_sc_sc, if_neg (by omega), m_sc_sc, if_pos ⟨rfl, rfl⟩]
    · rw [f4 5 (by decide), h1, m_sc_sc, if_pos ⟨rfl, rfl⟩]; rfl
  by_cases c : e - a ≤ 8
  · rw [if_pos ((nI_len (by omega) (by omega)).mpr c), if_pos c]
    exact hs (w_sc (w_sc τ 1 4 (nI e)) 1 5 2) rfl rfl _ e4
  · rw [if_neg (fun q => c ((nI_len (by omega) (by omega)).mp q)), p_lg_s, if_neg c]
    exact hs (w_lg (w_sc (w_sc τ 1 4 (nI e)) 1 5 2) 1 8 0) rfl rfl _ (by rw [m_lg_lg, if_pos ⟨rfl, rfl⟩])
theorem scanNumber_c (hX : WTx X) (h : TXB σ X) {a : Nat} (ha : a ≤ X.1) (h3 : m_sc σ 1 3 = nI a) : ∃ τ, fX6_scanNumber 1 σ = some τ ∧ m_ar τ = m_ar σ ∧ (∀ k, k ≠ 4 → k ≠ 5 → k ≠ 9 → m_sc τ 1 k = m_sc σ 1 k) ∧ m_sc τ 1 4 = nI (til (fun k => isDg (X.2 k)) X.1 a) ∧
    m_sc τ 1 5 = nI (if til (fun k => isDg (X.2 k)) X.1 a - a ≤ 4 then 3 else 1) ∧ m_sc τ 1 9 = nI (nmF X.2 a (til (fun k => isDg (X.2 k)) X.1 a - a)) := by
  have hL := hX.1
  obtain ⟨t1, -, -, t4⟩ := til_p (fun k => isDg (X.2 k)) X.1 a
  have hl2 := t4 ha
  unfold fX6_scanNumber
  rw [r_sc_s, h3, p_sc_s]
  obtain ⟨τ, e1, e2, e3, e4⟩ := sn_l (σ := w_sc σ 1 9 0) hX ha FU a ⟨by rw [m_sc_sc, if_neg (by omega)]; exact h.1, h.2⟩ (Nat.le_refl _) t1 (FU_gt (by omega)) (by rw [m_sc_sc, if_pos ⟨rfl, rfl⟩, Nat.sub_self]; rfl)
  rw [e1]
  generalize til (fun k => isDg (X.2 k)) X.1 a = e at *
  have e2' : ∀ k, k ≠ 9 → m_sc τ 1 k = m_sc σ 1 k := fun k hk => by rw [e2 k hk, m_sc_sc, if_neg (by omega)]
  unfold fX6_scanNumber_67
  have r4 : m_sc (w_sc τ 1 4 (nI e)) 1 4 = nI e := by rw [m_sc_sc, if_pos ⟨rfl, rfl⟩]
  have r3 : m_sc (w_sc τ 1 4 (nI e)) 1 3 = nI a := by rw [m_sc_sc, if_neg (by omega), e2' 3 (by decide), h3]
  rw [p_sc_s, r_sc_s, r_sc_s, r4, r3, nI_sub t1, ln_4]
  by_cases c : e - a ≤ 4
  · rw [if_pos ((nI_len (by omega) (by omega)).mpr c), p_sc_s, if_pos c]
    refine ⟨_, rfl, e3, fun k k4 k5 k9 => ?_, ?_, ?_, ?_⟩
    · rw [m_sc_sc, if_neg (by omega), m_sc_sc, if_neg (by omega), e2' k k9]
    · rw [m_sc_sc, if_neg (by omega), m_sc_sc, if_pos ⟨rfl, rfl⟩]
    · rw [m_sc_sc, if_pos ⟨rfl, rfl⟩]; rfl
    · rw [m_sc_sc, if_neg (by omega), m_sc_sc, if_neg (by omega), e4]
  · rw [if_neg (fun q => c ((nI_len (by omega) (by omega)).mp q)), p_sc_s, if_neg c]
    refine ⟨_, rfl, e3, fun k k4 k5 k9 => ?_, ?_, ?_, ?_⟩
    · rw [m_sc_sc, if_neg (by omega), m_sc_sc, if_neg (by omega), e2' k k9]
    · rw [m_sc_sc, if_neg (by omega), m_sc_sc, if_pos ⟨rfl, rfl⟩]
    · rw [m_sc_sc, if_pos ⟨rfl, rfl⟩]; rfl
    · rw [m_sc_sc, if_neg (by omega), m_sc_sc, if_neg (by omega), e4]
theorem isSign_c {b : Nat} (hb : b < 256) : fX6_isSign (bt b) σ = some (if isSg b = true then 1 else 0, σ) := by
  unfold fX6_isSign
  rw [ln_59, ln_60, ln_62, ln_61]
  simp only [bt_eq hb (show 59 < 128 by decide), bt_eq hb (show 60 < 128 by decide), bt_eq hb (show 61 < 128 by decide), bt_eq hb (show 62 < 128 by decide)]
  by_cases c1 : b = 59
  · subst c1; rfl
  · rw [if_neg c1]
    by_cases c2 : b = 60
    · subst c2; rfl
    · rw [if_neg c2]
      by_cases c3 : b = 62
      · subst c3; rfl
      · rw [if_neg c3]
        by_cases c4 : b = 61
        · subst c4; rfl
        · rw [if_neg c4, if_neg (fun q => by rcases isSg_e.mp q with q | q | q | q <;> omega)]
theorem adv_w (hX : WTx X) (hp : p ≤ X.1) (h : TXB σ X) : ∃ τ, fX6_advance_41 1 (nI (tA X p)) σ = some τ ∧ ScF σ τ ∧ TkC τ X p := by
  have hL := hX.1
  have hA := tA_le hp
  unfold fX6_advance_41
  rw [p_sc_s, p_sc_s, r_sc_s]
  have hs : m_sc (w_sc (w_sc σ 1 3 (nI (tA X p))) 1 6 (-1)) 1 2 = nI X.1 := by rw [m_sc_sc, if_neg (by omega), m_sc_sc, if_neg (by omega)]; exact h.1
  have hB : TXB (w_sc (w_sc σ 1 3 (nI (tA X p))) 1 6 (-1)) X := ⟨hs, h.2⟩
  have h3 : m_sc (w_sc (w_sc σ 1 3 (nI (tA X p))) 1 6 (-1)) 1 3 = nI (tA X p) := by rw [m_sc_sc, if_neg (by omega), m_sc_sc, if_pos ⟨rfl, rfl⟩]
  have h6 : m_sc (w_sc (w_sc σ 1 3 (nI (tA X p))) 1 6 (-1)) 1 6 = -1 := by rw [m_sc_sc, if_pos ⟨rfl, rfl⟩]
  have hF : ScF σ (w_sc (w_sc σ 1 3 (nI (tA X p))) 1 6 (-1)) := ⟨rfl, fun k a b c d e f => by rw [m_sc_sc, if_neg (by omega), m_sc_sc, if_neg (by omega)]⟩
  rw [hs]
  generalize w_sc (w_sc σ 1 3 (nI (tA X p))) 1 6 (-1) = ω at *
  by_cases c : X.1 ≤ tA X p
  · rw [if_neg (fun q => absurd ((nI_ltn (by omega) (by omega)).mp q) (by omega)), p_sc_s, r_sc_s, m_sc_sc, if_neg (by omega), hs, p_sc_s]
    have eK : tK X p = 0 := by unfold tK; rw [if_pos c]
    have eE : tE X p = X.1 := by unfold tE; rw [if_pos c]
    have eW : tW X p = 23 := by unfold tW; rw [eK]; rfl
    refine ⟨_, rfl, hF.tr ⟨rfl, fun k a b c d e f => by rw [m_sc_sc, if_neg (by omega), m_sc_sc, if_neg (by omega)]⟩, ?_, ?_, ?_, ?_, fun q => ?_, fun q => ?_, fun q => ?_⟩
    · rw [m_sc_sc, if_neg (by omega), m_sc_sc, if_neg (by omega)]; exact h3
    · rw [m_sc_sc, if_pos ⟨rfl, rfl⟩, eE]
    · rw [m_sc_sc, if_neg (by omega), m_sc_sc, if_pos ⟨rfl, rfl⟩, eK]; rfl
    · rw [m_sc_sc, if_neg (by omega), m_sc_sc, if_neg (by omega), eW, h6]; rfl
    · rw [eK] at q; cases q
    · rw [eK] at q; cases q
    · rw [eK] at q; cases q
  · have hb := hX.2 (tA X p) (by omega)
    have hg : ∀ K : Int32 → Option Mm, g_ar ω 1 0 900 (nI (tA X p)) K = K (bt (X.2 (tA X p))) := fun K => by rw [g_ar_n (by omega) (by decide), hB.2 _ (by omega)]
    rw [if_pos ((nI_ltn (by omega) (by omega)).mpr (by omega))]
    simp only [hg]
    have hnum : isDg (X.2 (tA X p)) = true → ∃ τ, (c_V (fX6_scanNumber 1 ω) (fun x => some x)) = some τ ∧ ScF σ τ ∧ TkC τ X p := by
      intro cd
      have cl : ¬ isLt (X.2 (tA X p)) = true := by rw [isLt_e]; rw [isDg_e] at cd; omega
      have eE : tE X p = til (fun k => isDg (X.2 k)) X.1 (tA X p) := by unfold tE; rw [if_neg c, if_neg (show ¬ isLt (tB X p) = true from cl), if_pos (show isDg (tB X p) = true from cd)]
      have eK : tK X p = if tE X p - tA X p ≤ 4 then 3 else 1 := by unfold tK; rw [if_neg c, if_neg (show ¬ isLt (tB X p) = true from cl), if_pos (show isDg (tB X p) = true from cd)]
      have eW : tW X p = 23 := by
        unfold tW; rw [if_neg]
        rw [eK]; split <;> decide
      obtain ⟨τ, e1, e2, e3, e4, e5, e6⟩ := scanNumber_c hX hB hA h3
      rw [e1, c_V_s]
      refine ⟨τ, rfl, hF.tr ⟨e2, fun k a b c d e f => e3 k b c f⟩, ?_, ?_, ?_, ?_, fun q => ?_, fun q => ?_, fun q => ?_⟩
      · rw [e3 3 (by decide) (by decide) (by decide)]; exact h3
      · rw [e4, eE]
      · rw [e5, eK, eE]
      · rw [e3 6 (by decide) (by decide) (by decide), h6, eW]; rfl
      · rw [eK] at q; split at q <;> cases q
      · rw [eK] at q; split at q <;> cases q
      · rw [e6, tN, eE]
    have hsg : ¬ isDg (X.2 (tA X p)) = true → ¬ isLt (X.2 (tA X p)) = true → ∃ τ, fX6_advance_133 1 (nI (tA X p)) ω = some τ ∧ ScF σ τ ∧ TkC τ X p := by
      intro cd cl
      have eE : tE X p = tA X p + 1 := by unfold tE; rw [if_neg c, if_neg (show ¬ isLt (tB X p) = true from cl), if_neg (show ¬ isDg (tB X p) = true from cd)]
      have eK : tK X p = if isSg (tB X p) = true then 4 else 1 := by unfold tK; rw [if_neg c, if_neg (show ¬ isLt (tB X p) = true from cl), if_neg (show ¬ isDg (tB X p) = true from cd)]
      have eW : tW X p = 23 := by
        unfold tW; rw [if_neg]
        rw [eK]; split <;> decide
      unfold fX6_advance_133
      simp only [hg]
      rw [p_sc_s, r_sc_s, m_sc_sc, if_pos ⟨rfl, rfl⟩, isSign_c hb, c_I_s, nI_s]
      by_cases cs : isSg (X.2 (tA X p)) = true
      · rw [if_pos cs, if_neg (by decide), p_sc_s, p_sc_s]
        have eK4 : tK X p = 4 := by rw [eK, if_pos (show isSg (tB X p) = true from cs)]
        refine ⟨_, rfl, hF.tr ⟨rfl, fun k a b c d e f => by rw [m_sc_sc, if_neg (by omega), m_sc_sc, if_neg (by omega), m_sc_sc, if_neg (by omega)]⟩, ?_, ?_, ?_, ?_, fun q => ?_, fun q => ?_, fun q => ?_⟩
        · rw [m_sc_sc, if_neg (by omega), m_sc_sc, if_neg (by omega), m_sc_sc, if_neg (by omega)]; exact h3
        · rw [m_sc_sc, if_pos ⟨rfl, rfl⟩, eE]
        · rw [m_sc_sc, if_neg (by omega), m_sc_sc, if_pos ⟨rfl, rfl⟩, eK4]; rfl
        · rw [m_sc_sc, if_neg (by omega), m_sc_sc, if_neg (by omega), m_sc_sc, if_neg (by omega), h6, eW]; rfl
        · rw [m_sc_sc, if_neg (by omega), m_sc_sc, if_neg (by omega), m_sc_sc, if_pos ⟨rfl, rfl⟩]
          exact bt_lo (by have := isSg_e.mp cs; omega)
        · rw [eK4] at q; cases q
        · rw [eK4] at q; cases q
      · rw [if_neg cs, if_pos rfl, p_sc_s, p_sc_s]
        have eK1 : tK X p = 1 := by rw [eK, if_neg (show ¬ isSg (tB X p) = true from cs)]
        refine ⟨_, rfl, hF.tr ⟨rfl, fun k a b c d e f => by rw [m_sc_sc, if_neg (by omega), m_sc_sc, if_neg (by omega), m_sc_sc, if_neg (by omega)]⟩, ?_, ?_, ?_, ?_, fun q => ?_, fun q => ?_, fun q => ?_⟩
        · rw [m_sc_sc, if_neg (by omega), m_sc_sc, if_neg (by omega), m_sc_sc, if_neg (by omega)]; exact h3
        · rw [m_sc_sc, if_pos ⟨rfl, rfl⟩, eE]
        · rw [m_sc_sc, if_neg (by omega), m_sc_sc, if_pos ⟨rfl, rfl⟩, eK1]; rfl
        · rw [m_sc_sc, if_neg (by omega), m_sc_sc, if_neg (by omega), m_sc_sc, if_neg (by omega), h6, eW]; rfl
        · rw [eK1] at q; cases q
        · rw [eK1] at q; cases q
        · rw [eK1] at q; cases q
    have hrest : ¬ isLt (X.2 (tA X p)) = true → ∃ τ, (if bt (X.2 (tA X p)) < 48 then fX6_advance_133 1 (nI (tA X p)) ω else if 57 < bt (X.2 (tA X p)) then fX6_advance_133 1 (nI (tA X p)) ω else c_V (fX6_scanNumber 1 ω) (fun x => some x)) = some τ ∧ ScF σ τ ∧ TkC τ X p := by
      intro cl
      rw [ln_48, ln_57]
      by_cases cd : isDg (X.2 (tA X p)) = true
      · have cd' := isDg_e.mp cd
        rw [if_neg (fun q => absurd ((bt_lt hb (by decide)).mp q) (by omega)), if_neg (fun q => absurd ((bt_gt hb (by decide)).mp q) (by omega))]
        exact hnum cd
      · by_cases c3 : bt (X.2 (tA X p)) < nI 48
        · rw [if_pos c3]; exact hsg cd cl
        · rw [if_neg c3, if_pos]
          · exact hsg cd cl
          · rw [bt_lt hb (by decide)] at c3
            rw [isDg_e] at cd
            rw [bt_gt hb (by decide)]; omega
    by_cases cl : isLt (X.2 (tA X p)) = true
    · have cl' := isLt_e.mp cl
      rw [ln_97, ln_122, if_neg (fun q => absurd ((bt_lt hb (by decide)).mp q) (by omega)), if_neg (fun q => absurd ((bt_gt hb (by decide)).mp q) (by omega))]
      have eE : tE X p = til (fun k => isLt (X.2 k)) X.1 (tA X p) := by unfold tE; rw [if_neg c, if_pos (show isLt (tB X p) = true from cl)]
      have eK : tK X p = 2 := by unfold tK; rw [if_neg c, if_pos (show isLt (tB X p) = true from cl)]
      obtain ⟨τ, e1, e2, e3, e4, e5, e6, e7⟩ := scanWord_c hX hB hA h3 h6
      rw [e1, c_V_s]
      refine ⟨τ, rfl, hF.tr ⟨e2, fun k a b c d e f => e3 k b c d⟩, ?_, ?_, ?_, ?_, fun q => ?_, fun q => ?_, fun q => ?_⟩
      · rw [e3 3 (by decide) (by decide) (by decide)]; exact h3
      · rw [e4, eE]
      · rw [e5, eK]
      · rw [e6, tW, if_pos eK, tw, eE]
      · rw [eK] at q; cases q
      · rw [e7, tw, eE]
      · rw [eK] at q; cases q
    · by_cases c3 : bt (X.2 (tA X p)) < 97
      · rw [if_pos c3]; exact hrest cl
      · rw [if_neg c3, if_pos]
        · exact hrest cl
        · rw [ln_97, bt_lt hb (by decide)] at c3
          rw [isLt_e] at cl
          rw [ln_122, bt_gt hb (by decide)]; omega
theorem advance_c (hX : WTx X) (hp : p ≤ X.1) (h : TXB σ X) (hn : m_sc σ 1 4 = nI p) (hf : m_sc σ 1 11 = 0 ∧ m_sc σ 1 12 = -1) : ∃ τ, fX6_advance 1 σ = some τ ∧ TxC τ X p ∧ m_sc τ 1 10 = m_sc σ 1 10 ∧ ∀ b, b ≠ 1 → BU b σ τ := by
  have hL := hX.1
  have hA := tA_le hp
  obtain ⟨τ, e1, e2, e3⟩ := adv_w (σ := σ) hX hp h
  have e : fX6_advance 1 σ = some τ := by
    unfold fX6_advance
    rw [r_sc_s, hn, adv_l hX hp h FU p (til_p _ _ _).1 (Nat.le_refl _) (FU_gt (by omega)), e1]
  exact ⟨τ, e, ⟨hp, h.x e2, e3, (e2.2 11 (by decide) (by decide) (by decide) (by decide) (by decide) (by decide)).trans hf.1, (e2.2 12 (by decide) (by decide) (by decide) (by decide) (by decide) (by decide)).trans hf.2⟩, e2.2 10 (by decide) (by decide) (by decide) (by decide) (by decide) (by decide), fun b hb => frX6_advance 1 (by decide) σ e b (kd1 hb)⟩
theorem adv_c (hX : WTx X) (h : TxC σ X p) : ∃ τ, fX6_advance 1 σ = some τ ∧ TxC τ X (tE X p) ∧ m_sc τ 1 10 = m_sc σ 1 10 ∧ ∀ b, b ≠ 1 → BU b σ τ :=
  advance_c hX (tE_le h.1) h.2.1 h.2.2.1.2.1 h.2.2.2
end O
