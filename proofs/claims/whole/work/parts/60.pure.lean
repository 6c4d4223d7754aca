/-! PURE 1: small rows: numbers, memories, what comes to an end well -/
def iI (z : Int) : Int32 := Int32.ofInt z
theorem iI_self (x : Int32) : iI x.toInt = x := Int32.ofInt_toInt x
theorem iI_add (a b : Int) : iI a + iI b = iI (a + b) := by
  unfold iI; rw [← Int32.toInt_inj, Int32.toInt_add]; simp [Int32.toInt_ofInt]
theorem iI_sub (a b : Int) : iI a - iI b = iI (a - b) := by
  unfold iI; rw [← Int32.toInt_inj, Int32.toInt_sub]; simp [Int32.toInt_ofInt]
theorem iI_mul (a b : Int) : iI a * iI b = iI (a * b) := by
  unfold iI; rw [← Int32.toInt_inj, Int32.toInt_mul]; simp [Int32.toInt_ofInt]
theorem iI_neg (a : Int) : - iI a = iI (-a) := by
  unfold iI; rw [← Int32.toInt_inj, Int32.toInt_neg]; simp [Int32.toInt_ofInt]
theorem iI_bm {z : Int} (h1 : -2147483648 ≤ z) (h2 : z < 2147483648) : z.bmod (2 ^ 32) = z := by
  rw [Int.bmod_eq_of_le (by omega) (by omega)]
theorem iI_t {z : Int} (h1 : -2147483648 ≤ z) (h2 : z < 2147483648) : (iI z).toInt = z := by
  unfold iI; rw [Int32.toInt_ofInt, iI_bm h1 h2]
theorem iI_r (x : Int32) : -2147483648 ≤ x.toInt ∧ x.toInt < 2147483648 := by
  have h1 := Int32.le_toInt x
  have h2 := Int32.toInt_lt x
  omega
theorem iI_lt {a b : Int} (h1 : -2147483648 ≤ a) (h2 : a < 2147483648) (h3 : -2147483648 ≤ b) (h4 : b < 2147483648) : iI a < iI b ↔ a < b := by
  rw [Int32.lt_iff_toInt_lt, iI_t h1 h2, iI_t h3 h4]
theorem iI_le {a b : Int} (h1 : -2147483648 ≤ a) (h2 : a < 2147483648) (h3 : -2147483648 ≤ b) (h4 : b < 2147483648) : iI a ≤ iI b ↔ a ≤ b := by
  rw [Int32.le_iff_toInt_le, iI_t h1 h2, iI_t h3 h4]
theorem iI_eq {a b : Int} (h1 : -2147483648 ≤ a) (h2 : a < 2147483648) (h3 : -2147483648 ≤ b) (h4 : b < 2147483648) : iI a = iI b ↔ a = b := by
  rw [← Int32.toInt_inj, iI_t h1 h2, iI_t h3 h4]
theorem nI_iI (n : Nat) : nI n = iI (n : Int) := rfl
theorem iI_cl {z : Int} (h1 : 0 ≤ z) (h2 : z < 2147483648) : (iI z).toNatClampNeg = z.toNat := by
  show (iI z).toInt.toNat = z.toNat
  rw [iI_t (by omega) h2]
theorem nI_cl {n : Nat} (h : n < 2147483648) : (nI n).toNatClampNeg = n := nI_clamp (by omega)
/-- an int that is no less than 0 and less than n is nI of a number -/
theorem nI_get {x : Int32} {n : Nat} (h : ¬ (x < 0 ∨ n ≤ x.toNatClampNeg)) : ∃ k, k < n ∧ x = nI k := by
  have h0 : ¬ x < 0 := fun q => h (Or.inl q)
  refine ⟨x.toNatClampNeg, Nat.not_le.mp fun q => h (Or.inr q), ?_⟩
  have e := y_nn x h0
  rw [← Int32.toInt_inj, nI_iI, iI_t (by have := iI_r x; omega) (by have := iI_r x; omega)]
  exact e
theorem nI_of0 {x : Int32} {n : Nat} (hn : n < 2147483648) (h0 : ¬ x < 0) (h1 : x < nI n) : ∃ k, k < n ∧ x = nI k := by
  refine nI_get fun q => q.elim h0 fun z => ?_
  have e := y_nn x h0
  rw [Int32.lt_iff_toInt_lt, nI_iI, iI_t (by omega) (by omega)] at h1
  omega
theorem nI_idx {k n : Nat} (h : k < n) (hn : n < 2147483648) : ¬ (nI k < 0 ∨ n ≤ (nI k).toNatClampNeg) := nI_in h (by omega)
/-! memories -/
theorem m_sc_sc (σ : Mm) (o k : Nat) (v : Int32) (o' k' : Nat) : m_sc (w_sc σ o k v) o' k' = if o' = o ∧ k' = k then v else m_sc σ o' k' := rfl
theorem m_sc_lg (σ : Mm) (o k : Nat) (v : Int64) : m_sc (w_lg σ o k v) = m_sc σ := rfl
theorem m_sc_af (σ : Mm) (o j : Nat) (g : Nat → Int32) : m_sc (w_af σ o j g) = m_sc σ := rfl
theorem m_sc_lf (σ : Mm) (o j : Nat) (g : Nat → Int64) : m_sc (w_lf σ o j g) = m_sc σ := rfl
theorem m_sc_rf (σ : Mm) (o k : Nat) (r : Option Nat) : m_sc (w_rf σ o k r) = m_sc σ := rfl
theorem m_sc_ar (σ : Mm) (o j i : Nat) (v : Int32) : m_sc (w_ar σ o j i v) = m_sc σ := rfl
theorem m_sc_la (σ : Mm) (o j i : Nat) (v : Int64) : m_sc (w_la σ o j i v) = m_sc σ := rfl
theorem m_lg_lg (σ : Mm) (o k : Nat) (v : Int64) (o' k' : Nat) : m_lg (w_lg σ o k v) o' k' = if o' = o ∧ k' = k then v else m_lg σ o' k' := rfl
theorem m_lg_sc (σ : Mm) (o k : Nat) (v : Int32) : m_lg (w_sc σ o k v) = m_lg σ := rfl
theorem m_lg_af (σ : Mm) (o j : Nat) (g : Nat → Int32) : m_lg (w_af σ o j g) = m_lg σ := rfl
theorem m_lg_lf (σ : Mm) (o j : Nat) (g : Nat → Int64) : m_lg (w_lf σ o j g) = m_lg σ := rfl
theorem m_lg_rf (σ : Mm) (o k : Nat) (r : Option Nat) : m_lg (w_rf σ o k r) = m_lg σ := rfl
theorem m_lg_ar (σ : Mm) (o j i : Nat) (v : Int32) : m_lg (w_ar σ o j i v) = m_lg σ := rfl
theorem m_lg_la (σ : Mm) (o j i : Nat) (v : Int64) : m_lg (w_la σ o j i v) = m_lg σ := rfl
theorem m_ar_sc (σ : Mm) (o k : Nat) (v : Int32) : m_ar (w_sc σ o k v) = m_ar σ := rfl
theorem m_ar_lg (σ : Mm) (o k : Nat) (v : Int64) : m_ar (w_lg σ o k v) = m_ar σ := rfl
theorem m_ar_lf (σ : Mm) (o j : Nat) (g : Nat → Int64) : m_ar (w_lf σ o j g) = m_ar σ := rfl
theorem m_ar_rf (σ : Mm) (o k : Nat) (r : Option Nat) : m_ar (w_rf σ o k r) = m_ar σ := rfl
theorem m_ar_la (σ : Mm) (o j i : Nat) (v : Int64) : m_ar (w_la σ o j i v) = m_ar σ := rfl
theorem m_ar_af (σ : Mm) (o j : Nat) (g : Nat → Int32) (o' j' : Nat) : m_ar (w_af σ o j g) o' j' = if o' = o ∧ j' = j then g else m_ar σ o' j' := rfl
theorem m_ar_ar (σ : Mm) (o j i : Nat) (v : Int32) (o' j' i' : Nat) : m_ar (w_ar σ o j i v) o' j' i' = if o' = o ∧ j' = j ∧ i' = i then v else m_ar σ o' j' i' := by
  unfold w_ar
  rw [m_ar_af]
  by_cases h : o' = o ∧ j' = j
  · obtain ⟨rfl, rfl⟩ := h
    simp [upd]
  · rw [if_neg h, if_neg (fun q => h ⟨q.1, q.2.1⟩)]
theorem m_la_sc (σ : Mm) (o k : Nat) (v : Int32) : m_la (w_sc σ o k v) = m_la σ := rfl
theorem m_la_lg (σ : Mm) (o k : Nat) (v : Int64) : m_la (w_lg σ o k v) = m_la σ := rfl
theorem m_la_af (σ : Mm) (o j : Nat) (g : Nat → Int32) : m_la (w_af σ o j g) = m_la σ := rfl
theorem m_la_rf (σ : Mm) (o k : Nat) (r : Option Nat) : m_la (w_rf σ o k r) = m_la σ := rfl
theorem m_la_ar (σ : Mm) (o j i : Nat) (v : Int32) : m_la (w_ar σ o j i v) = m_la σ := rfl
theorem m_la_lf (σ : Mm) (o j : Nat) (g : Nat → Int64) (o' j' : Nat) : m_la (w_lf σ o j g) o' j' = if o' = o ∧ j' = j then g else m_la σ o' j' := rfl
theorem m_la_la (σ : Mm) (o j i : Nat) (v : Int64) (o' j' i' : Nat) : m_la (w_la σ o j i v) o' j' i' = if o' = o ∧ j' = j ∧ i' = i then v else m_la σ o' j' i' := by
  unfold w_la
  rw [m_la_lf]
  by_cases h : o' = o ∧ j' = j
  · obtain ⟨rfl, rfl⟩ := h
    simp [vp_updL]
  · rw [if_neg h, if_neg (fun q => h ⟨q.1, q.2.1⟩)]
theorem m_rf_sc (σ : Mm) (o k : Nat) (v : Int32) : m_rf (w_sc σ o k v) = m_rf σ := rfl
theorem m_rf_lg (σ : Mm) (o k : Nat) (v : Int64) : m_rf (w_lg σ o k v) = m_rf σ := rfl
theorem m_rf_af (σ : Mm) (o j : Nat) (g : Nat → Int32) : m_rf (w_af σ o j g) = m_rf σ := rfl
theorem m_rf_lf (σ : Mm) (o j : Nat) (g : Nat → Int64) : m_rf (w_lf σ o j g) = m_rf σ := rfl
theorem m_rf_ar (σ : Mm) (o j i : Nat) (v : Int32) : m_rf (w_ar σ o j i v) = m_rf σ := rfl
theorem m_rf_la (σ : Mm) (o j i : Nat) (v : Int64) : m_rf (w_la σ o j i v) = m_rf σ := rfl
theorem m_rf_rf (σ : Mm) (o k : Nat) (r : Option Nat) (o' k' : Nat) : m_rf (w_rf σ o k r) o' k' = if o' = o ∧ k' = k then r else m_rf σ o' k' := rfl
/-! an end that is well -/
def ok {α : Type} (x : Option α) (P : α → Prop) : Prop := ∃ a, x = some a ∧ P a
section OK
variable {α β : Type} {σ : Mm} {o k j n : Nat} {P : α → Prop}
theorem ok_some {a : α} (h : P a) : ok (some a) P := ⟨a, rfl, h⟩
theorem ok_mono {x : Option α} {Q : α → Prop} (h : ok x P) (hq : ∀ a, P a → Q a) : ok x Q := by
  obtain ⟨a, h1, h2⟩ := h
  exact ⟨a, h1, hq a h2⟩
theorem ok_eq {x : Option α} {a : α} (e : x = some a) (h : P a) : ok x P := ⟨a, e, h⟩
theorem ok_if {c : Prop} [Decidable c] {A B : Option α} (h1 : c → ok A P) (h2 : ¬ c → ok B P) : ok (if c then A else B) P := by
  by_cases h : c
  · rw [if_pos h]; exact h1 h
  · rw [if_neg h]; exact h2 h
theorem ok_t {c : Prop} [Decidable c] {A B : Option α} (h : c) (h1 : ok A P) : ok (if c then A else B) P := by rw [if_pos h]; exact h1
theorem ok_f {c : Prop} [Decidable c] {A B : Option α} (h : ¬ c) (h1 : ok B P) : ok (if c then A else B) P := by rw [if_neg h]; exact h1
theorem ok_rsc {K : Int32 → Option α} (h : ok (K (m_sc σ o k)) P) : ok (r_sc σ o k K) P := h
theorem ok_rlg {K : Int64 → Option α} (h : ok (K (m_lg σ o k)) P) : ok (r_lg σ o k K) P := h
theorem r_rf_e {K : Nat → Option α} {q c : Nat} (h : m_rf σ o k = some q) (hc : KD q = c) : r_rf σ o k c K = K q := by
  unfold r_rf; rw [h]; dsimp only; rw [if_pos hc]
theorem ok_rrf {K : Nat → Option α} {q c : Nat} (h : m_rf σ o k = some q) (hc : KD q = c) (h2 : ok (K q) P) : ok (r_rf σ o k c K) P := by
  rw [r_rf_e h hc]; exact h2
theorem ok_psc {v : Int32} {K : Mm → Option α} (h : ok (K (w_sc σ o k v)) P) : ok (p_sc σ o k v K) P := h
theorem ok_plg {v : Int64} {K : Mm → Option α} (h : ok (K (w_lg σ o k v)) P) : ok (p_lg σ o k v K) P := h
theorem ok_prf {q : Nat} {K : Mm → Option α} (h : ok (K (w_rf σ o k (some q))) P) : ok (p_rf σ o k q K) P := h
theorem ok_pbz {v : Int32} {K : Mm → Option α} (hv : v = 0 ∨ v = 1) (h : ok (K (w_sc σ o k v)) P) : ok (p_bz σ o k v K) P := by
  unfold p_bz; rw [if_pos hv]; exact h
theorem g_ar_n {i : Nat} {K : Int32 → Option α} (h : i < n) (hn : n < 2147483648) : g_ar σ o j n (nI i) K = K (m_ar σ o j i) := by
  unfold g_ar; rw [if_neg (nI_idx h hn), nI_cl (by omega)]
theorem g_la_n {i : Nat} {K : Int64 → Option α} (h : i < n) (hn : n < 2147483648) : g_la σ o j n (nI i) K = K (m_la σ o j i) := by
  unfold g_la; rw [if_neg (nI_idx h hn), nI_cl (by omega)]
theorem s_ar_n {i : Nat} {v : Int32} {K : Mm → Option α} (h : i < n) (hn : n < 2147483648) : s_ar σ o j n (nI i) v K = K (w_ar σ o j i v) := by
  unfold s_ar; rw [if_neg (nI_idx h hn), nI_cl (by omega)]
theorem s_la_n {i : Nat} {v : Int64} {K : Mm → Option α} (h : i < n) (hn : n < 2147483648) : s_la σ o j n (nI i) v K = K (w_la σ o j i v) := by
  unfold s_la; rw [if_neg (nI_idx h hn), nI_cl (by omega)]
theorem g_bl_n {i : Nat} {K : Nat → Option α} (h : i < n) (hn : n < 2147483648) : g_bl j n (nI i) K = K (ra j i) := by
  unfold g_bl; rw [if_neg (nI_idx h hn), nI_cl (by omega)]
theorem g_kw_n {i : Nat} {K : Int64 → Option α} (h : i < 23) : g_kw (nI i) K = K (kwL.getD i 0) := by
  unfold g_kw; rw [if_neg (nI_idx h (by decide)), nI_cl (by omega)]
theorem g_ky_n {i : Nat} {K : Int32 → Option α} (h : i < 119) : g_ky (nI i) K = K (kyB.getD i 0) := by
  unfold g_ky; rw [if_neg (nI_idx h (by decide)), nI_cl (by omega)]
theorem g_xs_n {Ln i : Nat} {xs : Nat → Int32} {K : Int32 → Option α} (h : i < Ln) (hn : Ln < 2147483648) : g_xs Ln xs (nI i) K = K (xs i) := by
  unfold g_xs; rw [if_neg (nI_idx h hn), nI_cl (by omega)]
theorem ok_gar {i : Nat} {K : Int32 → Option α} (h : i < n) (hn : n < 2147483648) (h2 : ok (K (m_ar σ o j i)) P) : ok (g_ar σ o j n (nI i) K) P := by rw [g_ar_n h hn]; exact h2
theorem ok_gla {i : Nat} {K : Int64 → Option α} (h : i < n) (hn : n < 2147483648) (h2 : ok (K (m_la σ o j i)) P) : ok (g_la σ o j n (nI i) K) P := by rw [g_la_n h hn]; exact h2
theorem ok_sar {i : Nat} {v : Int32} {K : Mm → Option α} (h : i < n) (hn : n < 2147483648) (h2 : ok (K (w_ar σ o j i v)) P) : ok (s_ar σ o j n (nI i) v K) P := by rw [s_ar_n h hn]; exact h2
theorem ok_sla {i : Nat} {v : Int64} {K : Mm → Option α} (h : i < n) (hn : n < 2147483648) (h2 : ok (K (w_la σ o j i v)) P) : ok (s_la σ o j n (nI i) v K) P := by rw [s_la_n h hn]; exact h2
theorem ok_gbl {i : Nat} {K : Nat → Option α} (h : i < n) (hn : n < 2147483648) (h2 : ok (K (ra j i)) P) : ok (g_bl j n (nI i) K) P := by rw [g_bl_n h hn]; exact h2
theorem ok_cI {r : Option (Int32 × Mm)} {K : Int32 → Mm → Option α} (h : ok r (fun q => ok (K q.1 q.2) P)) : ok (c_I r K) P := by
  obtain ⟨q, rfl, h⟩ := h; exact h
theorem ok_cL {r : Option (Int64 × Mm)} {K : Int64 → Mm → Option α} (h : ok r (fun q => ok (K q.1 q.2) P)) : ok (c_L r K) P := by
  obtain ⟨q, rfl, h⟩ := h; exact h
theorem ok_cV {r : Option Mm} {K : Mm → Option α} (h : ok r (fun q => ok (K q) P)) : ok (c_V r K) P := by
  obtain ⟨q, rfl, h⟩ := h; exact h
theorem c_I_e {r : Option (Int32 × Mm)} {K : Int32 → Mm → Option α} {x : Int32} {τ : Mm} (h : r = some (x, τ)) : c_I r K = K x τ := by subst h; rfl
theorem c_L_e {r : Option (Int64 × Mm)} {K : Int64 → Mm → Option α} {x : Int64} {τ : Mm} (h : r = some (x, τ)) : c_L r K = K x τ := by subst h; rfl
theorem c_V_e {r : Option Mm} {K : Mm → Option α} {τ : Mm} (h : r = some τ) : c_V r K = K τ := by subst h; rfl
theorem n_z_e {x : Int32} {K : Option α} (h : x ≠ 0) : n_z x K = K := by unfold n_z; rw [if_neg h]
theorem n_zl_e {x : Int64} {K : Option α} (h : x ≠ 0) : n_zl x K = K := by unfold n_zl; rw [if_neg h]
end OK
theorem b_z_0 (σ : Mm) : b_z 0 σ = some (0, σ) := rfl
theorem b_z_1 (σ : Mm) : b_z 1 σ = some (1, σ) := rfl
theorem ok_bz {x : Int32} {σ : Mm} {P : Int32 × Mm → Prop} (hx : x = 0 ∨ x = 1) (h : P (x, σ)) : ok (b_z x σ) P := by
  unfold b_z; rw [if_pos hx]; exact ok_some h
/-- a loop that counts: fuel n, from i on to e -/
theorem loop_up {S : Type} (F : Nat → Nat → S → Prop) (e : Nat) (I : Nat → S → Prop) (hend : ∀ n s, I e s → F (n + 1) e s) (hstep : ∀ n i s, i < e → I i s → (∀ s', I (i + 1) s' → F n (i + 1) s') → F (n + 1) i s) : ∀ (n i : Nat) (s : S), i ≤ e → e - i < n → I i s → F n i s := by
  intro n
  induction n with
  | zero => intro i s _ h _; exact absurd h (Nat.not_lt_zero _)
  | succ n ih =>
    intro i s hi hn hI
    rcases Nat.lt_or_ge i e with q | q
    · exact hstep n i s q hI (fun s' h' => ih (i + 1) s' q (by omega) h')
    · have : i = e := by omega
      subst this
      exact hend n s hI
theorem FU_gt {n : Nat} (h : n < 1000000000) : n < FU := Nat.lt_of_lt_of_le h FU_ge
