/-! PURE 3: bits, literals, rules for walking -/
theorem nI_bv (n : Nat) : (nI n).toBitVec = BitVec.ofNat 32 n := by
  show (Int32.ofInt (n : Int)).toBitVec = _
  rw [Int32.toBitVec_ofInt]; exact BitVec.ofInt_natCast 32 n
theorem nI_bit (n j : Nat) (hj : j < 32) : (nI n).toBitVec.getLsbD j = n.testBit j := by
  rw [nI_bv, BitVec.getLsbD_ofNat]; simp [hj]
theorem nI_ext {x : Int32} {a : Nat} (h : ∀ j, j < 32 → x.toBitVec.getLsbD j = a.testBit j) : x = nI a := by
  apply Int32.toBitVec_inj.mp
  apply BitVec.eq_of_getLsbD_eq
  intro j hj
  rw [h j hj, nI_bit a j hj]
theorem sh1 {i : Nat} (h : i < 31) : (1 : Int32) <<< (nI i &&& 31) = nI (2 ^ i) := (show ∀ i, i < 31 → (1 : Int32) <<< (nI i &&& 31) = nI (2 ^ i) by decide) i h
theorem or_n (a b : Nat) : nI a ||| nI b = nI (a ||| b) := by
  apply nI_ext
  intro j hj
  rw [Int32.toBitVec_or, BitVec.getLsbD_or, nI_bit a j hj, nI_bit b j hj, Nat.testBit_or]
theorem and_n (a b : Nat) : nI a &&& nI b = nI (a &&& b) := by
  apply nI_ext
  intro j hj
  rw [Int32.toBitVec_and, BitVec.getLsbD_and, nI_bit a j hj, nI_bit b j hj, Nat.testBit_and]
/-- a without b -/
def ndiff (a b : Nat) : Nat := a ^^^ (a &&& b)
theorem ndiff_bit (a b j : Nat) : (ndiff a b).testBit j = (a.testBit j && !b.testBit j) := by
  unfold ndiff
  rw [Nat.testBit_xor, Nat.testBit_and]
  cases a.testBit j <;> cases b.testBit j <;> rfl
theorem m1_bit (j : Nat) (hj : j < 32) : (-1 : Int32).toBitVec.getLsbD j = true := (show ∀ j, j < 32 → (-1 : Int32).toBitVec.getLsbD j = true by decide) j hj
theorem andn_n (a b : Nat) : nI a &&& (nI b ^^^ (-1 : Int32)) = nI (ndiff a b) := by
  apply nI_ext
  intro j hj
  rw [Int32.toBitVec_and, BitVec.getLsbD_and, Int32.toBitVec_xor, BitVec.getLsbD_xor, nI_bit a j hj, nI_bit b j hj, m1_bit j hj, ndiff_bit]
  cases a.testBit j <;> cases b.testBit j <;> rfl
theorem shr_n {a i : Nat} (ha : a < 2147483648) (hi : i < 31) : nI a >>> (nI i &&& 31) = nI (a >>> i) := by
  apply nI_ext
  intro j hj
  have e : (nI i &&& 31 : Int32) = nI i := (show ∀ i, i < 31 → (nI i &&& 31 : Int32) = nI i by decide) i hi
  rw [e, Int32.toBitVec_shiftRight]
  have e2 : ((nI i).toBitVec.smod 32).toNat = i := by
    exact (show ∀ i, i < 31 → ((nI i).toBitVec.smod 32).toNat = i by decide) i hi
  rw [show (nI a).toBitVec.sshiftRight' ((nI i).toBitVec.smod 32) = (nI a).toBitVec.sshiftRight ((nI i).toBitVec.smod 32).toNat from rfl, e2]
  have hm : (nI a).toBitVec.msb = false := by
    rw [BitVec.msb_eq_getLsbD_last, nI_bit a 31 (by decide)]
    exact Nat.testBit_lt_two_pow (by omega)
  rw [BitVec.sshiftRight_eq_of_msb_false hm, BitVec.getLsbD_ushiftRight, nI_bv, BitVec.getLsbD_ofNat, Nat.testBit_shiftRight]
  by_cases q : i + j < 32
  · simp [q]
  · rw [Nat.testBit_lt_two_pow (Nat.lt_of_lt_of_le (show a < 2 ^ 32 by omega) (Nat.pow_le_pow_right (by decide) (by omega)))]
    simp
theorem has_n {a i : Nat} (ha : a < 2147483648) (hi : i < 31) : (nI a >>> (nI i &&& 31)) &&& (1 : Int32) = if a.testBit i then 1 else 0 := by
  rw [shr_n ha hi, show (1 : Int32) = nI 1 from rfl, and_n]
  have : (a >>> i) &&& 1 = if a.testBit i then 1 else 0 := by
    rw [Nat.and_one_is_mod, Nat.testBit_eq_decide_div_mod_eq, Nat.shiftRight_eq_div_pow]
    by_cases q : a / 2 ^ i % 2 = 1
    · simp [q]
    · have : a / 2 ^ i % 2 = 0 := by omega
      simp [this]
  rw [this]
  by_cases q : a.testBit i <;> simp [q] <;> rfl
theorem nI_inj {a b : Nat} (ha : a < 2147483648) (hb : b < 2147483648) : nI a = nI b ↔ a = b := by
  rw [nI_iI, nI_iI, iI_eq (by omega) (by omega) (by omega) (by omega)]; omega
theorem nI_ltn {a b : Nat} (ha : a < 2147483648) (hb : b < 2147483648) : nI a < nI b ↔ a < b := by
  rw [nI_iI, nI_iI, iI_lt (by omega) (by omega) (by omega) (by omega)]; omega
theorem nI_len {a b : Nat} (ha : a < 2147483648) (hb : b < 2147483648) : nI a ≤ nI b ↔ a ≤ b := by
  rw [nI_iI, nI_iI, iI_le (by omega) (by omega) (by omega) (by omega)]; omega
theorem nI_s (i : Nat) : nI i + 1 = nI (i + 1) := by
  rw [nI_iI, show (1 : Int32) = iI 1 from rfl, iI_add]; rfl
theorem nI_neg0 {a : Nat} (ha : a < 2147483648) : ¬ nI a < 0 := by
  rw [nI_iI, show (0 : Int32) = iI 0 from rfl, iI_lt (by omega) (by omega) (by omega) (by omega)]; omega
theorem nI_eq0 {a : Nat} (ha : a < 2147483648) : nI a = 0 ↔ a = 0 := nI_inj ha (by decide)
theorem nI_nem {a : Nat} (ha : a < 2147483648) : ¬ nI a = -1 := by
  rw [nI_iI, show (-1 : Int32) = iI (-1) from rfl, iI_eq (by omega) (by omega) (by omega) (by omega)]; omega
/-- an int by what it is: below 0, or a number -/
theorem i_cases (x : Int32) : x < 0 ∨ ∃ n, n < 2147483648 ∧ x = nI n := by
  by_cases h : x < 0
  · exact Or.inl h
  · have h0 : 0 ≤ x.toInt := by
      have e : (0 : Int32).toInt = 0 := rfl
      exact Int.not_lt.mp fun q => h (Int32.lt_iff_toInt_lt.mpr (by omega))
    refine Or.inr ⟨x.toInt.toNat, by have := iI_r x; omega, ?_⟩
    rw [nI_iI, Int.toNat_of_nonneg h0, iI_self]
section WALK
variable {α : Type}
theorem c_I_s (x : Int32) (τ : Mm) (K : Int32 → Mm → Option α) : c_I (some (x, τ)) K = K x τ := rfl
theorem c_L_s (x : Int64) (τ : Mm) (K : Int64 → Mm → Option α) : c_L (some (x, τ)) K = K x τ := rfl
theorem c_V_s (τ : Mm) (K : Mm → Option α) : c_V (some τ) K = K τ := rfl
theorem r_sc_s (σ : Mm) (o k : Nat) (K : Int32 → Option α) : r_sc σ o k K = K (m_sc σ o k) := rfl
theorem r_lg_s (σ : Mm) (o k : Nat) (K : Int64 → Option α) : r_lg σ o k K = K (m_lg σ o k) := rfl
theorem p_sc_s (σ : Mm) (o k : Nat) (v : Int32) (K : Mm → Option α) : p_sc σ o k v K = K (w_sc σ o k v) := rfl
theorem p_lg_s (σ : Mm) (o k : Nat) (v : Int64) (K : Mm → Option α) : p_lg σ o k v K = K (w_lg σ o k v) := rfl
theorem p_rf_s (σ : Mm) (o k q : Nat) (K : Mm → Option α) : p_rf σ o k q K = K (w_rf σ o k (some q)) := rfl
theorem g_ar_i {σ : Mm} {o j n : Nat} {z : Int} {K : Int32 → Option α} (h0 : 0 ≤ z) (h1 : z < n) (hn : n < 2147483648) : g_ar σ o j n (iI z) K = K (m_ar σ o j z.toNat) := by
  have e : iI z = nI z.toNat := by rw [nI_iI, Int.toNat_of_nonneg h0]
  rw [e, g_ar_n (by omega) hn]
theorem s_ar_i {σ : Mm} {o j n : Nat} {z : Int} {v : Int32} {K : Mm → Option α} (h0 : 0 ≤ z) (h1 : z < n) (hn : n < 2147483648) : s_ar σ o j n (iI z) v K = K (w_ar σ o j z.toNat v) := by
  have e : iI z = nI z.toNat := by rw [nI_iI, Int.toNat_of_nonneg h0]
  rw [e, s_ar_n (by omega) hn]
theorem g_la_i {σ : Mm} {o j n : Nat} {z : Int} {K : Int64 → Option α} (h0 : 0 ≤ z) (h1 : z < n) (hn : n < 2147483648) : g_la σ o j n (iI z) K = K (m_la σ o j z.toNat) := by
  have e : iI z = nI z.toNat := by rw [nI_iI, Int.toNat_of_nonneg h0]
  rw [e, g_la_n (by omega) hn]
theorem s_la_i {σ : Mm} {o j n : Nat} {z : Int} {v : Int64} {K : Mm → Option α} (h0 : 0 ≤ z) (h1 : z < n) (hn : n < 2147483648) : s_la σ o j n (iI z) v K = K (w_la σ o j z.toNat v) := by
  have e : iI z = nI z.toNat := by rw [nI_iI, Int.toNat_of_nonneg h0]
  rw [e, s_la_n (by omega) hn]
end WALK
theorem nI_ad (a b : Nat) : nI a + nI b = nI (a + b) := by
  rw [nI_iI, nI_iI, iI_add]; rfl
theorem nI_mul (a b : Nat) : nI a * nI b = nI (a * b) := by
  rw [nI_iI, nI_iI, iI_mul]; rfl
theorem nI_sub {a b : Nat} (h : b ≤ a) : nI a - nI b = nI (a - b) := by
  rw [nI_iI, nI_iI, nI_iI, iI_sub]
  congr 1; omega
theorem nI_nem1 {a : Nat} (ha : a < 2147483648) : (nI a = -nI 1) = False := eq_false (nI_nem ha)
theorem nI_ltm {a : Nat} (ha : a < 2147483648) : (nI a < -nI 1) = False := eq_false (by
  rw [show (-nI 1 : Int32) = iI (-1) from rfl, nI_iI, iI_lt (by omega) (by omega) (by omega) (by omega)]; omega)
/-- an index that is in a row of n, or none -/
def ix (n : Nat) (a : Int32) : Option Nat := if a < 0 ∨ nI n ≤ a then none else some a.toNatClampNeg
theorem ix_cases {n : Nat} (hn : n < 2147483648) (a : Int32) : (ix n a = none ∧ (a < 0 ∨ (¬ a < 0 ∧ nI n ≤ a))) ∨ ∃ v, v < n ∧ a = nI v ∧ ix n a = some v := by
  unfold ix
  by_cases h : a < 0
  · exact Or.inl ⟨by rw [if_pos (Or.inl h)], Or.inl h⟩
  · by_cases h2 : nI n ≤ a
    · exact Or.inl ⟨by rw [if_pos (Or.inr h2)], Or.inr ⟨h, h2⟩⟩
    · obtain ⟨v, hv, e⟩ := nI_of0 hn h (by rw [Int32.lt_iff_toInt_lt]; rw [Int32.le_iff_toInt_le] at h2; omega)
      refine Or.inr ⟨v, hv, e, ?_⟩
      rw [if_neg (fun q => q.elim h h2), e, nI_cl (by omega)]
theorem i_le_lt {a b : Int32} (h : a ≤ b) : ¬ b < a := by
  rw [Int32.le_iff_toInt_le] at h; rw [Int32.lt_iff_toInt_lt]; omega
theorem i_lt_le {a b : Int32} (h : a < b) : ¬ b ≤ a := by
  rw [Int32.lt_iff_toInt_lt] at h; rw [Int32.le_iff_toInt_le]; omega
theorem i_nle {a b : Int32} (h : ¬ a ≤ b) : b < a := by
  rw [Int32.le_iff_toInt_le] at h; rw [Int32.lt_iff_toInt_lt]; omega
theorem i_nlt {a b : Int32} (h : ¬ a < b) : b ≤ a := by
  rw [Int32.lt_iff_toInt_lt] at h; rw [Int32.le_iff_toInt_le]; omega
/-! literals -/
theorem ln_0 : (0 : Int32) = nI 0 := rfl
theorem ln_1 : (1 : Int32) = nI 1 := rfl
theorem ln_2 : (2 : Int32) = nI 2 := rfl
theorem ln_3 : (3 : Int32) = nI 3 := rfl
theorem ln_4 : (4 : Int32) = nI 4 := rfl
theorem ln_5 : (5 : Int32) = nI 5 := rfl
theorem ln_6 : (6 : Int32) = nI 6 := rfl
theorem ln_7 : (7 : Int32) = nI 7 := rfl
theorem ln_8 : (8 : Int32) = nI 8 := rfl
theorem ln_9 : (9 : Int32) = nI 9 := rfl
theorem ln_10 : (10 : Int32) = nI 10 := rfl
theorem ln_11 : (11 : Int32) = nI 11 := rfl
theorem ln_12 : (12 : Int32) = nI 12 := rfl
theorem ln_13 : (13 : Int32) = nI 13 := rfl
theorem ln_14 : (14 : Int32) = nI 14 := rfl
theorem ln_15 : (15 : Int32) = nI 15 := rfl
theorem ln_16 : (16 : Int32) = nI 16 := rfl
theorem ln_17 : (17 : Int32) = nI 17 := rfl
theorem ln_18 : (18 : Int32) = nI 18 := rfl
theorem ln_19 : (19 : Int32) = nI 19 := rfl
theorem ln_20 : (20 : Int32) = nI 20 := rfl
theorem ln_21 : (21 : Int32) = nI 21 := rfl
theorem ln_22 : (22 : Int32) = nI 22 := rfl
theorem ln_23 : (23 : Int32) = nI 23 := rfl
theorem ln_24 : (24 : Int32) = nI 24 := rfl
theorem ln_25 : (25 : Int32) = nI 25 := rfl
theorem ln_26 : (26 : Int32) = nI 26 := rfl
theorem ln_27 : (27 : Int32) = nI 27 := rfl
theorem ln_28 : (28 : Int32) = nI 28 := rfl
theorem ln_29 : (29 : Int32) = nI 29 := rfl
theorem ln_30 : (30 : Int32) = nI 30 := rfl
theorem ln_31 : (31 : Int32) = nI 31 := rfl
theorem ln_32 : (32 : Int32) = nI 32 := rfl
theorem ln_48 : (48 : Int32) = nI 48 := rfl
theorem ln_57 : (57 : Int32) = nI 57 := rfl
theorem ln_59 : (59 : Int32) = nI 59 := rfl
theorem ln_60 : (60 : Int32) = nI 60 := rfl
theorem ln_61 : (61 : Int32) = nI 61 := rfl
theorem ln_62 : (62 : Int32) = nI 62 := rfl
theorem ln_70 : (70 : Int32) = nI 70 := rfl
theorem ln_72 : (72 : Int32) = nI 72 := rfl
theorem ln_73 : (73 : Int32) = nI 73 := rfl
theorem ln_74 : (74 : Int32) = nI 74 := rfl
theorem ln_88 : (88 : Int32) = nI 88 := rfl
theorem ln_90 : (90 : Int32) = nI 90 := rfl
theorem ln_92 : (92 : Int32) = nI 92 := rfl
theorem ln_97 : (97 : Int32) = nI 97 := rfl
theorem ln_99 : (99 : Int32) = nI 99 := rfl
theorem ln_100 : (100 : Int32) = nI 100 := rfl
theorem ln_119 : (119 : Int32) = nI 119 := rfl
theorem ln_120 : (120 : Int32) = nI 120 := rfl
theorem ln_122 : (122 : Int32) = nI 122 := rfl
theorem ln_255 : (255 : Int32) = nI 255 := rfl
theorem ln_300 : (300 : Int32) = nI 300 := rfl
theorem ln_400 : (400 : Int32) = nI 400 := rfl
theorem ln_490 : (490 : Int32) = nI 490 := rfl
theorem ln_900 : (900 : Int32) = nI 900 := rfl
theorem ln_1000 : (1000 : Int32) = nI 1000 := rfl
theorem ln_1800 : (1800 : Int32) = nI 1800 := rfl
theorem ln_1807 : (1807 : Int32) = nI 1807 := rfl
theorem ln_1819 : (1819 : Int32) = nI 1819 := rfl
theorem ln_1960 : (1960 : Int32) = nI 1960 := rfl
theorem ln_2082 : (2082 : Int32) = nI 2082 := rfl
theorem ln_2450 : (2450 : Int32) = nI 2450 := rfl
theorem ln_2460 : (2460 : Int32) = nI 2460 := rfl
theorem ln_2470 : (2470 : Int32) = nI 2470 := rfl
theorem ln_2520 : (2520 : Int32) = nI 2520 := rfl
theorem ln_2683 : (2683 : Int32) = nI 2683 := rfl
theorem ln_2950 : (2950 : Int32) = nI 2950 := rfl
theorem ln_9999 : (9999 : Int32) = nI 9999 := rfl
theorem ln_11587 : (11587 : Int32) = nI 11587 := rfl
theorem ln_12800 : (12800 : Int32) = nI 12800 := rfl
theorem ln_65536 : (65536 : Int32) = nI 65536 := rfl
theorem tg_0_4 : tg 0 4 = 1 := rfl
theorem tg_0_5 : tg 0 5 = 2 := rfl
theorem tg_0_6 : tg 0 6 = 3 := rfl
theorem tg_0_9 : tg 0 9 = 4 := rfl
theorem tg_0_14 : tg 0 14 = 10 := rfl
theorem tg_0_15 : tg 0 15 = 11 := rfl
theorem tg_0_16 : tg 0 16 = 12 := rfl
theorem tg_0_17 : tg 0 17 = 13 := rfl
theorem tg_4_1 : tg 4 1 = 6 := rfl
theorem tg_13_0 : tg 13 0 = 14 := rfl
theorem tg_19_1 : tg 19 1 = 25 := rfl
theorem tg_20_1 : tg 20 1 = 26 := rfl
theorem tg_21_1 : tg 21 1 = 27 := rfl
