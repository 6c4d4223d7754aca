/-! PURE 27: how many are in a set -/
def bi1 (x : Int32) : Int32 := x - ((x.toUInt32 >>> ((1 : Int32).toUInt32 &&& Int32.toUInt32 31)).toInt32 &&& (1431655765 : Int32))
def bi2 (x : Int32) : Int32 := (x &&& (858993459 : Int32)) + ((x.toUInt32 >>> ((2 : Int32).toUInt32 &&& Int32.toUInt32 31)).toInt32 &&& (858993459 : Int32))
def bi3 (x : Int32) : Int32 := (x + (x.toUInt32 >>> ((4 : Int32).toUInt32 &&& Int32.toUInt32 31)).toInt32) &&& (252645135 : Int32)
def bi4 (x : Int32) : Int32 := x + (x.toUInt32 >>> ((8 : Int32).toUInt32 &&& Int32.toUInt32 31)).toInt32
def bi5 (x : Int32) : Int32 := x + (x.toUInt32 >>> ((16 : Int32).toUInt32 &&& Int32.toUInt32 31)).toInt32
def bcN (a : Nat) : Nat :=
  (fun x => (fun y => (fun z => (fun w => (w + (w >>> 16)) &&& 63) (z + (z >>> 8))) ((y + (y >>> 4)) &&& 252645135)) ((x &&& 858993459) + ((x >>> 2) &&& 858993459))) (a - ((a >>> 1) &&& 1431655765))
/-- how many of the first n are in the set -/
def pcN (a : Nat) : Nat → Nat
  | 0 => 0
  | n + 1 => pcN a n + if a.testBit n then 1 else 0
theorem bcN_0 : ∀ h, h < 32 → ∀ l, l < 256 → bcN (256 * (0 + h) + l) = bcN (0 + h) + bcN l := by decide +kernel
theorem bcN_1 : ∀ h, h < 32 → ∀ l, l < 256 → bcN (256 * (32 + h) + l) = bcN (32 + h) + bcN l := by decide +kernel
theorem bcN_2 : ∀ h, h < 32 → ∀ l, l < 256 → bcN (256 * (64 + h) + l) = bcN (64 + h) + bcN l := by decide +kernel
theorem bcN_3 : ∀ h, h < 32 → ∀ l, l < 256 → bcN (256 * (96 + h) + l) = bcN (96 + h) + bcN l := by decide +kernel
theorem bcN_4 : ∀ h, h < 32 → ∀ l, l < 256 → bcN (256 * (128 + h) + l) = bcN (128 + h) + bcN l := by decide +kernel
theorem bcN_5 : ∀ h, h < 32 → ∀ l, l < 256 → bcN (256 * (160 + h) + l) = bcN (160 + h) + bcN l := by decide +kernel
theorem bcN_6 : ∀ h, h < 32 → ∀ l, l < 256 → bcN (256 * (192 + h) + l) = bcN (192 + h) + bcN l := by decide +kernel
theorem bcN_7 : ∀ h, h < 32 → ∀ l, l < 256 → bcN (256 * (224 + h) + l) = bcN (224 + h) + bcN l := by decide +kernel
theorem bcN_p : ∀ l, l < 256 → bcN l = pcN l 8 := by decide +kernel
theorem bcN_s (h l : Nat) (hh : h < 256) (hl : l < 256) : bcN (256 * h + l) = bcN h + bcN l := by
  have e : h / 32 = 0 ∨ h / 32 = 1 ∨ h / 32 = 2 ∨ h / 32 = 3 ∨ h / 32 = 4 ∨ h / 32 = 5 ∨ h / 32 = 6 ∨ h / 32 = 7 := by omega
  rcases e with e | e | e | e | e | e | e | e
  · have := bcN_0 (h - 0) (by omega) l hl
    rw [show 0 + (h - 0) = h by omega] at this
    exact this
  · have := bcN_1 (h - 32) (by omega) l hl
    rw [show 32 + (h - 32) = h by omega] at this
    exact this
  · have := bcN_2 (h - 64) (by omega) l hl
    rw [show 64 + (h - 64) = h by omega] at this
    exact this
  · have := bcN_3 (h - 96) (by omega) l hl
    rw [show 96 + (h - 96) = h by omega] at this
    exact this
  · have := bcN_4 (h - 128) (by omega) l hl
    rw [show 128 + (h - 128) = h by omega] at this
    exact this
  · have := bcN_5 (h - 160) (by omega) l hl
    rw [show 160 + (h - 160) = h by omega] at this
    exact this
  · have := bcN_6 (h - 192) (by omega) l hl
    rw [show 192 + (h - 192) = h by omega] at this
    exact this
  · have := bcN_7 (h - 224) (by omega) l hl
    rw [show 224 + (h - 224) = h by omega] at this
    exact this
theorem us_n {a k : Nat} {u : UInt32} (ha : a < 2147483648) (hu : (u.toBitVec % 32).toNat = k) : ((nI a).toUInt32 >>> u).toInt32 = nI (a >>> k) := by
  apply nI_ext
  intro j hj
  show ((nI a).toUInt32 >>> u).toBitVec.getLsbD j = _
  rw [UInt32.toBitVec_shiftRight]
  show ((nI a).toBitVec >>> (u.toBitVec % 32)).getLsbD j = _
  rw [BitVec.ushiftRight_eq', hu, BitVec.getLsbD_ushiftRight, nI_bv, BitVec.getLsbD_ofNat, Nat.testBit_shiftRight]
  by_cases q : k + j < 32
  · simp [q]
  · rw [Nat.testBit_lt_two_pow (Nat.lt_of_lt_of_le (show a < 2 ^ 32 by omega) (Nat.pow_le_pow_right (by decide) (by omega)))]
    simp
theorem sr_le (a k : Nat) : a >>> k ≤ a := by rw [Nat.shiftRight_eq_div_pow]; exact Nat.div_le_self _ _
theorem bcI_e {a : Nat} (h : a < 65536) : (bi5 (bi4 (bi3 (bi2 (bi1 (nI a)))))) &&& (63 : Int32) = nI (bcN a) := by
  have l1 : (a >>> 1) &&& 1431655765 ≤ a := Nat.le_trans Nat.and_le_left (sr_le a 1)
  have e1 : bi1 (nI a) = nI (a - ((a >>> 1) &&& 1431655765)) := by
    unfold bi1
    rw [us_n (k := 1) (by omega) rfl, show (1431655765 : Int32) = nI 1431655765 from rfl, and_n, nI_sub l1]
  unfold bcN
  rw [e1]
  generalize hx : a - ((a >>> 1) &&& 1431655765) = x
  have hx' : x < 65536 := by omega
  have l2 : x &&& 858993459 ≤ x := Nat.and_le_left
  have l3 : (x >>> 2) &&& 858993459 ≤ x := Nat.le_trans Nat.and_le_left (sr_le x 2)
  have e2 : bi2 (nI x) = nI ((x &&& 858993459) + ((x >>> 2) &&& 858993459)) := by
    unfold bi2
    rw [us_n (k := 2) (by omega) rfl, show (858993459 : Int32) = nI 858993459 from rfl, and_n, and_n, nI_ad]
  rw [e2]
  dsimp only
  generalize hy : (x &&& 858993459) + ((x >>> 2) &&& 858993459) = y
  have hy' : y < 131072 := by omega
  have l4 := sr_le y 4
  have l5 : (y + (y >>> 4)) &&& 252645135 ≤ y + (y >>> 4) := Nat.and_le_left
  have e3 : bi3 (nI y) = nI ((y + (y >>> 4)) &&& 252645135) := by
    unfold bi3
    rw [us_n (k := 4) (by omega) rfl, show (252645135 : Int32) = nI 252645135 from rfl, nI_ad, and_n]
  rw [e3]
  generalize hz : (y + (y >>> 4)) &&& 252645135 = z
  have hz' : z < 262144 := by omega
  have l6 := sr_le z 8
  have e4 : bi4 (nI z) = nI (z + (z >>> 8)) := by
    unfold bi4
    rw [us_n (k := 8) (by omega) rfl, nI_ad]
  rw [e4]
  generalize hw : z + (z >>> 8) = w
  have hw' : w < 524288 := by omega
  have e5 : bi5 (nI w) = nI (w + (w >>> 16)) := by
    unfold bi5
    rw [us_n (k := 16) (by omega) rfl, nI_ad]
  rw [e5, show (63 : Int32) = nI 63 from rfl, and_n]
theorem pc_cong {a b : Nat} : ∀ n, (∀ i, i < n → a.testBit i = b.testBit i) → pcN a n = pcN b n := by
  intro n
  induction n with
  | zero => intro _; rfl
  | succ n ih => intro h; rw [pcN, pcN, ih (fun i hi => h i (by omega)), h n (by omega)]
theorem pc_add (a m : Nat) : ∀ n, pcN a (m + n) = pcN a m + pcN (a >>> m) n := by
  intro n
  induction n with
  | zero => rfl
  | succ n ih => rw [← Nat.add_assoc, pcN, ih, pcN, Nat.testBit_shiftRight, Nat.add_assoc]
theorem pc_split (h l : Nat) (hl : l < 256) : pcN (256 * h + l) 16 = pcN h 8 + pcN l 8 := by
  have e := pc_add (256 * h + l) 8 8
  rw [show (256 * h + l) >>> 8 = h by rw [Nat.shiftRight_eq_div_pow]; omega] at e
  rw [e, pc_cong (a := 256 * h + l) (b := l) 8 (fun i hi => by
    rw [show 256 * h + l = 2 ^ 8 * h + l from rfl, Nat.testBit_two_pow_mul_add h hl, if_pos hi])]
  omega
theorem bc_e {a : Nat} (h : a < 65536) (σ : Mm) : fJ6_bitCount_0f7a4 (nI a) σ = some (nI (pcN a 16), σ) := by
  show some ((bi5 (bi4 (bi3 (bi2 (bi1 (nI a)))))) &&& (63 : Int32), σ) = _
  have e := bcN_s (a / 256) (a % 256) (by omega) (by omega)
  have e2 := pc_split (a / 256) (a % 256) (by omega)
  rw [show 256 * (a / 256) + a % 256 = a by omega] at e e2
  rw [bcI_e h, e, bcN_p _ (by omega), bcN_p _ (by omega), e2]
theorem pc_le (a : Nat) : ∀ n, pcN a n ≤ n := by
  intro n
  induction n with
  | zero => exact Nat.le_refl _
  | succ n ih => rw [pcN]; split <;> omega
theorem pc_ext {a k : Nat} (h : a < 2 ^ k) : ∀ n, k ≤ n → pcN a n = pcN a k := by
  intro n
  induction n with
  | zero => intro hk; rw [show k = 0 by omega]
  | succ n ih =>
    intro hk
    by_cases e : k = n + 1
    · rw [e]
    · rw [pcN, ih (by omega), Nat.testBit_lt_two_pow (Nat.lt_of_lt_of_le h (Nat.pow_le_pow_right (by decide) (by omega)))]
      rfl
theorem pc_0 : ∀ n, pcN 0 n = 0 := by
  intro n
  induction n with
  | zero => rfl
  | succ n ih => rw [pcN, ih, Nat.zero_testBit]; rfl
theorem pc_half (a : Nat) : ∀ n, pcN a (n + 1) = a % 2 + pcN (a / 2) n := by
  intro n
  rw [Nat.add_comm n 1, pc_add a 1 n, Nat.shiftRight_eq_div_pow]
  show 0 + (if a.testBit 0 = true then 1 else 0) + _ = _
  rw [Nat.testBit_zero]
  by_cases c : a % 2 = 1
  · simp [c]
  · simp [c]; omega
theorem pc_1 : ∀ n a : Nat, a ≠ 0 → a < 2 ^ n → pcN (a &&& (a - 1)) n + 1 = pcN a n := by
  intro n
  induction n with
  | zero => intro a h0 h; rw [Nat.pow_zero] at h; omega
  | succ n ih =>
    intro a h0 h
    rw [Nat.pow_succ] at h
    rw [pc_half, pc_half, Nat.and_div_two]
    have em : (a &&& (a - 1)) % 2 = 0 := by
      have := Nat.and_mod_two_pow (a := a) (b := a - 1) (n := 1)
      rw [Nat.pow_one] at this
      rw [this]
      rcases Nat.mod_two_eq_zero_or_one a with c | c
      · rw [c, Nat.zero_and]
      · rw [show (a - 1) % 2 = 0 by omega, Nat.and_zero]
    rw [em]
    rcases Nat.mod_two_eq_zero_or_one a with c | c
    · have hh := ih (a / 2) (by omega) (by omega)
      rw [show (a - 1) / 2 = a / 2 - 1 by omega, c]
      omega
    · rw [show (a - 1) / 2 = a / 2 by omega, Nat.and_self, c]
      omega
theorem bits_l (x : Int32) (σ : Mm) : ∀ (n k a : Nat), a < 65536 → pcN a 16 < n → fX12_bits_4 x n (nI k) (nI a) σ = some (nI (k + pcN a 16), σ) := by
  intro n
  induction n with
  | zero => intro k a _ h; omega
  | succ n ih =>
    intro k a ha hn
    rw [fX12_bits_4]
    by_cases c : a = 0
    · subst c
      rw [if_pos (show nI 0 = 0 from rfl), pc_0, Nat.add_zero]
    · rw [if_neg (fun z => c ((nI_eq0 (by omega)).mp z)), nI_s, show (1 : Int32) = nI 1 from rfl, nI_sub (by omega), and_n]
      have e := pc_1 16 a c ha
      have hl : a &&& (a - 1) < 65536 := Nat.lt_of_le_of_lt Nat.and_le_left ha
      rw [ih (k + 1) (a &&& (a - 1)) hl (by omega)]
      congr 3
      omega
theorem bits_e {a : Nat} (h : a < 65536) (σ : Mm) : fX12_bits (nI a) σ = some (nI (pcN a 16), σ) := by
  have := bits_l (nI a) σ FU 0 a h (FU_gt (by have := pc_le a 16; omega))
  rw [Nat.zero_add] at this
  exact this
