/-! PURE 15: how the works go: the plain functions -/
/-- the first number from i on, of k, of which p holds -/
def ffF (p : Nat → Bool) : Nat → Nat → Option Nat
  | 0, _ => none
  | k + 1, i => if p i then some i else ffF p k (i + 1)
def fsF (p : Nat → Bool) (n : Nat) : Option Nat := ffF p n 0
theorem ffF_none (p : Nat → Bool) : ∀ (k i : Nat), ffF p k i = none ↔ ∀ j, i ≤ j → j < i + k → p j = false := by
  intro k
  induction k with
  | zero => intro i; exact ⟨fun _ j h1 h2 => by omega, fun _ => rfl⟩
  | succ k ih =>
    intro i
    unfold ffF
    by_cases h : p i = true
    · rw [if_pos h]
      constructor
      · intro q; cases q
      · intro q; rw [q i (by omega) (by omega)] at h; cases h
    · rw [if_neg h, ih]
      have h' : p i = false := by cases e : p i <;> simp_all
      constructor
      · intro q j h1 h2
        by_cases e : j = i
        · rw [e]; exact h'
        · exact q j (by omega) (by omega)
      · exact fun q j h1 h2 => q j (by omega) (by omega)
theorem ffF_some (p : Nat → Bool) : ∀ (k i s : Nat), ffF p k i = some s → i ≤ s ∧ s < i + k ∧ p s = true ∧ ∀ j, i ≤ j → j < s → p j = false := by
  intro k
  induction k with
  | zero => intro i s h; cases h
  | succ k ih =>
    intro i s h
    unfold ffF at h
    by_cases c : p i = true
    · rw [if_pos c] at h
      cases h
      exact ⟨by omega, by omega, c, fun j h1 h2 => by omega⟩
    · rw [if_neg c] at h
      obtain ⟨h1, h2, h3, h4⟩ := ih _ _ h
      refine ⟨by omega, by omega, h3, fun j g1 g2 => ?_⟩
      by_cases e : j = i
      · rw [e]; cases e : p i <;> simp_all
      · exact h4 j (by omega) g2
/-- the set of those below n of which p holds -/
def bsN (p : Nat → Bool) : Nat → Nat
  | 0 => 0
  | n + 1 => wiN (bsN p n) n (p n)
theorem bsN_lt (p : Nat → Bool) : ∀ n, bsN p n < 2 ^ n := by
  intro n
  induction n with
  | zero => exact Nat.one_pos
  | succ n ih => exact wiN_lt (Nat.lt_trans ih (Nat.pow_lt_pow_right (by decide) (Nat.lt_succ_self n))) (Nat.lt_succ_self n)
theorem bsN_bit (p : Nat → Bool) : ∀ n j, (bsN p n).testBit j = (decide (j < n) && p j) := by
  intro n
  induction n with
  | zero => intro j; simp [bsN]
  | succ n ih =>
    intro j
    rw [bsN, wiN_bit, ih]
    by_cases e : j = n
    · simp [e]
    · rw [if_neg e]
      have : decide (j < n) = decide (j < n + 1) := by congr 1; apply propext; omega
      rw [this]
section MECH
variable (D : PD) (V : SD)
/-- the tooth that is right -/
def wtN (v : Nat) : Nat := (d_te D v * v_fr V (d_ho D v) + 8) / 16 % d_te D v
def clB (v : Nat) : Bool := v_sg V (d_ho D v) == 0
def rgB (v : Nat) : Bool := clB D V v || v_pt V v == wtN D V v
/-- how many to the right, and how far the shorter way -/
def trN (v p : Nat) : Nat := (wtN D V v + d_te D v - p) % d_te D v
def faN (v p : Nat) : Nat := min (trN D V v p) (d_te D v - trN D V v p)
def swZ (v : Nat) : Int := if trN D V v (v_pt V v) ≤ d_te D v - trN D V v (v_pt V v) then 1 else -1
/-- the tooth behind a step -/
def tnN (v : Nat) (g : Int) : Nat := ((v_pt V v + g + d_te D v) % d_te D v).toNat
/-- the play of a shaft behind steps -/
def pbZ (g : Nat → Int) (s : Nat) : Int := v_py V s + (g (d_fs D s) - (if d_be D s then 1 else -1) * g (d_sn D s))
def ouB (g : Nat → Int) (s : Nat) : Bool := decide (pbZ D V g s < 0) || decide ((d_sl D s : Int) < pbZ D V g s)
def joB (s : Nat) : Bool := !(v_li V).testBit s
def drB (g : Nat → Int) (s : Nat) : Bool := ((g (d_fs D s) == 0) != (g (d_sn D s) == 0)) && joB V s && ouB D V g s
/-- one that is dragged -/
def adZ (g : Nat → Int) (s : Nat) : Nat → Int := fun i => if i = (if g (d_fs D s) = 0 then d_fs D s else d_sn D s) then (if d_be D s then 1 else -1) * (g (d_fs D s) + g (d_sn D s)) else g i
def enZ : Nat → (Nat → Int) → (Nat → Int)
  | 0, g => g
  | n + 1, g => match fsF (drB D V g) (d_s D) with
    | none => g
    | some s => enZ n (adZ D g s)
def beZ (v : Nat) (t : Int) : Nat → Int := fun i => if i = v then t else 0
/-- what moves as a vane is turned by a tooth -/
def egZ (v : Nat) (t : Int) : Nat → Int := enZ D V 8 (beZ v t)
def moN (g : Nat → Int) : Nat := bsN (fun v => g v != 0) (d_v D)
def egB (g : Nat → Int) : Bool := (moN D g &&& v_he V == 0) && (fsF (fun s => joB V s && ouB D V g s) (d_s D)).isNone
/-- by how much one comes nearer -/
def gaZ (g : Nat → Int) (v : Nat) : Int := if clB D V v then 0 else (faN D V v (v_pt V v) : Int) - faN D V v (tnN D V v (g v))
def foZ (g : Nat → Int) : Nat → Int
  | 0 => 0
  | n + 1 => foZ g n + if g n = 0 then 0 else gaZ D V g n * v_sg V (d_ho D n) - d_st D n
def dvB (v : Nat) : Bool := !(v_he V).testBit v && !rgB D V v && egB D V (egZ D V v (swZ D V v)) && decide (0 < foZ D V (egZ D V v (swZ D V v)) (d_v D))
end MECH
/-! numbers -/
section NUM
variable {D : PD} {V : SD} {v p : Nat}
theorem wt_lt (hD : WFD D) (hv : v < d_v D) : wtN D V v < d_te D v := Nat.mod_lt _ (by have := hD.2.1 v hv; omega)
theorem tr_e (hw : wtN D V v < d_te D v) (hp : p < d_te D v) : trN D V v p = if p ≤ wtN D V v then wtN D V v - p else wtN D V v + d_te D v - p := by
  unfold trN
  by_cases c : p ≤ wtN D V v
  · rw [if_pos c, show wtN D V v + d_te D v - p = (wtN D V v - p) + d_te D v by omega, Nat.add_mod_right, Nat.mod_eq_of_lt (by omega)]
  · rw [if_neg c, Nat.mod_eq_of_lt (by omega)]
theorem fa_e (hw : wtN D V v < d_te D v) (hp : p < d_te D v) : faN D V v p = if p ≤ wtN D V v then min (wtN D V v - p) (d_te D v - (wtN D V v - p)) else min (p - wtN D V v) (d_te D v - (p - wtN D V v)) := by
  unfold faN
  rw [tr_e hw hp]
  by_cases c : p ≤ wtN D V v
  · rw [if_pos c, if_pos c]
  · rw [if_neg c, if_neg c]; omega
theorem tn_e {g : Int} (hp : v_pt V v < d_te D v) (h4 : 4 ≤ d_te D v) (hg : g = -1 ∨ g = 0 ∨ g = 1) : tnN D V v g = if (v_pt V v : Int) + g < 0 then d_te D v - 1 else if (v_pt V v : Int) + g < d_te D v then (v_pt V v + g).toNat else 0 := by
  unfold tnN
  by_cases c : (v_pt V v : Int) + g < 0
  · rw [if_pos c, Int.emod_eq_of_lt (by omega) (by omega)]; omega
  · rw [if_neg c]
    by_cases c2 : (v_pt V v : Int) + g < d_te D v
    · rw [if_pos c2, Int.add_emod_right, Int.emod_eq_of_lt (by omega) c2]
    · rw [if_neg c2, Int.add_emod_right, show (v_pt V v : Int) + g = d_te D v by omega, Int.emod_self]; rfl
theorem tn_lt {g : Int} (h4 : 4 ≤ d_te D v) : tnN D V v g < d_te D v := by
  unfold tnN
  have h1 := Int.emod_nonneg (v_pt V v + g + d_te D v) (show (d_te D v : Int) ≠ 0 by omega)
  have h2 := Int.emod_lt_of_pos (v_pt V v + g + d_te D v) (show (0 : Int) < d_te D v by omega)
  omega
end NUM
section IFS
variable {α : Type} {A B : α}
theorem ifl_n {a b : Nat} (ha : a < 2147483648) (hb : b < 2147483648) : (if nI a < nI b then A else B) = if a < b then A else B := by
  by_cases c : a < b
  · rw [if_pos c, if_pos ((nI_ltn ha hb).mpr c)]
  · rw [if_neg c, if_neg (fun q => c ((nI_ltn ha hb).mp q))]
theorem ifle_n {a b : Nat} (ha : a < 2147483648) (hb : b < 2147483648) : (if nI a ≤ nI b then A else B) = if a ≤ b then A else B := by
  by_cases c : a ≤ b
  · rw [if_pos c, if_pos ((nI_len ha hb).mpr c)]
  · rw [if_neg c, if_neg (fun q => c ((nI_len ha hb).mp q))]
theorem ife_n {a b : Nat} (ha : a < 2147483648) (hb : b < 2147483648) : (if nI a = nI b then A else B) = if a = b then A else B := by
  by_cases c : a = b
  · rw [if_pos c, if_pos ((nI_inj ha hb).mpr c)]
  · rw [if_neg c, if_neg (fun q => c ((nI_inj ha hb).mp q))]
theorem ifl_i {a b : Int} (h1 : -2147483648 ≤ a) (h2 : a < 2147483648) (h3 : -2147483648 ≤ b) (h4 : b < 2147483648) : (if iI a < iI b then A else B) = if a < b then A else B := by
  by_cases c : a < b
  · rw [if_pos c, if_pos ((iI_lt h1 h2 h3 h4).mpr c)]
  · rw [if_neg c, if_neg (fun q => c ((iI_lt h1 h2 h3 h4).mp q))]
theorem ifle_i {a b : Int} (h1 : -2147483648 ≤ a) (h2 : a < 2147483648) (h3 : -2147483648 ≤ b) (h4 : b < 2147483648) : (if iI a ≤ iI b then A else B) = if a ≤ b then A else B := by
  by_cases c : a ≤ b
  · rw [if_pos c, if_pos ((iI_le h1 h2 h3 h4).mpr c)]
  · rw [if_neg c, if_neg (fun q => c ((iI_le h1 h2 h3 h4).mp q))]
theorem ife_i {a b : Int} (h1 : -2147483648 ≤ a) (h2 : a < 2147483648) (h3 : -2147483648 ≤ b) (h4 : b < 2147483648) : (if iI a = iI b then A else B) = if a = b then A else B := by
  by_cases c : a = b
  · rw [if_pos c, if_pos ((iI_eq h1 h2 h3 h4).mpr c)]
  · rw [if_neg c, if_neg (fun q => c ((iI_eq h1 h2 h3 h4).mp q))]
end IFS
