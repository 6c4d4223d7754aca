/-! PURE 36: locked -/
section O
variable {σ τ ω : Mm} {v : Nat} {D : PD} {V : SD} {J : JT} {G : GS} {L p : Nat}
/-- what holds of the root and goes along shafts holds of all that are found -/
theorem fi_Q {Q : Nat → Int → Prop} {w : Int} (hJ : ∀ u, J.1.testBit u = true → Q u (J.2.2.2 u)) (hq : Q v w) : ∀ u, (fiJ v w J).1.testBit u = true → Q u ((fiJ v w J).2.2.2 u) := by
  unfold fiJ
  by_cases c : J.1.testBit v = true
  · rw [if_pos c]; exact hJ
  · rw [if_neg c]
    intro u hu
    have hu : (J.1 ||| 2 ^ v).testBit u = true := hu
    show Q u (if u = v then w else J.2.2.2 u)
    by_cases e : u = v
    · rw [if_pos e, e]; exact hq
    · rw [if_neg e]
      refine hJ u ?_
      rw [Nat.testBit_or, Nat.testBit_two_pow] at hu
      have : ¬ v = u := fun z => e z.symm
      simpa [this] using hu
theorem ff_Q {Q : Nat → Int → Prop} (hs : ∀ s, s < d_s D → L.testBit s = false → (∀ w, Q (d_fs D s) w → Q (d_sn D s) (w * seZ D s)) ∧ ∀ w, Q (d_sn D s) w → Q (d_fs D s) (w * seZ D s)) (hJ : ∀ u, J.1.testBit u = true → Q u (J.2.2.2 u)) (hv : J.1.testBit v = true) : ∀ n, n ≤ d_s D → ∀ u, (ffJ D L v n J).1.testBit u = true → Q u ((ffJ D L v n J).2.2.2 u) := by
  intro n
  induction n with
  | zero => intro _; exact hJ
  | succ n ih =>
    intro hn
    have ih := ih (by omega)
    have hvn := ih v (ff_mono hv n)
    rw [ffJ]
    by_cases cl : L.testBit n = true
    · rw [if_pos cl]; exact ih
    · rw [if_neg cl]
      have cl' : L.testBit n = false := by cases hx : L.testBit n <;> simp_all
      have h2 := hs n (by omega) cl'
      by_cases c1 : d_fs D n = v
      · rw [if_pos c1]
        exact fi_Q ih (h2.1 _ (by rw [c1]; exact hvn))
      · rw [if_neg c1]
        by_cases c2 : d_sn D n = v
        · rw [if_pos c2]
          exact fi_Q ih (h2.2 _ (by rw [c2]; exact hvn))
        · rw [if_neg c2]; exact ih
theorem sr_Q {Q : Nat → Int → Prop} (hD : WFD D) (hs : ∀ s, s < d_s D → L.testBit s = false → (∀ w, Q (d_fs D s) w → Q (d_sn D s) (w * seZ D s)) ∧ ∀ w, Q (d_sn D s) w → Q (d_fs D s) (w * seZ D s)) : ∀ (n q : Nat) (J : JT), JI D J → (∀ u, J.1.testBit u = true → Q u (J.2.2.2 u)) → ∀ u, (srJ D L n q J).1.testBit u = true → Q u ((srJ D L n q J).2.2.2 u) := by
  intro n
  induction n with
  | zero => intro q J _ h; exact h
  | succ n ih =>
    intro q J hI h
    rw [srJ]
    by_cases c : J.2.1 ≤ q
    · rw [if_pos c]; exact h
    · rw [if_neg c]
      exact ih _ _ (hI.ff hD _ (Nat.le_refl _)) (ff_Q hs h (hI.2.2.1 q (by omega)).2 _ (Nat.le_refl _))
theorem J0_b : ∀ u, (J0 v).1.testBit u = true ↔ u = v := by
  intro u
  unfold J0 fiJ
  rw [if_neg (by rw [Nat.zero_testBit]; decide)]
  show ((0 : Nat) ||| 2 ^ v).testBit u = true ↔ _
  rw [Nat.zero_or, Nat.testBit_two_pow]
  constructor
  · intro h; have : v = u := by simpa using h
    exact this.symm
  · rintro rfl; simp
theorem J0_w : (J0 v).2.2.2 v = 1 := by
  unfold J0 fiJ
  rw [if_neg (by rw [Nat.zero_testBit]; decide)]
  show (if v = v then (1 : Int) else 1) = 1
  rw [if_pos rfl]
theorem jw_Q {Q : Nat → Int → Prop} (hD : WFD D) (hv : v < d_v D) (hs : ∀ s, s < d_s D → L.testBit s = false → (∀ w, Q (d_fs D s) w → Q (d_sn D s) (w * seZ D s)) ∧ ∀ w, Q (d_sn D s) w → Q (d_fs D s) (w * seZ D s)) (h0 : Q v 1) : ∀ u, (jwJ D L v).1.testBit u = true → Q u ((jwJ D L v).2.2.2 u) :=
  sr_Q hD hs 9 0 (J0 v) (J0_I hv) (fun u hu => by rw [(J0_b u).mp hu, J0_w]; exact h0)
theorem sr_mono {u : Nat} : ∀ (n q : Nat) (J : JT), J.1.testBit u = true → (srJ D L n q J).1.testBit u = true := by
  intro n
  induction n with
  | zero => intro q J h; exact h
  | succ n ih =>
    intro q J h
    rw [srJ]
    split
    · exact h
    · exact ih _ _ (ff_mono h _)
theorem jw_self : (jwJ D L v).1.testBit v = true := sr_mono _ _ _ ((J0_b v).mpr rfl)
/-! closed -/
def JQ (J : JT) : Prop := ∀ u, J.1.testBit u = true → ∃ k, k < J.2.1 ∧ J.2.2.1 k = u
theorem JQ.fi {w : Int} (h : JQ J) : JQ (fiJ v w J) := by
  unfold fiJ
  by_cases c : J.1.testBit v = true
  · rw [if_pos c]; exact h
  · rw [if_neg c]
    intro u hu
    have hu : (J.1 ||| 2 ^ v).testBit u = true := hu
    by_cases e : u = v
    · refine ⟨J.2.1, Nat.lt_succ_self _, ?_⟩
      show (if J.2.1 = J.2.1 then v else _) = u
      rw [if_pos rfl, e]
    · rw [Nat.testBit_or, Nat.testBit_two_pow] at hu
      have : ¬ v = u := fun z => e z.symm
      obtain ⟨k, hk, ek⟩ := h u (by simpa [this] using hu)
      refine ⟨k, Nat.lt_succ_of_lt hk, ?_⟩
      show (if k = J.2.1 then v else J.2.2.1 k) = u
      rw [if_neg (by omega)]; exact ek
theorem JQ.ff (h : JQ J) : ∀ n, JQ (ffJ D L v n J) := by
  intro n
  induction n with
  | zero => exact h
  | succ n ih =>
    rw [ffJ]
    repeat' split
    all_goals first | exact ih | exact ih.fi
theorem fi_self {w : Int} : (fiJ v w J).1.testBit v = true := by
  unfold fiJ
  by_cases c : J.1.testBit v = true
  · rw [if_pos c]; exact c
  · rw [if_neg c]
    show (J.1 ||| 2 ^ v).testBit v = true
    rw [Nat.testBit_or, Nat.testBit_two_pow]; simp
theorem ff_nb : ∀ n s, s < n → L.testBit s = false → (d_fs D s = v → (ffJ D L v n J).1.testBit (d_sn D s) = true) ∧ (d_fs D s ≠ v → d_sn D s = v → (ffJ D L v n J).1.testBit (d_fs D s) = true) := by
  intro n
  induction n with
  | zero => intro s h; omega
  | succ n ih =>
    intro s hs hl
    have up : ∀ u, (ffJ D L v n J).1.testBit u = true → (ffJ D L v (n + 1) J).1.testBit u = true := by
      intro u hu
      rw [ffJ]
      repeat' split
      all_goals first | exact hu | exact fi_mono hu
    by_cases e : s = n
    · subst e
      rw [ffJ, if_neg (by rw [hl]; decide)]
      refine ⟨fun h1 => ?_, fun h1 h2 => ?_⟩
      · rw [if_pos h1]; exact fi_self
      · rw [if_neg h1, if_pos h2]; exact fi_self
    · have := ih s (by omega) hl
      exact ⟨fun h1 => up _ (this.1 h1), fun h1 h2 => up _ (this.2 h1 h2)⟩
/-- those in the order before q have their neighbours found -/
def JP (D : PD) (L q : Nat) (J : JT) : Prop := ∀ k, k < q → k < J.2.1 → ∀ s, s < d_s D → L.testBit s = false → (d_fs D s = J.2.2.1 k → J.1.testBit (d_sn D s) = true) ∧ (d_fs D s ≠ J.2.2.1 k → d_sn D s = J.2.2.1 k → J.1.testBit (d_fs D s) = true)
theorem sr_cl (hD : WFD D) : ∀ (n q : Nat) (J : JT), 9 ≤ n + q → JI D J → JQ J → JP D L q J → ∀ s, s < d_s D → L.testBit s = false → ((srJ D L n q J).1.testBit (d_fs D s) = true ↔ (srJ D L n q J).1.testBit (d_sn D s) = true) := by
  intro n
  induction n with
  | zero =>
    intro q J hq hI hQ hP s hs hl
    have hd := hD.1
    have hb := hD.2.2 s hs
    have hm := hI.le
    rw [srJ]
    constructor
    · intro h
      obtain ⟨k, hk, ek⟩ := hQ _ h
      exact (hP k (by omega) hk s hs hl).1 ek.symm
    · intro h
      obtain ⟨k, hk, ek⟩ := hQ _ h
      exact (hP k (by omega) hk s hs hl).2 (by rw [ek]; exact hb.2.2.1) ek.symm
  | succ n ih =>
    intro q J hq hI hQ hP s hs hl
    have hb := hD.2.2 s hs
    rw [srJ]
    by_cases c : J.2.1 ≤ q
    · rw [if_pos c]
      constructor
      · intro h
        obtain ⟨k, hk, ek⟩ := hQ _ h
        exact (hP k (by omega) hk s hs hl).1 ek.symm
      · intro h
        obtain ⟨k, hk, ek⟩ := hQ _ h
        exact (hP k (by omega) hk s hs hl).2 (by rw [ek]; exact hb.2.2.1) ek.symm
    · rw [if_neg c]
      refine ih (q + 1) _ (by omega) (hI.ff hD _ (Nat.le_refl _)) (hQ.ff _) ?_ s hs hl
      intro k hk hk2 s hs hl
      have hq1 := ff_kq (D := D) (L := L) (v := J.2.2.1 q) (J := J) (k := k)
      by_cases e : k = q
      · subst e
        have h1 := hq1 (by omega) (d_s D)
        have nb := ff_nb (D := D) (L := L) (v := J.2.2.1 k) (J := J) (d_s D) s hs hl
        rw [h1.2]
        exact nb
      · have hkm : k < J.2.1 := by omega
        have h1 := hq1 hkm (d_s D)
        have h2 := hP k (by omega) hkm s hs hl
        rw [h1.2]
        exact ⟨fun z => ff_mono (h2.1 z) _, fun z y => ff_mono (h2.2 z y) _⟩
theorem jw_cl (hD : WFD D) (hv : v < d_v D) {s : Nat} (hs : s < d_s D) (hl : L.testBit s = false) : (jwJ D L v).1.testBit (d_fs D s) = true ↔ (jwJ D L v).1.testBit (d_sn D s) = true :=
  sr_cl hD 9 0 (J0 v) (by omega) (J0_I hv) (fun u hu => by
    rw [(J0_b u).mp hu]
    refine ⟨0, ?_, ?_⟩
    · unfold J0 fiJ; rw [if_neg (by rw [Nat.zero_testBit]; decide)]; exact Nat.one_pos
    · unfold J0 fiJ; rw [if_neg (by rw [Nat.zero_testBit]; decide)]; rfl) (fun k hk => absurd hk (Nat.not_lt_zero _)) s hs hl
/-- what is found from one that was found -/
theorem jw_sub (hD : WFD D) {r : Nat} (hr : r < d_v D) (hv : v < d_v D) (h : (jwJ D L r).1.testBit v = true) : ∀ u, (jwJ D L v).1.testBit u = true → (jwJ D L r).1.testBit u = true :=
  jw_Q (Q := fun u _ => (jwJ D L r).1.testBit u = true) hD hv (fun s hs hl => ⟨fun _ z => (jw_cl hD hr hs hl).mp z, fun _ z => (jw_cl hD hr hs hl).mpr z⟩) h
theorem jw_sym (hD : WFD D) {r : Nat} (hr : r < d_v D) (hv : v < d_v D) (h : (jwJ D L r).1.testBit v = true) : (jwJ D L v).1.testBit r = true := by
  apply Classical.byContradiction
  intro hn
  have := jw_Q (Q := fun u _ => ¬ (jwJ D L v).1.testBit u = true) hD hr (fun s hs hl => ⟨fun _ z y => z ((jw_cl hD hv hs hl).mpr y), fun _ z y => z ((jw_cl hD hv hs hl).mp y)⟩) hn v h
  exact this jw_self
/-- a shaft that turns both ways -/
def lkS (D : PD) (L v s : Nat) : Bool := !L.testBit s && (jwJ D L v).1.testBit (d_fs D s) && !decide ((jwJ D L v).2.2.2 (d_fs D s) * seZ D s = (jwJ D L v).2.2.2 (d_sn D s))
def lkB (D : PD) (L v : Nat) : Bool := (fsF (lkS D L v) (d_s D)).isSome
theorem lk_none : lkB D L v = false ↔ ∀ s, s < d_s D → L.testBit s = false → (jwJ D L v).1.testBit (d_fs D s) = true → (jwJ D L v).2.2.2 (d_fs D s) * seZ D s = (jwJ D L v).2.2.2 (d_sn D s) := by
  unfold lkB
  constructor
  · intro h s hs hl hf
    have hx : fsF (lkS D L v) (d_s D) = none := by
      cases hy : fsF (lkS D L v) (d_s D) with
      | none => rfl
      | some _ => rw [hy] at h; cases h
    have := (ffF_none _ _ _).mp hx s (by omega) (by omega)
    unfold lkS at this
    rw [hl, hf] at this
    apply Classical.byContradiction
    intro z
    rw [decide_eq_false z] at this
    cases this
  · intro h
    cases hy : fsF (lkS D L v) (d_s D) with
    | none => rfl
    | some s =>
      exfalso
      obtain ⟨-, h2, h3, -⟩ := ffF_some _ _ _ _ hy
      unfold lkS at h3
      cases hl : L.testBit s
      · cases hf : (jwJ D L v).1.testBit (d_fs D s)
        · rw [hf] at h3; simp at h3
        · rw [decide_eq_true (h s (by omega) hl hf)] at h3; simp at h3
      · rw [hl] at h3; simp at h3
theorem sq_1 {a : Int} (h : a = 1 ∨ a = -1) : a * a = 1 := by rcases h with rfl | rfl <;> rfl
theorem lk_1 (hD : WFD D) {r : Nat} (hr : r < d_v D) (hv : v < d_v D) (h : (jwJ D L r).1.testBit v = true) (hk : lkB D L r = false) : lkB D L v = false := by
  have hk := lk_none.mp hk
  have hX := (jw_I (L := L) hD hr).2.2.2
  have lab := jw_Q (Q := fun u w => (jwJ D L r).1.testBit u = true ∧ w = (jwJ D L r).2.2.2 u * (jwJ D L r).2.2.2 v) hD hv (fun s hs hl => by
    refine ⟨fun w ⟨z1, z2⟩ => ⟨(jw_cl hD hr hs hl).mp z1, ?_⟩, fun w ⟨z1, z2⟩ => ⟨(jw_cl hD hr hs hl).mpr z1, ?_⟩⟩
    · rw [← hk s hs hl z1, z2, Int.mul_assoc, Int.mul_assoc, Int.mul_comm (seZ D s)]
    · have e := hk s hs hl ((jw_cl hD hr hs hl).mpr z1)
      rw [z2, ← e, Int.mul_assoc, Int.mul_assoc, Int.mul_comm _ (seZ D s), ← Int.mul_assoc (seZ D s), sq_1 (se_1 s), Int.one_mul]) ⟨h, (sq_1 (hX v)).symm⟩
  refine lk_none.mpr (fun s hs hl hf => ?_)
  have l1 := lab _ hf
  have l2 := lab _ ((jw_cl hD hv hs hl).mp hf)
  rw [l1.2, l2.2, ← hk s hs hl l1.1, Int.mul_assoc, Int.mul_assoc, Int.mul_comm (seZ D s)]
theorem lk_eq (hD : WFD D) {r : Nat} (hr : r < d_v D) (hv : v < d_v D) (h : (jwJ D L r).1.testBit v = true) : lkB D L v = lkB D L r := by
  cases h1 : lkB D L r
  · exact lk_1 hD hr hv h h1
  · cases h2 : lkB D L v
    · rw [lk_1 hD hv hr (jw_sym hD hr hv h) h2] at h1; cases h1
    · rfl
/-! the class -/
theorem tb_l (hD : WFD D) (hL : L < 2147483648) (hv : v < d_v D) (hw : JwC σ p L D) (h : JtC σ (jwJ D L v)) : ∀ (n i : Nat), i ≤ d_s D → d_s D - i < n → fX0_turnsBothWays_2 12 n (nI i) σ = some (if (ffF (lkS D L v) (d_s D - i) i).isSome then 1 else 0, σ) := by
  intro n
  induction n with
  | zero => intro i _ h; omega
  | succ n ih =>
    intro i hi hn
    have hd := hD.1
    obtain ⟨e0, k0, eL, hp⟩ := hw
    rw [fX0_turnsBothWays_2, r_rf_e e0 k0, r_sc_s, hp.1.2.2, ifle_n (by omega) (by omega)]
    by_cases c : d_s D ≤ i
    · rw [if_pos c, show d_s D - i = 0 by omega]; rfl
    · have hk : i < d_s D := by omega
      have hbb := hD.2.2 i hk
      obtain ⟨f1, f2, f3, f4⟩ := hp.2.2.1 i hk
      have f3 : m_ar σ p 9 i = iI (seZ D i) := by rw [f3]; unfold seZ; cases d_be D i <;> rfl
      have ih := ih (i + 1) (by omega) (by omega)
      rw [if_neg c, r_rf_e e0 k0, g_ar_n (by omega) (by decide), f1, r_rf_e e0 k0, g_ar_n (by omega) (by decide), f2, r_sc_s, eL, has_e hL (by omega), c_I_s, nI_s, show d_s D - i = (d_s D - (i + 1)) + 1 by omega, ffF]
      cases hl : L.testBit i
      · rw [if_neg (show ¬ (false = true) by decide), if_pos rfl, r_sc_s, h.1, has_e (jw_31 hD hv) (by omega), c_I_s]
        cases hf : (jwJ D L v).1.testBit (d_fs D i)
        · rw [if_neg (show ¬ (false = true) by decide), if_pos rfl, show lkS D L v i = false by unfold lkS; rw [hf]; simp, if_neg (show ¬ (false = true) by decide)]
          exact ih
        · have hs2 := (jw_cl hD hv hk hl).mp hf
          have x1 := (jw_I (L := L) hD hv).2.2.2 (d_fs D i)
          have x2 := (jw_I (L := L) hD hv).2.2.2 (d_sn D i)
          have x3 := ml_1 x1 (se_1 (D := D) i)
          rw [if_pos rfl, if_neg (by decide), g_ar_n (by omega) (by decide), h.2.2.2 _ (by omega) hf, r_rf_e e0 k0, g_ar_n (by omega) (by decide), f3, g_ar_n (by omega) (by decide), h.2.2.2 _ (by omega) hs2, iI_mul, ife_i (by omega) (by omega) (by omega) (by omega)]
          by_cases ce : (jwJ D L v).2.2.2 (d_fs D i) * seZ D i = (jwJ D L v).2.2.2 (d_sn D i)
          · rw [if_pos ce, show lkS D L v i = false by unfold lkS; rw [decide_eq_true ce]; simp, if_neg (show ¬ (false = true) by decide)]
            exact ih
          · rw [if_neg ce, show lkS D L v i = true by unfold lkS; rw [decide_eq_false ce, hl, hf]; rfl, if_pos rfl]; rfl
      · rw [if_pos rfl, if_neg (by decide), show lkS D L v i = false by unfold lkS; rw [hl]; rfl, if_neg (show ¬ (false = true) by decide)]
        exact ih
theorem lv_l (hD : WFD D) (hL : L < 2147483648) (hk : KD p = 2) : ∀ (n i S K : Nat) (σ : Mm), i ≤ d_v D → d_v D - i < n → PlC σ p D → S < 2 ^ d_v D → K < 2 ^ d_v D → (∀ v, v < i → S.testBit v = true) → (∀ u, S.testBit u = true → ∃ v, v < d_v D ∧ (jwJ D L v).1.testBit u = true ∧ ∀ w, (jwJ D L v).1.testBit w = true → S.testBit w = true) → (∀ u, u < d_v D → (K.testBit u = true ↔ S.testBit u = true ∧ lkB D L u = true)) → ∃ τ, fX0_lockedVanes_8 12 p (nI L) n (nI K) (nI S) (nI i) σ = some (nI (bsN (lkB D L) (d_v D)), τ) ∧ ∀ q, q ≠ 12 → BU q σ τ := by
  intro n
  induction n with
  | zero => intro i S K σ _ h; omega
  | succ n ih =>
    intro i S K σ hi hn hp hS hK h1 h2 h3
    have hd := hD.1
    have n1 : p ≠ 12 := fun e => by rw [e] at hk; revert hk; decide
    have S31 : S < 2147483648 := pw31 (n := d_v D) (by omega) hS
    rw [fX0_lockedVanes_8, r_sc_s, hp.1.2.1, ifle_n (by omega) (by omega)]
    by_cases c : d_v D ≤ i
    · rw [if_pos c]
      refine ⟨σ, ?_, fun _ _ => BU.rf⟩
      have : K = bsN (lkB D L) (d_v D) := by
        apply Nat.eq_of_testBit_eq
        intro j
        rw [bsN_bit]
        by_cases cj : j < d_v D
        · rw [decide_eq_true cj, Bool.true_and]
          have := h3 j cj
          have hsj := h1 j (by omega)
          cases hkj : K.testBit j <;> cases hlj : lkB D L j <;> simp_all
        · rw [decide_eq_false cj, Nat.testBit_lt_two_pow (Nat.lt_of_lt_of_le hK (Nat.pow_le_pow_right (by decide) (by omega)))]; rfl
      rw [this]
    · have hv : i < d_v D := by omega
      rw [if_neg c, has_e S31 (by omega), c_I_s, nI_s]
      cases hb : S.testBit i
      · rw [if_neg (show ¬ (false = true) by decide), if_pos rfl]
        obtain ⟨τ, f, r1, r2, r3⟩ := search_c (L := L) hD hL hk hp hv
        have hp2 := hp.bu (r3 p n1)
        have e5 : fX0_turnsBothWays 12 τ = _ := tb_l hD hL hv r2 r1 FU 0 (by omega) (FU_gt (by omega))
        have hF := (jw_I (L := L) hD hv).1
        rw [f, c_V_s, r_sc_s, r1.1, e5, c_I_s, or_n, r_sc_s, r1.1, or_n, show (ffF (lkS D L i) (d_s D - 0) 0).isSome = lkB D L i from rfl]
        have h1' : ∀ v, v < i + 1 → (S ||| (jwJ D L i).1).testBit v = true := fun v hv2 => by
          rw [Nat.testBit_or]
          by_cases e : v = i
          · rw [e, jw_self, Bool.or_true]
          · rw [h1 v (by omega), Bool.true_or]
        have h2' : ∀ u, (S ||| (jwJ D L i).1).testBit u = true → ∃ v, v < d_v D ∧ (jwJ D L v).1.testBit u = true ∧ ∀ w, (jwJ D L v).1.testBit w = true → (S ||| (jwJ D L i).1).testBit w = true := fun u hu => by
          rw [Nat.testBit_or] at hu
          cases hsu : S.testBit u
          · rw [hsu, Bool.false_or] at hu
            exact ⟨i, hv, hu, fun w hw => by rw [Nat.testBit_or, hw, Bool.or_true]⟩
          · obtain ⟨v, g1, g2, g3⟩ := h2 u hsu
            exact ⟨v, g1, g2, fun w hw => by rw [Nat.testBit_or, g3 w hw, Bool.true_or]⟩
        cases hlk : lkB D L i
        · rw [if_neg (show ¬ (false = true) by decide), if_pos rfl]
          obtain ⟨ω, f6, r6⟩ := ih (i + 1) (S ||| (jwJ D L i).1) K τ (by omega) (by omega) hp2 (Nat.or_lt_two_pow hS hF) hK h1' h2' (fun u hu => by
            rw [h3 u hu, Nat.testBit_or]
            cases hfu : (jwJ D L i).1.testBit u
            · rw [Bool.or_false]
            · have := lk_eq hD hv hu hfu
              rw [hlk] at this
              rw [this]; simp)
          exact ⟨ω, f6, fun q hq => (r3 q hq).tr (r6 q hq)⟩
        · rw [if_pos rfl, if_neg (by decide)]
          obtain ⟨ω, f6, r6⟩ := ih (i + 1) (S ||| (jwJ D L i).1) (K ||| (jwJ D L i).1) τ (by omega) (by omega) hp2 (Nat.or_lt_two_pow hS hF) (Nat.or_lt_two_pow hK hF) h1' h2' (fun u hu => by
            rw [Nat.testBit_or, Nat.testBit_or]
            have h3u := h3 u hu
            cases hfu : (jwJ D L i).1.testBit u
            · rw [Bool.or_false, Bool.or_false]; exact h3u
            · have := lk_eq hD hv hu hfu
              rw [hlk] at this
              rw [this]; simp)
          exact ⟨ω, f6, fun q hq => (r3 q hq).tr (r6 q hq)⟩
      · rw [if_pos rfl, if_neg (by decide)]
        exact ih (i + 1) S K σ (by omega) (by omega) hp hS hK (fun v hv2 => by
          by_cases e : v = i
          · rw [e]; exact hb
          · exact h1 v (by omega)) h2 h3
/-! the reference -/
theorem lk23 (hD : WFD D) (hL : L < 2147483648) (hv : v < d_v D) (hw : JwR σ L D) (h : JtR σ (jwJ D L v)) {K : Int32 → Int32 → Mm → Option (Int32 × Mm)} {B : Nat} : ∀ (n i : Nat) (b : Bool), i ≤ d_s D → d_s D - i < n → fX12_locked_23 31 K n (nI (if b then B ||| 2 ^ v else B)) (nI v) (nI (jwJ D L v).1) (nI i) σ = K (nI (if b || (ffF (lkS D L v) (d_s D - i) i).isSome then B ||| 2 ^ v else B)) (nI (v + 1)) σ := by
  intro n
  induction n with
  | zero => intro i b _ h; omega
  | succ n ih =>
    intro i b hi hn
    have hd := hD.1
    rw [fX12_locked_23, show g_ar σ 31 0 2950 (2 : Int32) = g_ar σ 31 0 2950 (nI 2) from rfl, g_ar_n (by decide) (by decide), hw.1, ifle_n (by omega) (by omega)]
    by_cases c : d_s D ≤ i
    · rw [if_pos c, show d_s D - i = 0 by omega, nI_s, show (ffF (lkS D L v) 0 i).isSome = false from rfl, Bool.or_false]
    · have hk : i < d_s D := by omega
      have hbb := hD.2.2 i hk
      obtain ⟨f1, f2, f3, f4⟩ := hw.2.2 i hk
      rw [if_neg c, show ((70 : Int32) + (5 : Int32) * nI i) + (0 : Int32) = nI (70 + 5 * i + 0) from ix70 i 0, show ((70 : Int32) + (5 : Int32) * nI i) + (1 : Int32) = nI (70 + 5 * i + 1) from ix70 i 1, g_ar_n (by omega) (by decide), f1, g_ar_n (by omega) (by decide), f2, show g_ar σ 31 0 2950 (4 : Int32) = g_ar σ 31 0 2950 (nI 4) from rfl, g_ar_n (by decide) (by decide), hw.2.1, has_n hL (by omega), has_n (jw_31 hD hv) (by omega), nI_s, show d_s D - i = (d_s D - (i + 1)) + 1 by omega, ffF]
      have skip : lkS D L v i = false → fX12_locked_23 31 K n (nI (if b then B ||| 2 ^ v else B)) (nI v) (nI (jwJ D L v).1) (nI (i + 1)) σ = K (nI (if b || (if lkS D L v i = true then some i else ffF (lkS D L v) (d_s D - (i + 1)) (i + 1)).isSome then B ||| 2 ^ v else B)) (nI (v + 1)) σ := by
        intro e
        rw [e, if_neg (show ¬ (false = true) by decide)]
        exact ih (i + 1) b (by omega) (by omega)
      cases hl : L.testBit i
      · rw [if_neg (show ¬ (if false = true then (1 : Int32) else 0) = 1 by decide)]
        cases hf : (jwJ D L v).1.testBit (d_fs D i)
        · rw [if_pos (show (if false = true then (1 : Int32) else 0) = 0 from rfl)]
          exact skip (by unfold lkS; rw [hf]; simp)
        · have hs2 := (jw_cl hD hv hk hl).mp hf
          have x1 := (jw_I (L := L) hD hv).2.2.2 (d_fs D i)
          have x2 := (jw_I (L := L) hD hv).2.2.2 (d_sn D i)
          rw [if_neg (show ¬ (if true = true then (1 : Int32) else 0) = 0 by decide), g_ar_n (by omega) (by decide), h.2.2 _ (by omega) hf, g_ar_n (by omega) (by decide), h.2.2 _ (by omega) hs2, ife_i (by omega) (by omega) (by omega) (by omega)]
          have act : lkS D L v i = true → fX12_locked_23 31 K n (nI (if b then B ||| 2 ^ v else B) ||| ((1 : Int32) <<< (nI v &&& 31))) (nI v) (nI (jwJ D L v).1) (nI (i + 1)) σ = K (nI (if b || (if lkS D L v i = true then some i else ffF (lkS D L v) (d_s D - (i + 1)) (i + 1)).isSome then B ||| 2 ^ v else B)) (nI (v + 1)) σ := by
            intro e
            rw [e, if_pos rfl, sh1 (by omega), or_n]
            have e2 : (if b then B ||| 2 ^ v else B) ||| 2 ^ v = B ||| 2 ^ v := by
              cases b
              · rfl
              · show (B ||| 2 ^ v) ||| 2 ^ v = _
                rw [Nat.or_assoc, Nat.or_self]
            have := ih (i + 1) true (by omega) (by omega)
            rw [e2]
            simp only [if_true, Bool.true_or] at this
            rw [show (b || (some i).isSome) = true by cases b <;> rfl, if_pos rfl]
            exact this
          have l115 : ∀ s0 : Int32, fX12_locked_115 31 K (fX12_locked_23 31 K n) (nI (if b then B ||| 2 ^ v else B)) (nI v) (nI (jwJ D L v).1) (nI i) s0 σ = if s0 = (if d_be D i then 1 else 0) then fX12_locked_23 31 K n (nI (if b then B ||| 2 ^ v else B)) (nI v) (nI (jwJ D L v).1) (nI (i + 1)) σ else fX12_locked_23 31 K n (nI (if b then B ||| 2 ^ v else B) ||| ((1 : Int32) <<< (nI v &&& 31))) (nI v) (nI (jwJ D L v).1) (nI (i + 1)) σ := by
            intro s0
            unfold fX12_locked_115
            rw [show ((70 : Int32) + (5 : Int32) * nI i) + (2 : Int32) = nI (70 + 5 * i + 2) from ix70 i 2, g_ar_n (by omega) (by decide), f3, nI_s]
            cases d_be D i
            · rw [if_neg (show ¬ (if false = true then (1 : Int32) else 0) = 1 by decide)]; rfl
            · rw [if_pos (show (if true = true then (1 : Int32) else 0) = 1 from rfl)]; rfl
          rw [l115, l115]
          have lkv : lkS D L v i = !decide ((jwJ D L v).2.2.2 (d_fs D i) * seZ D i = (jwJ D L v).2.2.2 (d_sn D i)) := by unfold lkS; rw [hl, hf]; rfl
          generalize (jwJ D L v).2.2.2 (d_fs D i) = wa at *
          generalize (jwJ D L v).2.2.2 (d_sn D i) = wb at *
          have hse : seZ D i = if d_be D i then 1 else -1 := rfl
          by_cases ce : wa = wb
          · rw [if_pos ce]
            cases hbe : d_be D i
            · rw [hbe] at hse
              rw [if_neg (show ¬ (1 : Int32) = (if false = true then 1 else 0) by decide)]
              exact act (by rw [lkv, hse, decide_eq_false]; rfl; simp; omega)
            · rw [hbe] at hse
              rw [if_pos (show (1 : Int32) = (if true = true then 1 else 0) from rfl)]
              exact skip (by rw [lkv, hse, decide_eq_true]; rfl; simp; omega)
          · rw [if_neg ce]
            cases hbe : d_be D i
            · rw [hbe] at hse
              rw [if_pos (show (0 : Int32) = (if false = true then 1 else 0) from rfl)]
              exact skip (by rw [lkv, hse, decide_eq_true]; rfl; simp; omega)
            · rw [hbe] at hse
              rw [if_neg (show ¬ (0 : Int32) = (if true = true then 1 else 0) by decide)]
              exact act (by rw [lkv, hse, decide_eq_false]; rfl; simp; omega)
      · rw [if_pos (show (if true = true then (1 : Int32) else 0) = 1 from rfl)]
        exact skip (by unfold lkS; rw [hl]; rfl)
def spLo (G : GS) : Int32 × GS := (nI (bsN (lkB (GD G) (v_li (GV G))) (d_v (GD G))), stq 0 G)
theorem lo_lr (hW : WFG G) : ∀ (n i : Nat) (σ : Mm), i ≤ d_v (GD G) → d_v (GD G) - i < n → RepR σ G → OR (fX12_locked_4 31 n (nI (bsN (lkB (GD G) (v_li (GV G))) i)) (nI i) σ) (spLo G) := by
  intro n
  induction n with
  | zero => intro i σ _ h; omega
  | succ n ih =>
    intro i σ hi hn h
    have hd := hW.d.1
    rw [fX12_locked_4, show g_ar σ 31 0 2950 (1 : Int32) = g_ar σ 31 0 2950 (nI 1) from rfl, g_ar_n (by decide) (by decide), show m_ar σ 31 0 1 = nI (d_v (GD G)) from h.pl.1.2.1, ifle_n (by omega) (by omega)]
    by_cases c : d_v (GD G) ≤ i
    · have : i = d_v (GD G) := by omega
      subst this
      rw [if_pos c]
      exact OR.ans hW h _
    · have hv : i < d_v (GD G) := by omega
      obtain ⟨τ, f, r1, r2⟩ := joinedWith_r hW.d (li_b hW.d hW.v) h.jw hv
      have h2 : RepR τ G := h.rj hW r2
      have e := lk23 (K := fX12_locked_4 31 n) (B := bsN (lkB (GD G) (v_li (GV G))) i) hW.d (li_b hW.d hW.v) hv (h.jw.w r2) r1 FU 0 false (by omega) (FU_gt (by omega))
      rw [if_neg c, f, c_I_s]
      have ih := ih (i + 1) τ (by omega) (by omega) h2
      refine Eq.mpr (congrArg (fun z => OR z _) e) ?_
      rw [Bool.false_or, show (ffF (lkS (GD G) (v_li (GV G)) i) (d_s (GD G) - 0) 0).isSome = lkB (GD G) (v_li (GV G)) i from rfl]
      cases hlk : lkB (GD G) (v_li (GV G)) i
      · rw [bs_f hlk] at ih; exact ih
      · rw [bs_t hlk] at ih; exact ih
theorem locked_c (hW : WFG G) (h : RepC σ G) : OC (fX11_locked 0  σ) (spLo  G) := by
  have hd := hW.d.1
  unfold fX11_locked spLo
  obtain ⟨p, -, e, hk, hp⟩ := h.pl
  obtain ⟨τ, f, r3⟩ := lv_l (L := v_li (GV G)) hW.d (li_b hW.d hW.v) hk FU 0 0 0 σ (by omega) (FU_gt (by omega)) hp (Nat.two_pow_pos _) (Nat.two_pow_pos _) (fun v hv => by omega) (fun u hu => by rw [Nat.zero_testBit] at hu; cases hu) (fun u _ => by rw [Nat.zero_testBit]; simp)
  have f : fX0_lockedVanes 12 p (nI (v_li (GV G))) σ = _ := f
  rw [show tg 0 9 = 4 from rfl, show tg 4 1 = 6 from rfl, show tg 0 16 = 12 from rfl, r_rf_e e hk, r_sc_s, h.sv.2.2.2.1, f, c_I_s]
  exact OC.ans hW (h.c12 hW r3) _
theorem locked_r (hW : WFG G) (h : RepR σ G) : OR (fX12_locked 31  σ) (spLo  G) := by
  have hd := hW.d.1
  unfold fX12_locked spLo
  exact lo_lr hW FU 0 σ (by omega) (FU_gt (by omega)) h
theorem locked_s  (σ : Mm) (h : Rel σ) : ok (fX11_locked 0  σ) (fun q => ok (fX12_locked 31  q.2) (fun q' => q'.1 = q.1 ∧ Rel q'.2)) :=
  simS (fc := fX11_locked 0 ) (fr := fX12_locked 31 ) (ks := [0, 1, 2, 3, 4, 5, 6, 7, 8, 9, 10, 11]) (by decide) (spLo ) (fun σ G hW h => locked_c hW h) (fun σ G hW h => locked_r hW h) (fun G hW => by unfold spLo; repeat (first | exact hW | split)) (fun σ x τ ee => F_sub (frX11_locked 0  (by decide) σ ee) (by decide)) (fun σ x τ ee => F_sub (frX12_locked 31  (by decide) σ ee) (by decide)) σ h
end O
