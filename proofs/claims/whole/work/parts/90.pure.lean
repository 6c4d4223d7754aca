/-! PURE 31: bestWind, mending, leaving, knowing -/
def vB (V : SD) (d s : Nat) : SD := ((fun _ => d, fun _ => s), V.2)
def rnN (D : PD) (V : SD) (q : Nat) : Nat := pcN (bsN (rgB D (qnM D q (V, C0)).1) (d_v D)) 16
def lvN (D : PD) (V : SD) (s : Nat) : Nat := bsN (fun d => (fsF (dvB D (vB V d s)) (d_v D)).isNone) 16
section O
variable {σ τ : Mm} {v : Nat} {D : PD} {V : SD} {g : Nat → Int} {C : CT} {M : MTq} {G : GS}
theorem WFV.vB {d s : Nat} (hV : WFV D V) (hd : d < 16) (hs : s ≤ 99) : WFV D (vB V d s) := ⟨fun _ _ => ⟨hd, hs⟩, hV.2⟩
theorem be_l {s d g : Nat} (hs : KD s = 4) : ∀ (n i : Nat) (σ : Mm), i ≤ 4 → 4 - i < n → (∀ q, q < i → m_ar σ s 0 q = nI d ∧ m_ar σ s 1 q = nI g) → ∃ τ, fX4_blowEverywhere_2 s (nI d) (nI g) n (nI i) σ = some τ ∧ (∀ q, q < 4 → m_ar τ s 0 q = nI d ∧ m_ar τ s 1 q = nI g) ∧ (∀ j, 1 < j → m_ar τ s j = m_ar σ s j) ∧ (∀ k, m_sc τ s k = m_sc σ s k) ∧ ∀ q, q ≠ s → BU q σ τ := by
  intro n
  induction n with
  | zero => intro i σ _ h; omega
  | succ n ih =>
    intro i σ hi hn h
    rw [fX4_blowEverywhere_2, ln_4, ifle_n (by decide) (by omega)]
    by_cases c : 4 ≤ i
    · rw [if_pos c]
      exact ⟨σ, rfl, fun q hq => h q (by omega), fun _ _ => rfl, fun _ => rfl, fun _ _ => BU.rf⟩
    · rw [if_neg c, s_ar_n (by omega) (by decide), s_ar_n (by omega) (by decide), nI_s]
      obtain ⟨τ, e, r1, r2, r3, r4⟩ := ih (i + 1) (w_ar (w_ar σ s 0 i (nI d)) s 1 i (nI g)) (by omega) (by omega) (fun q hq => by
        rw [m_ar_ar, if_neg (by omega), m_ar_ar, m_ar_ar, m_ar_ar]
        by_cases e : q = i
        · subst e; simp
        · have := h q (by omega)
          simp [e, this])
      refine ⟨τ, e, r1, fun j hj => ?_, r3, fun q hq => ((BU.af hq).tr (BU.af hq)).tr (r4 q hq)⟩
      rw [r2 j hj]; funext k; rw [m_ar_ar, if_neg (by omega), m_ar_ar, if_neg (by omega)]
theorem blow_c {p s d t : Nat} (hD : WFD D) (hV : WFV D V) (h : WkC σ p s D V) (hd : d < 16) (ht : t ≤ 99) : ∃ τ, fX10_blowEverywhere 10 (nI d) (nI t) σ = some τ ∧ WkC τ p s D (vB V d t) ∧ WGs s σ τ ∧ ∀ k, m_sc τ 10 k = m_sc σ 10 k := by
  obtain ⟨⟨e1, e2, k1, k2⟩, hp, hs, hw⟩ := h
  have n2 : s ≠ 10 := fun e => by rw [e] at k2; revert k2; decide
  have n3 : p ≠ s := fun e => by rw [e, k2] at k1; revert k1; decide
  obtain ⟨τ, f, r1, r2, r3, r4⟩ := be_l (s := s) (d := d) (g := t) k2 FU 0 σ (by omega) (FU_gt (by omega)) (fun q hq => by omega)
  have b10 := r4 10 (Ne.symm n2)
  have hs' : StC τ s D (vB V d t) := by
    refine ⟨r1, fun v hv => ?_, fun k hk => ?_, ?_, ?_, ?_⟩
    · rw [r2 2 (by omega), r2 3 (by omega), r2 4 (by omega)]; exact hs.2.1 v hv
    · rw [r2 5 (by omega)]; exact hs.2.2.1 k hk
    · rw [r3]; exact hs.2.2.2.1
    · rw [r3]; exact hs.2.2.2.2.1
    · rw [r3]; exact hs.2.2.2.2.2
  obtain ⟨ω, f2, w1, w2, w3⟩ := aim_c (σ := τ) hD (hV.vB hd ht) k1 k2 ((b10.2.2.2.2 0).trans e1) ((b10.2.2.2.2 1).trans e2) (hp.bu (r4 p n3)) hs'
  refine ⟨ω, ?_, w1, fun q h1 h2 => (r4 q h2).tr (w2 q h1), fun k => (w3 k).trans (b10.1 k)⟩
  unfold fX10_blowEverywhere
  have f' : fX4_blowEverywhere s (nI d) (nI t) σ = some τ := f
  rw [r_rf_e e2 k2, f', c_V_s, f2, c_V_s]
theorem CtC.ms {sk : Int32} (h : CtC σ sk C) (hm : ∀ k, m_sc τ 10 k = m_sc σ 10 k) : CtC τ sk C := by
  unfold CtC; rw [hm, hm, hm, hm]; exact h
theorem ba_l {d t : Nat} : ∀ (n i : Nat) (σ : Mm), i ≤ 4 → 4 - i < n → (∀ q, q < i → m_ar σ 31 0 (2460 + 2 * q) = nI d ∧ m_ar σ 31 0 (2460 + 2 * q + 1) = nI t) → ∃ τ, fX12_blowsAll_2 31 (nI d) (nI t) n (nI i) σ = some τ ∧ (∀ q, q < 4 → m_ar τ 31 0 (2460 + 2 * q) = nI d ∧ m_ar τ 31 0 (2460 + 2 * q + 1) = nI t) ∧ (∀ k, k < 2460 ∨ 2470 ≤ k → m_ar τ 31 0 k = m_ar σ 31 0 k) ∧ RH σ τ ∧ (∀ k, m_sc τ 31 k = m_sc σ 31 k) ∧ m_ar τ 31 9 = m_ar σ 31 9 := by
  intro n
  induction n with
  | zero => intro i σ _ h; omega
  | succ n ih =>
    intro i σ hi hn h
    rw [fX12_blowsAll_2, ln_4, ifle_n (by decide) (by omega)]
    by_cases c : 4 ≤ i
    · rw [if_pos c]
      exact ⟨σ, rfl, fun q hq => h q (by omega), fun _ _ => rfl, RH.rf, fun _ => rfl, rfl⟩
    · unfold fX12_blows
      rw [if_neg c, ln_2460, ln_2, nI_mul, nI_ad, ln_1, nI_ad, s_ar_n (by omega) (by decide), s_ar_n (by omega) (by decide), c_V_s, nI_ad]
      obtain ⟨τ, e, r1, r2, r3, r4, r5⟩ := ih (i + 1) (w_ar (w_ar σ 31 0 (2460 + 2 * i) (nI d)) 31 0 (2460 + 2 * i + 1) (nI t)) (by omega) (by omega) (fun q hq => by
        by_cases e : q = i
        · subst e
          refine ⟨?_, ?_⟩
          · rw [m_ar_ar, if_neg (by omega), m_ar_ar, if_pos ⟨rfl, rfl, rfl⟩]
          · rw [m_ar_ar, if_pos ⟨rfl, rfl, rfl⟩]
        · have := h q (by omega)
          rw [m_ar_ar, if_neg (by omega), m_ar_ar, if_neg (by omega), m_ar_ar, if_neg (by omega), m_ar_ar, if_neg (by omega)]
          exact this)
      refine ⟨τ, e, r1, fun k hk => ?_, ((RH.w0 (by omega)).tr (RH.w0 (by omega))).tr r3, r4, ?_⟩
      · rw [r2 k hk, m_ar_ar, if_neg (by omega), m_ar_ar, if_neg (by omega)]
      · rw [r5]; funext k; rw [m_ar_ar, if_neg (by omega), m_ar_ar, if_neg (by omega)]
theorem blow_r {d t : Nat} (hD : WFD D) (h : WkR σ D V) (hc : CtR σ C) : ∃ τ, fX12_blowsAll 31 (nI d) (nI t) σ = some τ ∧ WkR τ D (vB V d t) ∧ RH σ τ ∧ CtR τ C := by
  obtain ⟨τ, f, r1, r2, r3, r4, r5⟩ := ba_l (d := d) (t := t) FU 0 σ (by omega) (FU_gt (by omega)) (fun q hq => by omega)
  refine ⟨τ, f, h.chg hD _ rfl rfl (fun k hk => r2 k (by omega)) r1 ?_ ?_, r3, ⟨(r4 27).trans hc.1, (r4 26).trans hc.2.1, fun k h1 h2 => by rw [r5]; exact hc.2.2 k h1 h2⟩⟩
  · rw [r2 _ (by omega)]; exact h.2.2.2.2.2.2.1
  · rw [r2 _ (by omega)]; exact h.2.2.2.2.2.2.2
theorem rg_65 (hD : WFD D) : bsN (rgB D V) (d_v D) < 65536 := by
  have := pow8 hD.1.2.1
  have : bsN (rgB D V) (d_v D) < 2 ^ d_v D := bsN_lt _ _
  omega
theorem rb_c {p s q : Nat} {sk : Int32} (hD : WFD D) (hV : WFV D V) (hq : q ≤ 400) (h : WkC σ p s D V) (hc : CtC σ sk C0) : ∃ τ, fX11_rightsBehind 0 (nI q) σ = some (nI (rnN D V q), τ) ∧ WGs s σ τ := by
  obtain ⟨ω, f, r1, r2, r3, r4⟩ := goOn_c (M := (V, C0)) (Q := q) (sk := sk) hD (by omega) hV h hc (show (0 : Nat) < 500000000 by decide) (show (0 : Nat) < 500000000 by decide)
  refine ⟨ω, ?_, r4⟩
  unfold fX11_rightsBehind rnN
  rw [show tg 0 14 = 10 from rfl, f, c_I_s, rightSet_c hD r1 r2, c_I_s, bc_e (rg_65 hD), c_I_s]
theorem gr_r {q y : Nat} (hD : WFD D) (hV : WFV D V) (hq : q ≤ 400) (h : WkR σ D V) (hc : CtR σ C0) (hy : m_ar σ 31 0 2453 = nI y) (hy9 : y ≤ 9999) : ∃ τ, fX12_goesBy 31 (nI q) σ = some τ ∧ fX12_rightSet 31 τ = some (nI (bsN (rgB D (qnM D q (V, C0)).1) (d_v D)), τ) ∧ fX12_bits (nI (bsN (rgB D (qnM D q (V, C0)).1) (d_v D))) τ = some (nI (rnN D V q), τ) ∧ RT σ τ := by
  obtain ⟨ω, f, r1, r2, r3, r4, r5⟩ := goesBy_r (M := (V, C0)) (Q := q) hD (by omega) hV h hc (show (0 : Nat) < 500000000 by decide) hy hy9
  exact ⟨ω, f, rightSet_r hD r1 r2, bits_e (rg_65 hD) ω, r4⟩
theorem rn_le {q : Nat} : rnN D V q ≤ 16 := pc_le _ _
/-! bestWind -/
def bwF (D : PD) (V : SD) (s q : Nat) : Nat → Option (Nat × Nat)
  | 0 => none
  | n + 1 => match bwF D V s q n with
    | none => some (n, rnN D (vB V n s) q)
    | some r => if r.2 < rnN D (vB V n s) q then some (n, rnN D (vB V n s) q) else some r
def bw1 (x : Option (Nat × Nat)) : Int32 := match x with
  | none => -1
  | some r => nI r.1
def bw2 (x : Option (Nat × Nat)) : Int32 := match x with
  | none => -1
  | some r => nI r.2
theorem bw_le {s q : Nat} : ∀ n r, bwF D V s q n = some r → r.2 ≤ 16 := by
  intro n
  induction n with
  | zero => intro r h; cases h
  | succ n ih =>
    intro r h
    rw [bwF] at h
    cases hx : bwF D V s q n with
    | none => rw [hx] at h; cases h; exact rn_le
    | some r' =>
      rw [hx] at h
      dsimp only at h
      by_cases c : r'.2 < rnN D (vB V n s) q
      · rw [if_pos c] at h; cases h; exact rn_le
      · rw [if_neg c] at h; cases h; exact ih _ hx
/-- as the class asks it, as the reference asks it -/
theorem bw_c {s q n : Nat} {α : Type} {A : Int32 → Int32 → α} (x : Nat) (hx : x = rnN D (vB V n s) q) : (if nI x ≤ bw2 (bwF D V s q n) then A (bw1 (bwF D V s q n)) (bw2 (bwF D V s q n)) else A (nI n) (nI x)) = A (bw1 (bwF D V s q (n + 1))) (bw2 (bwF D V s q (n + 1))) := by
  have l := rn_le (D := D) (V := vB V n s) (q := q)
  rw [bwF]
  cases hy : bwF D V s q n with
  | none =>
    rw [if_neg, hx]
    · rfl
    · show ¬ nI x ≤ -1
      rw [show (-1 : Int32) = iI (-1) from rfl, nI_iI, iI_le (by omega) (by omega) (by omega) (by omega)]; omega
  | some r =>
    have l2 := bw_le n r hy
    show (if nI x ≤ nI r.2 then A (nI r.1) (nI r.2) else A (nI n) (nI x)) = _
    rw [ifle_n (by omega) (by omega)]
    dsimp only
    by_cases c : r.2 < rnN D (vB V n s) q
    · rw [if_pos c, if_neg (by omega), hx]; rfl
    · rw [if_neg c, if_pos (by omega)]; rfl
theorem bw_r {s q n : Nat} {α : Type} {A : Int32 → Int32 → α} (x : Nat) (hx : x = rnN D (vB V n s) q) : (if bw2 (bwF D V s q n) < nI x then A (nI n) (nI x) else A (bw1 (bwF D V s q n)) (bw2 (bwF D V s q n))) = A (bw1 (bwF D V s q (n + 1))) (bw2 (bwF D V s q (n + 1))) := by
  rw [← bw_c (A := A) x hx]
  by_cases c : bw2 (bwF D V s q n) < nI x
  · rw [if_pos c, if_neg (i_lt_le c)]
  · rw [if_neg c, if_pos (i_nlt c)]
def spBw (a b : Int32) (G : GS) : Int32 × GS := match sx 99 a with
  | none => (-1, stq 1 G)
  | some s => match ix 401 b with
    | none => (-1, stq 1 G)
    | some q => (bw1 (bwF (GD G) (GV G) s q 16), stq 0 G)
theorem bw_lc {s q : Nat} (hs : s ≤ 99) (hq : q ≤ 400) (hW : WFG G) : ∀ (n i : Nat) (σ : Mm), i ≤ 16 → 16 - i < n → RepC σ G → OC (fX11_bestWind_30 0 (nI s) (nI q) n (bw1 (bwF (GD G) (GV G) s q i)) (bw2 (bwF (GD G) (GV G) s q i)) (nI i) σ) (bw1 (bwF (GD G) (GV G) s q 16), stq 0 G) := by
  intro n
  induction n with
  | zero => intro i σ _ h; omega
  | succ n ih =>
    intro i σ hi hn h
    rw [fX11_bestWind_30, ln_16, ifle_n (by decide) (by omega)]
    by_cases c : 16 ≤ i
    · have : i = 16 := by omega
      subst this
      rw [if_pos c]
      exact OC.ans hW h _
    · rw [if_neg c]
      obtain ⟨τ, p, e, wk, hc, bu, e4⟩ := look_c hW h
      obtain ⟨ω, f, w1, w2, w3⟩ := blow_c (d := i) (t := s) hW.d hW.v wk (by omega) hs
      obtain ⟨π, f2, w4⟩ := rb_c (q := q) hW.d (hW.v.vB (by omega) hs) hq w1 (hc.ms w3)
      have h2 : RepC π G := h.cm hW (fun q _ h1 h2 => ((bu q h1 h2).tr (w2 q h1 h2)).tr (w4 q h1 h2))
      rw [e, c_V_s, show tg 0 14 = 10 from rfl, f, c_V_s, f2, c_I_s, nI_s]
      have := ih (i + 1) π (by omega) (by omega) h2
      rw [bw_c (A := fun x y => fX11_bestWind_30 0 (nI s) (nI q) n x y (nI (i + 1)) π) _ rfl]
      exact this
theorem bw_lr {s q : Nat} (hs : s ≤ 99) (hq : q ≤ 400) (hW : WFG G) : ∀ (n i : Nat) (σ : Mm), i ≤ 16 → 16 - i < n → RepR σ G → OR (fX12_bestWind_33 31 (nI s) (nI q) n (bw1 (bwF (GD G) (GV G) s q i)) (bw2 (bwF (GD G) (GV G) s q i)) (nI i) σ) (bw1 (bwF (GD G) (GV G) s q 16), stq 0 G) := by
  intro n
  induction n with
  | zero => intro i σ _ h; omega
  | succ n ih =>
    intro i σ hi hn h
    rw [fX12_bestWind_33, ln_16, ifle_n (by decide) (by omega)]
    by_cases c : 16 ≤ i
    · have : i = 16 := by omega
      subst this
      rw [if_pos c]
      exact OR.ans hW h _
    · rw [if_neg c]
      obtain ⟨τ, e, wk, rb, qu, hc, -⟩ := bg1_r hW h
      obtain ⟨ω, f, w1, w2, w3⟩ := blow_r (d := i) (t := s) hW.d wk hc
      obtain ⟨π, f2, f3, f4, w4⟩ := gr_r (q := q) hW.d (hW.v.vB (by omega) hs) hq w1 w3 (w2.2.2.1.trans qu) hW.v.2.2.2.2.2
      have h2 : RepR π G := h.rb hW ((rb.tr w2.1.b).tr w4.b)
      rw [e, c_V_s, f, c_V_s, f2, c_V_s, f3, c_I_s, f4, c_I_s, f3, c_I_s, f4, c_I_s, nI_s]
      have := ih (i + 1) π (by omega) (by omega) h2
      rw [bw_r (A := fun x y => fX12_bestWind_33 31 (nI s) (nI q) n x y (nI (i + 1)) π) _ rfl]
      exact this
theorem bestWind_c (a b : Int32) (hW : WFG G) (h : RepC σ G) : OC (fX11_bestWind 0 a b σ) (spBw a b G) := by
  have hd := hW.d.1
  unfold fX11_bestWind spBw
  rcases sx_cases (n := 99) (by decide) a with ⟨ei, ha⟩ | ⟨s, hs1, hs, rfl, ei⟩ <;> rw [ei]
  · rw [isBlowing_c0 ha, c_I_s, if_pos rfl]
    exact OC.non hW h _
  · rw [isBlowing_c1 hs1 hs, c_I_s, if_neg (by decide)]
    dsimp only
    rcases ix_cases (n := 401) (by decide) b with ⟨ej, hb⟩ | ⟨q, hq, rfl, ej⟩ <;> rw [ej]
    · rw [isAhead_c0 hb, c_I_s, if_pos rfl]
      exact OC.non hW h _
    · rw [isAhead_c1 hq, c_I_s, if_neg (by decide)]
      dsimp only
      exact bw_lc hs (by omega) hW FU 0 σ (by omega) (FU_gt (by omega)) h
theorem bestWind_r (a b : Int32) (hW : WFG G) (h : RepR σ G) : OR (fX12_bestWind 31 a b σ) (spBw a b G) := by
  have hd := hW.d.1
  unfold fX12_bestWind spBw
  rcases sx_cases (n := 99) (by decide) a with ⟨ei, ha⟩ | ⟨s, hs1, hs, rfl, ei⟩ <;> rw [ei]
  · rw [from1_0 (n := 99) (by decide) rfl ha, c_I_s, if_pos rfl]
    exact OR.non hW h _
  · rw [from1_1 (n := 99) (by decide) rfl hs1 hs, c_I_s, if_neg (by decide)]
    dsimp only
    rcases ix_cases (n := 401) (by decide) b with ⟨ej, hb⟩ | ⟨q, hq, rfl, ej⟩ <;> rw [ej]
    · rw [isAhead_r0 hb, c_I_s, if_pos rfl]
      exact OR.non hW h _
    · rw [isAhead_r1 hq, c_I_s, if_neg (by decide)]
      dsimp only
      exact bw_lr hs (by omega) hW FU 0 σ (by omega) (FU_gt (by omega)) h
/-! mending -/
def meF (D : PD) (V : SD) (q : Nat) : Nat → Option Nat × Nat
  | 0 => (none, rnN D V q)
  | n + 1 => if (v_li V).testBit n = true then meF D V q n else if (meF D V q n).2 < rnN D (vL V (v_li V ||| 2 ^ n)) q then (some n, rnN D (vL V (v_li V ||| 2 ^ n)) q) else meF D V q n
theorem me_b {q : Nat} : ∀ n, (∀ k, (meF D V q n).1 = some k → k < n) ∧ (meF D V q n).2 ≤ 16 := by
  intro n
  induction n with
  | zero => exact ⟨fun k h => (by cases h), rn_le⟩
  | succ n ih =>
    rw [meF]
    by_cases c : (v_li V).testBit n = true
    · rw [if_pos c]
      exact ⟨fun k h => by have := ih.1 k h; omega, ih.2⟩
    · rw [if_neg c]
      by_cases c2 : (meF D V q n).2 < rnN D (vL V (v_li V ||| 2 ^ n)) q
      · rw [if_pos c2]
        refine ⟨fun k h => ?_, rn_le⟩
        cases h; omega
      · rw [if_neg c2]
        exact ⟨fun k h => by have := ih.1 k h; omega, ih.2⟩
def spMe (b : Int32) (G : GS) : Int32 × GS := match ix 401 b with
  | none => (-1, stq 1 G)
  | some q => oN (meF (GD G) (GV G) q (d_s (GD G))).1 G
theorem me_lc {q : Nat} (hq : q ≤ 400) (hW : WFG G) : ∀ (n i : Nat) (σ : Mm), i ≤ d_s (GD G) → d_s (GD G) - i < n → RepC σ G → OC (fX11_mending_29 0 (nI q) n (nI (meF (GD G) (GV G) q i).2) (oI (meF (GD G) (GV G) q i).1) (nI i) σ) (oN (meF (GD G) (GV G) q (d_s (GD G))).1 G) := by
  intro n
  induction n with
  | zero => intro i σ _ h; omega
  | succ n ih =>
    intro i σ hi hn h
    have hd := hW.d.1
    obtain ⟨p0, -, e0, k0, hp0⟩ := h.pl
    rw [fX11_mending_29, show tg 0 9 = 4 from rfl, r_rf_e e0 k0, r_sc_s, hp0.1.2.2, ifle_n (by omega) (by omega)]
    by_cases c : d_s (GD G) ≤ i
    · have : i = d_s (GD G) := by omega
      subst this
      rw [if_pos c]
      unfold fX11_mending_114
      exact OC.oN hW h (fun k hk => by have := (me_b _).1 k hk; omega)
    · rw [if_neg c, show tg 4 1 = 6 from rfl, r_sc_s, h.sv.2.2.2.1, has_e (li_b hW.d hW.v) (by omega), c_I_s]
      have ih := ih (i + 1)
      rw [meF] at ih
      cases hb : (v_li (GV G)).testBit i
      · rw [hb, if_neg (by decide)] at ih
        rw [if_neg (show ¬ (false = true) by decide), if_pos rfl]
        obtain ⟨τ, p, e, wk, hc, bu, e4⟩ := look_c hW h
        have hl : v_li (GV G) ||| 2 ^ i < 2 ^ d_s (GD G) := or_lt hW.v.2.2.2.1 (by omega)
        rw [e, c_V_s, show tg 0 15 = 11 from rfl, r_sc_s, wk.2.2.1.2.2.2.1, with_e (by omega), c_I_s, show wiN (v_li (GV G)) i (decide ((1 : Int32) ≠ 0)) = v_li (GV G) ||| 2 ^ i from rfl, p_sc_s]
        obtain ⟨π, f2, w4⟩ := rb_c (q := q) hW.d (hW.v.vL hl) hq wk.vL (hc.sc (s := 11) (k := 6) (x := nI (v_li (GV G) ||| 2 ^ i)) (by decide))
        have h2 : RepC π G := h.cm hW (fun q _ h1 h2 => ((bu q h1 h2).tr (BU.sc h2)).tr (w4 q h1 h2))
        have l1 := rn_le (D := GD G) (V := vL (GV G) (v_li (GV G) ||| 2 ^ i)) (q := q)
        have l2 := (me_b (D := GD G) (V := GV G) (q := q) i).2
        rw [f2, c_I_s, nI_s, ifle_n (by omega) (by omega)]
        have ih := ih π (by omega) (by omega) h2
        by_cases c2 : (meF (GD G) (GV G) q i).2 < rnN (GD G) (vL (GV G) (v_li (GV G) ||| 2 ^ i)) q
        · rw [if_pos c2] at ih
          rw [if_neg (by omega)]; exact ih
        · rw [if_neg c2] at ih
          rw [if_pos (by omega)]; exact ih
      · rw [hb, if_pos rfl] at ih
        rw [if_pos rfl, if_neg (by decide), nI_s]
        exact ih σ (by omega) (by omega) h
theorem rby_r {q l : Nat} (hW : WFG G) (h : RepR σ G) (hq : q ≤ 400) (hl : v_li (GV G) ||| l < 2 ^ d_s (GD G)) : ∃ τ, fX12_rightsBy 31 (nI q) (nI l) σ = some (nI (rnN (GD G) (vL (GV G) (v_li (GV G) ||| l)) q), τ) ∧ RepR τ G := by
  obtain ⟨τ, e, wk, rb, qu, hc, -⟩ := bg1_r hW h
  obtain ⟨π, f2, f3, f4, w4⟩ := gr_r (q := q) (y := v_qu (GV G)) hW.d (hW.v.vL hl) hq (wk.vL hW.d) hc.w0 (by rw [m_ar_ar, if_neg (by decide)]; exact qu) hW.v.2.2.2.2.2
  refine ⟨π, ?_, h.rb hW ((rb.tr (RT.w0 (by omega) (by omega)).b).tr w4.b)⟩
  unfold fX12_rightsBy
  rw [e, c_V_s, ln_2454, g_ar_n (by decide) (by decide), wk.2.2.2.2.2.2.1, or_n, s_ar_n (by decide) (by decide), f2, c_V_s, f3, c_I_s, f4, c_I_s]
theorem me_lr {q : Nat} (hq : q ≤ 400) (hW : WFG G) : ∀ (n i : Nat) (σ : Mm), i ≤ d_s (GD G) → d_s (GD G) - i < n → RepR σ G → OR (fX12_mending_25 31 (nI q) n (nI (meF (GD G) (GV G) q i).2) (oI (meF (GD G) (GV G) q i).1) (nI i) σ) (oN (meF (GD G) (GV G) q (d_s (GD G))).1 G) := by
  intro n
  induction n with
  | zero => intro i σ _ h; omega
  | succ n ih =>
    intro i σ hi hn h
    have hd := hW.d.1
    rw [fX12_mending_25, show g_ar σ 31 0 2950 (2 : Int32) = g_ar σ 31 0 2950 (nI 2) from rfl, g_ar_n (by decide) (by decide), show m_ar σ 31 0 2 = nI (d_s (GD G)) from h.pl.1.2.2, ifle_n (by omega) (by omega)]
    by_cases c : d_s (GD G) ≤ i
    · have : i = d_s (GD G) := by omega
      subst this
      rw [if_pos c]
      exact OR.oN hW h (fun k hk => by have := (me_b _).1 k hk; omega)
    · have l2 := (me_b (D := GD G) (V := GV G) (q := q) i).2
      rw [if_neg c, show g_ar σ 31 0 2950 (4 : Int32) = g_ar σ 31 0 2950 (nI 4) from rfl, g_ar_n (by decide) (by decide), show m_ar σ 31 0 4 = nI (v_li (GV G)) from h.sv.2.2.2.1, has_n (li_b hW.d hW.v) (by omega)]
      have ih := ih (i + 1)
      rw [meF] at ih
      cases hb : (v_li (GV G)).testBit i
      · rw [hb, if_neg (by decide)] at ih
        rw [if_neg (show ¬ (if false = true then (1 : Int32) else 0) = 1 by decide)]
        have hl : v_li (GV G) ||| 2 ^ i < 2 ^ d_s (GD G) := or_lt hW.v.2.2.2.1 (by omega)
        obtain ⟨τ, f, h2⟩ := rby_r (q := q) hW h hq hl
        have l1 := rn_le (D := GD G) (V := vL (GV G) (v_li (GV G) ||| 2 ^ i)) (q := q)
        rw [sh1 (by omega), f, c_I_s, nI_s, ifl_n (by omega) (by omega)]
        have ih := ih τ (by omega) (by omega) h2
        by_cases c2 : (meF (GD G) (GV G) q i).2 < rnN (GD G) (vL (GV G) (v_li (GV G) ||| 2 ^ i)) q
        · rw [if_pos c2] at ih ⊢; exact ih
        · rw [if_neg c2] at ih ⊢; exact ih
      · rw [hb, if_pos rfl] at ih
        rw [if_pos (show (if true = true then (1 : Int32) else 0) = 1 from rfl), if_neg (show ¬ nI (meF (GD G) (GV G) q i).2 < (-1 : Int32) by rw [show (-1 : Int32) = iI (-1) from rfl, nI_iI, iI_lt (by omega) (by omega) (by omega) (by omega)]; omega), nI_s]
        exact ih σ (by omega) (by omega) h
theorem mending_c (b : Int32) (hW : WFG G) (h : RepC σ G) : OC (fX11_mending 0 b σ) (spMe b G) := by
  have hd := hW.d.1
  unfold fX11_mending spMe
  rcases ix_cases (n := 401) (by decide) b with ⟨ej, hb⟩ | ⟨q, hq, rfl, ej⟩ <;> rw [ej]
  · rw [isAhead_c0 hb, c_I_s, if_pos rfl]
    exact OC.non hW h _
  · rw [isAhead_c1 hq, c_I_s, if_neg (by decide)]
    dsimp only
    obtain ⟨τ, p, e, wk, hc, bu, e4⟩ := look_c hW h
    rw [e, c_V_s]
    obtain ⟨ω, f, w4⟩ := rb_c (q := q) hW.d hW.v (by omega) wk hc
    have h2 : RepC ω G := h.cm hW (fun q _ h1 h2 => (bu q h1 h2).tr (w4 q h1 h2))
    rw [f, c_I_s]
    exact me_lc (by omega) hW FU 0 ω (by omega) (FU_gt (by omega)) h2
theorem mending_r (b : Int32) (hW : WFG G) (h : RepR σ G) : OR (fX12_mending 31 b σ) (spMe b G) := by
  have hd := hW.d.1
  unfold fX12_mending spMe
  rcases ix_cases (n := 401) (by decide) b with ⟨ej, hb⟩ | ⟨q, hq, rfl, ej⟩ <;> rw [ej]
  · rw [isAhead_r0 hb, c_I_s, if_pos rfl]
    exact OR.non hW h _
  · rw [isAhead_r1 hq, c_I_s, if_neg (by decide)]
    dsimp only
    obtain ⟨ω, f, h2⟩ := rby_r (q := q) (l := 0) hW h (by omega) (by rw [Nat.or_zero]; exact hW.v.2.2.2.1)
    rw [Nat.or_zero] at f
    rw [show (0 : Int32) = nI 0 from rfl, f, c_I_s]
    exact me_lr (by omega) hW FU 0 ω (by omega) (FU_gt (by omega)) h2
/-! leaving, knowing -/
theorem lw_c {p s t : Nat} (hD : WFD D) (hV : WFV D V) (ht : t ≤ 99) : ∀ (n i : Nat) (V' : SD) (σ : Mm), i ≤ 16 → 16 - i < n → (∀ d, vB V' d t = vB V d t) → WFV D V' → WkC σ p s D V' → ∃ τ V2, fX11_leavingWinds_4 0 (nI t) n (nI (bsN (fun d => (fsF (dvB D (vB V d t)) (d_v D)).isNone) i)) (nI i) σ = some (nI (lvN D V t), τ) ∧ WGs s σ τ ∧ (V2 = V' ∨ ∃ d, V2 = vB V d t) ∧ WFV D V2 ∧ WkC τ p s D V2 := by
  intro n
  induction n with
  | zero => intro i V' σ _ h; omega
  | succ n ih =>
    intro i V' σ hi hn he hV' h
    have hd := hD.1
    rw [fX11_leavingWinds_4, ln_16, ifle_n (by decide) (by omega)]
    by_cases c : 16 ≤ i
    · have : i = 16 := by omega
      subst this
      rw [if_pos c]
      exact ⟨σ, V', rfl, fun _ _ _ => BU.rf, Or.inl rfl, hV', h⟩
    · obtain ⟨ω, f, w1, w2, w3⟩ := blow_c (d := i) (t := t) hD hV' h (by omega) ht
      rw [he] at w1
      have hV2 := hV.vB (d := i) (s := t) (by omega) ht
      obtain ⟨π, f2, w4⟩ := firstDriven_c hD hV2 w1
      have ih := ih (i + 1) (vB V i t) π (by omega) (by omega) (fun d => rfl) hV2 (w1.w10 w4)
      have fin : ∀ x, (∃ τ V2, fX11_leavingWinds_4 0 (nI t) n x (nI (i + 1)) π = some (nI (lvN D V t), τ) ∧ WGs s π τ ∧ (V2 = vB V i t ∨ ∃ d, V2 = vB V d t) ∧ WFV D V2 ∧ WkC τ p s D V2) → ∃ τ V2, fX11_leavingWinds_4 0 (nI t) n x (nI (i + 1)) π = some (nI (lvN D V t), τ) ∧ WGs s σ τ ∧ (V2 = V' ∨ ∃ d, V2 = vB V d t) ∧ WFV D V2 ∧ WkC τ p s D V2 := by
        rintro x ⟨τ, V2, g1, g2, g3, g4, g5⟩
        exact ⟨τ, V2, g1, fun q h1 h2 => ((w2 q h1 h2).tr (w4.1 q h1)).tr (g2 q h1 h2), Or.inr (g3.elim (fun z => ⟨i, z⟩) id), g4, g5⟩
      rw [if_neg c, show tg 0 14 = 10 from rfl, f, c_V_s, f2, c_I_s, nI_s]
      cases hx : fsF (dvB D (vB V i t)) (d_v D) with
      | none =>
        rw [bs_t (by show (fsF (dvB D (vB V i t)) (d_v D)).isNone = true; rw [hx]; rfl)] at ih
        rw [show oI none = -1 from rfl, if_pos rfl, with_e (by omega), c_I_s]
        exact fin _ ih
      | some j =>
        have hj := fs_lt hx
        rw [bs_f (by show (fsF (dvB D (vB V i t)) (d_v D)).isNone = false; rw [hx]; rfl)] at ih
        rw [show oI (some j) = nI j from rfl, if_neg (nI_nem (by omega))]
        exact fin _ ih
theorem leavingWinds_c {p s t : Nat} {V' : SD} (hD : WFD D) (hV : WFV D V) (ht : t ≤ 99) (he : ∀ d, vB V' d t = vB V d t) (hV' : WFV D V') (h : WkC σ p s D V') : ∃ τ V2, fX11_leavingWinds 0 (nI t) σ = some (nI (lvN D V t), τ) ∧ WGs s σ τ ∧ (V2 = V' ∨ ∃ d, V2 = vB V d t) ∧ WFV D V2 ∧ WkC τ p s D V2 := lw_c hD hV ht FU 0 V' σ (by omega) (FU_gt (by omega)) he hV' h
theorem lb_r {t l : Nat} (hW : WFG G) (ht : t ≤ 99) (hl : v_li (GV G) ||| l < 2 ^ d_s (GD G)) : ∀ (n i : Nat) (σ : Mm), i ≤ 16 → 16 - i < n → RepR σ G → ∃ τ, fX12_leavingBy_5 31 (nI t) (nI l) n (nI (bsN (fun d => (fsF (dvB (GD G) (vB (vL (GV G) (v_li (GV G) ||| l)) d t)) (d_v (GD G))).isNone) i)) (nI i) σ = some (nI (lvN (GD G) (vL (GV G) (v_li (GV G) ||| l)) t), τ) ∧ RepR τ G := by
  intro n
  induction n with
  | zero => intro i σ _ h; omega
  | succ n ih =>
    intro i σ hi hn h
    have hd := hW.d.1
    rw [fX12_leavingBy_5, ln_16, ifle_n (by decide) (by omega)]
    by_cases c : 16 ≤ i
    · have : i = 16 := by omega
      subst this
      rw [if_pos c]
      exact ⟨σ, rfl, h⟩
    · obtain ⟨τ, e, wk, rb, qu, hc, -⟩ := bg1_r hW h
      obtain ⟨ω, f, w1, w2, w3⟩ := blow_r (d := i) (t := t) hW.d (wk.vL (l := v_li (GV G) ||| l) hW.d) hc.w0
      have hV2 := (hW.v.vL hl).vB (d := i) (s := t) (by omega) ht
      obtain ⟨π, f2, r1, r2, r3, r4, r5, r6⟩ := quarterGoes_r (M := (vB (vL (GV G) (v_li (GV G) ||| l)) i t, C0)) hW.d hV2 w1 w3 (show 0 + 64 < 1000000000 by decide) (w2.2.2.1.trans (by rw [m_ar_ar, if_neg (by decide)]; exact qu)) hW.v.2.2.2.2.2
      have h2 : RepR π G := h.rb hW (((rb.tr (RT.w0 (by omega) (by omega)).b).tr w2.1.b).tr r4.b)
      have ih := ih (i + 1) π (by omega) (by omega) h2
      rw [if_neg c, e, c_V_s, ln_2454, g_ar_n (by decide) (by decide), wk.2.2.2.2.2.2.1, or_n, s_ar_n (by decide) (by decide), f, c_V_s, f2, c_I_s, nI_s]
      cases hx : fsF (dvB (GD G) (vB (vL (GV G) (v_li (GV G) ||| l)) i t)) (d_v (GD G)) with
      | none =>
        rw [bs_t (by show (fsF (dvB (GD G) (vB (vL (GV G) (v_li (GV G) ||| l)) i t)) (d_v (GD G))).isNone = true; rw [hx]; rfl)] at ih
        rw [if_pos (show (if (none : Option Nat).isNone = true then (0 : Int32) else 1) = 0 from rfl), sh1 (by omega), or_n]
        exact ih
      | some j =>
        rw [bs_f (by show (fsF (dvB (GD G) (vB (vL (GV G) (v_li (GV G) ||| l)) i t)) (d_v (GD G))).isNone = false; rw [hx]; rfl)] at ih
        rw [if_neg (show ¬ (if (some j : Option Nat).isNone = true then (0 : Int32) else 1) = 0 by show ¬ (1 : Int32) = 0; decide), show (0 : Int32) = nI 0 from rfl, or_n, Nat.or_zero]
        exact ih
theorem leavingBy_r {t l : Nat} (hW : WFG G) (ht : t ≤ 99) (hl : v_li (GV G) ||| l < 2 ^ d_s (GD G)) (h : RepR σ G) : ∃ τ, fX12_leavingBy 31 (nI t) (nI l) σ = some (nI (lvN (GD G) (vL (GV G) (v_li (GV G) ||| l)) t), τ) ∧ RepR τ G := lb_r hW ht hl FU 0 σ (by omega) (FU_gt (by omega)) h
def spLe (a : Int32) (G : GS) : Int32 × GS := match sx 99 a with
  | none => (-1, stq 1 G)
  | some s => (nI (lvN (GD G) (GV G) s), stq 0 G)
theorem lv_65 {t : Nat} : lvN D V t < 65536 := bsN_lt _ 16
def knF (D : PD) (V : SD) (t : Nat) : Nat → Option Nat × Nat
  | 0 => (none, pcN (lvN D V t) 16)
  | n + 1 => if (v_li V).testBit n = true then knF D V t n else if pcN (lvN D (vL V (v_li V ||| 2 ^ n)) t) 16 < (knF D V t n).2 then (some n, pcN (lvN D (vL V (v_li V ||| 2 ^ n)) t) 16) else knF D V t n
theorem kn_b {q : Nat} : ∀ n, (∀ k, (knF D V q n).1 = some k → k < n) ∧ (knF D V q n).2 ≤ 16 := by
  intro n
  induction n with
  | zero => exact ⟨fun k h => (by cases h), pc_le _ _⟩
  | succ n ih =>
    rw [knF]
    by_cases c : (v_li V).testBit n = true
    · rw [if_pos c]
      exact ⟨fun k h => by have := ih.1 k h; omega, ih.2⟩
    · rw [if_neg c]
      by_cases c2 : pcN (lvN D (vL V (v_li V ||| 2 ^ n)) q) 16 < (knF D V q n).2
      · rw [if_pos c2]
        refine ⟨fun k h => ?_, pc_le _ _⟩
        cases h; omega
      · rw [if_neg c2]
        exact ⟨fun k h => by have := ih.1 k h; omega, ih.2⟩
def spKn (a : Int32) (G : GS) : Int32 × GS := match sx 99 a with
  | none => (-1, stq 1 G)
  | some s => oN (knF (GD G) (GV G) s (d_s (GD G))).1 G
theorem kn_lc {p t : Nat} (ht : t ≤ 99) (hW : WFG G) : ∀ (n i : Nat) (V' : SD) (σ : Mm), i ≤ d_s (GD G) → d_s (GD G) - i < n → RepC σ G → (∀ l d, vB (vL V' l) d t = vB (vL (GV G) l) d t) → WFV (GD G) V' → WkC σ p 11 (GD G) V' → OC (fX11_knowing_32 0 (nI t) n (nI (knF (GD G) (GV G) t i).2) (oI (knF (GD G) (GV G) t i).1) (nI i) σ) (oN (knF (GD G) (GV G) t (d_s (GD G))).1 G) := by
  intro n
  induction n with
  | zero => intro i V' σ _ h; omega
  | succ n ih =>
    intro i V' σ hi hn h he hV' wk
    have hd := hW.d.1
    obtain ⟨p0, -, e0, k0, hp0⟩ := h.pl
    rw [fX11_knowing_32, show tg 0 9 = 4 from rfl, r_rf_e e0 k0, r_sc_s, hp0.1.2.2, ifle_n (by omega) (by omega)]
    by_cases c : d_s (GD G) ≤ i
    · have : i = d_s (GD G) := by omega
      subst this
      rw [if_pos c]
      unfold fX11_knowing_119
      exact OC.oN hW h (fun k hk => by have := (kn_b _).1 k hk; omega)
    · rw [if_neg c, show tg 4 1 = 6 from rfl, r_sc_s, h.sv.2.2.2.1, has_e (li_b hW.d hW.v) (by omega), c_I_s]
      have ih := ih (i + 1)
      rw [knF] at ih
      cases hb : (v_li (GV G)).testBit i
      · rw [hb, if_neg (by decide)] at ih
        rw [if_neg (show ¬ (false = true) by decide), if_pos rfl]
        have hl : v_li (GV G) ||| 2 ^ i < 2 ^ d_s (GD G) := or_lt hW.v.2.2.2.1 (by omega)
        rw [r_sc_s, h.sv.2.2.2.1, with_e (by omega), c_I_s, show wiN (v_li (GV G)) i (decide ((1 : Int32) ≠ 0)) = v_li (GV G) ||| 2 ^ i from rfl, show tg 0 15 = 11 from rfl, p_sc_s]
        obtain ⟨π, V2, f2, w4, hv2, wf2, wk2⟩ := leavingWinds_c (V := vL (GV G) (v_li (GV G) ||| 2 ^ i)) (t := t) hW.d (hW.v.vL hl) ht (he _) (hV'.vL hl) (wk.vL (l := v_li (GV G) ||| 2 ^ i))
        have h2 : RepC π G := h.cm hW (fun q _ h1 h2 => (BU.sc h2).tr (w4 q h1 h2))
        have l1 := pc_le (lvN (GD G) (vL (GV G) (v_li (GV G) ||| 2 ^ i)) t) 16
        have l2 := (kn_b (D := GD G) (V := GV G) (q := t) i).2
        have he2 : ∀ l d, vB (vL V2 l) d t = vB (vL (GV G) l) d t := by
          rcases hv2 with rfl | ⟨d', rfl⟩
          · exact he
          · intro l d; rfl
        rw [f2, c_I_s, bc_e lv_65, c_I_s, nI_s, ifle_n (by omega) (by omega)]
        have ih := ih V2 π (by omega) (by omega) h2 he2 wf2 wk2
        by_cases c2 : pcN (lvN (GD G) (vL (GV G) (v_li (GV G) ||| 2 ^ i)) t) 16 < (knF (GD G) (GV G) t i).2
        · rw [if_pos c2] at ih
          rw [if_neg (by omega)]; exact ih
        · rw [if_neg c2] at ih
          rw [if_pos (by omega)]; exact ih
      · rw [hb, if_pos rfl] at ih
        rw [if_pos rfl, if_neg (by decide), nI_s]
        exact ih V' σ (by omega) (by omega) h he hV' wk
theorem kn_lr {t : Nat} (ht : t ≤ 99) (hW : WFG G) : ∀ (n i : Nat) (σ : Mm), i ≤ d_s (GD G) → d_s (GD G) - i < n → RepR σ G → OR (fX12_knowing_33 31 (nI t) n (nI (knF (GD G) (GV G) t i).2) (oI (knF (GD G) (GV G) t i).1) (nI i) σ) (oN (knF (GD G) (GV G) t (d_s (GD G))).1 G) := by
  intro n
  induction n with
  | zero => intro i σ _ h; omega
  | succ n ih =>
    intro i σ hi hn h
    have hd := hW.d.1
    rw [fX12_knowing_33, show g_ar σ 31 0 2950 (2 : Int32) = g_ar σ 31 0 2950 (nI 2) from rfl, g_ar_n (by decide) (by decide), show m_ar σ 31 0 2 = nI (d_s (GD G)) from h.pl.1.2.2, ifle_n (by omega) (by omega)]
    by_cases c : d_s (GD G) ≤ i
    · have : i = d_s (GD G) := by omega
      subst this
      rw [if_pos c]
      exact OR.oN hW h (fun k hk => by have := (kn_b _).1 k hk; omega)
    · have l2 := (kn_b (D := GD G) (V := GV G) (q := t) i).2
      rw [if_neg c, show g_ar σ 31 0 2950 (4 : Int32) = g_ar σ 31 0 2950 (nI 4) from rfl, g_ar_n (by decide) (by decide), show m_ar σ 31 0 4 = nI (v_li (GV G)) from h.sv.2.2.2.1, has_n (li_b hW.d hW.v) (by omega)]
      have ih := ih (i + 1)
      rw [knF] at ih
      cases hb : (v_li (GV G)).testBit i
      · rw [hb, if_neg (by decide)] at ih
        rw [if_neg (show ¬ (if false = true then (1 : Int32) else 0) = 1 by decide)]
        have hl : v_li (GV G) ||| 2 ^ i < 2 ^ d_s (GD G) := or_lt hW.v.2.2.2.1 (by omega)
        obtain ⟨τ, f, h2⟩ := leavingBy_r hW ht hl h
        have l1 := pc_le (lvN (GD G) (vL (GV G) (v_li (GV G) ||| 2 ^ i)) t) 16
        rw [sh1 (by omega), f, c_I_s, bits_e lv_65, c_I_s, nI_s, ifl_n (by omega) (by omega)]
        have ih := ih τ (by omega) (by omega) h2
        by_cases c2 : pcN (lvN (GD G) (vL (GV G) (v_li (GV G) ||| 2 ^ i)) t) 16 < (knF (GD G) (GV G) t i).2
        · rw [if_pos c2] at ih ⊢; exact ih
        · rw [if_neg c2] at ih ⊢; exact ih
      · rw [hb, if_pos rfl] at ih
        rw [if_pos (show (if true = true then (1 : Int32) else 0) = 1 from rfl), nI_s]
        exact ih σ (by omega) (by omega) h
theorem leaving_c (a : Int32) (hW : WFG G) (h : RepC σ G) : OC (fX11_leaving 0 a σ) (spLe a G) := by
  have hd := hW.d.1
  unfold fX11_leaving spLe
  rcases sx_cases (n := 99) (by decide) a with ⟨ei, ha⟩ | ⟨s, hs1, hs, rfl, ei⟩ <;> rw [ei]
  · rw [isBlowing_c0 ha, c_I_s, if_pos rfl]
    exact OC.non hW h _
  · rw [isBlowing_c1 hs1 hs, c_I_s, if_neg (by decide)]
    dsimp only
    obtain ⟨τ, p, e, wk, hc, bu, e4⟩ := look_c hW h
    rw [e, c_V_s]
    obtain ⟨π, V2, f2, w4, -⟩ := leavingWinds_c (V := GV G) hW.d hW.v hs (fun _ => rfl) hW.v wk
    have h2 : RepC π G := h.cm hW (fun q _ h1 h2 => (bu q h1 h2).tr (w4 q h1 h2))
    rw [f2, c_I_s]
    exact OC.ans hW h2 _
theorem leaving_r (a : Int32) (hW : WFG G) (h : RepR σ G) : OR (fX12_leaving 31 a σ) (spLe a G) := by
  have hd := hW.d.1
  unfold fX12_leaving spLe
  rcases sx_cases (n := 99) (by decide) a with ⟨ei, ha⟩ | ⟨s, hs1, hs, rfl, ei⟩ <;> rw [ei]
  · rw [from1_0 (n := 99) (by decide) rfl ha, c_I_s, if_pos rfl]
    exact OR.non hW h _
  · rw [from1_1 (n := 99) (by decide) rfl hs1 hs, c_I_s, if_neg (by decide)]
    dsimp only
    obtain ⟨ω, f, h2⟩ := leavingBy_r (l := 0) hW hs (by rw [Nat.or_zero]; exact hW.v.2.2.2.1) h
    rw [Nat.or_zero] at f
    have f : fX12_leavingBy 31 (nI s) (nI 0) σ = some (nI (lvN (GD G) (GV G) s), ω) := f
    rw [show (0 : Int32) = nI 0 from rfl, f, c_I_s]
    exact OR.ans hW h2 _
theorem knowing_c (a : Int32) (hW : WFG G) (h : RepC σ G) : OC (fX11_knowing 0 a σ) (spKn a G) := by
  have hd := hW.d.1
  unfold fX11_knowing spKn
  rcases sx_cases (n := 99) (by decide) a with ⟨ei, ha⟩ | ⟨s, hs1, hs, rfl, ei⟩ <;> rw [ei]
  · rw [isBlowing_c0 ha, c_I_s, if_pos rfl]
    exact OC.non hW h _
  · rw [isBlowing_c1 hs1 hs, c_I_s, if_neg (by decide)]
    dsimp only
    obtain ⟨τ, p, e, wk, hc, bu, e4⟩ := look_c hW h
    rw [e, c_V_s]
    obtain ⟨π, V2, f2, w4, hv2, wf2, wk2⟩ := leavingWinds_c (V := GV G) hW.d hW.v hs (fun _ => rfl) hW.v wk
    have h2 : RepC π G := h.cm hW (fun q _ h1 h2 => (bu q h1 h2).tr (w4 q h1 h2))
    rw [f2, c_I_s, bc_e lv_65, c_I_s]
    refine kn_lc hs hW FU 0 V2 π (by omega) (FU_gt (by omega)) h2 ?_ wf2 wk2
    rcases hv2 with rfl | ⟨d', rfl⟩
    · intro l d; rfl
    · intro l d; rfl
theorem knowing_r (a : Int32) (hW : WFG G) (h : RepR σ G) : OR (fX12_knowing 31 a σ) (spKn a G) := by
  have hd := hW.d.1
  unfold fX12_knowing spKn
  rcases sx_cases (n := 99) (by decide) a with ⟨ei, ha⟩ | ⟨s, hs1, hs, rfl, ei⟩ <;> rw [ei]
  · rw [from1_0 (n := 99) (by decide) rfl ha, c_I_s, if_pos rfl]
    exact OR.non hW h _
  · rw [from1_1 (n := 99) (by decide) rfl hs1 hs, c_I_s, if_neg (by decide)]
    dsimp only
    obtain ⟨ω, f, h2⟩ := leavingBy_r (l := 0) hW hs (by rw [Nat.or_zero]; exact hW.v.2.2.2.1) h
    rw [Nat.or_zero] at f
    have f : fX12_leavingBy 31 (nI s) (nI 0) σ = some (nI (lvN (GD G) (GV G) s), ω) := f
    rw [show (0 : Int32) = nI 0 from rfl, f, c_I_s, bits_e lv_65, c_I_s]
    exact kn_lr hs hW FU 0 ω (by omega) (FU_gt (by omega)) h2
theorem bestWind_s (a : Int32) (b : Int32) (σ : Mm) (h : Rel σ) : ok (fX11_bestWind 0 a b σ) (fun q => ok (fX12_bestWind 31 a b q.2) (fun q' => q'.1 = q.1 ∧ Rel q'.2)) :=
  simS (fc := fX11_bestWind 0 a b) (fr := fX12_bestWind 31 a b) (ks := [0, 1, 2, 3, 4, 5, 6, 7, 8, 9, 10, 11]) (by decide) (spBw a b) (fun σ G => bestWind_c a b) (fun σ G => bestWind_r a b) (fun G hW => by unfold spBw; repeat (first | exact hW | split)) (fun σ x τ ee => F_sub (frX11_bestWind 0 a b (by decide) σ ee) (by decide)) (fun σ x τ ee => F_sub (frX12_bestWind 31 a b (by decide) σ ee) (by decide)) σ h
theorem mending_s (b : Int32) (σ : Mm) (h : Rel σ) : ok (fX11_mending 0 b σ) (fun q => ok (fX12_mending 31 b q.2) (fun q' => q'.1 = q.1 ∧ Rel q'.2)) :=
  simS (fc := fX11_mending 0 b) (fr := fX12_mending 31 b) (ks := [0, 1, 2, 3, 4, 5, 6, 7, 8, 9, 10, 11]) (by decide) (spMe b) (fun σ G => mending_c b) (fun σ G => mending_r b) (fun G hW => by unfold spMe oN; repeat (first | exact hW | split)) (fun σ x τ ee => F_sub (frX11_mending 0 b (by decide) σ ee) (by decide)) (fun σ x τ ee => F_sub (frX12_mending 31 b (by decide) σ ee) (by decide)) σ h
theorem leaving_s (a : Int32) (σ : Mm) (h : Rel σ) : ok (fX11_leaving 0 a σ) (fun q => ok (fX12_leaving 31 a q.2) (fun q' => q'.1 = q.1 ∧ Rel q'.2)) :=
  simS (fc := fX11_leaving 0 a) (fr := fX12_leaving 31 a) (ks := [0, 1, 2, 3, 4, 5, 6, 7, 8, 9, 10, 11]) (by decide) (spLe a) (fun σ G => leaving_c a) (fun σ G => leaving_r a) (fun G hW => by unfold spLe; repeat (first | exact hW | split)) (fun σ x τ ee => F_sub (frX11_leaving 0 a (by decide) σ ee) (by decide)) (fun σ x τ ee => F_sub (frX12_leaving 31 a (by decide) σ ee) (by decide)) σ h
theorem knowing_s (a : Int32) (σ : Mm) (h : Rel σ) : ok (fX11_knowing 0 a σ) (fun q => ok (fX12_knowing 31 a q.2) (fun q' => q'.1 = q.1 ∧ Rel q'.2)) :=
  simS (fc := fX11_knowing 0 a) (fr := fX12_knowing 31 a) (ks := [0, 1, 2, 3, 4, 5, 6, 7, 8, 9, 10, 11]) (by decide) (spKn a) (fun σ G => knowing_c a) (fun σ G => knowing_r a) (fun G hW => by unfold spKn oN; repeat (first | exact hW | split)) (fun σ x τ ee => F_sub (frX11_knowing 0 a (by decide) σ ee) (by decide)) (fun σ x τ ee => F_sub (frX12_knowing 31 a (by decide) σ ee) (by decide)) σ h
end O
