/-! PURE 43: words, names and what is taken -/
def isNm (X : TX) (p : Nat) : Bool := decide (tK X p = 2) && decide (tE X p - tA X p ≤ 8) && decide (tW X p = 23)
theorem isNm_e {X : TX} {p : Nat} : isNm X p = true ↔ tK X p = 2 ∧ tE X p - tA X p ≤ 8 ∧ tW X p = 23 := by simp [isNm, and_assoc]
def ixN (f : Nat → Int64) (n : Nat) (w : Int64) : Nat := til (fun k => !decide (f k = w)) n 0
def ixI (f : Nat → Int64) (n : Nat) (w : Int64) : Int32 := if ixN f n w < n then nI (ixN f n w) else -1
theorem unt_cg {P Q : Nat → Bool} {L : Nat} (h : ∀ k, k < L → P k = Q k) : ∀ n i, unt P L n i = unt Q L n i := by
  intro n
  induction n with
  | zero => intro i; rfl
  | succ n ih =>
    intro i
    rw [unt, unt]
    by_cases c : i < L
    · rw [h i c, ih]
    · rw [if_neg (fun q => c q.1), if_neg (fun q => c q.1)]
theorem ixN_cg {f g : Nat → Int64} {n : Nat} {w : Int64} (h : ∀ k, k < n → f k = g k) : ixN f n w = ixN g n w := unt_cg (fun k hk => by show (!decide (f k = w)) = (!decide (g k = w)); rw [h k hk]) _ _
theorem ixI_cg {f g : Nat → Int64} {n : Nat} {w : Int64} (h : ∀ k, k < n → f k = g k) : ixI f n w = ixI g n w := by unfold ixI; rw [ixN_cg h]
theorem ixN_p (f : Nat → Int64) (n : Nat) (w : Int64) : ixN f n w ≤ n ∧ (∀ k, k < ixN f n w → f k ≠ w) ∧ (ixN f n w < n → f (ixN f n w) = w) := by
  obtain ⟨-, a, b, c⟩ := til_p (fun k => !decide (f k = w)) n 0
  change ¬ (ixN f n w < n ∧ (!decide (f (ixN f n w) = w)) = true) at b
  refine ⟨c (Nat.zero_le _), fun k hk => ?_, fun h => ?_⟩
  · have := (a k (Nat.zero_le _) hk).2
    simpa using this
  · have : ¬ (!decide (f (ixN f n w) = w)) = true := fun q => b ⟨h, q⟩
    simpa using this
theorem wd_p {X : TX} {p : Nat} (h : tK X p = 2) : tA X p < X.1 ∧ tA X p < tE X p ∧ (∀ i, i < tE X p - tA X p → 97 ≤ X.2 (tA X p + i) ∧ X.2 (tA X p + i) ≤ 122) := by
  unfold tK at h
  by_cases c : X.1 ≤ tA X p
  · rw [if_pos c] at h; cases h
  · rw [if_neg c] at h
    by_cases cl : isLt (tB X p) = true
    · have eE : tE X p = til (fun k => isLt (X.2 k)) X.1 (tA X p) := by unfold tE; rw [if_neg c, if_pos cl]
      obtain ⟨-, t2, -, -⟩ := til_p (fun k => isLt (X.2 k)) X.1 (tA X p)
      refine ⟨by omega, by rw [eE]; exact til_1 (by omega) cl, fun i hi => isLt_e.mp (t2 (tA X p + i) (by omega) (by omega)).2⟩
    · rw [if_neg cl] at h
      by_cases cd : isDg (tB X p) = true
      · rw [if_pos cd] at h; split at h <;> cases h
      · rw [if_neg cd] at h; split at h <;> cases h
theorem tw_0 {X : TX} {p : Nat} (h : tK X p = 2) : tw X p = 0 ↔ ¬ tE X p - tA X p ≤ 8 := by
  obtain ⟨h1, h2, h3⟩ := wd_p h
  unfold tw
  by_cases c : tE X p - tA X p ≤ 8
  · rw [if_pos c, pk_n _ c h3]
    refine ⟨fun q => ?_, fun q => absurd c q⟩
    exfalso
    have b := pkN_b _ h3
    have p1 : 256 ^ (tE X p - tA X p) ≤ 256 ^ 8 := Nat.pow_le_pow_right (by decide) c
    have z := lN_j (b := 0) (by omega) (by decide) q
    obtain ⟨m, hm⟩ : ∃ m, tE X p - tA X p = m + 1 := ⟨tE X p - tA X p - 1, by omega⟩
    rw [hm, pkN] at z
    have := h3 m (by omega)
    omega
  · rw [if_neg c]; exact ⟨fun _ => c, fun _ => rfl⟩
theorem tK_le (X : TX) (p : Nat) : tK X p ≤ 4 := by
  unfold tK
  repeat' split
  all_goals decide
abbrev RZ (α : Type) : Type := Except (Nat × Nat) α
def eb {α β : Type} (r : RZ α) (k : α → RZ β) : RZ β := match r with
  | .error f => .error f
  | .ok a => k a
def rT (X : TX) (p : Nat) : Nat × Nat := (if tK X p = 1 then 1 else 2, tA X p)
def sSg (X : TX) (p : Nat) : RZ Nat := if tK X p = 4 ∧ tB X p = 59 then .ok (tE X p) else .error (rT X p)
def sKw (X : TX) (k p : Nat) : RZ Nat := if tW X p = k then .ok (tE X p) else .error (rT X p)
def sCm (X : TX) (p : Nat) : RZ (Nat × Nat) := if tK X p = 4 ∧ tB X p ≠ 59 then .ok (tB X p, tE X p) else .error (rT X p)
def sNu (X : TX) (lo hi p : Nat) : RZ (Nat × Nat) := if tK X p = 3 then (if lo ≤ tN X p ∧ tN X p ≤ hi then .ok (tN X p, tE X p) else .error (4, tA X p)) else .error (rT X p)
def sOp (X : TX) (k hi p : Nat) : RZ (Nat × Nat) := if tW X p = k then sNu X 0 hi (tE X p) else .ok (0, p)
def sFd (X : TX) (f : Nat → Int64) (n p : Nat) : RZ (Nat × Nat) := if isNm X p = true then (if ixN f n (tw X p) < n then .ok (ixN f n (tw X p), tE X p) else .error (3, tA X p)) else .error (rT X p)
/-- a name that is none of a plan's -/
def nwB (D : PD) (w : Int64) : Bool := !decide (ixN (d_np D) (d_p D) w < d_p D) && !decide (ixN (d_nv D) (d_v D) w < d_v D) && !decide (ixN (d_ns D) (d_s D) w < d_s D)
def sNw (X : TX) (D : PD) (p : Nat) : RZ Nat := if isNm X p = true then (if nwB D (tw X p) = true then .ok (tE X p) else .error (3, tA X p)) else .error (rT X p)
/-! the class -/
def T1 (σ τ : Mm) : Prop := ∀ b, b ≠ 1 → BU b σ τ
def ErC (τ : Mm) (f : Nat × Nat) : Prop := m_sc τ 1 11 = nI f.1 ∧ m_sc τ 1 12 = nI f.2
def CR (σ : Mm) (X : TX) : RZ Nat → Int32 × Mm → Prop
  | .ok p, q => q.1 = 1 ∧ TxC q.2 X p ∧ T1 σ q.2
  | .error f, q => q.1 = 0 ∧ ErC q.2 f ∧ T1 σ q.2
def CV (σ : Mm) (X : TX) : RZ (Nat × Nat) → Int32 × Mm → Prop
  | .ok a, q => q.1 = 1 ∧ TxC q.2 X a.2 ∧ m_sc q.2 1 10 = nI a.1 ∧ T1 σ q.2
  | .error f, q => q.1 = 0 ∧ ErC q.2 f ∧ T1 σ q.2
section O
variable {σ τ : Mm} {X : TX} {p : Nat} {β : Type}
theorem T1.rf : T1 σ σ := fun _ _ => BU.rf
theorem T1.tr {ω : Mm} (h : T1 σ τ) (h2 : T1 τ ω) : T1 σ ω := fun b hb => (h b hb).tr (h2 b hb)
theorem T1.sc {k : Nat} {v : Int32} : T1 σ (w_sc σ 1 k v) := fun b hb => BU.sc hb
theorem bC {res : RZ Nat} {k : Nat → RZ β} {r : Option (Int32 × Mm)} {K : Mm → Option (Int32 × Mm)} {Q : RZ β → Int32 × Mm → Prop} (h : ok r (CR σ X res)) (he : ∀ f τ, ErC τ f → T1 σ τ → Q (.error f) (0, τ)) (hk : ∀ a τ, res = .ok a → TxC τ X a → T1 σ τ → ok (K τ) (Q (k a))) : ok (c_I r (fun x τ => if x = 0 then some ((0 : Int32), τ) else K τ)) (Q (eb res k)) := by
  obtain ⟨⟨x, τ⟩, rfl, h⟩ := h
  rw [c_I_s]
  cases res with
  | error f =>
    obtain ⟨h1, h2, h3⟩ := h
    rw [if_pos h1]; exact ok_some (he f τ h2 h3)
  | ok a =>
    obtain ⟨h1, h2, h3⟩ := h
    have h1 : x = 1 := h1
    rw [if_neg (by rw [h1]; decide)]; exact hk a τ rfl h2 h3
theorem bV {res : RZ (Nat × Nat)} {k : Nat × Nat → RZ β} {r : Option (Int32 × Mm)} {K : Mm → Option (Int32 × Mm)} {Q : RZ β → Int32 × Mm → Prop} (h : ok r (CV σ X res)) (he : ∀ f τ, ErC τ f → T1 σ τ → Q (.error f) (0, τ)) (hk : ∀ a τ, res = .ok a → TxC τ X a.2 → m_sc τ 1 10 = nI a.1 → T1 σ τ → ok (K τ) (Q (k a))) : ok (c_I r (fun x τ => if x = 0 then some ((0 : Int32), τ) else K τ)) (Q (eb res k)) := by
  obtain ⟨⟨x, τ⟩, rfl, h⟩ := h
  rw [c_I_s]
  cases res with
  | error f =>
    obtain ⟨h1, h2, h3⟩ := h
    rw [if_pos h1]; exact ok_some (he f τ h2 h3)
  | ok a =>
    obtain ⟨h1, h2, h3, h4⟩ := h
    have h1 : x = 1 := h1
    rw [if_neg (by rw [h1]; decide)]; exact hk a τ rfl h2 h3 h4
theorem refuse_c (h : TxC σ X p) (kd : Nat) : ok (fX6_refuse 1 (nI kd) σ) (fun q => q.1 = 0 ∧ ErC q.2 (kd, tA X p) ∧ T1 σ q.2) := by
  unfold fX6_refuse
  rw [p_sc_s, r_sc_s, p_sc_s]
  refine ok_some ⟨rfl, ⟨?_, ?_⟩, T1.sc.tr T1.sc⟩
  · rw [m_sc_sc, if_neg (by omega), m_sc_sc, if_pos ⟨rfl, rfl⟩]
  · rw [m_sc_sc, if_pos ⟨rfl, rfl⟩, m_sc_sc, if_neg (by omega), h.2.2.1.1]
theorem rfz {r : Option (Int32 × Mm)} {P : Mm → Prop} (h : ok r (fun q => q.1 = 0 ∧ P q.2)) : ok (c_I r (fun x τ => b_z x τ)) (fun q => q.1 = 0 ∧ P q.2) := by
  obtain ⟨⟨x, τ⟩, rfl, h1, h2⟩ := h
  have h1 : x = 0 := h1
  subst h1
  exact ok_some ⟨rfl, h2⟩
theorem refuseToken_c (h : TxC σ X p) : ok (fX6_refuseToken 1 σ) (fun q => q.1 = 0 ∧ ErC q.2 (rT X p) ∧ T1 σ q.2) := by
  unfold fX6_refuseToken
  have hk := tK_le X p
  rw [r_sc_s, h.2.2.1.2.2.1, ln_1, ln_2]
  by_cases c : tK X p = 1
  · rw [if_pos (by rw [c]), rT, if_pos c]
    exact rfz (P := fun τ => ErC τ (1, tA X p) ∧ T1 σ τ) (refuse_c h 1)
  · rw [if_neg (fun q => c ((nI_inj (by omega) (by omega)).mp q)), rT, if_neg c]
    exact rfz (P := fun τ => ErC τ (2, tA X p) ∧ T1 σ τ) (refuse_c h 2)
theorem rtz (h : TxC σ X p) : ok (c_I (fX6_refuseToken 1 σ) (fun x τ => b_z x τ)) (fun q => q.1 = 0 ∧ ErC q.2 (rT X p) ∧ T1 σ q.2) := rfz (P := fun τ => ErC τ (rT X p) ∧ T1 σ τ) (refuseToken_c h)
theorem rkz (h : TxC σ X p) (kd : Nat) : ok (c_I (fX6_refuse 1 (nI kd) σ) (fun x τ => b_z x τ)) (fun q => q.1 = 0 ∧ ErC q.2 (kd, tA X p) ∧ T1 σ q.2) := rfz (P := fun τ => ErC τ (kd, tA X p) ∧ T1 σ τ) (refuse_c h kd)
theorem avz (hX : WTx X) (h : TxC σ X p) : ok (c_V (fX6_advance 1 σ) (fun τ => some ((1 : Int32), τ))) (fun q => q.1 = 1 ∧ TxC q.2 X (tE X p) ∧ m_sc q.2 1 10 = m_sc σ 1 10 ∧ T1 σ q.2) := by
  obtain ⟨τ, e1, e2, e3, e4⟩ := adv_c hX h
  rw [e1, c_V_s]
  exact ok_some ⟨rfl, e2, e3, e4⟩
theorem TxC.tk (h : TxC σ X p) (v : Int32) : TxC (w_sc σ 1 10 v) X p := by
  obtain ⟨a, ⟨b1, b2⟩, ⟨c1, c2, c3, c4, c5, c6, c7⟩, d1, d2⟩ := h
  refine ⟨a, ⟨?_, b2⟩, ⟨?_, ?_, ?_, ?_, fun q => ?_, c6, fun q => ?_⟩, ?_, ?_⟩ <;> rw [m_sc_sc, if_neg (by omega)]
  · exact b1
  · exact c1
  · exact c2
  · exact c3
  · exact c4
  · exact c5 q
  · exact c7 q
  · exact d1
  · exact d2
theorem takeSemicolon_c (hX : WTx X) (h : TxC σ X p) : ok (fX6_takeSemicolon 1 σ) (CR σ X (sSg X p)) := by
  unfold fX6_takeSemicolon sSg
  have hk := tK_le X p
  rw [r_sc_s, h.2.2.1.2.2.1, ln_4]
  by_cases c : tK X p = 4
  · rw [if_pos (by rw [c]), r_sc_s, h.2.2.1.2.2.2.2.1 c, ln_59]
    have hb : tB X p < 256 := by
      by_cases c2 : tA X p < X.1
      · exact hX.2 _ c2
      · unfold tK at c; rw [if_pos (by omega)] at c; cases c
    by_cases c2 : tB X p = 59
    · rw [if_pos (by rw [c2]), if_pos ⟨c, c2⟩]
      exact ok_mono (avz hX h) (fun q w => ⟨w.1, w.2.1, w.2.2.2⟩)
    · rw [if_neg (fun q => c2 ((nI_inj (by omega) (by omega)).mp q)), if_neg (fun q => c2 q.2)]
      exact rtz h
  · rw [if_neg (fun q => c ((nI_inj (by omega) (by omega)).mp q)), if_neg (fun q => c q.1)]
    exact rtz h
theorem takeCompare_c (hX : WTx X) (h : TxC σ X p) : ok (fX6_takeCompare 1 σ) (CV σ X (sCm X p)) := by
  unfold fX6_takeCompare sCm
  have hk := tK_le X p
  rw [r_sc_s, h.2.2.1.2.2.1, ln_4]
  by_cases c : tK X p = 4
  · rw [if_pos (by rw [c]), r_sc_s, h.2.2.1.2.2.2.2.1 c, ln_59]
    have hb : tB X p < 256 := by
      by_cases c2 : tA X p < X.1
      · exact hX.2 _ c2
      · unfold tK at c; rw [if_pos (by omega)] at c; cases c
    by_cases c2 : tB X p = 59
    · rw [if_pos (by rw [c2]), if_neg (fun q => q.2 c2)]
      exact rtz h
    · rw [if_neg (fun q => c2 ((nI_inj (by omega) (by omega)).mp q)), if_pos ⟨c, c2⟩, r_sc_s, h.2.2.1.2.2.2.2.1 c, p_sc_s]
      exact ok_mono (avz hX (h.tk _)) (fun q w => ⟨w.1, w.2.1, w.2.2.1.trans (by rw [m_sc_sc, if_pos ⟨rfl, rfl⟩]), T1.sc.tr w.2.2.2⟩)
  · rw [if_neg (fun q => c ((nI_inj (by omega) (by omega)).mp q)), if_neg (fun q => c q.1)]
    exact rtz h
theorem kcI_j {a b : Nat} (ha : a ≤ 23) (hb : b < 23) : kcI a = nI b ↔ a = b := by
  unfold kcI
  by_cases c : a < 23
  · rw [if_pos c, nI_inj (by omega) (by omega)]
  · rw [if_neg c]
    exact ⟨fun q => absurd q.symm (nI_nem (by omega)), fun q => by omega⟩
theorem kcI_m {a : Nat} (ha : a ≤ 23) : kcI a = -1 ↔ a = 23 := by
  unfold kcI
  by_cases c : a < 23
  · rw [if_pos c]
    exact ⟨fun q => absurd q (nI_nem (by omega)), fun q => by omega⟩
  · rw [if_neg c]
    exact ⟨fun _ => by omega, fun _ => rfl⟩
theorem takeKeyword_c (hX : WTx X) (h : TxC σ X p) {k : Nat} (hk : k < 23) : ok (fX6_takeKeyword 1 (nI k) σ) (CR σ X (sKw X k p)) := by
  unfold fX6_takeKeyword sKw
  rw [r_sc_s, h.2.2.1.2.2.2.1]
  by_cases c : tW X p = k
  · rw [if_pos ((kcI_j (tW_le X p) hk).mpr c), if_pos c]
    exact ok_mono (avz hX h) (fun q w => ⟨w.1, w.2.1, w.2.2.2⟩)
  · rw [if_neg (fun q => c ((kcI_j (tW_le X p) hk).mp q)), if_neg c]
    exact rtz h
theorem takeNumber_c (hX : WTx X) (h : TxC σ X p) {lo hi : Nat} (h1 : lo < 10000) (h2 : hi < 10000) : ok (fX6_takeNumber 1 (nI lo) (nI hi) σ) (CV σ X (sNu X lo hi p)) := by
  unfold fX6_takeNumber sNu
  have hk := tK_le X p
  rw [r_sc_s, h.2.2.1.2.2.1, ln_3]
  by_cases c : tK X p = 3
  · have hn := (tN_lt c).1
    rw [if_pos (by rw [c]), if_pos c, r_sc_s, h.2.2.1.2.2.2.2.2.2 c, r_sc_s, h.2.2.1.2.2.2.2.2.2 c, ln_4]
    by_cases c1 : tN X p < lo
    · rw [if_pos ((nI_ltn (by omega) (by omega)).mpr c1), if_neg (by omega)]
      exact rkz h 4
    · rw [if_neg (fun q => c1 ((nI_ltn (by omega) (by omega)).mp q))]
      by_cases c2 : tN X p ≤ hi
      · rw [if_pos ((nI_len (by omega) (by omega)).mpr c2), if_pos (by omega), r_sc_s, h.2.2.1.2.2.2.2.2.2 c, p_sc_s]
        exact ok_mono (avz hX (h.tk _)) (fun q w => ⟨w.1, w.2.1, w.2.2.1.trans (by rw [m_sc_sc, if_pos ⟨rfl, rfl⟩]), T1.sc.tr w.2.2.2⟩)
      · rw [if_neg (fun q => c2 ((nI_len (by omega) (by omega)).mp q)), if_neg (by omega)]
        exact rkz h 4
  · rw [if_neg (fun q => c ((nI_inj (by omega) (by omega)).mp q)), if_neg c]
    exact rtz h
theorem CV.x {ω : Mm} {res : RZ (Nat × Nat)} {q : Int32 × Mm} (h : CV τ X res q) (t : T1 ω τ) : CV ω X res q := by
  cases res with
  | error f => exact ⟨h.1, h.2.1, t.tr h.2.2⟩
  | ok a => exact ⟨h.1, h.2.1, h.2.2.1, t.tr h.2.2.2⟩
theorem CV.z {res : RZ (Nat × Nat)} {r : Option (Int32 × Mm)} (h : ok r (CV σ X res)) : ok (c_I r (fun x τ => b_z x τ)) (CV σ X res) := by
  obtain ⟨⟨x, τ⟩, rfl, h⟩ := h
  rw [c_I_s]
  refine ok_bz ?_ h
  cases res with
  | error f => exact Or.inl h.1
  | ok a => exact Or.inr h.1
theorem CV.y {res : RZ (Nat × Nat)} {r : Option (Int32 × Mm)} (h : ok r (CV σ X res)) : ok (c_I r (fun x τ => if x = 0 then some ((0 : Int32), τ) else some ((1 : Int32), τ))) (CV σ X res) := by
  obtain ⟨⟨x, τ⟩, rfl, h⟩ := h
  rw [c_I_s]
  cases res with
  | error f =>
    have h1 : x = 0 := h.1
    subst h1
    rw [if_pos rfl]; exact ok_some h
  | ok a =>
    have h1 : x = 1 := h.1
    subst h1
    rw [if_neg (by decide)]; exact ok_some h
theorem takeOption_c (hX : WTx X) (h : TxC σ X p) {k hi : Nat} (hk : k < 23) (h2 : hi < 10000) : ok (fX6_takeOption 1 (nI k) (nI hi) σ) (CV σ X (sOp X k hi p)) := by
  unfold fX6_takeOption sOp
  have h' := h.tk 0
  rw [p_sc_s, r_sc_s, h'.2.2.1.2.2.2.1]
  by_cases c : tW X p = k
  · rw [if_pos ((kcI_j (tW_le X p) hk).mpr c), if_pos c]
    obtain ⟨τ, e1, e2, e3, e4⟩ := adv_c hX h'
    rw [e1, c_V_s, ln_0]
    exact ok_mono (CV.z (takeNumber_c hX e2 (by decide) h2)) (fun q w => CV.x w (T1.sc.tr e4))
  · rw [if_neg (fun q => c ((kcI_j (tW_le X p) hk).mp q)), if_neg c]
    exact ok_some ⟨rfl, h', by rw [m_sc_sc, if_pos ⟨rfl, rfl⟩]; rfl, T1.sc⟩
theorem seesName_c (h : TxC σ X p) : (isNm X p = true → fX6_seesName 1 σ = some (1, σ)) ∧ (¬ isNm X p = true → ok (fX6_seesName 1 σ) (fun q => q.1 = 0 ∧ ErC q.2 (rT X p) ∧ T1 σ q.2)) := by
  unfold fX6_seesName
  have hk := tK_le X p
  rw [r_sc_s, h.2.2.1.2.2.1, ln_2]
  by_cases c : tK X p = 2
  · have c2 := h.2.2.1.2.2.2.2.2.1 c
    rw [if_pos (by rw [c]), r_lg_s, c2]
    by_cases c3 : tE X p - tA X p ≤ 8
    · rw [if_neg (fun q => (tw_0 c).mp ((lgc_e _ _).mp q) c3), r_sc_s, h.2.2.1.2.2.2.1]
      by_cases c4 : tW X p = 23
      · rw [if_pos ((kcI_m (tW_le X p)).mpr c4)]
        exact ⟨fun _ => rfl, fun q => absurd (isNm_e.mpr ⟨c, c3, c4⟩) q⟩
      · rw [if_neg (fun q => c4 ((kcI_m (tW_le X p)).mp q))]
        exact ⟨fun q => absurd (isNm_e.mp q).2.2 c4, fun _ => rtz h⟩
    · rw [if_pos ((lgc_e _ _).mpr ((tw_0 c).mpr c3))]
      exact ⟨fun q => absurd (isNm_e.mp q).2.1 c3, fun _ => rtz h⟩
  · rw [if_neg (fun q => c ((nI_inj (by omega) (by omega)).mp q))]
    exact ⟨fun q => absurd (isNm_e.mp q).1 c, fun _ => rtz h⟩
theorem indexIn_l {o j n : Nat} {w : Int64} {m : Nat} (hm : m ≤ n) (hn : n ≤ 100) : ∀ k i, i ≤ ixN (m_la σ o j) m w → ixN (m_la σ o j) m w - i < k → fX2_indexIn_3 o j n (nI m) w k (nI i) σ = some (ixI (m_la σ o j) m w, σ) := by
  intro k
  induction k with
  | zero => intro i _ h; omega
  | succ k ih =>
    intro i h1 h2
    obtain ⟨p1, p2, p3⟩ := ixN_p (m_la σ o j) m w
    rw [fX2_indexIn_3]
    by_cases c : i = ixN (m_la σ o j) m w
    · unfold ixI
      rw [← c] at p3 ⊢
      by_cases c2 : i < m
      · rw [if_neg (fun q => absurd ((nI_len (by omega) (by omega)).mp q) (by omega)), g_la_n (by omega) (by omega), if_pos ((lgc_e _ _).mpr (p3 c2)), if_pos c2]
      · rw [if_pos ((nI_len (by omega) (by omega)).mpr (by omega)), if_neg c2]
    · rw [if_neg (fun q => absurd ((nI_len (by omega) (by omega)).mp q) (by omega)), g_la_n (by omega) (by omega), if_neg (fun q => p2 i (by omega) ((lgc_e _ _).mp q)), nI_s]
      exact ih (i + 1) (by omega) (by omega)
theorem indexIn_c {o j n : Nat} {w : Int64} {m : Nat} (hm : m ≤ n) (hn : n ≤ 100) : fX2_indexIn o j n (nI m) w σ = some (ixI (m_la σ o j) m w, σ) := by
  have := (ixN_p (m_la σ o j) m w).1
  exact indexIn_l hm hn FU 0 (Nat.zero_le _) (FU_gt (by omega))
theorem placeNamed_c {o : Nat} {w : Int64} {D : PD} (hD : d_p D ≤ 4) (h : PlC σ o D) : fX2_placeNamed o w σ = some (ixI (d_np D) (d_p D) w, σ) := by
  unfold fX2_placeNamed
  rw [r_sc_s, h.1.1, indexIn_c hD (by decide), c_I_s, ixI_cg h.2.2.2.1]
theorem vaneNamed_c {o : Nat} {w : Int64} {D : PD} (hD : d_v D ≤ 8) (h : PlC σ o D) : fX2_vaneNamed o w σ = some (ixI (d_nv D) (d_v D) w, σ) := by
  unfold fX2_vaneNamed
  rw [r_sc_s, h.1.2.1, indexIn_c hD (by decide), c_I_s, ixI_cg h.2.2.2.2.1]
theorem shaftNamed_c {o : Nat} {w : Int64} {D : PD} (hD : d_s D ≤ 10) (h : PlC σ o D) : fX2_shaftNamed o w σ = some (ixI (d_ns D) (d_s D) w, σ) := by
  unfold fX2_shaftNamed
  rw [r_sc_s, h.1.2.2, indexIn_c hD (by decide), c_I_s, ixI_cg h.2.2.2.2.2]
theorem ixI_m {f : Nat → Int64} {n : Nat} {w : Int64} (hn : n ≤ 1000) : ixI f n w = -1 ↔ ¬ ixN f n w < n := by
  unfold ixI
  by_cases c : ixN f n w < n
  · rw [if_pos c]; exact ⟨fun q => absurd q (nI_nem (by omega)), fun q => absurd c q⟩
  · rw [if_neg c]; exact ⟨fun _ => c, fun _ => rfl⟩
theorem isTaken_c {o : Nat} {w : Int64} {D : PD} (hD : d_p D ≤ 4 ∧ d_v D ≤ 8 ∧ d_s D ≤ 10) (h : PlC σ o D) : fX2_isTaken o w σ = some (if nwB D w = true then 0 else 1, σ) := by
  unfold fX2_isTaken nwB
  rw [placeNamed_c hD.1 h, c_I_s, vaneNamed_c hD.2.1 h, c_I_s, shaftNamed_c hD.2.2 h, c_I_s]
  by_cases c1 : ixN (d_np D) (d_p D) w < d_p D
  · rw [if_neg (fun q => (ixI_m (by omega)).mp q c1)]; simp [c1]
  · rw [if_pos ((ixI_m (by omega)).mpr c1)]
    by_cases c2 : ixN (d_nv D) (d_v D) w < d_v D
    · rw [if_neg (fun q => (ixI_m (by omega)).mp q c2)]; simp [c2]
    · rw [if_pos ((ixI_m (by omega)).mpr c2)]
      by_cases c3 : ixN (d_ns D) (d_s D) w < d_s D
      · rw [if_neg (fun q => (ixI_m (by omega)).mp q c3)]; simp [c3]
      · rw [if_pos ((ixI_m (by omega)).mpr c3)]; simp [c1, c2, c3]
theorem takeNewName_c (hX : WTx X) (h : TxC σ X p) {o : Nat} {D : PD} (hD : d_p D ≤ 4 ∧ d_v D ≤ 8 ∧ d_s D ≤ 10) (hP : PlC σ o D) : ok (fX6_takeNewName 1 o σ) (CR σ X (sNw X D p)) := by
  unfold fX6_takeNewName sNw
  obtain ⟨s1, s2⟩ := seesName_c h
  by_cases c : isNm X p = true
  · rw [s1 c, c_I_s, if_neg (by decide), r_lg_s, h.2.2.1.2.2.2.2.2.1 (isNm_e.mp c).1, isTaken_c hD hP, c_I_s, if_pos c]
    by_cases c2 : nwB D (tw X p) = true
    · rw [if_pos c2, if_pos rfl, if_pos c2]
      exact ok_mono (avz hX h) (fun q w => ⟨w.1, w.2.1, w.2.2.2⟩)
    · rw [if_neg c2, if_neg (by decide), if_neg c2, ln_3]
      exact rkz h 3
  · obtain ⟨⟨x, τ⟩, e1, e2, e3⟩ := s2 c
    have e2 : x = 0 := e2
    subst e2
    rw [e1, c_I_s, if_pos rfl, if_neg c]
    exact ok_some ⟨rfl, e3⟩
theorem takeThing_c (hX : WTx X) (h : TxC σ X p) {f : Nat → Int64} {n : Nat} {w : Int64} (hn : n ≤ 1000) : ok (fX6_takeThing 1 (ixI f n w) σ) (CV σ X (if ixN f n w < n then .ok (ixN f n w, tE X p) else .error (3, tA X p))) := by
  unfold fX6_takeThing
  by_cases c : ixN f n w < n
  · rw [if_neg (fun q => (ixI_m hn).mp q c), if_pos c, p_sc_s, ixI, if_pos c]
    exact ok_mono (avz hX (h.tk _)) (fun q w => ⟨w.1, w.2.1, w.2.2.1.trans (by rw [m_sc_sc, if_pos ⟨rfl, rfl⟩]), T1.sc.tr w.2.2.2⟩)
  · rw [if_pos ((ixI_m hn).mpr c), if_neg c, ln_3]
    exact rkz h 3
theorem takeVane_c (hX : WTx X) (h : TxC σ X p) {o : Nat} {D : PD} (hD : d_v D ≤ 8) (hP : PlC σ o D) : ok (fX6_takeVane 1 o σ) (CV σ X (sFd X (d_nv D) (d_v D) p)) := by
  unfold fX6_takeVane sFd
  obtain ⟨s1, s2⟩ := seesName_c h
  by_cases c : isNm X p = true
  · rw [s1 c, c_I_s, if_neg (by decide), r_lg_s, h.2.2.1.2.2.2.2.2.1 (isNm_e.mp c).1, vaneNamed_c hD hP, c_I_s, if_pos c]
    exact CV.y (takeThing_c hX h (by omega))
  · obtain ⟨⟨x, τ⟩, e1, e2, e3⟩ := s2 c
    have e2 : x = 0 := e2
    subst e2
    rw [e1, c_I_s, if_pos rfl, if_neg c]
    exact ok_some ⟨rfl, e3⟩
theorem takePlace_c (hX : WTx X) (h : TxC σ X p) {o : Nat} {D : PD} (hD : d_p D ≤ 4) (hP : PlC σ o D) : ok (fX6_takePlace 1 o σ) (CV σ X (sFd X (d_np D) (d_p D) p)) := by
  unfold fX6_takePlace sFd
  obtain ⟨s1, s2⟩ := seesName_c h
  by_cases c : isNm X p = true
  · rw [s1 c, c_I_s, if_neg (by decide), r_lg_s, h.2.2.1.2.2.2.2.2.1 (isNm_e.mp c).1, placeNamed_c hD hP, c_I_s, if_pos c]
    exact CV.y (takeThing_c hX h (by omega))
  · obtain ⟨⟨x, τ⟩, e1, e2, e3⟩ := s2 c
    have e2 : x = 0 := e2
    subst e2
    rw [e1, c_I_s, if_pos rfl, if_neg c]
    exact ok_some ⟨rfl, e3⟩
theorem takeShaft_c (hX : WTx X) (h : TxC σ X p) {o : Nat} {D : PD} (hD : d_s D ≤ 10) (hP : PlC σ o D) : ok (fX6_takeShaft 1 o σ) (CV σ X (sFd X (d_ns D) (d_s D) p)) := by
  unfold fX6_takeShaft sFd
  obtain ⟨s1, s2⟩ := seesName_c h
  by_cases c : isNm X p = true
  · rw [s1 c, c_I_s, if_neg (by decide), r_lg_s, h.2.2.1.2.2.2.2.2.1 (isNm_e.mp c).1, shaftNamed_c hD hP, c_I_s, if_pos c]
    exact CV.y (takeThing_c hX h (by omega))
  · obtain ⟨⟨x, τ⟩, e1, e2, e3⟩ := s2 c
    have e2 : x = 0 := e2
    subst e2
    rw [e1, c_I_s, if_pos rfl, if_neg c]
    exact ok_some ⟨rfl, e3⟩
end O
