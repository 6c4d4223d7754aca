/-! PURE 11: pour -/
section O
variable {σ τ : Mm} {G : GS}
/-- many from a place of one row to a place of another -/
def mvN (f g : Nat → Int64) (p a m : Nat) : Nat → Int64 := fun i => if a ≤ i ∧ i < a + m then f (p + (i - a)) else g i
def spP (a b c d e : Int32) (G : GS) : Int32 × GS := match ix 4 a, ix 4 c with
  | some f, some t => if b < 0 ∨ d < 0 ∨ e < 0 then (0, stq 1 G) else match g_y G f, g_y G t with
    | some q, some r => if q.1 ≠ r.1 then (0, stq 8 G) else
      if b.toNatClampNeg + e.toNatClampNeg ≤ q.2.1 ∧ d.toNatClampNeg + e.toNatClampNeg ≤ r.2.1 then (1, suY (0, g_t G, g_b G) (yUp (g_y G) t (r.1, r.2.1, mvN q.2.2 r.2.2 b.toNatClampNeg d.toNatClampNeg e.toNatClampNeg)) G) else (0, stq 3 G)
    | _, _ => (0, stq 2 G)
  | _, _ => (0, stq 1 G)
theorem miss_1 {t : Nat} (ht : t < 4) (h : RepC σ G) (hy : g_y G t = none) : fX8_isMissing (15 + t) σ = some (1, σ) := by
  have h1 := h.2.1 t ht
  rw [hy] at h1
  have e1 : m_sc σ (15 + t) 0 = -1 := h1
  unfold fX8_isMissing
  rw [r_sc_s, e1, if_pos rfl]
theorem miss_0 {t : Nat} {q : Nat × Nat × (Nat → Int64)} (ht : t < 4) (hW : WFG G) (h : RepC σ G) (hy : g_y G t = some q) : fX8_isMissing (15 + t) σ = some (0, σ) := by
  have h1 := h.2.1 t ht
  have h2 := hW.1 t ht q hy
  rw [hy] at h1
  unfold fX8_isMissing
  rw [r_sc_s, h1.1, if_neg (nI_nem (by omega))]
theorem hasFrom_e {o p m n : Nat} (hp : p < 2147483648) (hm : m < 2147483648) (hn : n ≤ 60) (e : m_sc σ o 1 = nI n) : fX8_hasFrom o (nI p) (nI m) σ = some (if p + m ≤ n then 1 else 0, σ) := by
  unfold fX8_hasFrom
  rw [r_sc_s, e, nI_l hp, nI_l hm, nI_l (by omega), lN_add]
  have e1 : (lN (p + m)).toInt = (p + m : Nat) := pk_lT (by omega)
  have e2 : (lN n).toInt = (n : Nat) := pk_lT (by omega)
  by_cases c : p + m ≤ n
  · rw [if_neg (by rw [lgc_pos]; omega), if_pos c]
  · rw [if_pos (by rw [lgc_pos]; omega), if_neg c]
theorem pour_c (a b c d e : Int32) (hW : WFG G) (h : RepC σ G) : OC (fX11_pour 0 a b c d e σ) (spP a b c d e G) := by
  unfold fX11_pour spP
  rcases ix_cases (n := 4) (by decide) a with ⟨ei, ha⟩ | ⟨f, hf, rfl, ei⟩ <;> rw [ei]
  · rw [isTray_c0 ha]
    exact OC.rfs hW h _
  · rw [isTray_c1 hf, c_I_s, if_neg (by decide)]
    rcases ix_cases (n := 4) (by decide) c with ⟨ej, hc⟩ | ⟨t, ht, rfl, ej⟩ <;> rw [ej]
    · rw [isTray_c0 hc]
      exact OC.rfs hW h _
    · rw [isTray_c1 ht, c_I_s, if_neg (by decide)]
      dsimp only
      rcases i_cases b with hb | ⟨p, hp, rfl⟩
      · rw [if_pos hb, if_pos (Or.inl hb)]; exact OC.rfs hW h _
      · rw [if_neg (nI_neg0 hp)]
        rcases i_cases d with hd | ⟨y, hy, rfl⟩
        · rw [if_pos hd, if_pos (Or.inr (Or.inl hd))]; exact OC.rfs hW h _
        · rw [if_neg (nI_neg0 hy)]
          rcases i_cases e with he | ⟨m, hm, rfl⟩
          · rw [if_neg (i_lt_le he), if_pos (Or.inr (Or.inr he))]; exact OC.rfs hW h _
          · rw [if_pos (i_nlt (nI_neg0 hm)), if_neg (by intro z; rcases z with z | z | z <;> exact nI_neg0 (by omega) z), g_bl_n hf (by decide), g_bl_n ht (by decide), show ra 0 f = 15 + f from rfl, show ra 0 t = 15 + t from rfl]
            cases hq : g_y G f with
            | none => rw [miss_1 hf h hq]; exact OC.rfs hW h _
            | some q =>
              rw [miss_0 hf hW h hq, c_I_s, if_pos rfl]
              cases hr : g_y G t with
              | none => rw [miss_1 ht h hr]; exact OC.rfs hW h _
              | some r =>
                have b1 := hW.1 f hf q hq
                have b2 := hW.1 t ht r hr
                have h1 := h.2.1 f hf
                rw [hq] at h1
                have h2 := h.2.1 t ht
                rw [hr] at h2
                rw [miss_0 ht hW h hr, c_I_s, if_pos rfl, r_sc_s, r_sc_s, h1.1, h2.1]
                dsimp only
                by_cases s : q.1 = r.1
                · rw [if_pos (by rw [s]), if_neg (fun z => z s), hasFrom_e hp hm b1.2 h1.2.1, c_I_s, nI_cl hp, nI_cl hm, nI_cl hy]
                  by_cases c1 : p + m ≤ q.2.1
                  · rw [if_pos c1, if_neg (by decide), hasFrom_e hy hm b2.2 h2.2.1, c_I_s]
                    by_cases c2 : y + m ≤ r.2.1
                    · rw [if_pos c2, if_neg (by decide), if_pos ⟨c1, c2⟩]
                      unfold a_cl y_ac
                      rw [nI_cl hp, nI_cl hm, nI_cl hy, if_neg (by intro z; rcases z with z | z | z | z | z <;> first | exact nI_neg0 (by omega) z | omega)]
                      refine ⟨_, rfl, RepC.uY (σ := σ) _ _ hW.2.2.2.1 (fun i _ hq => ?_) ⟨rfl, rfl, rfl, rfl, rfl⟩ ⟨rfl, h.1.2.1, h.1.2.2.1⟩ (fun i hi => ?_) h⟩
                      · simp at hq
                        exact (BU.lf (by omega)).tr (BU.sc (by omega))
                      · unfold yUp
                        by_cases c : i = t
                        · subst c
                          rw [if_pos rfl]
                          refine ⟨?_, ?_, fun j hj => ?_⟩
                          · rw [m_sc_sc, if_neg (by omega)]; exact h2.1
                          · rw [m_sc_sc, if_neg (by omega)]; exact h2.2.1
                          · rw [m_la_sc, m_la_lf, if_pos ⟨rfl, rfl⟩]
                            show va_cpy _ _ p y m j = mvN q.2.2 r.2.2 p y m j
                            unfold va_cpy mvN
                            have hj' : j < r.2.1 := hj
                            by_cases c : y ≤ j ∧ j < y + m
                            · rw [if_pos c, if_pos c]; exact h1.2.2 _ (by omega)
                            · rw [if_neg c, if_neg c]; exact h2.2.2 j hj
                        · rw [if_neg c]
                          exact (h.2.1 i hi).bu ((BU.lf (by omega)).tr (BU.sc (by omega)))
                    · rw [if_neg c2, if_pos rfl, if_neg (fun z => c2 z.2)]; exact OC.rfs hW h _
                  · rw [if_neg c1, if_pos rfl, if_neg (fun z => c1 z.1)]; exact OC.rfs hW h _
                · rw [if_neg (fun z => s ((nI_inj (by omega) (by omega)).mp z)), if_pos s]; exact OC.rfs hW h _
/-- the reference's loop: what is copied, forth or back -/
theorem pour_l {f t p y m : Nat} (hf : f < 4) (ht : t < 4) (h1 : p + m ≤ 60) (h2 : y + m ≤ 60) (σ0 : Mm) : ∀ (n i : Nat) (σ : Mm), i ≤ m → m - i < n → m_sc σ = m_sc σ0 → m_lg σ = m_lg σ0 → m_ar σ = m_ar σ0 → m_la σ 31 1 = m_la σ0 31 1 → (∀ x, m_la σ 31 4 x = if 60 * t + y ≤ x ∧ x < 60 * t + y + m ∧ (if y ≤ p then x < 60 * t + y + i else 60 * t + y + m - i ≤ x) then m_la σ0 31 4 (60 * f + p + (x - (60 * t + y))) else m_la σ0 31 4 x) → ∃ τ, fX12_pour_118 31 (nI f) (nI p) (nI t) (nI y) (nI m) n (nI i) σ = some (1, w_sc τ 31 2 0) ∧ m_sc τ = m_sc σ0 ∧ m_lg τ = m_lg σ0 ∧ m_ar τ = m_ar σ0 ∧ m_la τ 31 1 = m_la σ0 31 1 ∧ ∀ x, m_la τ 31 4 x = if 60 * t + y ≤ x ∧ x < 60 * t + y + m then m_la σ0 31 4 (60 * f + p + (x - (60 * t + y))) else m_la σ0 31 4 x := by
  intro n
  induction n with
  | zero => intro i σ _ h; omega
  | succ n ih =>
    intro i σ hi hn e1 e2 e3 e4 h
    unfold fX12_pour_118
    by_cases c : m ≤ i
    · rw [if_pos ((nI_len (by omega) (by omega)).mpr c)]
      refine ⟨σ, rfl, e1, e2, e3, e4, fun x => ?_⟩
      rw [h x]
      congr 1
      apply propext
      constructor
      · exact fun z => ⟨z.1, z.2.1⟩
      · refine fun z => ⟨z.1, z.2, ?_⟩
        split <;> omega
    · rw [if_neg (fun q => c ((nI_len (by omega) (by omega)).mp q))]
      have key : ∀ k, k < m → (k = if y ≤ p then i else m - 1 - i) → ∃ τ, fX12_pour_143 31 (nI f) (nI p) (nI t) (nI y) (nI m) (fX12_pour_118 31 (nI f) (nI p) (nI t) (nI y) (nI m) n) (nI i) (nI k) σ = some (1, w_sc τ 31 2 0) ∧ m_sc τ = m_sc σ0 ∧ m_lg τ = m_lg σ0 ∧ m_ar τ = m_ar σ0 ∧ m_la τ 31 1 = m_la σ0 31 1 ∧ ∀ x, m_la τ 31 4 x = if 60 * t + y ≤ x ∧ x < 60 * t + y + m then m_la σ0 31 4 (60 * f + p + (x - (60 * t + y))) else m_la σ0 31 4 x := by
        intro k hk ek
        unfold fX12_pour_143
        rw [ln_60, nI_mul, nI_ad, nI_ad, g_la_n (by omega) (by decide), nI_mul, nI_ad, nI_ad, s_la_n (by omega) (by decide), nI_s]
        have hv : m_la σ 31 4 (60 * f + p + k) = m_la σ0 31 4 (60 * f + p + k) := by
          rw [h, if_neg]
          rintro ⟨z1, z2, z3⟩
          have hft : f = t := by omega
          subst hft
          split at z3
          · rename_i yp; rw [if_pos yp] at ek; omega
          · rename_i yp; rw [if_neg yp] at ek; omega
        refine ih (i + 1) _ (by omega) (by omega) e1 e2 e3 ?_ (fun x => ?_)
        · funext x; rw [m_la_la, if_neg (by omega)]; rw [e4]
        · rw [m_la_la, hv]
          by_cases cx : x = 60 * t + y + k
          · rw [if_pos ⟨rfl, rfl, cx⟩, if_pos]
            · congr 1; omega
            · refine ⟨by omega, by omega, ?_⟩
              split
              · rename_i yp; rw [if_pos yp] at ek; omega
              · rename_i yp; rw [if_neg yp] at ek; omega
          · rw [if_neg (fun z => cx z.2.2), h x]
            congr 1
            apply propext
            by_cases yp : y ≤ p
            · rw [if_pos yp] at ek
              simp only [yp, if_true]; omega
            · rw [if_neg yp] at ek
              simp only [yp, if_false]; omega
      by_cases yp : y ≤ p
      · rw [if_pos ((nI_len (by omega) (by omega)).mpr yp)]
        exact key i (by omega) (by rw [if_pos yp])
      · rw [if_neg (fun q => yp ((nI_len (by omega) (by omega)).mp q)), ln_1, nI_sub (by omega), nI_sub (by omega)]
        exact key (m - 1 - i) (by omega) (by rw [if_neg yp])
theorem sub_lt {n p m : Nat} (hn : n < 2147483648) (hp : p < 2147483648) (hm : m < 2147483648) : nI n - nI p < nI m ↔ n < p + m := by
  rw [nI_iI, nI_iI, nI_iI, iI_sub, iI_lt (by omega) (by omega) (by omega) (by omega)]; omega
theorem le_sub {n p m : Nat} (hn : n < 2147483648) (hp : p < 2147483648) (hm : m < 2147483648) : nI m ≤ nI n - nI p ↔ p + m ≤ n := by
  rw [nI_iI, nI_iI, nI_iI, iI_sub, iI_le (by omega) (by omega) (by omega) (by omega)]; omega
theorem pour_r (a b c d e : Int32) (hW : WFG G) (h : RepR σ G) : OR (fX12_pour 31 a b c d e σ) (spP a b c d e G) := by
  unfold fX12_pour spP
  rcases ix_cases (n := 4) (by decide) a with ⟨ei, ha⟩ | ⟨f, hf, rfl, ei⟩ <;> rw [ei]
  · rw [isTray_r0 ha]
    exact OR.rfs (x := 1) hW h (by decide)
  · rw [isTray_r1 hf, c_I_s, if_neg (by decide)]
    rcases ix_cases (n := 4) (by decide) c with ⟨ej, hc⟩ | ⟨t, ht, rfl, ej⟩ <;> rw [ej]
    · rw [isTray_r0 hc]
      exact OR.rfs (x := 1) hW h (by decide)
    · rw [isTray_r1 ht, c_I_s, if_neg (by decide)]
      dsimp only
      rcases i_cases b with hb | ⟨p, hp, rfl⟩
      · rw [if_pos hb, if_pos (Or.inl hb)]; exact OR.rfs (x := 1) hW h (by decide)
      · rw [if_neg (nI_neg0 hp)]
        rcases i_cases d with hd | ⟨y, hy, rfl⟩
        · rw [if_pos hd, if_pos (Or.inr (Or.inl hd))]; exact OR.rfs (x := 1) hW h (by decide)
        · rw [if_neg (nI_neg0 hy)]
          rcases i_cases e with he | ⟨m, hm, rfl⟩
          · rw [if_neg (i_lt_le he), if_pos (Or.inr (Or.inr he))]; exact OR.rfs (x := 1) hW h (by decide)
          · rw [if_pos (i_nlt (nI_neg0 hm)), if_neg (by intro z; rcases z with z | z | z <;> exact nI_neg0 (by omega) z), g_ar_n hf (by decide)]
            cases hq : g_y G f with
            | none =>
              have h1 := h.2.1 f hf
              rw [hq] at h1
              rw [if_pos (show m_ar σ 31 3 f = -1 from h1)]; exact OR.rfs (x := 2) hW h (by decide)
            | some q =>
              have b1 := hW.1 f hf q hq
              have h1 := h.2.1 f hf
              rw [hq] at h1
              rw [h1.2.1, if_neg (nI_nem (by omega)), g_ar_n ht (by decide)]
              cases hr : g_y G t with
              | none =>
                have h2 := h.2.1 t ht
                rw [hr] at h2
                rw [if_pos (show m_ar σ 31 3 t = -1 from h2)]; exact OR.rfs (x := 2) hW h (by decide)
              | some r =>
                have b2 := hW.1 t ht r hr
                have h2 := h.2.1 t ht
                rw [hr] at h2
                rw [h2.2.1, if_neg (nI_nem (by omega)), g_ar_n hf (by decide), g_ar_n ht (by decide), h1.1, h2.1]
                dsimp only
                by_cases s : q.1 = r.1
                · rw [if_pos (by rw [s]), if_neg (fun z => z s), g_ar_n hf (by decide), h1.2.1, nI_cl hp, nI_cl hm, nI_cl hy]
                  by_cases c1 : p + m ≤ q.2.1
                  · rw [if_neg (by rw [sub_lt (by omega) hp hm]; omega), g_ar_n ht (by decide), h2.2.1]
                    by_cases c2 : y + m ≤ r.2.1
                    · rw [if_pos ((le_sub (by omega) hy hm).mpr c2), if_pos ⟨c1, c2⟩]
                      obtain ⟨τ, ee, e1, e2, e3, e4, e5⟩ := pour_l hf ht (show p + m ≤ 60 by omega) (show y + m ≤ 60 by omega) σ FU 0 σ (by omega) (FU_gt (by omega)) rfl rfl rfl rfl (fun x => by
                        rw [if_neg]
                        rintro ⟨z1, z2, z3⟩
                        split at z3 <;> omega)
                      refine ⟨_, ee, RepR.uY (σ := σ) _ _ (fun j hj => ?_) (fun j hj => ?_) e4 ⟨rfl, ?_, ?_⟩ (fun i hi => ?_) h⟩
                      · rw [m_sc_sc, if_neg (by omega), e1]
                      · rw [m_ar_sc, e3]
                      · rw [m_lg_sc, e2]; exact h.1.2.1
                      · rw [m_lg_sc, e2]; exact h.1.2.2.1
                      · unfold yUp
                        by_cases c : i = t
                        · subst c
                          rw [if_pos rfl]
                          refine ⟨?_, ?_, fun j hj => ?_⟩
                          · rw [m_ar_sc, e3]; exact h2.1
                          · rw [m_ar_sc, e3]; exact h2.2.1
                          · rw [m_la_sc, e5]
                            show _ = mvN q.2.2 r.2.2 p y m j
                            unfold mvN
                            have hj' : j < r.2.1 := hj
                            by_cases c : y ≤ j ∧ j < y + m
                            · rw [if_pos (by omega), if_pos c, ← h1.2.2 _ (by omega)]
                              congr 1; omega
                            · rw [if_neg (by omega), if_neg c]; exact h2.2.2 j hj
                        · rw [if_neg c]
                          have := h.2.1 i hi
                          cases hz : g_y G i with
                          | none => rw [hz] at this; show m_ar τ 31 3 i = -1; rw [e3]; exact this
                          | some w =>
                            rw [hz] at this
                            have hb := hW.1 i hi w hz
                            refine ⟨?_, ?_, fun j hj => ?_⟩
                            · rw [m_ar_sc, e3]; exact this.1
                            · rw [m_ar_sc, e3]; exact this.2.1
                            · rw [m_la_sc, e5, if_neg (by omega)]; exact this.2.2 j hj
                    · rw [if_neg (by rw [le_sub (by omega) hy hm]; exact c2), if_neg (fun z => c2 z.2)]; exact OR.rfs (x := 3) hW h (by decide)
                  · rw [if_pos (by rw [sub_lt (by omega) hp hm]; omega), if_neg (fun z => c1 z.1)]; exact OR.rfs (x := 3) hW h (by decide)
                · rw [if_neg (fun z => s ((nI_inj (by omega) (by omega)).mp z)), if_pos s]; exact OR.rfs (x := 8) hW h (by decide)
theorem pour_w (a b c d e : Int32) (hW : WFG G) : WFG (spP a b c d e G).2 := by
  unfold spP
  rcases ix_cases (n := 4) (by decide) a with ⟨ei, ha⟩ | ⟨f, hf, rfl, ei⟩ <;> rw [ei]
  · exact hW
  · rcases ix_cases (n := 4) (by decide) c with ⟨ej, hc⟩ | ⟨t, ht, rfl, ej⟩ <;> rw [ej]
    · exact hW
    · dsimp only
      split
      · exact hW
      · cases hq : g_y G f with
        | none => exact hW
        | some q =>
          cases hr : g_y G t with
          | none => exact hW
          | some r =>
            have b2 := hW.1 t ht r hr
            dsimp only
            split
            · exact hW
            · split
              · exact hW.uY _ b2.1 b2.2
              · exact hW
theorem pour_s (a : Int32) (b : Int32) (c : Int32) (d : Int32) (e : Int32) (σ : Mm) (h : Rel σ) : ok (fX11_pour 0 a b c d e σ) (fun q => ok (fX12_pour 31 a b c d e q.2) (fun q' => q'.1 = q.1 ∧ Rel q'.2)) :=
  simS (fc := fX11_pour 0 a b c d e) (fr := fX12_pour 31 a b c d e) (ks := [8, 11]) (by decide) (spP a b c d e) (fun σ G => pour_c a b c d e) (fun σ G => pour_r a b c d e) (fun G hW => pour_w a b c d e hW) (fun σ x τ ee => F_sub (frX11_pour 0 a b c d e (by decide) σ ee) (by decide)) (fun σ x τ ee => F_sub (frX12_pour 31 a b c d e (by decide) σ ee) (by decide)) σ h
end O
