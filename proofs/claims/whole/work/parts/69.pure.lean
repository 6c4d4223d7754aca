/-! PURE 10: write, read -/
section O
variable {σ τ : Mm} {G : GS}
theorem tps_c1 {a b : Int32} (ha : a < 0 ∨ (¬ a < 0 ∧ nI 4 ≤ a)) (σ : Mm) : fX11_trayPlaceStatus 0 a b σ = some (1, σ) := by
  unfold fX11_trayPlaceStatus
  rw [isTray_c0 ha]; rfl
theorem tps_c2 {t : Nat} {b : Int32} (ht : t < 4) (h : RepC σ G) (hy : g_y G t = none) : fX11_trayPlaceStatus 0 (nI t) b σ = some (2, σ) := by
  have h1 := h.2.1 t ht
  rw [hy] at h1
  have e1 : m_sc σ (15 + t) 0 = -1 := h1
  unfold fX11_trayPlaceStatus
  rw [isTray_c1 ht, c_I_s, if_neg (by decide), g_bl_n ht (by decide), show ra 0 t = 15 + t from rfl]
  unfold fX8_isMissing
  rw [r_sc_s, e1, if_pos rfl, c_I_s, if_neg (by decide)]
theorem tps_c3 {t : Nat} {b : Int32} {q : Nat × Nat × (Nat → Int64)} (ht : t < 4) (hW : WFG G) (h : RepC σ G) (hy : g_y G t = some q) (hb : b < 0 ∨ (¬ b < 0 ∧ nI q.2.1 ≤ b)) : fX11_trayPlaceStatus 0 (nI t) b σ = some (3, σ) := by
  have h1 := h.2.1 t ht
  have h2 := hW.1 t ht q hy
  rw [hy] at h1
  have e1 : m_sc σ (15 + t) 0 = nI q.1 := h1.1
  unfold fX11_trayPlaceStatus
  rw [isTray_c1 ht, c_I_s, if_neg (by decide), g_bl_n ht (by decide), show ra 0 t = 15 + t from rfl]
  unfold fX8_isMissing
  rw [r_sc_s, e1, if_neg (nI_nem (by omega)), c_I_s, if_pos rfl]
  rcases hb with hb | hb
  · rw [if_pos hb]
  · rw [if_neg hb.1, g_bl_n ht (by decide), show ra 0 t = 15 + t from rfl, r_sc_s, h1.2.1, if_neg (i_le_lt hb.2)]
theorem tps_c0 {t k : Nat} {q : Nat × Nat × (Nat → Int64)} (ht : t < 4) (hW : WFG G) (h : RepC σ G) (hy : g_y G t = some q) (hk : k < q.2.1) : fX11_trayPlaceStatus 0 (nI t) (nI k) σ = some (0, σ) := by
  have h1 := h.2.1 t ht
  have h2 := hW.1 t ht q hy
  rw [hy] at h1
  have e1 : m_sc σ (15 + t) 0 = nI q.1 := h1.1
  unfold fX11_trayPlaceStatus
  rw [isTray_c1 ht, c_I_s, if_neg (by decide), g_bl_n ht (by decide), show ra 0 t = 15 + t from rfl]
  unfold fX8_isMissing
  rw [r_sc_s, e1, if_neg (nI_nem (by omega)), c_I_s, if_pos rfl, if_neg (nI_neg0 (by omega)), g_bl_n ht (by decide), show ra 0 t = 15 + t from rfl, r_sc_s, h1.2.1, if_pos ((nI_ltn (by omega) (by omega)).mpr hk)]
theorem tps_r1 {a b : Int32} (ha : a < 0 ∨ (¬ a < 0 ∧ nI 4 ≤ a)) (σ : Mm) : fX12_wrongPlace 31 a b σ = some (1, σ) := by
  unfold fX12_wrongPlace
  rw [isTray_r0 ha]; rfl
theorem tps_r2 {t : Nat} {b : Int32} (ht : t < 4) (h : RepR σ G) (hy : g_y G t = none) : fX12_wrongPlace 31 (nI t) b σ = some (2, σ) := by
  have h1 := h.2.1 t ht
  rw [hy] at h1
  have e1 : m_ar σ 31 3 t = -1 := h1
  unfold fX12_wrongPlace
  rw [isTray_r1 ht, c_I_s, if_neg (by decide), g_ar_n ht (by decide), e1, if_pos rfl]
theorem tps_r3 {t : Nat} {b : Int32} {q : Nat × Nat × (Nat → Int64)} (ht : t < 4) (hW : WFG G) (h : RepR σ G) (hy : g_y G t = some q) (hb : b < 0 ∨ (¬ b < 0 ∧ nI q.2.1 ≤ b)) : fX12_wrongPlace 31 (nI t) b σ = some (3, σ) := by
  have h1 := h.2.1 t ht
  have h2 := hW.1 t ht q hy
  rw [hy] at h1
  unfold fX12_wrongPlace
  rw [isTray_r1 ht, c_I_s, if_neg (by decide), g_ar_n ht (by decide), h1.2.1, if_neg (nI_nem (by omega))]
  rcases hb with hb | hb
  · rw [if_pos hb]
  · rw [if_neg hb.1, g_ar_n ht (by decide), h1.2.1, if_neg (i_le_lt hb.2)]
theorem tps_r0 {t k : Nat} {q : Nat × Nat × (Nat → Int64)} (ht : t < 4) (hW : WFG G) (h : RepR σ G) (hy : g_y G t = some q) (hk : k < q.2.1) : fX12_wrongPlace 31 (nI t) (nI k) σ = some (0, σ) := by
  have h1 := h.2.1 t ht
  have h2 := hW.1 t ht q hy
  rw [hy] at h1
  unfold fX12_wrongPlace
  rw [isTray_r1 ht, c_I_s, if_neg (by decide), g_ar_n ht (by decide), h1.2.1, if_neg (nI_nem (by omega)), if_neg (nI_neg0 (by omega)), g_ar_n ht (by decide), h1.2.1, if_pos ((nI_ltn (by omega) (by omega)).mpr hk)]
/-- what a tray of a sort keeps of a number -/
def ctL (v : Int64) (s : Nat) : Int64 := if s = 0 then v.toInt32.toInt8.toInt32.toInt64 else if s = 1 then v.toInt32.toInt16.toInt32.toInt64 else if s = 2 then v.toInt32.toInt64 else v
theorem cut_r (v : Int64) {s : Nat} (hs : s ≤ 3) (σ : Mm) : fX12_cut v (nI s) σ = some (ctL v s, σ) := by
  have : s = 0 ∨ s = 1 ∨ s = 2 ∨ s = 3 := by omega
  rcases this with rfl | rfl | rfl | rfl <;> rfl
theorem put_c (o : Nat) (v : Int64) {s k : Nat} (hs : s ≤ 3) (hk : k < 60) (σ : Mm) (e : m_sc σ o 0 = nI s) : fX8_put o (nI k) v σ = some (w_la σ o 0 k (ctL v s)) := by
  unfold fX8_put
  rw [r_sc_s, e]
  simp only [s_la_n hk (show 60 < 2147483648 by decide)]
  have : s = 0 ∨ s = 1 ∨ s = 2 ∨ s = 3 := by omega
  rcases this with rfl | rfl | rfl | rfl <;> rfl
def spR (a b : Int32) (v : Int64) (G : GS) : Int32 × GS := match ix 4 a with
  | none => (0, stq 1 G)
  | some t => match g_y G t with
    | none => (0, stq 2 G)
    | some q => match ix q.2.1 b with
      | none => (0, stq 3 G)
      | some k => (1, suY (0, g_t G, g_b G) (yUp (g_y G) t (q.1, q.2.1, fun i => if i = k then ctL v q.1 else q.2.2 i)) G)
theorem write_c (a b : Int32) (v : Int64) (hW : WFG G) (h : RepC σ G) : OC (fX11_write 0 a b v σ) (spR a b v G) := by
  unfold fX11_write spR
  rcases ix_cases (n := 4) (by decide) a with ⟨ei, ha⟩ | ⟨t, ht, rfl, ei⟩ <;> rw [ei]
  · rw [tps_c1 ha]
    exact OC.rfs hW h _
  · dsimp only
    cases hy : g_y G t with
    | none =>
      rw [tps_c2 ht h hy]
      exact OC.rfs hW h _
    | some q =>
      have h2 := hW.1 t ht q hy
      dsimp only
      rcases ix_cases (n := q.2.1) (by omega) b with ⟨ej, hb⟩ | ⟨k, hk, rfl, ej⟩ <;> rw [ej]
      · rw [tps_c3 ht hW h hy hb]
        exact OC.rfs hW h _
      · have h1 := h.2.1 t ht
        rw [hy] at h1
        rw [tps_c0 ht hW h hy hk, c_I_s, if_pos rfl, g_bl_n ht (by decide), show ra 0 t = 15 + t from rfl, put_c (15 + t) v h2.1 (by omega) σ h1.1, c_V_s]
        have hB : ∀ i, i ≠ 15 + t → BU i σ (w_la σ (15 + t) 0 k (ctL v q.1)) := fun i hi => BU.lf hi
        refine ⟨_, rfl, RepC.uY (σ := σ) _ _ hW.2.2.2.1 (fun i _ hq => ?_) ⟨rfl, rfl, rfl, rfl, rfl⟩ ⟨rfl, h.1.2.1, h.1.2.2.1⟩ (fun i hi => ?_) h⟩
        · simp at hq
          exact (hB i (by omega)).tr (BU.sc (by omega))
        · unfold yUp
          by_cases c : i = t
          · subst c
            rw [if_pos rfl]
            refine ⟨?_, ?_, fun j hj => ?_⟩
            · rw [m_sc_sc, if_neg (by omega)]; exact h1.1
            · rw [m_sc_sc, if_neg (by omega)]; exact h1.2.1
            · rw [m_la_sc, m_la_la]
              by_cases c : j = k
              · simp [c]
              · simp [c]; exact h1.2.2 j hj
          · rw [if_neg c]
            exact (h.2.1 i hi).bu ((hB (15 + i) (by omega)).tr (BU.sc (by omega)))
theorem write_r (a b : Int32) (v : Int64) (hW : WFG G) (h : RepR σ G) : OR (fX12_write 31 a b v σ) (spR a b v G) := by
  unfold fX12_write spR
  rcases ix_cases (n := 4) (by decide) a with ⟨ei, ha⟩ | ⟨t, ht, rfl, ei⟩ <;> rw [ei]
  · rw [tps_r1 ha]
    exact OR.rfs (x := 1) hW h (by decide)
  · dsimp only
    cases hy : g_y G t with
    | none =>
      rw [tps_r2 ht h hy]
      exact OR.rfs (x := 2) hW h (by decide)
    | some q =>
      have h2 := hW.1 t ht q hy
      dsimp only
      rcases ix_cases (n := q.2.1) (by omega) b with ⟨ej, hb⟩ | ⟨k, hk, rfl, ej⟩ <;> rw [ej]
      · rw [tps_r3 ht hW h hy hb]
        exact OR.rfs (x := 3) hW h (by decide)
      · have h1 := h.2.1 t ht
        rw [hy] at h1
        rw [tps_r0 ht hW h hy hk, c_I_s, if_pos rfl, g_ar_n ht (by decide), h1.1, cut_r v h2.1, c_L_s, ln_60, nI_mul, nI_ad, s_la_n (by omega) (by decide)]
        refine ⟨_, rfl, RepR.uY (σ := σ) _ _ (fun j hj => ?_) (fun j hj => rfl) ?_ ⟨rfl, h.1.2.1, h.1.2.2.1⟩ (fun i hi => ?_) h⟩
        · rw [m_sc_sc, if_neg (by omega)]; rfl
        · funext j; rw [m_la_sc, m_la_la, if_neg (by omega)]
        · unfold yUp
          by_cases c : i = t
          · subst c
            rw [if_pos rfl]
            refine ⟨h1.1, h1.2.1, fun j hj => ?_⟩
            rw [m_la_sc, m_la_la]
            by_cases c : j = k
            · simp [c]
            · rw [if_neg (by omega)]; simp [c]; exact h1.2.2 j hj
          · rw [if_neg c]
            have := h.2.1 i hi
            cases hz : g_y G i with
            | none => rw [hz] at this; exact this
            | some y =>
              rw [hz] at this
              have hb := hW.1 i hi y hz
              refine ⟨this.1, this.2.1, fun j hj => ?_⟩
              rw [m_la_sc, m_la_la, if_neg (by omega)]; exact this.2.2 j hj
theorem write_w (a b : Int32) (v : Int64) (hW : WFG G) : WFG (spR a b v G).2 := by
  unfold spR
  rcases ix_cases (n := 4) (by decide) a with ⟨ei, ha⟩ | ⟨t, ht, rfl, ei⟩ <;> rw [ei]
  · exact hW
  · dsimp only
    cases hy : g_y G t with
    | none => exact hW
    | some q =>
      have h2 := hW.1 t ht q hy
      dsimp only
      rcases ix_cases (n := q.2.1) (by omega) b with ⟨ej, hb⟩ | ⟨k, hk, rfl, ej⟩ <;> rw [ej]
      · exact hW
      · exact hW.uY _ h2.1 h2.2
def spD (a b : Int32) (G : GS) : Int64 × GS := match ix 4 a with
  | none => (-1, stq 1 G)
  | some t => match g_y G t with
    | none => (-1, stq 2 G)
    | some q => match ix q.2.1 b with
      | none => (-1, stq 3 G)
      | some k => (q.2.2 k, stq 0 G)
theorem read_c (a b : Int32) (hW : WFG G) (h : RepC σ G) : ok (fX11_read 0 a b σ) (fun q => q.1 = (spD a b G).1 ∧ RepC q.2 (spD a b G).2) := by
  unfold fX11_read spD
  rcases ix_cases (n := 4) (by decide) a with ⟨ei, ha⟩ | ⟨t, ht, rfl, ei⟩ <;> rw [ei]
  · rw [tps_c1 ha]
    exact ⟨_, rfl, rfl, h.st 1 hW⟩
  · dsimp only
    cases hy : g_y G t with
    | none =>
      rw [tps_c2 ht h hy]
      exact ⟨_, rfl, rfl, h.st 2 hW⟩
    | some q =>
      have h2 := hW.1 t ht q hy
      dsimp only
      rcases ix_cases (n := q.2.1) (by omega) b with ⟨ej, hb⟩ | ⟨k, hk, rfl, ej⟩ <;> rw [ej]
      · rw [tps_c3 ht hW h hy hb]
        exact ⟨_, rfl, rfl, h.st 3 hW⟩
      · have h1 := h.2.1 t ht
        rw [hy] at h1
        rw [tps_c0 ht hW h hy hk, c_I_s, if_pos rfl, p_sc_s, g_bl_n ht (by decide), show ra 0 t = 15 + t from rfl, g_la_n (by omega) (by decide)]
        exact ⟨_, rfl, h1.2.2 k hk, h.st 0 hW⟩
theorem read_r (a b : Int32) (hW : WFG G) (h : RepR σ G) : ok (fX12_read 31 a b σ) (fun q => q.1 = (spD a b G).1 ∧ RepR q.2 (spD a b G).2) := by
  unfold fX12_read spD
  rcases ix_cases (n := 4) (by decide) a with ⟨ei, ha⟩ | ⟨t, ht, rfl, ei⟩ <;> rw [ei]
  · rw [tps_r1 ha]
    exact ⟨_, rfl, rfl, h.st 1 hW⟩
  · dsimp only
    cases hy : g_y G t with
    | none =>
      rw [tps_r2 ht h hy]
      exact ⟨_, rfl, rfl, h.st 2 hW⟩
    | some q =>
      have h2 := hW.1 t ht q hy
      dsimp only
      rcases ix_cases (n := q.2.1) (by omega) b with ⟨ej, hb⟩ | ⟨k, hk, rfl, ej⟩ <;> rw [ej]
      · rw [tps_r3 ht hW h hy hb]
        exact ⟨_, rfl, rfl, h.st 3 hW⟩
      · have h1 := h.2.1 t ht
        rw [hy] at h1
        rw [tps_r0 ht hW h hy hk, c_I_s, p_sc_s, r_sc_s, show m_sc (w_sc σ 31 2 0) 31 2 = 0 from rfl, if_pos (show (0 : Int32) ≤ 0 by decide), ln_60, nI_mul, nI_ad, g_la_n (by omega) (by decide)]
        exact ⟨_, rfl, h1.2.2 k hk, h.st 0 hW⟩
theorem write_s (a : Int32) (b : Int32) (v : Int64) (σ : Mm) (h : Rel σ) : ok (fX11_write 0 a b v σ) (fun q => ok (fX12_write 31 a b v q.2) (fun q' => q'.1 = q.1 ∧ Rel q'.2)) :=
  simS (fc := fX11_write 0 a b v) (fr := fX12_write 31 a b v) (ks := [8, 11]) (by decide) (spR a b v) (fun σ G => write_c a b v) (fun σ G => write_r a b v) (fun G hW => write_w a b v hW) (fun σ x τ ee => F_sub (frX11_write 0 a b v (by decide) σ ee) (by decide)) (fun σ x τ ee => F_sub (frX12_write 31 a b v (by decide) σ ee) (by decide)) σ h
theorem read_s (a : Int32) (b : Int32) (σ : Mm) (h : Rel σ) : ok (fX11_read 0 a b σ) (fun q => ok (fX12_read 31 a b q.2) (fun q' => q'.1 = q.1 ∧ Rel q'.2)) :=
  simL (fc := fX11_read 0 a b) (fr := fX12_read 31 a b) (ks := [8, 11]) (by decide) (fun G => (spD a b G).1) (fun G => (spD a b G).2) (fun σ G => read_c a b) (fun σ G => read_r a b) (fun G hW => by unfold spD; repeat (first | exact hW | split)) (fun σ x τ ee => F_sub (frX11_read 0 a b (by decide) σ ee) (by decide)) (fun σ x τ ee => F_sub (frX12_read 31 a b (by decide) σ ee) (by decide)) σ h
end O
