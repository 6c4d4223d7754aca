set_option maxRecDepth 100000 in
set_option maxHeartbeats 4000000 in
theorem frX11_holding (o : Nat) (a1 : Int32) (a2 : Int32) (ho : KD o = 11) (σ : Mm) {xr : Int32} {τ : Mm} (h : fX11_holding o a1 a2 σ = some (xr, τ)) : FK [4, 10, 11] σ τ := by
  unfold fX11_holding at h
  obtain ⟨x3, σ1, hc2, h⟩ := cI_t h
  refine F_call (frX11_isVane o a1 ho σ hc2) (by decide) ?_
  refine F_if h (fun h => ?_) (fun h => ?_)
  · skip
    obtain ⟨x6, σ4, hc5, h⟩ := cI_t h
    refine F_call (frX11_none o (1 : Int32) ho σ1 hc5) (by decide) ?_
    cases h
    exact F_refl
  · skip
    obtain ⟨x9, σ7, hc8, h⟩ := cI_t h
    refine F_call (frX11_isSpan o a2 ho σ1 hc8) (by decide) ?_
    refine F_ifn h (fun h => ?_) (fun h => ?_)
    · skip
      obtain ⟨x12, σ10, hc11, h⟩ := cI_t h
      refine F_call (frX11_allVanes o ho σ7 hc11) (by decide) ?_
      obtain ⟨x15, σ13, hc14, h⟩ := cI_t h
      refine F_call (frX11_with x12 a1 (0 : Int32) σ10 hc14) (by decide) ?_
      obtain ⟨σ16, hc17, h⟩ := cV_t h
      refine F_call (frX11_look o ho σ13 hc17) (by decide) ?_
      obtain ⟨x20, σ18, hc19, h⟩ := cI_t h
      refine F_call (frX10_wrongQuarters (tg o 14) x15 a2 (tk11_14 ho) σ16 hc19) (by decide) ?_
      obtain ⟨σ21, hc22, h⟩ := cV_t h
      refine F_call (frX11_look o ho σ18 hc22) (by decide) ?_
      refine F_rsc h (fun x23 h => ?_)
      obtain ⟨x26, σ24, hc25, h⟩ := cI_t h
      refine F_call (frX11_with x23 a1 (1 : Int32) σ21 hc25) (by decide) ?_
      refine F_psc (tk11_15 ho) (by decide) h (fun σ27 h => ?_)
      obtain ⟨x30, σ28, hc29, h⟩ := cI_t h
      refine F_call (frX10_wrongQuarters (tg o 14) x15 a2 (tk11_14 ho) σ27 hc29) (by decide) ?_
      obtain ⟨x33, σ31, hc32, h⟩ := cI_t h
      refine F_call (frX11_answer o (x30 - x20) ho σ28 hc32) (by decide) ?_
      cases h
      exact F_refl
    · skip
      obtain ⟨x36, σ34, hc35, h⟩ := cI_t h
      refine F_call (frX11_none o (1 : Int32) ho σ7 hc35) (by decide) ?_
      cases h
      exact F_refl
set_option maxRecDepth 100000 in
set_option maxHeartbeats 4000000 in
theorem frX11_helpers (o : Nat) (a1 : Int32) (ho : KD o = 11) (σ : Mm) {xr : Int32} {τ : Mm} (h : fX11_helpers o a1 σ = some (xr, τ)) : FK [10, 11] σ τ := by
  unfold fX11_helpers at h
  obtain ⟨x3, σ1, hc2, h⟩ := cI_t h
  refine F_call (frX11_isVane o a1 ho σ hc2) (by decide) ?_
  refine F_ifn h (fun h => ?_) (fun h => ?_)
  · skip
    obtain ⟨σ4, hc5, h⟩ := cV_t h
    refine F_call (frX11_workOnNow o ho σ1 hc5) (by decide) ?_
    obtain ⟨x8, σ6, hc7, h⟩ := cI_t h
    refine F_call (frX10_isRight (tg o 14) a1 (tk11_14 ho) σ4 hc7) (by decide) ?_
    refine F_if h (fun h => ?_) (fun h => ?_)
    · skip
      obtain ⟨x11, σ9, hc10, h⟩ := cI_t h
      refine F_call (frX10_shorterWay (tg o 14) a1 (tk11_14 ho) σ6 hc10) (by decide) ?_
      obtain ⟨x14, σ12, hc13, h⟩ := cI_t h
      refine F_call (frX10_engage (tg o 14) a1 x11 (tk11_14 ho) σ9 hc13) (by decide) ?_
      refine F_ifn h (fun h => ?_) (fun h => ?_)
      · skip
        obtain ⟨x17, σ15, hc16, h⟩ := cI_t h
        refine F_call (frX10_comingNearer (tg o 14) a1 (tk11_14 ho) σ12 hc16) (by decide) ?_
        obtain ⟨x20, σ18, hc19, h⟩ := cI_t h
        refine F_call (frX11_answer o x17 ho σ15 hc19) (by decide) ?_
        cases h
        exact F_refl
      · skip
        obtain ⟨x23, σ21, hc22, h⟩ := cI_t h
        refine F_call (frX11_none o (7 : Int32) ho σ12 hc22) (by decide) ?_
        cases h
        exact F_refl
    · skip
      obtain ⟨x26, σ24, hc25, h⟩ := cI_t h
      refine F_call (frX11_none o (6 : Int32) ho σ6 hc25) (by decide) ?_
      cases h
      exact F_refl
  · skip
    obtain ⟨x29, σ27, hc28, h⟩ := cI_t h
    refine F_call (frX11_none o (1 : Int32) ho σ1 hc28) (by decide) ?_
    cases h
    exact F_refl
set_option maxRecDepth 100000 in
set_option maxHeartbeats 4000000 in
theorem frX11_firstToTurn (o : Nat) (ho : KD o = 11) (σ : Mm) {xr : Int32} {τ : Mm} (h : fX11_firstToTurn o σ = some (xr, τ)) : FK [10, 11] σ τ := by
  unfold fX11_firstToTurn at h
  obtain ⟨σ1, hc2, h⟩ := cV_t h
  refine F_call (frX11_workOnNow o ho σ hc2) (by decide) ?_
  obtain ⟨x5, σ3, hc4, h⟩ := cI_t h
  refine F_call (frX10_firstDriven (tg o 14) (tk11_14 ho) σ1 hc4) (by decide) ?_
  refine F_ifn h (fun h => ?_) (fun h => ?_)
  · skip
    obtain ⟨x8, σ6, hc7, h⟩ := cI_t h
    refine F_call (frX11_answer o x5 ho σ3 hc7) (by decide) ?_
    cases h
    exact F_refl
  · skip
    obtain ⟨x11, σ9, hc10, h⟩ := cI_t h
    refine F_call (frX11_none o (6 : Int32) ho σ3 hc10) (by decide) ?_
    cases h
    exact F_refl
set_option maxRecDepth 100000 in
set_option maxHeartbeats 4000000 in
theorem ftX11_heaviest_64 {xr : Int32} {τ : Mm} (o : Nat) (ho : KD o = 11) (v1 : Int32) (σ : Mm) (h : fX11_heaviest_64 o v1 σ = some (xr, τ)) : FK [10, 11] σ τ := by
  unfold fX11_heaviest_64 at h
  refine F_ifn h (fun h => ?_) (fun h => ?_)
  · skip
    obtain ⟨x13, σ11, hc12, h⟩ := cI_t h
    refine F_call (frX11_answer o v1 ho σ hc12) (by decide) ?_
    cases h
    exact F_refl
  · skip
    obtain ⟨x16, σ14, hc15, h⟩ := cI_t h
    refine F_call (frX11_none o (6 : Int32) ho σ hc15) (by decide) ?_
    cases h
    exact F_refl
set_option maxRecDepth 100000 in
set_option maxHeartbeats 4000000 in
theorem ftX11_heaviest_10 {xr : Int32} {τ : Mm} (o : Nat) (ho : KD o = 11) : ∀ (n : Nat) (v1 : Int32) (v2 : Int32) (v3 : Int32) (σ : Mm), fX11_heaviest_10 o n v1 v2 v3 σ = some (xr, τ) → FK [10, 11] σ τ := by
  intro n
  induction n with
  | zero => intro v1 v2 v3 σ h; rw [fX11_heaviest_10] at h; cases h
  | succ n ih =>
    intro v1 v2 v3 σ h
    rw [fX11_heaviest_10] at h
    refine F_rrf h (fun q3 hq3 h => ?_)
    refine F_rsc h (fun x4 h => ?_)
    refine F_if h (fun h => ?_) (fun h => ?_)
    · skip
      exact ftX11_heaviest_64 o ho v1 σ h
    · skip
      obtain ⟨x7, σ5, hc6, h⟩ := cI_t h
      refine F_call (frX10_loadOf (tg o 14) v3 (1 : Int32) (tk11_14 ho) σ hc6) (by decide) ?_
      obtain ⟨x10, σ8, hc9, h⟩ := cI_t h
      refine F_call (frX10_loadOf (tg o 14) v3 (-1 : Int32) (tk11_14 ho) σ5 hc9) (by decide) ?_
      refine F_if h (fun h => ?_) (fun h => ?_)
      · skip
        exact ih v1 v2 (v3 + (1 : Int32)) σ8 h
      · skip
        exact ih v3 (if x7 < x10 then x10 else x7) (v3 + (1 : Int32)) σ8 h
set_option maxRecDepth 100000 in
set_option maxHeartbeats 4000000 in
theorem frX11_heaviest (o : Nat) (ho : KD o = 11) (σ : Mm) {xr : Int32} {τ : Mm} (h : fX11_heaviest o σ = some (xr, τ)) : FK [10, 11] σ τ := by
  unfold fX11_heaviest at h
  obtain ⟨σ1, hc2, h⟩ := cV_t h
  refine F_call (frX11_workOnNow o ho σ hc2) (by decide) ?_
  exact ftX11_heaviest_10 o ho FU (-1 : Int32) (0 : Int32) (0 : Int32) σ1 h
set_option maxRecDepth 100000 in
set_option maxHeartbeats 4000000 in
theorem ftX11_farthest_51 {xr : Int32} {τ : Mm} (o : Nat) (ho : KD o = 11) (v1 : Int32) (σ : Mm) (h : fX11_farthest_51 o v1 σ = some (xr, τ)) : FK [10, 11] σ τ := by
  unfold fX11_farthest_51 at h
  refine F_ifn h (fun h => ?_) (fun h => ?_)
  · skip
    obtain ⟨x10, σ8, hc9, h⟩ := cI_t h
    refine F_call (frX11_answer o v1 ho σ hc9) (by decide) ?_
    cases h
    exact F_refl
  · skip
    obtain ⟨x13, σ11, hc12, h⟩ := cI_t h
    refine F_call (frX11_none o (6 : Int32) ho σ hc12) (by decide) ?_
    cases h
    exact F_refl
set_option maxRecDepth 100000 in
set_option maxHeartbeats 4000000 in
theorem ftX11_farthest_10 {xr : Int32} {τ : Mm} (o : Nat) (ho : KD o = 11) : ∀ (n : Nat) (v1 : Int32) (v2 : Int32) (v3 : Int32) (σ : Mm), fX11_farthest_10 o n v1 v2 v3 σ = some (xr, τ) → FK [10, 11] σ τ := by
  intro n
  induction n with
  | zero => intro v1 v2 v3 σ h; rw [fX11_farthest_10] at h; cases h
  | succ n ih =>
    intro v1 v2 v3 σ h
    rw [fX11_farthest_10] at h
    refine F_rrf h (fun q3 hq3 h => ?_)
    refine F_rsc h (fun x4 h => ?_)
    refine F_if h (fun h => ?_) (fun h => ?_)
    · skip
      exact ftX11_farthest_51 o ho v1 σ h
    · skip
      obtain ⟨x7, σ5, hc6, h⟩ := cI_t h
      refine F_call (frX10_gapNow (tg o 14) v3 (tk11_14 ho) σ hc6) (by decide) ?_
      refine F_if h (fun h => ?_) (fun h => ?_)
      · skip
        exact ih v1 v2 (v3 + (1 : Int32)) σ5 h
      · skip
        exact ih v3 x7 (v3 + (1 : Int32)) σ5 h
set_option maxRecDepth 100000 in
set_option maxHeartbeats 4000000 in
theorem frX11_farthest (o : Nat) (ho : KD o = 11) (σ : Mm) {xr : Int32} {τ : Mm} (h : fX11_farthest o σ = some (xr, τ)) : FK [10, 11] σ τ := by
  unfold fX11_farthest at h
  obtain ⟨σ1, hc2, h⟩ := cV_t h
  refine F_call (frX11_workOnNow o ho σ hc2) (by decide) ?_
  exact ftX11_farthest_10 o ho FU (-1 : Int32) (0 : Int32) (0 : Int32) σ1 h
set_option maxRecDepth 100000 in
set_option maxHeartbeats 4000000 in
theorem frX11_calmed (o : Nat) (ho : KD o = 11) (σ : Mm) {xr : Int32} {τ : Mm} (h : fX11_calmed o σ = some (xr, τ)) : FK [4, 10, 11] σ τ := by
  unfold fX11_calmed at h
  obtain ⟨x3, σ1, hc2, h⟩ := cI_t h
  refine F_call (frX11_quartersToCalm o ho σ hc2) (by decide) ?_
  refine F_ifn h (fun h => ?_) (fun h => ?_)
  · skip
    obtain ⟨x6, σ4, hc5, h⟩ := cI_t h
    refine F_call (frX11_answer o x3 ho σ1 hc5) (by decide) ?_
    cases h
    exact F_refl
  · skip
    obtain ⟨x9, σ7, hc8, h⟩ := cI_t h
    refine F_call (frX11_none o (6 : Int32) ho σ1 hc8) (by decide) ?_
    cases h
    exact F_refl
set_option maxRecDepth 100000 in
set_option maxHeartbeats 4000000 in
theorem frX11_teeth (o : Nat) (a1 : Int32) (ho : KD o = 11) (σ : Mm) {xr : Int32} {τ : Mm} (h : fX11_teeth o a1 σ = some (xr, τ)) : FK [4, 10, 11] σ τ := by
  unfold fX11_teeth at h
  obtain ⟨x3, σ1, hc2, h⟩ := cI_t h
  refine F_call (frX11_isSpan o a1 ho σ hc2) (by decide) ?_
  refine F_ifn h (fun h => ?_) (fun h => ?_)
  · skip
    obtain ⟨σ4, hc5, h⟩ := cV_t h
    refine F_call (frX11_look o ho σ1 hc5) (by decide) ?_
    obtain ⟨x8, σ6, hc7, h⟩ := cI_t h
    refine F_call (frX10_goOn (tg o 14) a1 (tk11_14 ho) σ4 hc7) (by decide) ?_
    refine F_rsc h (fun x9 h => ?_)
    obtain ⟨x12, σ10, hc11, h⟩ := cI_t h
    refine F_call (frX11_answer o x9 ho σ6 hc11) (by decide) ?_
    cases h
    exact F_refl
  · skip
    obtain ⟨x15, σ13, hc14, h⟩ := cI_t h
    refine F_call (frX11_none o (1 : Int32) ho σ1 hc14) (by decide) ?_
    cases h
    exact F_refl
set_option maxRecDepth 100000 in
set_option maxHeartbeats 4000000 in
theorem frX11_isBlowing (o : Nat) (a1 : Int32) (ho : KD o = 11) (σ : Mm) {xr : Int32} {τ : Mm} (h : fX11_isBlowing o a1 σ = some (xr, τ)) : FK [] σ τ := by
  unfold fX11_isBlowing at h
  refine F_if h (fun h => ?_) (fun h => ?_)
  · skip
    cases h
    exact F_refl
  · skip
    refine F_if h (fun h => ?_) (fun h => ?_)
    · skip
      cases h
      exact F_refl
    · skip
      cases h
      exact F_refl
set_option maxRecDepth 100000 in
set_option maxHeartbeats 4000000 in
theorem frX11_rightsBehind (o : Nat) (a1 : Int32) (ho : KD o = 11) (σ : Mm) {xr : Int32} {τ : Mm} (h : fX11_rightsBehind o a1 σ = some (xr, τ)) : FK [4, 10] σ τ := by
  unfold fX11_rightsBehind at h
  obtain ⟨x3, σ1, hc2, h⟩ := cI_t h
  refine F_call (frX10_goOn (tg o 14) a1 (tk11_14 ho) σ hc2) (by decide) ?_
  obtain ⟨x6, σ4, hc5, h⟩ := cI_t h
  refine F_call (frX10_rightSet (tg o 14) (tk11_14 ho) σ1 hc5) (by decide) ?_
  obtain ⟨x9, σ7, hc8, h⟩ := cI_t h
  refine F_call (frJ6_bitCount_0f7a4 x6 σ4 hc8) (by decide) ?_
  cases h
  exact F_refl
set_option maxRecDepth 100000 in
set_option maxHeartbeats 4000000 in
theorem ftX11_bestWind_30 {xr : Int32} {τ : Mm} (o : Nat) (a1 : Int32) (a2 : Int32) (ho : KD o = 11) : ∀ (n : Nat) (v3 : Int32) (v4 : Int32) (v5 : Int32) (σ : Mm), fX11_bestWind_30 o a1 a2 n v3 v4 v5 σ = some (xr, τ) → FK [4, 10, 11] σ τ := by
  intro n
  induction n with
  | zero => intro v3 v4 v5 σ h; rw [fX11_bestWind_30] at h; cases h
  | succ n ih =>
    intro v3 v4 v5 σ h
    rw [fX11_bestWind_30] at h
    refine F_if h (fun h => ?_) (fun h => ?_)
    · skip
      obtain ⟨x15, σ13, hc14, h⟩ := cI_t h
      refine F_call (frX11_answer o v3 ho σ hc14) (by decide) ?_
      cases h
      exact F_refl
    · skip
      obtain ⟨σ16, hc17, h⟩ := cV_t h
      refine F_call (frX11_look o ho σ hc17) (by decide) ?_
      obtain ⟨σ18, hc19, h⟩ := cV_t h
      refine F_call (frX10_blowEverywhere (tg o 14) v5 a1 (tk11_14 ho) σ16 hc19) (by decide) ?_
      obtain ⟨x22, σ20, hc21, h⟩ := cI_t h
      refine F_call (frX11_rightsBehind o a2 ho σ18 hc21) (by decide) ?_
      refine F_if h (fun h => ?_) (fun h => ?_)
      · skip
        exact ih v3 v4 (v5 + (1 : Int32)) σ20 h
      · skip
        exact ih v5 x22 (v5 + (1 : Int32)) σ20 h
set_option maxRecDepth 100000 in
set_option maxHeartbeats 4000000 in
theorem frX11_bestWind (o : Nat) (a1 : Int32) (a2 : Int32) (ho : KD o = 11) (σ : Mm) {xr : Int32} {τ : Mm} (h : fX11_bestWind o a1 a2 σ = some (xr, τ)) : FK [4, 10, 11] σ τ := by
  unfold fX11_bestWind at h
  obtain ⟨x3, σ1, hc2, h⟩ := cI_t h
  refine F_call (frX11_isBlowing o a1 ho σ hc2) (by decide) ?_
  refine F_if h (fun h => ?_) (fun h => ?_)
  · skip
    obtain ⟨x6, σ4, hc5, h⟩ := cI_t h
    refine F_call (frX11_none o (1 : Int32) ho σ1 hc5) (by decide) ?_
    cases h
    exact F_refl
  · skip
    obtain ⟨x9, σ7, hc8, h⟩ := cI_t h
    refine F_call (frX11_isAhead o a2 ho σ1 hc8) (by decide) ?_
    refine F_ifn h (fun h => ?_) (fun h => ?_)
    · skip
      exact ftX11_bestWind_30 o a1 a2 ho FU (-1 : Int32) (-1 : Int32) (0 : Int32) σ7 h
    · skip
      obtain ⟨x12, σ10, hc11, h⟩ := cI_t h
      refine F_call (frX11_none o (1 : Int32) ho σ7 hc11) (by decide) ?_
      cases h
      exact F_refl
set_option maxRecDepth 100000 in
set_option maxHeartbeats 4000000 in
theorem frX11_parting (o : Nat) (ho : KD o = 11) (σ : Mm) {xr : Int32} {τ : Mm} (h : fX11_parting o σ = some (xr, τ)) : FK [0, 11] σ τ := by
  unfold fX11_parting at h
  refine F_rrf h (fun q1 hq1 h => ?_)
  refine F_rsc h (fun x2 h => ?_)
  obtain ⟨x5, σ3, hc4, h⟩ := cI_t h
  refine F_call (frX0_partingShafts (tg o 16) q1 x2 (tk11_16 ho) hq1 σ hc4) (by decide) ?_
  obtain ⟨x8, σ6, hc7, h⟩ := cI_t h
  refine F_call (frX11_answer o x5 ho σ3 hc7) (by decide) ?_
  cases h
  exact F_refl
set_option maxRecDepth 100000 in
set_option maxHeartbeats 4000000 in
theorem ftX11_mending_114 {xr : Int32} {τ : Mm} (o : Nat) (a1 : Int32) (ho : KD o = 11) (v3 : Int32) (σ : Mm) (h : fX11_mending_114 o a1 v3 σ = some (xr, τ)) : FK [4, 10, 11] σ τ := by
  unfold fX11_mending_114 at h
  refine F_ifn h (fun h => ?_) (fun h => ?_)
  · skip
    obtain ⟨x30, σ28, hc29, h⟩ := cI_t h
    refine F_call (frX11_answer o v3 ho σ hc29) (by decide) ?_
    cases h
    exact F_refl
  · skip
    obtain ⟨x33, σ31, hc32, h⟩ := cI_t h
    refine F_call (frX11_none o (6 : Int32) ho σ hc32) (by decide) ?_
    cases h
    exact F_refl
set_option maxRecDepth 100000 in
set_option maxHeartbeats 4000000 in
theorem ftX11_mending_29 {xr : Int32} {τ : Mm} (o : Nat) (a1 : Int32) (ho : KD o = 11) : ∀ (n : Nat) (v2 : Int32) (v3 : Int32) (v4 : Int32) (σ : Mm), fX11_mending_29 o a1 n v2 v3 v4 σ = some (xr, τ) → FK [4, 10, 11] σ τ := by
  intro n
  induction n with
  | zero => intro v2 v3 v4 σ h; rw [fX11_mending_29] at h; cases h
  | succ n ih =>
    intro v2 v3 v4 σ h
    rw [fX11_mending_29] at h
    refine F_rrf h (fun q12 hq12 h => ?_)
    refine F_rsc h (fun x13 h => ?_)
    refine F_if h (fun h => ?_) (fun h => ?_)
    · skip
      exact ftX11_mending_114 o a1 ho v3 σ h
    · skip
      refine F_rsc h (fun x14 h => ?_)
      obtain ⟨x17, σ15, hc16, h⟩ := cI_t h
      refine F_call (frX11_has x14 v4 σ hc16) (by decide) ?_
      refine F_if h (fun h => ?_) (fun h => ?_)
      · skip
        obtain ⟨σ18, hc19, h⟩ := cV_t h
        refine F_call (frX11_look o ho σ15 hc19) (by decide) ?_
        refine F_rsc h (fun x20 h => ?_)
        obtain ⟨x23, σ21, hc22, h⟩ := cI_t h
        refine F_call (frX11_with x20 v4 (1 : Int32) σ18 hc22) (by decide) ?_
        refine F_psc (tk11_15 ho) (by decide) h (fun σ24 h => ?_)
        obtain ⟨x27, σ25, hc26, h⟩ := cI_t h
        refine F_call (frX11_rightsBehind o a1 ho σ24 hc26) (by decide) ?_
        refine F_if h (fun h => ?_) (fun h => ?_)
        · skip
          exact ih v2 v3 (v4 + (1 : Int32)) σ25 h
        · skip
          exact ih x27 v4 (v4 + (1 : Int32)) σ25 h
      · skip
        exact ih v2 v3 (v4 + (1 : Int32)) σ15 h
set_option maxRecDepth 100000 in
set_option maxHeartbeats 4000000 in
theorem frX11_mending (o : Nat) (a1 : Int32) (ho : KD o = 11) (σ : Mm) {xr : Int32} {τ : Mm} (h : fX11_mending o a1 σ = some (xr, τ)) : FK [4, 10, 11] σ τ := by
  unfold fX11_mending at h
  obtain ⟨x3, σ1, hc2, h⟩ := cI_t h
  refine F_call (frX11_isAhead o a1 ho σ hc2) (by decide) ?_
  refine F_ifn h (fun h => ?_) (fun h => ?_)
  · skip
    obtain ⟨σ4, hc5, h⟩ := cV_t h
    refine F_call (frX11_look o ho σ1 hc5) (by decide) ?_
    obtain ⟨x8, σ6, hc7, h⟩ := cI_t h
    refine F_call (frX11_rightsBehind o a1 ho σ4 hc7) (by decide) ?_
    exact ftX11_mending_29 o a1 ho FU x8 (-1 : Int32) (0 : Int32) σ6 h
  · skip
    obtain ⟨x11, σ9, hc10, h⟩ := cI_t h
    refine F_call (frX11_none o (1 : Int32) ho σ1 hc10) (by decide) ?_
    cases h
    exact F_refl
set_option maxRecDepth 100000 in
set_option maxHeartbeats 4000000 in
theorem ftX11_leavingWinds_4 {xr : Int32} {τ : Mm} (o : Nat) (a1 : Int32) (ho : KD o = 11) : ∀ (n : Nat) (v2 : Int32) (v3 : Int32) (σ : Mm), fX11_leavingWinds_4 o a1 n v2 v3 σ = some (xr, τ) → FK [4, 10] σ τ := by
  intro n
  induction n with
  | zero => intro v2 v3 σ h; rw [fX11_leavingWinds_4] at h; cases h
  | succ n ih =>
    intro v2 v3 σ h
    rw [fX11_leavingWinds_4] at h
    refine F_if h (fun h => ?_) (fun h => ?_)
    · skip
      cases h
      exact F_refl
    · skip
      obtain ⟨σ1, hc2, h⟩ := cV_t h
      refine F_call (frX10_blowEverywhere (tg o 14) v3 a1 (tk11_14 ho) σ hc2) (by decide) ?_
      obtain ⟨x5, σ3, hc4, h⟩ := cI_t h
      refine F_call (frX10_firstDriven (tg o 14) (tk11_14 ho) σ1 hc4) (by decide) ?_
      refine F_ifn h (fun h => ?_) (fun h => ?_)
      · skip
        exact ih v2 (v3 + (1 : Int32)) σ3 h
      · skip
        obtain ⟨x8, σ6, hc7, h⟩ := cI_t h
        refine F_call (frX11_with v2 v3 (1 : Int32) σ3 hc7) (by decide) ?_
        exact ih x8 (v3 + (1 : Int32)) σ6 h
set_option maxRecDepth 100000 in
set_option maxHeartbeats 4000000 in
theorem frX11_leavingWinds (o : Nat) (a1 : Int32) (ho : KD o = 11) (σ : Mm) {xr : Int32} {τ : Mm} (h : fX11_leavingWinds o a1 σ = some (xr, τ)) : FK [4, 10] σ τ := by
  unfold fX11_leavingWinds at h
  exact ftX11_leavingWinds_4 o a1 ho FU (0 : Int32) (0 : Int32) σ h
set_option maxRecDepth 100000 in
set_option maxHeartbeats 4000000 in
theorem frX11_leaving (o : Nat) (a1 : Int32) (ho : KD o = 11) (σ : Mm) {xr : Int32} {τ : Mm} (h : fX11_leaving o a1 σ = some (xr, τ)) : FK [4, 10, 11] σ τ := by
  unfold fX11_leaving at h
  obtain ⟨x3, σ1, hc2, h⟩ := cI_t h
  refine F_call (frX11_isBlowing o a1 ho σ hc2) (by decide) ?_
  refine F_ifn h (fun h => ?_) (fun h => ?_)
  · skip
    obtain ⟨σ4, hc5, h⟩ := cV_t h
    refine F_call (frX11_look o ho σ1 hc5) (by decide) ?_
    obtain ⟨x8, σ6, hc7, h⟩ := cI_t h
    refine F_call (frX11_leavingWinds o a1 ho σ4 hc7) (by decide) ?_
    obtain ⟨x11, σ9, hc10, h⟩ := cI_t h
    refine F_call (frX11_answer o x8 ho σ6 hc10) (by decide) ?_
    cases h
    exact F_refl
  · skip
    obtain ⟨x14, σ12, hc13, h⟩ := cI_t h
    refine F_call (frX11_none o (1 : Int32) ho σ1 hc13) (by decide) ?_
    cases h
    exact F_refl
set_option maxRecDepth 100000 in
set_option maxHeartbeats 4000000 in
theorem ftX11_knowing_119 {xr : Int32} {τ : Mm} (o : Nat) (a1 : Int32) (ho : KD o = 11) (v3 : Int32) (σ : Mm) (h : fX11_knowing_119 o a1 v3 σ = some (xr, τ)) : FK [4, 10, 11] σ τ := by
  unfold fX11_knowing_119 at h
  refine F_ifn h (fun h => ?_) (fun h => ?_)
  · skip
    obtain ⟨x34, σ32, hc33, h⟩ := cI_t h
    refine F_call (frX11_answer o v3 ho σ hc33) (by decide) ?_
    cases h
    exact F_refl
  · skip
    obtain ⟨x37, σ35, hc36, h⟩ := cI_t h
    refine F_call (frX11_none o (6 : Int32) ho σ hc36) (by decide) ?_
    cases h
    exact F_refl
set_option maxRecDepth 100000 in
set_option maxHeartbeats 4000000 in
theorem ftX11_knowing_32 {xr : Int32} {τ : Mm} (o : Nat) (a1 : Int32) (ho : KD o = 11) : ∀ (n : Nat) (v2 : Int32) (v3 : Int32) (v4 : Int32) (σ : Mm), fX11_knowing_32 o a1 n v2 v3 v4 σ = some (xr, τ) → FK [4, 10, 11] σ τ := by
  intro n
  induction n with
  | zero => intro v2 v3 v4 σ h; rw [fX11_knowing_32] at h; cases h
  | succ n ih =>
    intro v2 v3 v4 σ h
    rw [fX11_knowing_32] at h
    refine F_rrf h (fun q15 hq15 h => ?_)
    refine F_rsc h (fun x16 h => ?_)
    refine F_if h (fun h => ?_) (fun h => ?_)
    · skip
      exact ftX11_knowing_119 o a1 ho v3 σ h
    · skip
      refine F_rsc h (fun x17 h => ?_)
      obtain ⟨x20, σ18, hc19, h⟩ := cI_t h
      refine F_call (frX11_has x17 v4 σ hc19) (by decide) ?_
      refine F_if h (fun h => ?_) (fun h => ?_)
      · skip
        refine F_rsc h (fun x21 h => ?_)
        obtain ⟨x24, σ22, hc23, h⟩ := cI_t h
        refine F_call (frX11_with x21 v4 (1 : Int32) σ18 hc23) (by decide) ?_
        refine F_psc (tk11_15 ho) (by decide) h (fun σ25 h => ?_)
        obtain ⟨x28, σ26, hc27, h⟩ := cI_t h
        refine F_call (frX11_leavingWinds o a1 ho σ25 hc27) (by decide) ?_
        obtain ⟨x31, σ29, hc30, h⟩ := cI_t h
        refine F_call (frJ6_bitCount_0f7a4 x28 σ26 hc30) (by decide) ?_
        refine F_if h (fun h => ?_) (fun h => ?_)
        · skip
          exact ih v2 v3 (v4 + (1 : Int32)) σ29 h
        · skip
          exact ih x31 v4 (v4 + (1 : Int32)) σ29 h
      · skip
        exact ih v2 v3 (v4 + (1 : Int32)) σ18 h
set_option maxRecDepth 100000 in
set_option maxHeartbeats 4000000 in
theorem frX11_knowing (o : Nat) (a1 : Int32) (ho : KD o = 11) (σ : Mm) {xr : Int32} {τ : Mm} (h : fX11_knowing o a1 σ = some (xr, τ)) : FK [4, 10, 11] σ τ := by
  unfold fX11_knowing at h
  obtain ⟨x3, σ1, hc2, h⟩ := cI_t h
  refine F_call (frX11_isBlowing o a1 ho σ hc2) (by decide) ?_
  refine F_ifn h (fun h => ?_) (fun h => ?_)
  · skip
    obtain ⟨σ4, hc5, h⟩ := cV_t h
    refine F_call (frX11_look o ho σ1 hc5) (by decide) ?_
    obtain ⟨x8, σ6, hc7, h⟩ := cI_t h
    refine F_call (frX11_leavingWinds o a1 ho σ4 hc7) (by decide) ?_
    obtain ⟨x11, σ9, hc10, h⟩ := cI_t h
    refine F_call (frJ6_bitCount_0f7a4 x8 σ6 hc10) (by decide) ?_
    exact ftX11_knowing_32 o a1 ho FU x11 (-1 : Int32) (0 : Int32) σ9 h
  · skip
    obtain ⟨x14, σ12, hc13, h⟩ := cI_t h
    refine F_call (frX11_none o (1 : Int32) ho σ1 hc13) (by decide) ?_
    cases h
    exact F_refl
set_option maxRecDepth 100000 in
set_option maxHeartbeats 4000000 in
theorem ftX11_holdsTeeth_10 {xr : Int32} {τ : Mm} (o : Nat) (a1 : Nat) (a2 : Int32) (ho : KD o = 11) (ha1 : KD a1 = 8) (k2 : Int32 → Mm → Option (Int32 × Mm)) (hk2 : ∀ (v3 : Int32) (σ : Mm), k2 v3 σ = some (xr, τ) → FK [] σ τ) : ∀ (n : Nat) (v3 : Int32) (v4 : Int32) (σ : Mm), fX11_holdsTeeth_10 o a1 a2 k2 n v3 v4 σ = some (xr, τ) → FK [] σ τ := by
  intro n
  induction n with
  | zero => intro v3 v4 σ h; rw [fX11_holdsTeeth_10] at h; cases h
  | succ n ih =>
    intro v3 v4 σ h
    rw [fX11_holdsTeeth_10] at h
    refine F_rrf h (fun q1 hq1 h => ?_)
    refine F_rsc h (fun x2 h => ?_)
    refine F_if h (fun h => ?_) (fun h => ?_)
    · skip
      exact hk2 (v3 + (1 : Int32)) σ h
    · skip
      refine F_rrf h (fun q3 hq3 h => ?_)
      refine F_rsc h (fun x4 h => ?_)
      refine F_gla h (fun x5 h => ?_)
      refine F_if h (fun h => ?_) (fun h => ?_)
      · skip
        cases h
        exact F_refl
      · skip
        refine F_rrf h (fun q6 hq6 h => ?_)
        refine F_gar h (fun x7 h => ?_)
        refine F_if h (fun h => ?_) (fun h => ?_)
        · skip
          exact ih v3 (v4 + (1 : Int32)) σ h
        · skip
          cases h
          exact F_refl
set_option maxRecDepth 100000 in
set_option maxHeartbeats 4000000 in
theorem ftX11_holdsTeeth_2 {xr : Int32} {τ : Mm} (o : Nat) (a1 : Nat) (a2 : Int32) (ho : KD o = 11) (ha1 : KD a1 = 8) : ∀ (n : Nat) (v3 : Int32) (σ : Mm), fX11_holdsTeeth_2 o a1 a2 n v3 σ = some (xr, τ) → FK [] σ τ := by
  intro n
  induction n with
  | zero => intro v3 σ h; rw [fX11_holdsTeeth_2] at h; cases h
  | succ n ih =>
    intro v3 σ h
    rw [fX11_holdsTeeth_2] at h
    refine F_if h (fun h => ?_) (fun h => ?_)
    · skip
      cases h
      exact F_refl
    · skip
      exact ftX11_holdsTeeth_10 o a1 a2 ho ha1 (fX11_holdsTeeth_2 o a1 a2 n) ih FU v3 (0 : Int32) σ h
set_option maxRecDepth 100000 in
set_option maxHeartbeats 4000000 in
theorem frX11_holdsTeeth (o : Nat) (a1 : Nat) (a2 : Int32) (ho : KD o = 11) (ha1 : KD a1 = 8) (σ : Mm) {xr : Int32} {τ : Mm} (h : fX11_holdsTeeth o a1 a2 σ = some (xr, τ)) : FK [] σ τ := by
  unfold fX11_holdsTeeth at h
  exact ftX11_holdsTeeth_2 o a1 a2 ho ha1 FU (0 : Int32) σ h
set_option maxRecDepth 100000 in
set_option maxHeartbeats 4000000 in
theorem frX11_seenStatus (o : Nat) (a1 : Int32) (a2 : Int32) (ho : KD o = 11) (σ : Mm) {xr : Int32} {τ : Mm} (h : fX11_seenStatus o a1 a2 σ = some (xr, τ)) : FK [] σ τ := by
  unfold fX11_seenStatus at h
  obtain ⟨x3, σ1, hc2, h⟩ := cI_t h
  refine F_call (frX11_isTray o a1 ho σ hc2) (by decide) ?_
  refine F_if h (fun h => ?_) (fun h => ?_)
  · skip
    cases h
    exact F_refl
  · skip
    refine F_if h (fun h => ?_) (fun h => ?_)
    · skip
      cases h
      exact F_refl
    · skip
      refine F_if h (fun h => ?_) (fun h => ?_)
      · skip
        refine F_gbl (fun _ q => kr0 q) h (fun q4 hq4 h => ?_)
        obtain ⟨x7, σ5, hc6, h⟩ := cI_t h
        refine F_call (frX8_isMissing q4 hq4 σ1 hc6) (by decide) ?_
        refine F_if h (fun h => ?_) (fun h => ?_)
        · skip
          refine F_gbl (fun _ q => kr0 q) h (fun q8 hq8 h => ?_)
          refine F_rrf h (fun q9 hq9 h => ?_)
          refine F_rsc h (fun x10 h => ?_)
          obtain ⟨x13, σ11, hc12, h⟩ := cI_t h
          refine F_call (frX8_hasFrom q8 (0 : Int32) (a2 * x10) hq8 σ5 hc12) (by decide) ?_
          refine F_ifn h (fun h => ?_) (fun h => ?_)
          · skip
            refine F_gbl (fun _ q => kr0 q) h (fun q14 hq14 h => ?_)
            obtain ⟨x17, σ15, hc16, h⟩ := cI_t h
            refine F_call (frX11_holdsTeeth o q14 a2 ho hq14 σ11 hc16) (by decide) ?_
            refine F_if h (fun h => ?_) (fun h => ?_)
            · skip
              cases h
              exact F_refl
            · skip
              cases h
              exact F_refl
          · skip
            cases h
            exact F_refl
        · skip
          cases h
          exact F_refl
      · skip
        cases h
        exact F_refl
set_option maxRecDepth 100000 in
set_option maxHeartbeats 4000000 in
theorem ftX11_comesAsSeen_19 {xr : Int32} {τ : Mm} (o : Nat) (a1 : Nat) (a2 : Int32) (ho : KD o = 11) (ha1 : KD a1 = 8) (k2 : Int32 → Mm → Option (Int32 × Mm)) (hk2 : ∀ (v3 : Int32) (σ : Mm), k2 v3 σ = some (xr, τ) → FK [4, 10] σ τ) : ∀ (n : Nat) (v3 : Int32) (v4 : Int32) (σ : Mm), fX11_comesAsSeen_19 o a1 a2 k2 n v3 v4 σ = some (xr, τ) → FK [4, 10] σ τ := by
  intro n
  induction n with
  | zero => intro v3 v4 σ h; rw [fX11_comesAsSeen_19] at h; cases h
  | succ n ih =>
    intro v3 v4 σ h
    rw [fX11_comesAsSeen_19] at h
    refine F_rrf h (fun q4 hq4 h => ?_)
    refine F_rsc h (fun x5 h => ?_)
    refine F_if h (fun h => ?_) (fun h => ?_)
    · skip
      exact hk2 (v3 + (1 : Int32)) σ h
    · skip
      refine F_rrf h (fun q6 hq6 h => ?_)
      refine F_rsc h (fun x7 h => ?_)
      refine F_gla h (fun x8 h => ?_)
      refine F_gar h (fun x9 h => ?_)
      refine F_if h (fun h => ?_) (fun h => ?_)
      · skip
        exact ih v3 (v4 + (1 : Int32)) σ h
      · skip
        cases h
        exact F_refl
set_option maxRecDepth 100000 in
set_option maxHeartbeats 4000000 in
theorem ftX11_comesAsSeen_2 {xr : Int32} {τ : Mm} (o : Nat) (a1 : Nat) (a2 : Int32) (ho : KD o = 11) (ha1 : KD a1 = 8) : ∀ (n : Nat) (v3 : Int32) (σ : Mm), fX11_comesAsSeen_2 o a1 a2 n v3 σ = some (xr, τ) → FK [4, 10] σ τ := by
  intro n
  induction n with
  | zero => intro v3 σ h; rw [fX11_comesAsSeen_2] at h; cases h
  | succ n ih =>
    intro v3 σ h
    rw [fX11_comesAsSeen_2] at h
    refine F_if h (fun h => ?_) (fun h => ?_)
    · skip
      cases h
      exact F_refl
    · skip
      obtain ⟨x3, σ1, hc2, h⟩ := cI_t h
      refine F_call (frX10_goOn (tg o 14) (1 : Int32) (tk11_14 ho) σ hc2) (by decide) ?_
      exact ftX11_comesAsSeen_19 o a1 a2 ho ha1 (fX11_comesAsSeen_2 o a1 a2 n) ih FU v3 (0 : Int32) σ1 h
set_option maxRecDepth 100000 in
set_option maxHeartbeats 4000000 in
theorem frX11_comesAsSeen (o : Nat) (a1 : Nat) (a2 : Int32) (ho : KD o = 11) (ha1 : KD a1 = 8) (σ : Mm) {xr : Int32} {τ : Mm} (h : fX11_comesAsSeen o a1 a2 σ = some (xr, τ)) : FK [4, 10] σ τ := by
  unfold fX11_comesAsSeen at h
  exact ftX11_comesAsSeen_2 o a1 a2 ho ha1 FU (0 : Int32) σ h
set_option maxRecDepth 100000 in
set_option maxHeartbeats 4000000 in
theorem frX11_whole (o : Nat) (a1 : Int32) (a2 : Int32) (ho : KD o = 11) (σ : Mm) {xr : Int32} {τ : Mm} (h : fX11_whole o a1 a2 σ = some (xr, τ)) : FK [4, 10, 11] σ τ := by
  unfold fX11_whole at h
  obtain ⟨x3, σ1, hc2, h⟩ := cI_t h
  refine F_call (frX11_seenStatus o a1 a2 ho σ hc2) (by decide) ?_
  refine F_if h (fun h => ?_) (fun h => ?_)
  · skip
    obtain ⟨σ4, hc5, h⟩ := cV_t h
    refine F_call (frX11_look o ho σ1 hc5) (by decide) ?_
    refine F_gbl (fun _ q => kr0 q) h (fun q6 hq6 h => ?_)
    obtain ⟨x9, σ7, hc8, h⟩ := cI_t h
    refine F_call (frX11_comesAsSeen o q6 a2 ho hq6 σ4 hc8) (by decide) ?_
    refine F_if h (fun h => ?_) (fun h => ?_)
    · skip
      obtain ⟨x12, σ10, hc11, h⟩ := cI_t h
      refine F_call (frX11_answer o (0 : Int32) ho σ7 hc11) (by decide) ?_
      cases h
      exact F_refl
    · skip
      obtain ⟨x15, σ13, hc14, h⟩ := cI_t h
      refine F_call (frX11_answer o (1 : Int32) ho σ7 hc14) (by decide) ?_
      cases h
      exact F_refl
  · skip
    obtain ⟨x18, σ16, hc17, h⟩ := cI_t h
    refine F_call (frX11_none o x3 ho σ1 hc17) (by decide) ?_
    cases h
    exact F_refl
set_option maxRecDepth 100000 in
set_option maxHeartbeats 4000000 in
theorem ftX11_broken_23 {xr : Int32} {τ : Mm} (o : Nat) (a1 : Int32) (a2 : Int32) (ho : KD o = 11) : ∀ (n : Nat) (v4 : Int32) (v5 : Int32) (σ : Mm), fX11_broken_23 o a1 a2 n v4 v5 σ = some (xr, τ) → FK [4, 10, 11] σ τ := by
  intro n
  induction n with
  | zero => intro v4 v5 σ h; rw [fX11_broken_23] at h; cases h
  | succ n ih =>
    intro v4 v5 σ h
    rw [fX11_broken_23] at h
    refine F_rrf h (fun q7 hq7 h => ?_)
    refine F_rsc h (fun x8 h => ?_)
    refine F_if h (fun h => ?_) (fun h => ?_)
    · skip
      obtain ⟨x11, σ9, hc10, h⟩ := cI_t h
      refine F_call (frX11_answer o v4 ho σ hc10) (by decide) ?_
      cases h
      exact F_refl
    · skip
      refine F_rsc h (fun x12 h => ?_)
      obtain ⟨x15, σ13, hc14, h⟩ := cI_t h
      refine F_call (frX11_has x12 v5 σ hc14) (by decide) ?_
      refine F_if h (fun h => ?_) (fun h => ?_)
      · skip
        obtain ⟨σ16, hc17, h⟩ := cV_t h
        refine F_call (frX11_look o ho σ13 hc17) (by decide) ?_
        refine F_rsc h (fun x18 h => ?_)
        obtain ⟨x21, σ19, hc20, h⟩ := cI_t h
        refine F_call (frX11_with x18 v5 (1 : Int32) σ16 hc20) (by decide) ?_
        refine F_psc (tk11_15 ho) (by decide) h (fun σ22 h => ?_)
        refine F_gbl (fun _ q => kr0 q) h (fun q23 hq23 h => ?_)
        obtain ⟨x26, σ24, hc25, h⟩ := cI_t h
        refine F_call (frX11_comesAsSeen o q23 a2 ho hq23 σ22 hc25) (by decide) ?_
        refine F_if h (fun h => ?_) (fun h => ?_)
        · skip
          exact ih v4 (v5 + (1 : Int32)) σ24 h
        · skip
          obtain ⟨x29, σ27, hc28, h⟩ := cI_t h
          refine F_call (frX11_with v4 v5 (1 : Int32) σ24 hc28) (by decide) ?_
          exact ih x29 (v5 + (1 : Int32)) σ27 h
      · skip
        exact ih v4 (v5 + (1 : Int32)) σ13 h
set_option maxRecDepth 100000 in
set_option maxHeartbeats 4000000 in
theorem frX11_broken (o : Nat) (a1 : Int32) (a2 : Int32) (ho : KD o = 11) (σ : Mm) {xr : Int32} {τ : Mm} (h : fX11_broken o a1 a2 σ = some (xr, τ)) : FK [4, 10, 11] σ τ := by
  unfold fX11_broken at h
  obtain ⟨x3, σ1, hc2, h⟩ := cI_t h
  refine F_call (frX11_seenStatus o a1 a2 ho σ hc2) (by decide) ?_
  refine F_if h (fun h => ?_) (fun h => ?_)
  · skip
    exact ftX11_broken_23 o a1 a2 ho FU (0 : Int32) (0 : Int32) σ1 h
  · skip
    obtain ⟨x6, σ4, hc5, h⟩ := cI_t h
    refine F_call (frX11_none o x3 ho σ1 hc5) (by decide) ?_
    cases h
    exact F_refl
set_option maxRecDepth 100000 in
set_option maxHeartbeats 4000000 in
theorem frX11_run (o : Nat) (a1 : Int32) (ho : KD o = 11) (σ : Mm) {xr : Int32} {τ : Mm} (h : fX11_run o a1 σ = some (xr, τ)) : FK [3, 4, 10, 11] σ τ := by
  unfold fX11_run at h
  refine F_if h (fun h => ?_) (fun h => ?_)
  · skip
    obtain ⟨x3, σ1, hc2, h⟩ := cI_t h
    refine F_call (frX11_none o (1 : Int32) ho σ hc2) (by decide) ?_
    cases h
    exact F_refl
  · skip
    refine F_if h (fun h => ?_) (fun h => ?_)
    · skip
      refine F_rrf h (fun q4 hq4 h => ?_)
      refine F_rsc h (fun x5 h => ?_)
      refine F_ifn h (fun h => ?_) (fun h => ?_)
      · skip
        obtain ⟨σ6, hc7, h⟩ := cV_t h
        refine F_call (frX3_carryOut (tg o 17) (tg o 9) a1 (tg o 14) (tk11_17 ho) (tk11_9 ho) (tk11_14 ho) σ hc7) (by decide) ?_
        obtain ⟨σ8, hc9, h⟩ := cV_t h
        refine F_call (frX3_report (tg o 17) (tg o 14) (tk11_17 ho) (tk11_14 ho) σ6 hc9) (by decide) ?_
        refine F_rsc h (fun x10 h => ?_)
        obtain ⟨x13, σ11, hc12, h⟩ := cI_t h
        refine F_call (frX11_answer o x10 ho σ8 hc12) (by decide) ?_
        cases h
        exact F_refl
      · skip
        obtain ⟨x16, σ14, hc15, h⟩ := cI_t h
        refine F_call (frX11_none o (6 : Int32) ho σ hc15) (by decide) ?_
        cases h
        exact F_refl
    · skip
      obtain ⟨x19, σ17, hc18, h⟩ := cI_t h
      refine F_call (frX11_none o (1 : Int32) ho σ hc18) (by decide) ?_
      cases h
      exact F_refl
set_option maxRecDepth 100000 in
set_option maxHeartbeats 4000000 in
theorem frX11_ran (o : Nat) (a1 : Int32) (ho : KD o = 11) (σ : Mm) {xr : Int32} {τ : Mm} (h : fX11_ran o a1 σ = some (xr, τ)) : FK [11] σ τ := by
  unfold fX11_ran at h
  refine F_if h (fun h => ?_) (fun h => ?_)
  · skip
    obtain ⟨x3, σ1, hc2, h⟩ := cI_t h
    refine F_call (frX11_none o (1 : Int32) ho σ hc2) (by decide) ?_
    cases h
    exact F_refl
  · skip
    refine F_if h (fun h => ?_) (fun h => ?_)
    · skip
      refine F_rsc h (fun x4 h => ?_)
      refine F_if h (fun h => ?_) (fun h => ?_)
      · skip
        obtain ⟨x7, σ5, hc6, h⟩ := cI_t h
        refine F_call (frX11_none o (6 : Int32) ho σ hc6) (by decide) ?_
        cases h
        exact F_refl
      · skip
        refine F_gar h (fun x8 h => ?_)
        obtain ⟨x11, σ9, hc10, h⟩ := cI_t h
        refine F_call (frX11_answer o x8 ho σ hc10) (by decide) ?_
        cases h
        exact F_refl
    · skip
      obtain ⟨x14, σ12, hc13, h⟩ := cI_t h
      refine F_call (frX11_none o (1 : Int32) ho σ hc13) (by decide) ?_
      cases h
      exact F_refl
set_option maxRecDepth 100000 in
set_option maxHeartbeats 4000000 in
theorem frX11_ranTo (o : Nat) (a1 : Int32) (ho : KD o = 11) (σ : Mm) {xr : Int32} {τ : Mm} (h : fX11_ranTo o a1 σ = some (xr, τ)) : FK [11] σ τ := by
  unfold fX11_ranTo at h
  refine F_if h (fun h => ?_) (fun h => ?_)
  · skip
    obtain ⟨x3, σ1, hc2, h⟩ := cI_t h
    refine F_call (frX11_none o (1 : Int32) ho σ hc2) (by decide) ?_
    cases h
    exact F_refl
  · skip
    refine F_if h (fun h => ?_) (fun h => ?_)
    · skip
      refine F_rsc h (fun x4 h => ?_)
      refine F_if h (fun h => ?_) (fun h => ?_)
      · skip
        obtain ⟨x7, σ5, hc6, h⟩ := cI_t h
        refine F_call (frX11_none o (6 : Int32) ho σ hc6) (by decide) ?_
        cases h
        exact F_refl
      · skip
        refine F_gar h (fun x8 h => ?_)
        obtain ⟨x11, σ9, hc10, h⟩ := cI_t h
        refine F_call (frX11_answer o x8 ho σ hc10) (by decide) ?_
        cases h
        exact F_refl
    · skip
      obtain ⟨x14, σ12, hc13, h⟩ := cI_t h
      refine F_call (frX11_none o (1 : Int32) ho σ hc13) (by decide) ?_
      cases h
      exact F_refl
set_option maxRecDepth 100000 in
set_option maxHeartbeats 4000000 in
theorem ftX11_odds_124 {xr : Int32} {τ : Mm} (o : Nat) (a1 : Int32) (a2 : Int32) (a3 : Int32) (ho : KD o = 11) (v4 : Int32) (σ : Mm) (h : fX11_odds_124 o a1 a2 a3 v4 σ = some (xr, τ)) : FK [3, 4, 10, 11] σ τ := by
  unfold fX11_odds_124 at h
  obtain ⟨σ39, hc40, h⟩ := cV_t h
  refine F_call (frX11_tellFraction o v4.toInt64 a3.toInt64 ho σ hc40) (by decide) ?_
  obtain ⟨x43, σ41, hc42, h⟩ := cI_t h
  refine F_call (frX11_agree o ho σ39 hc42) (by decide) ?_
  obtain ⟨hz44, h⟩ := bz_t h
  cases h
  exact F_refl
set_option maxRecDepth 100000 in
set_option maxHeartbeats 4000000 in
theorem ftX11_odds_79 {xr : Int32} {τ : Mm} (o : Nat) (a1 : Int32) (a2 : Int32) (a3 : Int32) (ho : KD o = 11) : ∀ (n : Nat) (v4 : Int32) (v5 : Int32) (σ : Mm), fX11_odds_79 o a1 a2 a3 n v4 v5 σ = some (xr, τ) → FK [3, 4, 10, 11] σ τ := by
  intro n
  induction n with
  | zero => intro v4 v5 σ h; rw [fX11_odds_79] at h; cases h
  | succ n ih =>
    intro v4 v5 σ h
    rw [fX11_odds_79] at h
    refine F_if h (fun h => ?_) (fun h => ?_)
    · skip
      exact ftX11_odds_124 o a1 a2 a3 ho v4 σ h
    · skip
      obtain ⟨σ34, hc35, h⟩ := cV_t h
      refine F_call (frX3_carryOut (tg o 17) (tg o 9) (a2 + v5) (tg o 14) (tk11_17 ho) (tk11_9 ho) (tk11_14 ho) σ hc35) (by decide) ?_
      obtain ⟨x38, σ36, hc37, h⟩ := cI_t h
      refine F_call (frX10_isRight (tg o 14) a1 (tk11_14 ho) σ34 hc37) (by decide) ?_
      refine F_if h (fun h => ?_) (fun h => ?_)
      · skip
        exact ih v4 (v5 + (1 : Int32)) σ36 h
      · skip
        exact ih (v4 + (1 : Int32)) (v5 + (1 : Int32)) σ36 h
set_option maxRecDepth 100000 in
set_option maxHeartbeats 4000000 in
theorem frX11_odds (o : Nat) (a1 : Int32) (a2 : Int32) (a3 : Int32) (ho : KD o = 11) (σ : Mm) {xr : Int32} {τ : Mm} (h : fX11_odds o a1 a2 a3 σ = some (xr, τ)) : FK [3, 4, 10, 11] σ τ := by
  unfold fX11_odds at h
  obtain ⟨x3, σ1, hc2, h⟩ := cI_t h
  refine F_call (frX11_isVane o a1 ho σ hc2) (by decide) ?_
  refine F_if h (fun h => ?_) (fun h => ?_)
  · skip
    obtain ⟨x6, σ4, hc5, h⟩ := cI_t h
    refine F_call (frX11_refuse o (1 : Int32) ho σ1 hc5) (by decide) ?_
    obtain ⟨hz7, h⟩ := bz_t h
    cases h
    exact F_refl
  · skip
    refine F_if h (fun h => ?_) (fun h => ?_)
    · skip
      obtain ⟨x10, σ8, hc9, h⟩ := cI_t h
      refine F_call (frX11_refuse o (1 : Int32) ho σ1 hc9) (by decide) ?_
      obtain ⟨hz11, h⟩ := bz_t h
      cases h
      exact F_refl
    · skip
      refine F_if h (fun h => ?_) (fun h => ?_)
      · skip
        obtain ⟨x14, σ12, hc13, h⟩ := cI_t h
        refine F_call (frX11_refuse o (1 : Int32) ho σ1 hc13) (by decide) ?_
        obtain ⟨hz15, h⟩ := bz_t h
        cases h
        exact F_refl
      · skip
        refine F_if h (fun h => ?_) (fun h => ?_)
        · skip
          obtain ⟨x18, σ16, hc17, h⟩ := cI_t h
          refine F_call (frX11_refuse o (1 : Int32) ho σ1 hc17) (by decide) ?_
          obtain ⟨hz19, h⟩ := bz_t h
          cases h
          exact F_refl
        · skip
          refine F_if h (fun h => ?_) (fun h => ?_)
          · skip
            refine F_if h (fun h => ?_) (fun h => ?_)
            · skip
              refine F_rrf h (fun q20 hq20 h => ?_)
              refine F_rsc h (fun x21 h => ?_)
              refine F_ifn h (fun h => ?_) (fun h => ?_)
              · skip
                exact ftX11_odds_79 o a1 a2 a3 ho FU (0 : Int32) (0 : Int32) σ1 h
              · skip
                obtain ⟨x24, σ22, hc23, h⟩ := cI_t h
                refine F_call (frX11_refuse o (6 : Int32) ho σ1 hc23) (by decide) ?_
                obtain ⟨hz25, h⟩ := bz_t h
                cases h
                exact F_refl
            · skip
              obtain ⟨x28, σ26, hc27, h⟩ := cI_t h
              refine F_call (frX11_refuse o (1 : Int32) ho σ1 hc27) (by decide) ?_
              obtain ⟨hz29, h⟩ := bz_t h
              cases h
              exact F_refl
          · skip
            obtain ⟨x32, σ30, hc31, h⟩ := cI_t h
            refine F_call (frX11_refuse o (1 : Int32) ho σ1 hc31) (by decide) ?_
            obtain ⟨hz33, h⟩ := bz_t h
            cases h
            exact F_refl
set_option maxRecDepth 100000 in
set_option maxHeartbeats 4000000 in
theorem frX11_mark (o : Nat) (ho : KD o = 11) (σ : Mm) {xr : Int32} {τ : Mm} (h : fX11_mark o σ = some (xr, τ)) : FK [2, 4, 5, 11] σ τ := by
  unfold fX11_mark at h
  refine F_rsc h (fun x1 h => ?_)
  refine F_if h (fun h => ?_) (fun h => ?_)
  · skip
    refine F_rsc h (fun x2 h => ?_)
    refine F_gbl (fun _ q => kr1 q) h (fun q3 hq3 h => ?_)
    obtain ⟨σ4, hc5, h⟩ := cV_t h
    refine F_call (frX7_copyFrom q3 (tg o 9) hq3 (tk11_9 ho) σ hc5) (by decide) ?_
    refine F_rsc h (fun x6 h => ?_)
    refine F_psc ho (by decide) h (fun σ7 h => ?_)
    refine F_rsc h (fun x8 h => ?_)
    obtain ⟨x11, σ9, hc10, h⟩ := cI_t h
    refine F_call (frX11_answer o x8 ho σ7 hc10) (by decide) ?_
    cases h
    exact F_refl
  · skip
    obtain ⟨x14, σ12, hc13, h⟩ := cI_t h
    refine F_call (frX11_none o (4 : Int32) ho σ hc13) (by decide) ?_
    cases h
    exact F_refl
set_option maxRecDepth 100000 in
set_option maxHeartbeats 4000000 in
theorem frX11_back (o : Nat) (ho : KD o = 11) (σ : Mm) {xr : Int32} {τ : Mm} (h : fX11_back o σ = some (xr, τ)) : FK [2, 4, 5, 11] σ τ := by
  unfold fX11_back at h
  refine F_rsc h (fun x1 h => ?_)
  refine F_if h (fun h => ?_) (fun h => ?_)
  · skip
    refine F_rsc h (fun x2 h => ?_)
    refine F_psc ho (by decide) h (fun σ3 h => ?_)
    refine F_rsc h (fun x4 h => ?_)
    refine F_gbl (fun _ q => kr1 q) h (fun q5 hq5 h => ?_)
    obtain ⟨σ6, hc7, h⟩ := cV_t h
    refine F_call (frX7_copyFrom (tg o 9) q5 (tk11_9 ho) hq5 σ3 hc7) (by decide) ?_
    refine F_rsc h (fun x8 h => ?_)
    obtain ⟨x11, σ9, hc10, h⟩ := cI_t h
    refine F_call (frX11_answer o x8 ho σ6 hc10) (by decide) ?_
    cases h
    exact F_refl
  · skip
    obtain ⟨x14, σ12, hc13, h⟩ := cI_t h
    refine F_call (frX11_none o (6 : Int32) ho σ hc13) (by decide) ?_
    cases h
    exact F_refl
set_option maxRecDepth 100000 in
set_option maxHeartbeats 4000000 in
theorem frX12_status (o : Nat) (ho : KD o = 12) (σ : Mm) {xr : Int32} {τ : Mm} (h : fX12_status o σ = some (xr, τ)) : FK [] σ τ := by
  unfold fX12_status at h
  refine F_rsc h (fun x1 h => ?_)
  cases h
  exact F_refl
set_option maxRecDepth 100000 in
set_option maxHeartbeats 4000000 in
theorem frX12_top (o : Nat) (ho : KD o = 12) (σ : Mm) {xr : Int64} {τ : Mm} (h : fX12_top o σ = some (xr, τ)) : FK [] σ τ := by
  unfold fX12_top at h
  refine F_rlg h (fun x1 h => ?_)
  cases h
  exact F_refl
set_option maxRecDepth 100000 in
set_option maxHeartbeats 4000000 in
theorem frX12_bottom (o : Nat) (ho : KD o = 12) (σ : Mm) {xr : Int64} {τ : Mm} (h : fX12_bottom o σ = some (xr, τ)) : FK [] σ τ := by
  unfold fX12_bottom at h
  refine F_rlg h (fun x1 h => ?_)
  cases h
  exact F_refl
set_option maxRecDepth 100000 in
set_option maxHeartbeats 4000000 in
theorem frX12_is (o : Nat) (a1 : Int32) (ho : KD o = 12) (σ : Mm) {xr : Int32} {τ : Mm} (h : fX12_is o a1 σ = some (xr, τ)) : FK [12] σ τ := by
  unfold fX12_is at h
  refine F_psc ho (by decide) h (fun σ1 h => ?_)
  refine F_ifn h (fun h => ?_) (fun h => ?_)
  · skip
    cases h
    exact F_refl
  · skip
    cases h
    exact F_refl
set_option maxRecDepth 100000 in
set_option maxHeartbeats 4000000 in
theorem frX12_refuse (o : Nat) (a1 : Int32) (ho : KD o = 12) (σ : Mm) {xr : Int32} {τ : Mm} (h : fX12_refuse o a1 σ = some (xr, τ)) : FK [12] σ τ := by
  unfold fX12_refuse at h
  refine F_psc ho (by decide) h (fun σ1 h => ?_)
  cases h
  exact F_refl
set_option maxRecDepth 100000 in
set_option maxHeartbeats 4000000 in
theorem frX12_gives (o : Nat) (a1 : Int32) (ho : KD o = 12) (σ : Mm) {xr : Int32} {τ : Mm} (h : fX12_gives o a1 σ = some (xr, τ)) : FK [12] σ τ := by
  unfold fX12_gives at h
  refine F_psc ho (by decide) h (fun σ1 h => ?_)
  cases h
  exact F_refl
set_option maxRecDepth 100000 in
set_option maxHeartbeats 4000000 in
theorem frX12_orNone (o : Nat) (a1 : Int32) (ho : KD o = 12) (σ : Mm) {xr : Int32} {τ : Mm} (h : fX12_orNone o a1 σ = some (xr, τ)) : FK [12] σ τ := by
  unfold fX12_orNone at h
  refine F_ifn h (fun h => ?_) (fun h => ?_)
  · skip
    obtain ⟨x3, σ1, hc2, h⟩ := cI_t h
    refine F_call (frX12_gives o a1 ho σ hc2) (by decide) ?_
    cases h
    exact F_refl
  · skip
    obtain ⟨x6, σ4, hc5, h⟩ := cI_t h
    refine F_call (frX12_refuse o (6 : Int32) ho σ hc5) (by decide) ?_
    cases h
    exact F_refl
set_option maxRecDepth 100000 in
set_option maxHeartbeats 4000000 in
theorem ftX12_tellsBy_42 {xr : Int32} {τ : Mm} (o : Nat) (a1 : Int64) (a2 : Int64) (ho : KD o = 12) (v5 : Int64) (σ : Mm) (h : fX12_tellsBy_42 o a1 a2 v5 σ = some (xr, τ)) : FK [12] σ τ := by
  unfold fX12_tellsBy_42 at h
  obtain ⟨hz9, h⟩ := nzl_t h
  refine F_plg ho (by decide) h (fun σ2 h => ?_)
  obtain ⟨hz8, h⟩ := nzl_t h
  refine F_plg ho (by decide) h (fun σ3 h => ?_)
  obtain ⟨x6, σ4, hc5, h⟩ := cI_t h
  refine F_call (frX12_is o (0 : Int32) ho σ3 hc5) (by decide) ?_
  obtain ⟨hz7, h⟩ := bz_t h
  cases h
  exact F_refl
set_option maxRecDepth 100000 in
set_option maxHeartbeats 4000000 in
theorem ftX12_tellsBy_17 {xr : Int32} {τ : Mm} (o : Nat) (a1 : Int64) (a2 : Int64) (ho : KD o = 12) : ∀ (n : Nat) (v5 : Int64) (v7 : Int64) (σ : Mm), fX12_tellsBy_17 o a1 a2 n v5 v7 σ = some (xr, τ) → FK [12] σ τ := by
  intro n
  induction n with
  | zero => intro v5 v7 σ h; rw [fX12_tellsBy_17] at h; cases h
  | succ n ih =>
    intro v5 v7 σ h
    rw [fX12_tellsBy_17] at h
    refine F_if h (fun h => ?_) (fun h => ?_)
    · skip
      exact ftX12_tellsBy_42 o a1 a2 ho v5 σ h
    · skip
      obtain ⟨hz1, h⟩ := nzl_t h
      exact ih v7 (v5 - v5 / v7 * v7) σ h
set_option maxRecDepth 100000 in
set_option maxHeartbeats 4000000 in
theorem frX12_tellsBy (o : Nat) (a1 : Int64) (a2 : Int64) (ho : KD o = 12) (σ : Mm) {xr : Int32} {τ : Mm} (h : fX12_tellsBy o a1 a2 σ = some (xr, τ)) : FK [12] σ τ := by
  unfold fX12_tellsBy at h
  refine F_if h (fun h => ?_) (fun h => ?_)
  · skip
    exact ftX12_tellsBy_17 o a1 a2 ho FU a1 a2 σ h
  · skip
    exact ftX12_tellsBy_17 o a1 a2 ho FU (-a1) a2 σ h
set_option maxRecDepth 100000 in
set_option maxHeartbeats 4000000 in
theorem frX12_isTray (a1 : Int32) (σ : Mm) {xr : Int32} {τ : Mm} (h : fX12_isTray a1 σ = some (xr, τ)) : FK [] σ τ := by
  unfold fX12_isTray at h
  refine F_if h (fun h => ?_) (fun h => ?_)
  · skip
    cases h
    exact F_refl
  · skip
    refine F_if h (fun h => ?_) (fun h => ?_)
    · skip
      cases h
      exact F_refl
    · skip
      cases h
      exact F_refl
set_option maxRecDepth 100000 in
set_option maxHeartbeats 4000000 in
theorem frX12_cut (a1 : Int64) (a2 : Int32) (σ : Mm) {xr : Int64} {τ : Mm} (h : fX12_cut a1 a2 σ = some (xr, τ)) : FK [] σ τ := by
  unfold fX12_cut at h
  refine F_ifn h (fun h => ?_) (fun h => ?_)
  · skip
    refine F_ifn h (fun h => ?_) (fun h => ?_)
    · skip
      refine F_ifn h (fun h => ?_) (fun h => ?_)
      · skip
        cases h
        exact F_refl
      · skip
        cases h
        exact F_refl
    · skip
      cases h
      exact F_refl
  · skip
    cases h
    exact F_refl
set_option maxRecDepth 100000 in
set_option maxHeartbeats 4000000 in
theorem ftX12_tray_49 {xr : Int32} {τ : Mm} (o : Nat) (a1 : Int32) (a2 : Int32) (a3 : Int32) (ho : KD o = 12) : ∀ (n : Nat) (v4 : Int32) (σ : Mm), fX12_tray_49 o a1 a2 a3 n v4 σ = some (xr, τ) → FK [12] σ τ := by
  intro n
  induction n with
  | zero => intro v4 σ h; rw [fX12_tray_49] at h; cases h
  | succ n ih =>
    intro v4 σ h
    rw [fX12_tray_49] at h
    refine F_if h (fun h => ?_) (fun h => ?_)
    · skip
      obtain ⟨x28, σ26, hc27, h⟩ := cI_t h
      refine F_call (frX12_is o (0 : Int32) ho σ hc27) (by decide) ?_
      obtain ⟨hz29, h⟩ := bz_t h
      cases h
      exact F_refl
    · skip
      refine F_sla ho (by decide) h (fun σ30 h => ?_)
      exact ih (v4 + (1 : Int32)) σ30 h
set_option maxRecDepth 100000 in
set_option maxHeartbeats 4000000 in
theorem frX12_tray (o : Nat) (a1 : Int32) (a2 : Int32) (a3 : Int32) (ho : KD o = 12) (σ : Mm) {xr : Int32} {τ : Mm} (h : fX12_tray o a1 a2 a3 σ = some (xr, τ)) : FK [12] σ τ := by
  unfold fX12_tray at h
  obtain ⟨x3, σ1, hc2, h⟩ := cI_t h
  refine F_call (frX12_isTray a1 σ hc2) (by decide) ?_
  refine F_if h (fun h => ?_) (fun h => ?_)
  · skip
    obtain ⟨x6, σ4, hc5, h⟩ := cI_t h
    refine F_call (frX12_is o (1 : Int32) ho σ1 hc5) (by decide) ?_
    obtain ⟨hz7, h⟩ := bz_t h
    cases h
    exact F_refl
  · skip
    refine F_if h (fun h => ?_) (fun h => ?_)
    · skip
      obtain ⟨x10, σ8, hc9, h⟩ := cI_t h
      refine F_call (frX12_is o (1 : Int32) ho σ1 hc9) (by decide) ?_
      obtain ⟨hz11, h⟩ := bz_t h
      cases h
      exact F_refl
    · skip
      refine F_if h (fun h => ?_) (fun h => ?_)
      · skip
        obtain ⟨x14, σ12, hc13, h⟩ := cI_t h
        refine F_call (frX12_is o (1 : Int32) ho σ1 hc13) (by decide) ?_
        obtain ⟨hz15, h⟩ := bz_t h
        cases h
        exact F_refl
      · skip
        refine F_if h (fun h => ?_) (fun h => ?_)
        · skip
          obtain ⟨x18, σ16, hc17, h⟩ := cI_t h
          refine F_call (frX12_is o (1 : Int32) ho σ1 hc17) (by decide) ?_
          obtain ⟨hz19, h⟩ := bz_t h
          cases h
          exact F_refl
        · skip
          refine F_if h (fun h => ?_) (fun h => ?_)
          · skip
            refine F_sar ho (by decide) h (fun σ20 h => ?_)
            refine F_sar ho (by decide) h (fun σ21 h => ?_)
            exact ftX12_tray_49 o a1 a2 a3 ho FU (0 : Int32) σ21 h
          · skip
            obtain ⟨x24, σ22, hc23, h⟩ := cI_t h
            refine F_call (frX12_is o (1 : Int32) ho σ1 hc23) (by decide) ?_
            obtain ⟨hz25, h⟩ := bz_t h
            cases h
            exact F_refl
set_option maxRecDepth 100000 in
set_option maxHeartbeats 4000000 in
theorem frX12_wrongPlace (o : Nat) (a1 : Int32) (a2 : Int32) (ho : KD o = 12) (σ : Mm) {xr : Int32} {τ : Mm} (h : fX12_wrongPlace o a1 a2 σ = some (xr, τ)) : FK [] σ τ := by
  unfold fX12_wrongPlace at h
  obtain ⟨x3, σ1, hc2, h⟩ := cI_t h
  refine F_call (frX12_isTray a1 σ hc2) (by decide) ?_
  refine F_ifn h (fun h => ?_) (fun h => ?_)
  · skip
    refine F_gar h (fun x4 h => ?_)
    refine F_ifn h (fun h => ?_) (fun h => ?_)
    · skip
      refine F_if h (fun h => ?_) (fun h => ?_)
      · skip
        cases h
        exact F_refl
      · skip
        refine F_gar h (fun x5 h => ?_)
        refine F_if h (fun h => ?_) (fun h => ?_)
        · skip
          cases h
          exact F_refl
        · skip
          cases h
          exact F_refl
    · skip
      cases h
      exact F_refl
  · skip
    cases h
    exact F_refl
set_option maxRecDepth 100000 in
set_option maxHeartbeats 4000000 in
theorem frX12_write (o : Nat) (a1 : Int32) (a2 : Int32) (a3 : Int64) (ho : KD o = 12) (σ : Mm) {xr : Int32} {τ : Mm} (h : fX12_write o a1 a2 a3 σ = some (xr, τ)) : FK [12] σ τ := by
  unfold fX12_write at h
  obtain ⟨x3, σ1, hc2, h⟩ := cI_t h
  refine F_call (frX12_wrongPlace o a1 a2 ho σ hc2) (by decide) ?_
  refine F_ifn h (fun h => ?_) (fun h => ?_)
  · skip
    obtain ⟨x6, σ4, hc5, h⟩ := cI_t h
    refine F_call (frX12_is o x3 ho σ1 hc5) (by decide) ?_
    obtain ⟨hz7, h⟩ := bz_t h
    cases h
    exact F_refl
  · skip
    refine F_gar h (fun x8 h => ?_)
    obtain ⟨x11, σ9, hc10, h⟩ := cL_t h
    refine F_call (frX12_cut a3 x8 σ1 hc10) (by decide) ?_
    refine F_sla ho (by decide) h (fun σ12 h => ?_)
    obtain ⟨x15, σ13, hc14, h⟩ := cI_t h
    refine F_call (frX12_is o x3 ho σ12 hc14) (by decide) ?_
    obtain ⟨hz16, h⟩ := bz_t h
    cases h
    exact F_refl
set_option maxRecDepth 100000 in
set_option maxHeartbeats 4000000 in
theorem frX12_read (o : Nat) (a1 : Int32) (a2 : Int32) (ho : KD o = 12) (σ : Mm) {xr : Int64} {τ : Mm} (h : fX12_read o a1 a2 σ = some (xr, τ)) : FK [12] σ τ := by
  unfold fX12_read at h
  obtain ⟨x3, σ1, hc2, h⟩ := cI_t h
  refine F_call (frX12_wrongPlace o a1 a2 ho σ hc2) (by decide) ?_
  refine F_psc ho (by decide) h (fun σ4 h => ?_)
  refine F_rsc h (fun x5 h => ?_)
  refine F_if h (fun h => ?_) (fun h => ?_)
  · skip
    refine F_gla h (fun x6 h => ?_)
    cases h
    exact F_refl
  · skip
    cases h
    exact F_refl
set_option maxRecDepth 100000 in
set_option maxHeartbeats 4000000 in
theorem ftX12_pour_143 {xr : Int32} {τ : Mm} (o : Nat) (a1 : Int32) (a2 : Int32) (a3 : Int32) (a4 : Int32) (a5 : Int32) (ho : KD o = 12) (k118 : Int32 → Mm → Option (Int32 × Mm)) (hk118 : ∀ (v6 : Int32) (σ : Mm), k118 v6 σ = some (xr, τ) → FK [12] σ τ) (v6 : Int32) (s0 : Int32) (σ : Mm) (h : fX12_pour_143 o a1 a2 a3 a4 a5 k118 v6 s0 σ = some (xr, τ)) : FK [12] σ τ := by
  unfold fX12_pour_143 at h
  refine F_gla h (fun x57 h => ?_)
  refine F_sla ho (by decide) h (fun σ58 h => ?_)
  exact hk118 (v6 + (1 : Int32)) σ58 h
set_option maxRecDepth 100000 in
set_option maxHeartbeats 4000000 in
theorem ftX12_pour_118 {xr : Int32} {τ : Mm} (o : Nat) (a1 : Int32) (a2 : Int32) (a3 : Int32) (a4 : Int32) (a5 : Int32) (ho : KD o = 12) : ∀ (n : Nat) (v6 : Int32) (σ : Mm), fX12_pour_118 o a1 a2 a3 a4 a5 n v6 σ = some (xr, τ) → FK [12] σ τ := by
  intro n
  induction n with
  | zero => intro v6 σ h; rw [fX12_pour_118] at h; cases h
  | succ n ih =>
    intro v6 σ h
    rw [fX12_pour_118] at h
    refine F_if h (fun h => ?_) (fun h => ?_)
    · skip
      obtain ⟨x55, σ53, hc54, h⟩ := cI_t h
      refine F_call (frX12_is o (0 : Int32) ho σ hc54) (by decide) ?_
      obtain ⟨hz56, h⟩ := bz_t h
      cases h
      exact F_refl
    · skip
      refine F_if h (fun h => ?_) (fun h => ?_)
      · skip
        exact ftX12_pour_143 o a1 a2 a3 a4 a5 ho (fX12_pour_118 o a1 a2 a3 a4 a5 n) ih v6 v6 σ h
      · skip
        exact ftX12_pour_143 o a1 a2 a3 a4 a5 ho (fX12_pour_118 o a1 a2 a3 a4 a5 n) ih v6 ((a5 - (1 : Int32)) - v6) σ h
set_option maxRecDepth 100000 in
set_option maxHeartbeats 4000000 in
theorem frX12_pour (o : Nat) (a1 : Int32) (a2 : Int32) (a3 : Int32) (a4 : Int32) (a5 : Int32) (ho : KD o = 12) (σ : Mm) {xr : Int32} {τ : Mm} (h : fX12_pour o a1 a2 a3 a4 a5 σ = some (xr, τ)) : FK [12] σ τ := by
  unfold fX12_pour at h
  obtain ⟨x3, σ1, hc2, h⟩ := cI_t h
  refine F_call (frX12_isTray a1 σ hc2) (by decide) ?_
  refine F_if h (fun h => ?_) (fun h => ?_)
  · skip
    obtain ⟨x6, σ4, hc5, h⟩ := cI_t h
    refine F_call (frX12_is o (1 : Int32) ho σ1 hc5) (by decide) ?_
    obtain ⟨hz7, h⟩ := bz_t h
    cases h
    exact F_refl
  · skip
    obtain ⟨x10, σ8, hc9, h⟩ := cI_t h
    refine F_call (frX12_isTray a3 σ1 hc9) (by decide) ?_
    refine F_if h (fun h => ?_) (fun h => ?_)
    · skip
      obtain ⟨x13, σ11, hc12, h⟩ := cI_t h
      refine F_call (frX12_is o (1 : Int32) ho σ8 hc12) (by decide) ?_
      obtain ⟨hz14, h⟩ := bz_t h
      cases h
      exact F_refl
    · skip
      refine F_if h (fun h => ?_) (fun h => ?_)
      · skip
        obtain ⟨x17, σ15, hc16, h⟩ := cI_t h
        refine F_call (frX12_is o (1 : Int32) ho σ8 hc16) (by decide) ?_
        obtain ⟨hz18, h⟩ := bz_t h
        cases h
        exact F_refl
      · skip
        refine F_if h (fun h => ?_) (fun h => ?_)
        · skip
          obtain ⟨x21, σ19, hc20, h⟩ := cI_t h
          refine F_call (frX12_is o (1 : Int32) ho σ8 hc20) (by decide) ?_
          obtain ⟨hz22, h⟩ := bz_t h
          cases h
          exact F_refl
        · skip
          refine F_if h (fun h => ?_) (fun h => ?_)
          · skip
            refine F_gar h (fun x23 h => ?_)
            refine F_if h (fun h => ?_) (fun h => ?_)
            · skip
              obtain ⟨x26, σ24, hc25, h⟩ := cI_t h
              refine F_call (frX12_is o (2 : Int32) ho σ8 hc25) (by decide) ?_
              obtain ⟨hz27, h⟩ := bz_t h
              cases h
              exact F_refl
            · skip
              refine F_gar h (fun x28 h => ?_)
              refine F_ifn h (fun h => ?_) (fun h => ?_)
              · skip
                refine F_gar h (fun x29 h => ?_)
                refine F_gar h (fun x30 h => ?_)
                refine F_if h (fun h => ?_) (fun h => ?_)
                · skip
                  refine F_gar h (fun x31 h => ?_)
                  refine F_if h (fun h => ?_) (fun h => ?_)
                  · skip
                    obtain ⟨x34, σ32, hc33, h⟩ := cI_t h
                    refine F_call (frX12_is o (3 : Int32) ho σ8 hc33) (by decide) ?_
                    obtain ⟨hz35, h⟩ := bz_t h
                    cases h
                    exact F_refl
                  · skip
                    refine F_gar h (fun x36 h => ?_)
                    refine F_if h (fun h => ?_) (fun h => ?_)
                    · skip
                      exact ftX12_pour_118 o a1 a2 a3 a4 a5 ho FU (0 : Int32) σ8 h
                    · skip
                      obtain ⟨x39, σ37, hc38, h⟩ := cI_t h
                      refine F_call (frX12_is o (3 : Int32) ho σ8 hc38) (by decide) ?_
                      obtain ⟨hz40, h⟩ := bz_t h
                      cases h
                      exact F_refl
                · skip
                  obtain ⟨x43, σ41, hc42, h⟩ := cI_t h
                  refine F_call (frX12_is o (8 : Int32) ho σ8 hc42) (by decide) ?_
                  obtain ⟨hz44, h⟩ := bz_t h
                  cases h
                  exact F_refl
              · skip
                obtain ⟨x47, σ45, hc46, h⟩ := cI_t h
                refine F_call (frX12_is o (2 : Int32) ho σ8 hc46) (by decide) ?_
                obtain ⟨hz48, h⟩ := bz_t h
                cases h
                exact F_refl
          · skip
            obtain ⟨x51, σ49, hc50, h⟩ := cI_t h
            refine F_call (frX12_is o (1 : Int32) ho σ8 hc50) (by decide) ?_
            obtain ⟨hz52, h⟩ := bz_t h
            cases h
            exact F_refl
set_option maxRecDepth 100000 in
set_option maxHeartbeats 4000000 in
theorem frX12_isFrom (a1 : Int64) (a2 : Int64) (a3 : Int64) (σ : Mm) {xr : Int32} {τ : Mm} (h : fX12_isFrom a1 a2 a3 σ = some (xr, τ)) : FK [] σ τ := by
  unfold fX12_isFrom at h
  refine F_if h (fun h => ?_) (fun h => ?_)
  · skip
    cases h
    exact F_refl
  · skip
    refine F_if h (fun h => ?_) (fun h => ?_)
    · skip
      cases h
      exact F_refl
    · skip
      cases h
      exact F_refl
set_option maxRecDepth 100000 in
set_option maxHeartbeats 4000000 in
theorem ftX12_four_3 {τ : Mm} (o : Nat) (a1 : Int32) (ho : KD o = 12) : ∀ (n : Nat) (v2 : Int32) (σ : Mm), fX12_four_3 o a1 n v2 σ = some τ → FK [12] σ τ := by
  intro n
  induction n with
  | zero => intro v2 σ h; rw [fX12_four_3] at h; cases h
  | succ n ih =>
    intro v2 σ h
    rw [fX12_four_3] at h
    refine F_if h (fun h => ?_) (fun h => ?_)
    · cases h
      exact F_refl
    · skip
      refine F_rsc h (fun x1 h => ?_)
      refine F_sar ho (by decide) h (fun σ2 h => ?_)
      refine F_rsc h (fun x3 h => ?_)
      refine F_psc ho (by decide) h (fun σ4 h => ?_)
      exact ih (v2 + (-8 : Int32)) σ4 h
set_option maxRecDepth 100000 in
set_option maxHeartbeats 4000000 in
theorem frX12_four (o : Nat) (a1 : Int32) (ho : KD o = 12) (σ : Mm) {τ : Mm} (h : fX12_four o a1 σ = some τ) : FK [12] σ τ := by
  unfold fX12_four at h
  exact ftX12_four_3 o a1 ho FU (24 : Int32) σ h
set_option maxRecDepth 100000 in
set_option maxHeartbeats 4000000 in
theorem frX12_feed (o : Nat) (a1 : Int32) (a2 : Int32) (a3 : Int32) (a4 : Int32) (a5 : Int32) (ho : KD o = 12) (σ : Mm) {xr : Int32} {τ : Mm} (h : fX12_feed o a1 a2 a3 a4 a5 σ = some (xr, τ)) : FK [12] σ τ := by
  unfold fX12_feed at h
  refine F_rsc h (fun x1 h => ?_)
  refine F_if h (fun h => ?_) (fun h => ?_)
  · skip
    obtain ⟨σ2, hc3, h⟩ := cV_t h
    refine F_call (frX12_four o a1 ho σ hc3) (by decide) ?_
    obtain ⟨σ4, hc5, h⟩ := cV_t h
    refine F_call (frX12_four o a2 ho σ2 hc5) (by decide) ?_
    obtain ⟨σ6, hc7, h⟩ := cV_t h
    refine F_call (frX12_four o a3 ho σ4 hc7) (by decide) ?_
    obtain ⟨σ8, hc9, h⟩ := cV_t h
    refine F_call (frX12_four o a4 ho σ6 hc9) (by decide) ?_
    obtain ⟨σ10, hc11, h⟩ := cV_t h
    refine F_call (frX12_four o a5 ho σ8 hc11) (by decide) ?_
    refine F_rsc h (fun x12 h => ?_)
    cases h
    exact F_refl
  · skip
    cases h
    exact F_refl
set_option maxRecDepth 100000 in
set_option maxHeartbeats 4000000 in
theorem frX12_byteAt (o : Nat) (a1 : Int32) (ho : KD o = 12) (σ : Mm) {xr : Int32} {τ : Mm} (h : fX12_byteAt o a1 σ = some (xr, τ)) : FK [] σ τ := by
  unfold fX12_byteAt at h
  refine F_rsc h (fun x1 h => ?_)
  refine F_if h (fun h => ?_) (fun h => ?_)
  · skip
    cases h
    exact F_refl
  · skip
    refine F_gar h (fun x2 h => ?_)
    cases h
    exact F_refl
set_option maxRecDepth 100000 in
set_option maxHeartbeats 4000000 in
theorem frX12_isSmall (a1 : Int32) (σ : Mm) {xr : Int32} {τ : Mm} (h : fX12_isSmall a1 σ = some (xr, τ)) : FK [] σ τ := by
  unfold fX12_isSmall at h
  refine F_if h (fun h => ?_) (fun h => ?_)
  · skip
    cases h
    exact F_refl
  · skip
    refine F_if h (fun h => ?_) (fun h => ?_)
    · skip
      cases h
      exact F_refl
    · skip
      cases h
      exact F_refl
set_option maxRecDepth 100000 in
set_option maxHeartbeats 4000000 in
theorem frX12_isDigit (a1 : Int32) (σ : Mm) {xr : Int32} {τ : Mm} (h : fX12_isDigit a1 σ = some (xr, τ)) : FK [] σ τ := by
  unfold fX12_isDigit at h
  refine F_if h (fun h => ?_) (fun h => ?_)
  · skip
    cases h
    exact F_refl
  · skip
    refine F_if h (fun h => ?_) (fun h => ?_)
    · skip
      cases h
      exact F_refl
    · skip
      cases h
      exact F_refl
set_option maxRecDepth 100000 in
set_option maxHeartbeats 4000000 in
theorem ftX12_ahead_81 {τ : Mm} (o : Nat) (ho : KD o = 12) : ∀ (n : Nat) (σ : Mm), fX12_ahead_81 o n σ = some τ → FK [12] σ τ := by
  intro n
  induction n with
  | zero => intro σ h; rw [fX12_ahead_81] at h; cases h
  | succ n ih =>
    intro σ h
    rw [fX12_ahead_81] at h
    refine F_rsc h (fun x50 h => ?_)
    obtain ⟨x53, σ51, hc52, h⟩ := cI_t h
    refine F_call (frX12_byteAt o x50 ho σ hc52) (by decide) ?_
    obtain ⟨x56, σ54, hc55, h⟩ := cI_t h
    refine F_call (frX12_isSmall x53 σ51 hc55) (by decide) ?_
    refine F_if h (fun h => ?_) (fun h => ?_)
    · skip
      refine F_psc ho (by decide) h (fun σ57 h => ?_)
      cases h
      exact F_refl
    · skip
      refine F_rsc h (fun x58 h => ?_)
      refine F_psc ho (by decide) h (fun σ59 h => ?_)
      exact ih σ59 h
set_option maxRecDepth 100000 in
set_option maxHeartbeats 4000000 in
theorem ftX12_ahead_183 {τ : Mm} (o : Nat) (ho : KD o = 12) (σ : Mm) (h : fX12_ahead_183 o σ = some τ) : FK [12] σ τ := by
  unfold fX12_ahead_183 at h
  refine F_rsc h (fun x60 h => ?_)
  refine F_rsc h (fun x61 h => ?_)
  refine F_if h (fun h => ?_) (fun h => ?_)
  · skip
    refine F_psc ho (by decide) h (fun σ62 h => ?_)
    cases h
    exact F_refl
  · skip
    refine F_psc ho (by decide) h (fun σ63 h => ?_)
    cases h
    exact F_refl
set_option maxRecDepth 100000 in
set_option maxHeartbeats 4000000 in
theorem ftX12_ahead_128 {τ : Mm} (o : Nat) (ho : KD o = 12) : ∀ (n : Nat) (σ : Mm), fX12_ahead_128 o n σ = some τ → FK [12] σ τ := by
  intro n
  induction n with
  | zero => intro σ h; rw [fX12_ahead_128] at h; cases h
  | succ n ih =>
    intro σ h
    rw [fX12_ahead_128] at h
    refine F_rsc h (fun x35 h => ?_)
    obtain ⟨x38, σ36, hc37, h⟩ := cI_t h
    refine F_call (frX12_byteAt o x35 ho σ hc37) (by decide) ?_
    obtain ⟨x41, σ39, hc40, h⟩ := cI_t h
    refine F_call (frX12_isDigit x38 σ36 hc40) (by decide) ?_
    refine F_if h (fun h => ?_) (fun h => ?_)
    · skip
      exact ftX12_ahead_183 o ho σ39 h
    · skip
      refine F_rsc h (fun x42 h => ?_)
      refine F_rsc h (fun x43 h => ?_)
      obtain ⟨x46, σ44, hc45, h⟩ := cI_t h
      refine F_call (frX12_byteAt o x43 ho σ39 hc45) (by decide) ?_
      refine F_psc ho (by decide) h (fun σ47 h => ?_)
      refine F_rsc h (fun x48 h => ?_)
      refine F_psc ho (by decide) h (fun σ49 h => ?_)
      exact ih σ49 h
set_option maxRecDepth 100000 in
set_option maxHeartbeats 4000000 in
theorem ftX12_ahead_39 {τ : Mm} (o : Nat) (ho : KD o = 12) (σ : Mm) (h : fX12_ahead_39 o σ = some τ) : FK [12] σ τ := by
  unfold fX12_ahead_39 at h
  refine F_rsc h (fun x13 h => ?_)
  refine F_psc ho (by decide) h (fun σ14 h => ?_)
  refine F_rsc h (fun x15 h => ?_)
  obtain ⟨x18, σ16, hc17, h⟩ := cI_t h
  refine F_call (frX12_byteAt o x15 ho σ14 hc17) (by decide) ?_
  refine F_psc ho (by decide) h (fun σ19 h => ?_)
  refine F_ifn h (fun h => ?_) (fun h => ?_)
  · skip
    obtain ⟨x22, σ20, hc21, h⟩ := cI_t h
    refine F_call (frX12_isSmall x18 σ19 hc21) (by decide) ?_
    refine F_if h (fun h => ?_) (fun h => ?_)
    · skip
      obtain ⟨x25, σ23, hc24, h⟩ := cI_t h
      refine F_call (frX12_isDigit x18 σ20 hc24) (by decide) ?_
      refine F_if h (fun h => ?_) (fun h => ?_)
      · skip
        refine F_rsc h (fun x26 h => ?_)
        refine F_psc ho (by decide) h (fun σ27 h => ?_)
        refine F_if h (fun h => ?_) (fun h => ?_)
        · skip
          refine F_psc ho (by decide) h (fun σ28 h => ?_)
          cases h
          exact F_refl
        · skip
          refine F_if h (fun h => ?_) (fun h => ?_)
          · skip
            refine F_psc ho (by decide) h (fun σ29 h => ?_)
            cases h
            exact F_refl
          · skip
            refine F_if h (fun h => ?_) (fun h => ?_)
            · skip
              refine F_psc ho (by decide) h (fun σ30 h => ?_)
              cases h
              exact F_refl
            · skip
              refine F_ifn h (fun h => ?_) (fun h => ?_)
              · skip
                refine F_psc ho (by decide) h (fun σ31 h => ?_)
                cases h
                exact F_refl
              · skip
                refine F_psc ho (by decide) h (fun σ32 h => ?_)
                cases h
                exact F_refl
      · skip
        refine F_psc ho (by decide) h (fun σ33 h => ?_)
        exact ftX12_ahead_128 o ho FU σ33 h
    · skip
      exact ftX12_ahead_81 o ho FU σ20 h
  · skip
    refine F_psc ho (by decide) h (fun σ34 h => ?_)
    cases h
    exact F_refl
set_option maxRecDepth 100000 in
set_option maxHeartbeats 4000000 in
theorem ftX12_ahead_0 {τ : Mm} (o : Nat) (ho : KD o = 12) : ∀ (n : Nat) (σ : Mm), fX12_ahead_0 o n σ = some τ → FK [12] σ τ := by
  intro n
  induction n with
  | zero => intro σ h; rw [fX12_ahead_0] at h; cases h
  | succ n ih =>
    intro σ h
    rw [fX12_ahead_0] at h
    refine F_rsc h (fun x1 h => ?_)
    obtain ⟨x4, σ2, hc3, h⟩ := cI_t h
    refine F_call (frX12_byteAt o x1 ho σ hc3) (by decide) ?_
    refine F_if h (fun h => ?_) (fun h => ?_)
    · skip
      refine F_rsc h (fun x5 h => ?_)
      refine F_psc ho (by decide) h (fun σ6 h => ?_)
      exact ih σ6 h
    · skip
      refine F_rsc h (fun x7 h => ?_)
      obtain ⟨x10, σ8, hc9, h⟩ := cI_t h
      refine F_call (frX12_byteAt o x7 ho σ2 hc9) (by decide) ?_
      refine F_ifn h (fun h => ?_) (fun h => ?_)
      · skip
        exact ftX12_ahead_39 o ho σ8 h
      · skip
        refine F_rsc h (fun x11 h => ?_)
        refine F_psc ho (by decide) h (fun σ12 h => ?_)
        exact ih σ12 h
set_option maxRecDepth 100000 in
set_option maxHeartbeats 4000000 in
theorem frX12_ahead (o : Nat) (ho : KD o = 12) (σ : Mm) {τ : Mm} (h : fX12_ahead o σ = some τ) : FK [12] σ τ := by
  unfold fX12_ahead at h
  exact ftX12_ahead_0 o ho FU σ h
set_option maxRecDepth 100000 in
set_option maxHeartbeats 4000000 in
theorem frX12_isSign (o : Nat) (a1 : Int32) (ho : KD o = 12) (σ : Mm) {xr : Int32} {τ : Mm} (h : fX12_isSign o a1 σ = some (xr, τ)) : FK [] σ τ := by
  unfold fX12_isSign at h
  refine F_rsc h (fun x1 h => ?_)
  refine F_ifn h (fun h => ?_) (fun h => ?_)
  · skip
    cases h
    exact F_refl
  · skip
    refine F_rsc h (fun x2 h => ?_)
    refine F_ifn h (fun h => ?_) (fun h => ?_)
    · skip
      cases h
      exact F_refl
    · skip
      cases h
      exact F_refl
set_option maxRecDepth 100000 in
set_option maxHeartbeats 4000000 in
theorem ftX12_inWords_115 {xr : Int32} {τ : Mm} (o : Nat) (ho : KD o = 12) (k14 : Int32 → Int32 → Mm → Option (Int32 × Mm)) (hk14 : ∀ (v2 : Int32) (v3 : Int32) (σ : Mm), k14 v2 v3 σ = some (xr, τ) → FK [] σ τ) (v2 : Int32) (v4 : Int32) (v5 : Int32) (σ : Mm) (h : fX12_inWords_115 o k14 v2 v4 v5 σ = some (xr, τ)) : FK [] σ τ := by
  unfold fX12_inWords_115 at h
  refine F_if h (fun h => ?_) (fun h => ?_)
  · skip
    exact hk14 (v2 + (1 : Int32)) (v4 + (1 : Int32)) σ h
  · skip
    cases h
    exact F_refl
set_option maxRecDepth 100000 in
set_option maxHeartbeats 4000000 in
theorem ftX12_inWords_68 {xr : Int32} {τ : Mm} (o : Nat) (ho : KD o = 12) (k14 : Int32 → Int32 → Mm → Option (Int32 × Mm)) (hk14 : ∀ (v2 : Int32) (v3 : Int32) (σ : Mm), k14 v2 v3 σ = some (xr, τ) → FK [] σ τ) : ∀ (n : Nat) (v2 : Int32) (v3 : Int32) (v4 : Int32) (v5 : Int32) (v6 : Int32) (σ : Mm), fX12_inWords_68 o k14 n v2 v3 v4 v5 v6 σ = some (xr, τ) → FK [] σ τ := by
  intro n
  induction n with
  | zero => intro v2 v3 v4 v5 v6 σ h; rw [fX12_inWords_68] at h; cases h
  | succ n ih =>
    intro v2 v3 v4 v5 v6 σ h
    rw [fX12_inWords_68] at h
    refine F_if h (fun h => ?_) (fun h => ?_)
    · skip
      exact ftX12_inWords_115 o ho k14 hk14 v2 v4 v5 σ h
    · skip
      refine F_if h (fun h => ?_) (fun h => ?_)
      · skip
        exact ftX12_inWords_115 o ho k14 hk14 v2 v4 v5 σ h
      · skip
        refine F_gky h (fun x5 h => ?_)
        refine F_rsc h (fun x6 h => ?_)
        obtain ⟨x9, σ7, hc8, h⟩ := cI_t h
        refine F_call (frX12_byteAt o ((x6 + v6) - v3) ho σ hc8) (by decide) ?_
        refine F_ifn h (fun h => ?_) (fun h => ?_)
        · skip
          exact ih v2 v3 v4 (0 : Int32) (v6 + (1 : Int32)) σ7 h
        · skip
          exact ih v2 v3 v4 (1 : Int32) (v6 + (1 : Int32)) σ7 h
set_option maxRecDepth 100000 in
set_option maxHeartbeats 4000000 in
theorem ftX12_inWords_42 {xr : Int32} {τ : Mm} (o : Nat) (ho : KD o = 12) (k14 : Int32 → Int32 → Mm → Option (Int32 × Mm)) (hk14 : ∀ (v2 : Int32) (v3 : Int32) (σ : Mm), k14 v2 v3 σ = some (xr, τ) → FK [] σ τ) (v2 : Int32) (v3 : Int32) (v4 : Int32) (σ : Mm) (h : fX12_inWords_42 o k14 v2 v3 v4 σ = some (xr, τ)) : FK [] σ τ := by
  unfold fX12_inWords_42 at h
  refine F_rsc h (fun x3 h => ?_)
  refine F_rsc h (fun x4 h => ?_)
  refine F_ifn h (fun h => ?_) (fun h => ?_)
  · skip
    exact ftX12_inWords_68 o ho k14 hk14 FU v2 v3 v4 (0 : Int32) v3 σ h
  · skip
    exact ftX12_inWords_68 o ho k14 hk14 FU v2 v3 v4 (1 : Int32) v3 σ h
set_option maxRecDepth 100000 in
set_option maxHeartbeats 4000000 in
theorem ftX12_inWords_25 {xr : Int32} {τ : Mm} (o : Nat) (ho : KD o = 12) (k14 : Int32 → Int32 → Mm → Option (Int32 × Mm)) (hk14 : ∀ (v2 : Int32) (v3 : Int32) (σ : Mm), k14 v2 v3 σ = some (xr, τ) → FK [] σ τ) : ∀ (n : Nat) (v2 : Int32) (v3 : Int32) (v4 : Int32) (σ : Mm), fX12_inWords_25 o k14 n v2 v3 v4 σ = some (xr, τ) → FK [] σ τ := by
  intro n
  induction n with
  | zero => intro v2 v3 v4 σ h; rw [fX12_inWords_25] at h; cases h
  | succ n ih =>
    intro v2 v3 v4 σ h
    rw [fX12_inWords_25] at h
    refine F_gky h (fun x2 h => ?_)
    refine F_if h (fun h => ?_) (fun h => ?_)
    · skip
      exact ftX12_inWords_42 o ho k14 hk14 v2 v3 v4 σ h
    · skip
      exact ih v2 v3 (v4 + (1 : Int32)) σ h
set_option maxRecDepth 100000 in
set_option maxHeartbeats 4000000 in
theorem ftX12_inWords_14 {xr : Int32} {τ : Mm} (o : Nat) (ho : KD o = 12) : ∀ (n : Nat) (v2 : Int32) (v3 : Int32) (σ : Mm), fX12_inWords_14 o n v2 v3 σ = some (xr, τ) → FK [] σ τ := by
  intro n
  induction n with
  | zero => intro v2 v3 σ h; rw [fX12_inWords_14] at h; cases h
  | succ n ih =>
    intro v2 v3 σ h
    rw [fX12_inWords_14] at h
    refine F_if h (fun h => ?_) (fun h => ?_)
    · skip
      cases h
      exact F_refl
    · skip
      exact ftX12_inWords_25 o ho (fX12_inWords_14 o n) ih FU v2 v3 v3 σ h
set_option maxRecDepth 100000 in
set_option maxHeartbeats 4000000 in
theorem frX12_inWords (o : Nat) (ho : KD o = 12) (σ : Mm) {xr : Int32} {τ : Mm} (h : fX12_inWords o σ = some (xr, τ)) : FK [] σ τ := by
  unfold fX12_inWords at h
  refine F_rsc h (fun x1 h => ?_)
  refine F_if h (fun h => ?_) (fun h => ?_)
  · skip
    exact ftX12_inWords_14 o ho FU (0 : Int32) (1 : Int32) σ h
  · skip
    cases h
    exact F_refl
set_option maxRecDepth 100000 in
set_option maxHeartbeats 4000000 in
theorem frX12_fails (o : Nat) (a1 : Int32) (ho : KD o = 12) (σ : Mm) {xr : Int32} {τ : Mm} (h : fX12_fails o a1 σ = some (xr, τ)) : FK [12] σ τ := by
  unfold fX12_fails at h
  refine F_rsc h (fun x1 h => ?_)
  refine F_ifn h (fun h => ?_) (fun h => ?_)
  · skip
    cases h
    exact F_refl
  · skip
    refine F_rsc h (fun x2 h => ?_)
    refine F_ifn h (fun h => ?_) (fun h => ?_)
    · skip
      refine F_psc ho (by decide) h (fun σ3 h => ?_)
      refine F_rsc h (fun x4 h => ?_)
      refine F_psc ho (by decide) h (fun σ5 h => ?_)
      cases h
      exact F_refl
    · skip
      refine F_psc ho (by decide) h (fun σ6 h => ?_)
      refine F_rsc h (fun x7 h => ?_)
      refine F_psc ho (by decide) h (fun σ8 h => ?_)
      cases h
      exact F_refl
set_option maxRecDepth 100000 in
set_option maxHeartbeats 4000000 in
theorem ftX12_begins_49 {xr : Int32} {τ : Mm} (o : Nat) (a1 : Int32) (a2 : Int32) (ho : KD o = 12) (σ : Mm) (h : fX12_begins_49 o a1 a2 σ = some (xr, τ)) : FK [12] σ τ := by
  unfold fX12_begins_49 at h
  refine F_psc ho (by decide) h (fun σ5 h => ?_)
  refine F_psc ho (by decide) h (fun σ6 h => ?_)
  refine F_psc ho (by decide) h (fun σ7 h => ?_)
  refine F_psc ho (by decide) h (fun σ8 h => ?_)
  refine F_psc ho (by decide) h (fun σ9 h => ?_)
  obtain ⟨σ10, hc11, h⟩ := cV_t h
  refine F_call (frX12_ahead o ho σ9 hc11) (by decide) ?_
  cases h
  exact F_refl
set_option maxRecDepth 100000 in
set_option maxHeartbeats 4000000 in
theorem ftX12_begins_26 {xr : Int32} {τ : Mm} (o : Nat) (a1 : Int32) (a2 : Int32) (ho : KD o = 12) : ∀ (n : Nat) (v3 : Int32) (σ : Mm), fX12_begins_26 o a1 a2 n v3 σ = some (xr, τ) → FK [12] σ τ := by
  intro n
  induction n with
  | zero => intro v3 σ h; rw [fX12_begins_26] at h; cases h
  | succ n ih =>
    intro v3 σ h
    rw [fX12_begins_26] at h
    refine F_if h (fun h => ?_) (fun h => ?_)
    · skip
      exact ftX12_begins_49 o a1 a2 ho σ h
    · skip
      refine F_gar h (fun x3 h => ?_)
      refine F_sar ho (by decide) h (fun σ4 h => ?_)
      exact ih (v3 + (1 : Int32)) σ4 h
set_option maxRecDepth 100000 in
set_option maxHeartbeats 4000000 in
theorem frX12_begins (o : Nat) (a1 : Int32) (a2 : Int32) (ho : KD o = 12) (σ : Mm) {xr : Int32} {τ : Mm} (h : fX12_begins o a1 a2 σ = some (xr, τ)) : FK [12] σ τ := by
  unfold fX12_begins at h
  refine F_if h (fun h => ?_) (fun h => ?_)
  · skip
    cases h
    exact F_refl
  · skip
    refine F_rsc h (fun x1 h => ?_)
    refine F_if h (fun h => ?_) (fun h => ?_)
    · skip
      cases h
      exact F_refl
    · skip
      refine F_if h (fun h => ?_) (fun h => ?_)
      · skip
        refine F_psc ho (by decide) h (fun σ2 h => ?_)
        exact ftX12_begins_26 o a1 a2 ho FU (0 : Int32) σ2 h
      · skip
        cases h
        exact F_refl
set_option maxRecDepth 100000 in
set_option maxHeartbeats 4000000 in
theorem frX12_wantSign (o : Nat) (a1 : Int32) (ho : KD o = 12) (σ : Mm) {xr : Int32} {τ : Mm} (h : fX12_wantSign o a1 σ = some (xr, τ)) : FK [12] σ τ := by
  unfold fX12_wantSign at h
  obtain ⟨x3, σ1, hc2, h⟩ := cI_t h
  refine F_call (frX12_isSign o a1 ho σ hc2) (by decide) ?_
  refine F_ifn h (fun h => ?_) (fun h => ?_)
  · skip
    obtain ⟨σ4, hc5, h⟩ := cV_t h
    refine F_call (frX12_ahead o ho σ1 hc5) (by decide) ?_
    cases h
    exact F_refl
  · skip
    obtain ⟨x8, σ6, hc7, h⟩ := cI_t h
    refine F_call (frX12_fails o (2 : Int32) ho σ1 hc7) (by decide) ?_
    obtain ⟨hz9, h⟩ := bz_t h
    cases h
    exact F_refl
set_option maxRecDepth 100000 in
set_option maxHeartbeats 4000000 in
theorem frX12_wantWord (o : Nat) (a2 : Int32) (ho : KD o = 12) (σ : Mm) {xr : Int32} {τ : Mm} (h : fX12_wantWord o a2 σ = some (xr, τ)) : FK [12] σ τ := by
  unfold fX12_wantWord at h
  obtain ⟨x3, σ1, hc2, h⟩ := cI_t h
  refine F_call (frX12_inWords o ho σ hc2) (by decide) ?_
  refine F_if h (fun h => ?_) (fun h => ?_)
  · skip
    obtain ⟨σ4, hc5, h⟩ := cV_t h
    refine F_call (frX12_ahead o ho σ1 hc5) (by decide) ?_
    cases h
    exact F_refl
  · skip
    obtain ⟨x8, σ6, hc7, h⟩ := cI_t h
    refine F_call (frX12_fails o (2 : Int32) ho σ1 hc7) (by decide) ?_
    obtain ⟨hz9, h⟩ := bz_t h
    cases h
    exact F_refl
set_option maxRecDepth 100000 in
set_option maxHeartbeats 4000000 in
theorem frX12_number (o : Nat) (a1 : Int32) (a2 : Int32) (a3 : Int32) (ho : KD o = 12) (σ : Mm) {xr : Int32} {τ : Mm} (h : fX12_number o a1 a2 a3 σ = some (xr, τ)) : FK [12] σ τ := by
  unfold fX12_number at h
  refine F_rsc h (fun x1 h => ?_)
  refine F_if h (fun h => ?_) (fun h => ?_)
  · skip
    refine F_rsc h (fun x2 h => ?_)
    refine F_if h (fun h => ?_) (fun h => ?_)
    · skip
      obtain ⟨x5, σ3, hc4, h⟩ := cI_t h
      refine F_call (frX12_fails o (4 : Int32) ho σ hc4) (by decide) ?_
      obtain ⟨hz6, h⟩ := bz_t h
      cases h
      exact F_refl
    · skip
      refine F_rsc h (fun x7 h => ?_)
      refine F_if h (fun h => ?_) (fun h => ?_)
      · skip
        refine F_rsc h (fun x8 h => ?_)
        refine F_sar ho (by decide) h (fun σ9 h => ?_)
        obtain ⟨σ10, hc11, h⟩ := cV_t h
        refine F_call (frX12_ahead o ho σ9 hc11) (by decide) ?_
        cases h
        exact F_refl
      · skip
        obtain ⟨x14, σ12, hc13, h⟩ := cI_t h
        refine F_call (frX12_fails o (4 : Int32) ho σ hc13) (by decide) ?_
        obtain ⟨hz15, h⟩ := bz_t h
        cases h
        exact F_refl
  · skip
    obtain ⟨x18, σ16, hc17, h⟩ := cI_t h
    refine F_call (frX12_fails o (2 : Int32) ho σ hc17) (by decide) ?_
    obtain ⟨hz19, h⟩ := bz_t h
    cases h
    exact F_refl
set_option maxRecDepth 100000 in
set_option maxHeartbeats 4000000 in
theorem frX12_isName (o : Nat) (ho : KD o = 12) (σ : Mm) {xr : Int32} {τ : Mm} (h : fX12_isName o σ = some (xr, τ)) : FK [] σ τ := by
  unfold fX12_isName at h
  refine F_rsc h (fun x1 h => ?_)
  refine F_ifn h (fun h => ?_) (fun h => ?_)
  · skip
    cases h
    exact F_refl
  · skip
    refine F_rsc h (fun x2 h => ?_)
    refine F_rsc h (fun x3 h => ?_)
    refine F_if h (fun h => ?_) (fun h => ?_)
    · skip
      cases h
      exact F_refl
    · skip
      obtain ⟨x6, σ4, hc5, h⟩ := cI_t h
      refine F_call (frX12_inWords o ho σ hc5) (by decide) ?_
      refine F_ifn h (fun h => ?_) (fun h => ?_)
      · skip
        cases h
        exact F_refl
      · skip
        cases h
        exact F_refl
set_option maxRecDepth 100000 in
set_option maxHeartbeats 4000000 in
theorem ftX12_nameHere_7 {xr : Int64} {τ : Mm} (o : Nat) (ho : KD o = 12) : ∀ (n : Nat) (v1 : Int64) (v3 : Int32) (σ : Mm), fX12_nameHere_7 o n v1 v3 σ = some (xr, τ) → FK [] σ τ := by
  intro n
  induction n with
  | zero => intro v1 v3 σ h; rw [fX12_nameHere_7] at h; cases h
  | succ n ih =>
    intro v1 v3 σ h
    rw [fX12_nameHere_7] at h
    refine F_rsc h (fun x2 h => ?_)
    refine F_if h (fun h => ?_) (fun h => ?_)
    · skip
      cases h
      exact F_refl
    · skip
      obtain ⟨x5, σ3, hc4, h⟩ := cI_t h
      refine F_call (frX12_byteAt o v3 ho σ hc4) (by decide) ?_
      exact ih ((v1 <<< ((8 : Int32).toInt64 &&& 63)) ||| x5.toInt64) (v3 + (1 : Int32)) σ3 h
set_option maxRecDepth 100000 in
set_option maxHeartbeats 4000000 in
theorem frX12_nameHere (o : Nat) (ho : KD o = 12) (σ : Mm) {xr : Int64} {τ : Mm} (h : fX12_nameHere o σ = some (xr, τ)) : FK [] σ τ := by
  unfold fX12_nameHere at h
  refine F_rsc h (fun x1 h => ?_)
  exact ftX12_nameHere_7 o ho FU (0 : Int64) x1 σ h
set_option maxRecDepth 100000 in
set_option maxHeartbeats 4000000 in
theorem ftX12_findHere_2 {xr : Int32} {τ : Mm} (o : Nat) (a1 : Int32) (a2 : Int32) (ho : KD o = 12) : ∀ (n : Nat) (v3 : Int32) (σ : Mm), fX12_findHere_2 o a1 a2 n v3 σ = some (xr, τ) → FK [] σ τ := by
  intro n
  induction n with
  | zero => intro v3 σ h; rw [fX12_findHere_2] at h; cases h
  | succ n ih =>
    intro v3 σ h
    rw [fX12_findHere_2] at h
    refine F_if h (fun h => ?_) (fun h => ?_)
    · skip
      cases h
      exact F_refl
    · skip
      refine F_gla h (fun x1 h => ?_)
      obtain ⟨x4, σ2, hc3, h⟩ := cL_t h
      refine F_call (frX12_nameHere o ho σ hc3) (by decide) ?_
      refine F_ifn h (fun h => ?_) (fun h => ?_)
      · skip
        exact ih (v3 + (1 : Int32)) σ2 h
      · skip
        cases h
        exact F_refl
set_option maxRecDepth 100000 in
set_option maxHeartbeats 4000000 in
theorem frX12_findHere (o : Nat) (a1 : Int32) (a2 : Int32) (ho : KD o = 12) (σ : Mm) {xr : Int32} {τ : Mm} (h : fX12_findHere o a1 a2 σ = some (xr, τ)) : FK [] σ τ := by
  unfold fX12_findHere at h
  exact ftX12_findHere_2 o a1 a2 ho FU (0 : Int32) σ h
set_option maxRecDepth 100000 in
set_option maxHeartbeats 4000000 in
theorem frX12_fault (o : Nat) (a1 : Int32) (ho : KD o = 12) (σ : Mm) {xr : Int32} {τ : Mm} (h : fX12_fault o a1 σ = some (xr, τ)) : FK [] σ τ := by
  unfold fX12_fault at h
  refine F_ifn h (fun h => ?_) (fun h => ?_)
  · skip
    refine F_ifn h (fun h => ?_) (fun h => ?_)
    · skip
      cases h
      exact F_refl
    · skip
      refine F_rsc h (fun x1 h => ?_)
      cases h
      exact F_refl
  · skip
    refine F_rsc h (fun x2 h => ?_)
    cases h
    exact F_refl
set_option maxRecDepth 100000 in
set_option maxHeartbeats 4000000 in
theorem frX12_taken (o : Nat) (a1 : Int32) (ho : KD o = 12) (σ : Mm) {xr : Int32} {τ : Mm} (h : fX12_taken o a1 σ = some (xr, τ)) : FK [12] σ τ := by
  unfold fX12_taken at h
  refine F_rsc h (fun x1 h => ?_)
  refine F_psc ho (by decide) h (fun σ2 h => ?_)
  refine F_rsc h (fun x3 h => ?_)
  refine F_if h (fun h => ?_) (fun h => ?_)
  · skip
    obtain ⟨x6, σ4, hc5, h⟩ := cI_t h
    refine F_call (frX12_gives o a1 ho σ2 hc5) (by decide) ?_
    cases h
    exact F_refl
  · skip
    obtain ⟨x9, σ7, hc8, h⟩ := cI_t h
    refine F_call (frX12_refuse o (9 : Int32) ho σ2 hc8) (by decide) ?_
    cases h
    exact F_refl
set_option maxRecDepth 100000 in
set_option maxHeartbeats 4000000 in
theorem frX12_isNew (o : Nat) (ho : KD o = 12) (σ : Mm) {xr : Int32} {τ : Mm} (h : fX12_isNew o σ = some (xr, τ)) : FK [] σ τ := by
  unfold fX12_isNew at h
  refine F_gar h (fun x1 h => ?_)
  obtain ⟨x4, σ2, hc3, h⟩ := cI_t h
  refine F_call (frX12_findHere o (88 : Int32) x1 ho σ hc3) (by decide) ?_
  refine F_ifn h (fun h => ?_) (fun h => ?_)
  · skip
    cases h
    exact F_refl
  · skip
    refine F_gar h (fun x5 h => ?_)
    obtain ⟨x8, σ6, hc7, h⟩ := cI_t h
    refine F_call (frX12_findHere o (92 : Int32) x5 ho σ2 hc7) (by decide) ?_
    refine F_ifn h (fun h => ?_) (fun h => ?_)
    · skip
      cases h
      exact F_refl
    · skip
      refine F_gar h (fun x9 h => ?_)
      obtain ⟨x12, σ10, hc11, h⟩ := cI_t h
      refine F_call (frX12_findHere o (100 : Int32) x9 ho σ6 hc11) (by decide) ?_
      refine F_ifn h (fun h => ?_) (fun h => ?_)
      · skip
        cases h
        exact F_refl
      · skip
        cases h
        exact F_refl
set_option maxRecDepth 100000 in
set_option maxHeartbeats 4000000 in
theorem frX12_newOne (o : Nat) (a1 : Int32) (a2 : Int32) (a3 : Int32) (ho : KD o = 12) (σ : Mm) {xr : Int32} {τ : Mm} (h : fX12_newOne o a1 a2 a3 σ = some (xr, τ)) : FK [12] σ τ := by
  unfold fX12_newOne at h
  refine F_gar h (fun x1 h => ?_)
  refine F_ifn h (fun h => ?_) (fun h => ?_)
  · skip
    obtain ⟨σ2, hc3, h⟩ := cV_t h
    refine F_call (frX12_ahead o ho σ hc3) (by decide) ?_
    obtain ⟨x6, σ4, hc5, h⟩ := cI_t h
    refine F_call (frX12_isName o ho σ2 hc5) (by decide) ?_
    refine F_ifn h (fun h => ?_) (fun h => ?_)
    · skip
      obtain ⟨x9, σ7, hc8, h⟩ := cI_t h
      refine F_call (frX12_isNew o ho σ4 hc8) (by decide) ?_
      refine F_ifn h (fun h => ?_) (fun h => ?_)
      · skip
        refine F_gar h (fun x10 h => ?_)
        obtain ⟨x13, σ11, hc12, h⟩ := cL_t h
        refine F_call (frX12_nameHere o ho σ7 hc12) (by decide) ?_
        refine F_sla ho (by decide) h (fun σ14 h => ?_)
        obtain ⟨σ15, hc16, h⟩ := cV_t h
        refine F_call (frX12_ahead o ho σ14 hc16) (by decide) ?_
        cases h
        exact F_refl
      · skip
        obtain ⟨x19, σ17, hc18, h⟩ := cI_t h
        refine F_call (frX12_fails o (3 : Int32) ho σ7 hc18) (by decide) ?_
        obtain ⟨hz20, h⟩ := bz_t h
        cases h
        exact F_refl
    · skip
      obtain ⟨x23, σ21, hc22, h⟩ := cI_t h
      refine F_call (frX12_fails o (2 : Int32) ho σ4 hc22) (by decide) ?_
      obtain ⟨hz24, h⟩ := bz_t h
      cases h
      exact F_refl
  · skip
    obtain ⟨x27, σ25, hc26, h⟩ := cI_t h
    refine F_call (frX12_fails o (6 : Int32) ho σ hc26) (by decide) ?_
    obtain ⟨hz28, h⟩ := bz_t h
    cases h
    exact F_refl
set_option maxRecDepth 100000 in
set_option maxHeartbeats 4000000 in
theorem frX12_oldOne (o : Nat) (a1 : Int32) (a2 : Int32) (a3 : Int32) (ho : KD o = 12) (σ : Mm) {xr : Int32} {τ : Mm} (h : fX12_oldOne o a1 a2 a3 σ = some (xr, τ)) : FK [12] σ τ := by
  unfold fX12_oldOne at h
  obtain ⟨x3, σ1, hc2, h⟩ := cI_t h
  refine F_call (frX12_isName o ho σ hc2) (by decide) ?_
  refine F_ifn h (fun h => ?_) (fun h => ?_)
  · skip
    obtain ⟨x6, σ4, hc5, h⟩ := cI_t h
    refine F_call (frX12_findHere o (a1 + a3) a2 ho σ1 hc5) (by decide) ?_
    refine F_psc ho (by decide) h (fun σ7 h => ?_)
    refine F_rsc h (fun x8 h => ?_)
    refine F_ifn h (fun h => ?_) (fun h => ?_)
    · skip
      cases h
      exact F_refl
    · skip
      obtain ⟨x11, σ9, hc10, h⟩ := cI_t h
      refine F_call (frX12_fails o (3 : Int32) ho σ7 hc10) (by decide) ?_
      obtain ⟨hz12, h⟩ := bz_t h
      cases h
      exact F_refl
  · skip
    obtain ⟨x15, σ13, hc14, h⟩ := cI_t h
    refine F_call (frX12_fails o (2 : Int32) ho σ1 hc14) (by decide) ?_
    obtain ⟨hz16, h⟩ := bz_t h
    cases h
    exact F_refl
set_option maxRecDepth 100000 in
set_option maxHeartbeats 4000000 in
theorem ftX12_aVane_149 {xr : Int32} {τ : Mm} (o : Nat) (ho : KD o = 12) (v1 : Int32) (σ : Mm) (h : fX12_aVane_149 o v1 σ = some (xr, τ)) : FK [12] σ τ := by
  unfold fX12_aVane_149 at h
  obtain ⟨x33, σ31, hc32, h⟩ := cI_t h
  refine F_call (frX12_inWords o ho σ hc32) (by decide) ?_
  refine F_ifn h (fun h => ?_) (fun h => ?_)
  · skip
    refine F_gar h (fun x34 h => ?_)
    refine F_sar ho (by decide) h (fun σ35 h => ?_)
    cases h
    exact F_refl
  · skip
    obtain ⟨σ36, hc37, h⟩ := cV_t h
    refine F_call (frX12_ahead o ho σ31 hc37) (by decide) ?_
    refine F_gar h (fun x38 h => ?_)
    obtain ⟨x41, σ39, hc40, h⟩ := cI_t h
    refine F_call (frX12_number o (v1 + (3 : Int32)) (0 : Int32) (x38 - (1 : Int32)) ho σ36 hc40) (by decide) ?_
    refine F_ifn h (fun h => ?_) (fun h => ?_)
    · skip
      refine F_gar h (fun x42 h => ?_)
      refine F_sar ho (by decide) h (fun σ43 h => ?_)
      cases h
      exact F_refl
    · skip
      cases h
      exact F_refl
set_option maxRecDepth 100000 in
set_option maxHeartbeats 4000000 in
theorem ftX12_aVane_52 {xr : Int32} {τ : Mm} (o : Nat) (ho : KD o = 12) (v1 : Int32) (σ : Mm) (h : fX12_aVane_52 o v1 σ = some (xr, τ)) : FK [12] σ τ := by
  unfold fX12_aVane_52 at h
  obtain ⟨x8, σ6, hc7, h⟩ := cI_t h
  refine F_call (frX12_wantWord o (4 : Int32) ho σ hc7) (by decide) ?_
  refine F_if h (fun h => ?_) (fun h => ?_)
  · skip
    cases h
    exact F_refl
  · skip
    obtain ⟨x11, σ9, hc10, h⟩ := cI_t h
    refine F_call (frX12_number o v1 (4 : Int32) (60 : Int32) ho σ6 hc10) (by decide) ?_
    refine F_if h (fun h => ?_) (fun h => ?_)
    · skip
      cases h
      exact F_refl
    · skip
      obtain ⟨x14, σ12, hc13, h⟩ := cI_t h
      refine F_call (frX12_wantWord o (5 : Int32) ho σ9 hc13) (by decide) ?_
      refine F_if h (fun h => ?_) (fun h => ?_)
      · skip
        cases h
        exact F_refl
      · skip
        refine F_gar h (fun x15 h => ?_)
        obtain ⟨x18, σ16, hc17, h⟩ := cI_t h
        refine F_call (frX12_oldOne o (88 : Int32) x15 (0 : Int32) ho σ12 hc17) (by decide) ?_
        refine F_ifn h (fun h => ?_) (fun h => ?_)
        · skip
          refine F_rsc h (fun x19 h => ?_)
          refine F_sar ho (by decide) h (fun σ20 h => ?_)
          obtain ⟨σ21, hc22, h⟩ := cV_t h
          refine F_call (frX12_ahead o ho σ20 hc22) (by decide) ?_
          obtain ⟨x25, σ23, hc24, h⟩ := cI_t h
          refine F_call (frX12_inWords o ho σ21 hc24) (by decide) ?_
          refine F_ifn h (fun h => ?_) (fun h => ?_)
          · skip
            exact ftX12_aVane_149 o ho v1 σ23 h
          · skip
            obtain ⟨σ26, hc27, h⟩ := cV_t h
            refine F_call (frX12_ahead o ho σ23 hc27) (by decide) ?_
            obtain ⟨x30, σ28, hc29, h⟩ := cI_t h
            refine F_call (frX12_number o (v1 + (2 : Int32)) (0 : Int32) (99 : Int32) ho σ26 hc29) (by decide) ?_
            refine F_ifn h (fun h => ?_) (fun h => ?_)
            · skip
              exact ftX12_aVane_149 o ho v1 σ28 h
            · skip
              cases h
              exact F_refl
        · skip
          cases h
          exact F_refl
set_option maxRecDepth 100000 in
set_option maxHeartbeats 4000000 in
theorem ftX12_aVane_31 {xr : Int32} {τ : Mm} (o : Nat) (ho : KD o = 12) : ∀ (n : Nat) (v1 : Int32) (v2 : Int32) (σ : Mm), fX12_aVane_31 o n v1 v2 σ = some (xr, τ) → FK [12] σ τ := by
  intro n
  induction n with
  | zero => intro v1 v2 σ h; rw [fX12_aVane_31] at h; cases h
  | succ n ih =>
    intro v1 v2 σ h
    rw [fX12_aVane_31] at h
    refine F_if h (fun h => ?_) (fun h => ?_)
    · skip
      exact ftX12_aVane_52 o ho v1 σ h
    · skip
      refine F_sar ho (by decide) h (fun σ5 h => ?_)
      exact ih v1 (v2 + (1 : Int32)) σ5 h
set_option maxRecDepth 100000 in
set_option maxHeartbeats 4000000 in
theorem frX12_aVane (o : Nat) (ho : KD o = 12) (σ : Mm) {xr : Int32} {τ : Mm} (h : fX12_aVane o σ = some (xr, τ)) : FK [12] σ τ := by
  unfold fX12_aVane at h
  refine F_gar h (fun x1 h => ?_)
  obtain ⟨x4, σ2, hc3, h⟩ := cI_t h
  refine F_call (frX12_newOne o (1 : Int32) (8 : Int32) (4 : Int32) ho σ hc3) (by decide) ?_
  refine F_ifn h (fun h => ?_) (fun h => ?_)
  · skip
    exact ftX12_aVane_31 o ho FU ((1980 : Int32) + ((6 : Int32) * x1)) (0 : Int32) σ2 h
  · skip
    cases h
    exact F_refl
set_option maxRecDepth 100000 in
set_option maxHeartbeats 4000000 in
theorem frX12_aShaft (o : Nat) (a1 : Int32) (ho : KD o = 12) (σ : Mm) {xr : Int32} {τ : Mm} (h : fX12_aShaft o a1 σ = some (xr, τ)) : FK [12] σ τ := by
  unfold fX12_aShaft at h
  refine F_gar h (fun x1 h => ?_)
  obtain ⟨x4, σ2, hc3, h⟩ := cI_t h
  refine F_call (frX12_newOne o (2 : Int32) (10 : Int32) (12 : Int32) ho σ hc3) (by decide) ?_
  refine F_ifn h (fun h => ?_) (fun h => ?_)
  · skip
    refine F_sar ho (by decide) h (fun σ5 h => ?_)
    refine F_sar ho (by decide) h (fun σ6 h => ?_)
    refine F_sar ho (by decide) h (fun σ7 h => ?_)
    obtain ⟨x10, σ8, hc9, h⟩ := cI_t h
    refine F_call (frX12_wantWord o (8 : Int32) ho σ7 hc9) (by decide) ?_
    refine F_if h (fun h => ?_) (fun h => ?_)
    · skip
      cases h
      exact F_refl
    · skip
      refine F_gar h (fun x11 h => ?_)
      obtain ⟨x14, σ12, hc13, h⟩ := cI_t h
      refine F_call (frX12_oldOne o (88 : Int32) x11 (4 : Int32) ho σ8 hc13) (by decide) ?_
      refine F_ifn h (fun h => ?_) (fun h => ?_)
      · skip
        refine F_rsc h (fun x15 h => ?_)
        refine F_sar ho (by decide) h (fun σ16 h => ?_)
        obtain ⟨σ17, hc18, h⟩ := cV_t h
        refine F_call (frX12_ahead o ho σ16 hc18) (by decide) ?_
        refine F_gar h (fun x19 h => ?_)
        obtain ⟨x22, σ20, hc21, h⟩ := cI_t h
        refine F_call (frX12_oldOne o (88 : Int32) x19 (4 : Int32) ho σ17 hc21) (by decide) ?_
        refine F_ifn h (fun h => ?_) (fun h => ?_)
        · skip
          refine F_rsc h (fun x23 h => ?_)
          refine F_gar h (fun x24 h => ?_)
          refine F_ifn h (fun h => ?_) (fun h => ?_)
          · skip
            refine F_rsc h (fun x25 h => ?_)
            refine F_sar ho (by decide) h (fun σ26 h => ?_)
            obtain ⟨σ27, hc28, h⟩ := cV_t h
            refine F_call (frX12_ahead o ho σ26 hc28) (by decide) ?_
            obtain ⟨x31, σ29, hc30, h⟩ := cI_t h
            refine F_call (frX12_inWords o ho σ27 hc30) (by decide) ?_
            refine F_ifn h (fun h => ?_) (fun h => ?_)
            · skip
              refine F_gar h (fun x32 h => ?_)
              refine F_sar ho (by decide) h (fun σ33 h => ?_)
              cases h
              exact F_refl
            · skip
              obtain ⟨σ34, hc35, h⟩ := cV_t h
              refine F_call (frX12_ahead o ho σ29 hc35) (by decide) ?_
              obtain ⟨x38, σ36, hc37, h⟩ := cI_t h
              refine F_call (frX12_number o (((2030 : Int32) + ((5 : Int32) * x1)) + (3 : Int32)) (0 : Int32) (9 : Int32) ho σ34 hc37) (by decide) ?_
              refine F_ifn h (fun h => ?_) (fun h => ?_)
              · skip
                refine F_gar h (fun x39 h => ?_)
                refine F_sar ho (by decide) h (fun σ40 h => ?_)
                cases h
                exact F_refl
              · skip
                cases h
                exact F_refl
          · skip
            obtain ⟨x43, σ41, hc42, h⟩ := cI_t h
            refine F_call (frX12_fails o (5 : Int32) ho σ20 hc42) (by decide) ?_
            obtain ⟨hz44, h⟩ := bz_t h
            cases h
            exact F_refl
        · skip
          cases h
          exact F_refl
      · skip
        cases h
        exact F_refl
  · skip
    cases h
    exact F_refl
set_option maxRecDepth 100000 in
set_option maxHeartbeats 4000000 in
theorem frX12_villagePart (o : Nat) (ho : KD o = 12) (σ : Mm) {xr : Int32} {τ : Mm} (h : fX12_villagePart o σ = some (xr, τ)) : FK [12] σ τ := by
  unfold fX12_villagePart at h
  obtain ⟨x3, σ1, hc2, h⟩ := cI_t h
  refine F_call (frX12_inWords o ho σ hc2) (by decide) ?_
  by_cases hs4 : x3 = (0 : Int32)
  · rw [if_pos hs4] at h
    obtain ⟨x7, σ5, hc6, h⟩ := cI_t h
    refine F_call (frX12_newOne o (0 : Int32) (4 : Int32) (0 : Int32) ho σ1 hc6) (by decide) ?_
    refine F_gar h (fun x8 h => ?_)
    refine F_if h (fun h => ?_) (fun h => ?_)
    · skip
      refine F_sar ho (by decide) h (fun σ9 h => ?_)
      refine F_if h (fun h => ?_) (fun h => ?_)
      · skip
        cases h
        exact F_refl
      · skip
        obtain ⟨x12, σ10, hc11, h⟩ := cI_t h
        refine F_call (frX12_wantSign o (59 : Int32) ho σ9 hc11) (by decide) ?_
        refine F_if h (fun h => ?_) (fun h => ?_)
        · skip
          cases h
          exact F_refl
        · skip
          cases h
          exact F_refl
    · skip
      refine F_sar ho (by decide) h (fun σ13 h => ?_)
      refine F_if h (fun h => ?_) (fun h => ?_)
      · skip
        cases h
        exact F_refl
      · skip
        obtain ⟨x16, σ14, hc15, h⟩ := cI_t h
        refine F_call (frX12_wantSign o (59 : Int32) ho σ13 hc15) (by decide) ?_
        refine F_if h (fun h => ?_) (fun h => ?_)
        · skip
          cases h
          exact F_refl
        · skip
          cases h
          exact F_refl
  rw [if_neg hs4] at h
  by_cases hs17 : x3 = (1 : Int32)
  · rw [if_pos hs17] at h
    obtain ⟨x20, σ18, hc19, h⟩ := cI_t h
    refine F_call (frX12_aVane o ho σ1 hc19) (by decide) ?_
    refine F_if h (fun h => ?_) (fun h => ?_)
    · skip
      cases h
      exact F_refl
    · skip
      obtain ⟨x23, σ21, hc22, h⟩ := cI_t h
      refine F_call (frX12_wantSign o (59 : Int32) ho σ18 hc22) (by decide) ?_
      refine F_if h (fun h => ?_) (fun h => ?_)
      · skip
        cases h
        exact F_refl
      · skip
        cases h
        exact F_refl
  rw [if_neg hs17] at h
  by_cases hs24 : x3 = (2 : Int32)
  · rw [if_pos hs24] at h
    obtain ⟨x27, σ25, hc26, h⟩ := cI_t h
    refine F_call (frX12_aShaft o (0 : Int32) ho σ1 hc26) (by decide) ?_
    refine F_if h (fun h => ?_) (fun h => ?_)
    · skip
      cases h
      exact F_refl
    · skip
      obtain ⟨x30, σ28, hc29, h⟩ := cI_t h
      refine F_call (frX12_wantSign o (59 : Int32) ho σ25 hc29) (by decide) ?_
      refine F_if h (fun h => ?_) (fun h => ?_)
      · skip
        cases h
        exact F_refl
      · skip
        cases h
        exact F_refl
  rw [if_neg hs24] at h
  by_cases hs31 : x3 = (3 : Int32)
  · rw [if_pos hs31] at h
    obtain ⟨x34, σ32, hc33, h⟩ := cI_t h
    refine F_call (frX12_aShaft o (1 : Int32) ho σ1 hc33) (by decide) ?_
    refine F_if h (fun h => ?_) (fun h => ?_)
    · skip
      cases h
      exact F_refl
    · skip
      obtain ⟨x37, σ35, hc36, h⟩ := cI_t h
      refine F_call (frX12_wantSign o (59 : Int32) ho σ32 hc36) (by decide) ?_
      refine F_if h (fun h => ?_) (fun h => ?_)
      · skip
        cases h
        exact F_refl
      · skip
        cases h
        exact F_refl
  rw [if_neg hs31] at h
  obtain ⟨x40, σ38, hc39, h⟩ := cI_t h
  refine F_call (frX12_fails o (2 : Int32) ho σ1 hc39) (by decide) ?_
  obtain ⟨hz41, h⟩ := bz_t h
  cases h
  exact F_refl
set_option maxRecDepth 100000 in
set_option maxHeartbeats 4000000 in
theorem ftX12_village_113 {xr : Int32} {τ : Mm} (o : Nat) (a1 : Int32) (ho : KD o = 12) : ∀ (n : Nat) (v3 : Int32) (σ : Mm), fX12_village_113 o a1 n v3 σ = some (xr, τ) → FK [12] σ τ := by
  intro n
  induction n with
  | zero => intro v3 σ h; rw [fX12_village_113] at h; cases h
  | succ n ih =>
    intro v3 σ h
    rw [fX12_village_113] at h
    refine F_if h (fun h => ?_) (fun h => ?_)
    · skip
      refine F_gar h (fun x20 h => ?_)
      obtain ⟨x23, σ21, hc22, h⟩ := cI_t h
      refine F_call (frX12_taken o x20 ho σ hc22) (by decide) ?_
      cases h
      exact F_refl
    · skip
      refine F_gla h (fun x24 h => ?_)
      refine F_sla ho (by decide) h (fun σ25 h => ?_)
      exact ih (v3 + (1 : Int32)) σ25 h
set_option maxRecDepth 100000 in
set_option maxHeartbeats 4000000 in
theorem ftX12_village_82 {xr : Int32} {τ : Mm} (o : Nat) (a1 : Int32) (ho : KD o = 12) : ∀ (n : Nat) (v3 : Int32) (σ : Mm), fX12_village_82 o a1 n v3 σ = some (xr, τ) → FK [12] σ τ := by
  intro n
  induction n with
  | zero => intro v3 σ h; rw [fX12_village_82] at h; cases h
  | succ n ih =>
    intro v3 σ h
    rw [fX12_village_82] at h
    refine F_if h (fun h => ?_) (fun h => ?_)
    · skip
      exact ftX12_village_113 o a1 ho FU (0 : Int32) σ h
    · skip
      refine F_gar h (fun x18 h => ?_)
      refine F_sar ho (by decide) h (fun σ19 h => ?_)
      exact ih (v3 + (1 : Int32)) σ19 h
set_option maxRecDepth 100000 in
set_option maxHeartbeats 4000000 in
theorem ftX12_village_73 {xr : Int32} {τ : Mm} (o : Nat) (a1 : Int32) (ho : KD o = 12) (σ : Mm) (h : fX12_village_73 o a1 σ = some (xr, τ)) : FK [12] σ τ := by
  unfold fX12_village_73 at h
  refine F_rsc h (fun x13 h => ?_)
  refine F_ifn h (fun h => ?_) (fun h => ?_)
  · skip
    refine F_gar h (fun x14 h => ?_)
    obtain ⟨x17, σ15, hc16, h⟩ := cI_t h
    refine F_call (frX12_taken o x14 ho σ hc16) (by decide) ?_
    cases h
    exact F_refl
  · skip
    exact ftX12_village_82 o a1 ho FU (0 : Int32) σ h
set_option maxRecDepth 100000 in
set_option maxHeartbeats 4000000 in
theorem ftX12_village_54 {xr : Int32} {τ : Mm} (o : Nat) (a1 : Int32) (ho : KD o = 12) : ∀ (n : Nat) (v2 : Int32) (σ : Mm), fX12_village_54 o a1 n v2 σ = some (xr, τ) → FK [12] σ τ := by
  intro n
  induction n with
  | zero => intro v2 σ h; rw [fX12_village_54] at h; cases h
  | succ n ih =>
    intro v2 σ h
    rw [fX12_village_54] at h
    refine F_if h (fun h => ?_) (fun h => ?_)
    · skip
      exact ftX12_village_73 o a1 ho σ h
    · skip
      refine F_rsc h (fun x9 h => ?_)
      refine F_if h (fun h => ?_) (fun h => ?_)
      · skip
        exact ftX12_village_73 o a1 ho σ h
      · skip
        obtain ⟨x12, σ10, hc11, h⟩ := cI_t h
        refine F_call (frX12_villagePart o ho σ hc11) (by decide) ?_
        exact ih x12 σ10 h
set_option maxRecDepth 100000 in
set_option maxHeartbeats 4000000 in
theorem ftX12_village_43 {xr : Int32} {τ : Mm} (o : Nat) (a1 : Int32) (ho : KD o = 12) (σ : Mm) (h : fX12_village_43 o a1 σ = some (xr, τ)) : FK [12] σ τ := by
  unfold fX12_village_43 at h
  refine F_sar ho (by decide) h (fun σ8 h => ?_)
  exact ftX12_village_54 o a1 ho FU (1 : Int32) σ8 h
set_option maxRecDepth 100000 in
set_option maxHeartbeats 4000000 in
theorem ftX12_village_19 {xr : Int32} {τ : Mm} (o : Nat) (a1 : Int32) (ho : KD o = 12) : ∀ (n : Nat) (v2 : Int32) (σ : Mm), fX12_village_19 o a1 n v2 σ = some (xr, τ) → FK [12] σ τ := by
  intro n
  induction n with
  | zero => intro v2 σ h; rw [fX12_village_19] at h; cases h
  | succ n ih =>
    intro v2 σ h
    rw [fX12_village_19] at h
    refine F_if h (fun h => ?_) (fun h => ?_)
    · skip
      exact ftX12_village_43 o a1 ho σ h
    · skip
      refine F_sar ho (by decide) h (fun σ7 h => ?_)
      exact ih (v2 + (1 : Int32)) σ7 h
set_option maxRecDepth 100000 in
set_option maxHeartbeats 4000000 in
theorem frX12_village (o : Nat) (a1 : Int32) (ho : KD o = 12) (σ : Mm) {xr : Int32} {τ : Mm} (h : fX12_village o a1 σ = some (xr, τ)) : FK [12] σ τ := by
  unfold fX12_village at h
  obtain ⟨x3, σ1, hc2, h⟩ := cI_t h
  refine F_call (frX12_begins o a1 (900 : Int32) ho σ hc2) (by decide) ?_
  refine F_ifn h (fun h => ?_) (fun h => ?_)
  · skip
    exact ftX12_village_19 o a1 ho FU (0 : Int32) σ1 h
  · skip
    obtain ⟨x6, σ4, hc5, h⟩ := cI_t h
    refine F_call (frX12_refuse o (1 : Int32) ho σ1 hc5) (by decide) ?_
    cases h
    exact F_refl
set_option maxRecDepth 100000 in
set_option maxHeartbeats 4000000 in
theorem frX12_orderName (o : Nat) (a1 : Int32) (a2 : Int32) (a3 : Int32) (ho : KD o = 12) (σ : Mm) {xr : Int32} {τ : Mm} (h : fX12_orderName o a1 a2 a3 σ = some (xr, τ)) : FK [12] σ τ := by
  unfold fX12_orderName at h
  refine F_gar h (fun x1 h => ?_)
  obtain ⟨x4, σ2, hc3, h⟩ := cI_t h
  refine F_call (frX12_oldOne o (0 : Int32) x1 a3 ho σ hc3) (by decide) ?_
  refine F_ifn h (fun h => ?_) (fun h => ?_)
  · skip
    refine F_rsc h (fun x5 h => ?_)
    refine F_sar ho (by decide) h (fun σ6 h => ?_)
    obtain ⟨σ7, hc8, h⟩ := cV_t h
    refine F_call (frX12_ahead o ho σ6 hc8) (by decide) ?_
    cases h
    exact F_refl
  · skip
    cases h
    exact F_refl
set_option maxRecDepth 100000 in
set_option maxHeartbeats 4000000 in
theorem ftX12_aTest_25 {xr : Int32} {τ : Mm} (o : Nat) (a1 : Int32) (ho : KD o = 12) (v2 : Int32) (σ : Mm) (h : fX12_aTest_25 o a1 v2 σ = some (xr, τ)) : FK [12] σ τ := by
  unfold fX12_aTest_25 at h
  refine F_sar ho (by decide) h (fun σ8 h => ?_)
  obtain ⟨σ9, hc10, h⟩ := cV_t h
  refine F_call (frX12_ahead o ho σ8 hc10) (by decide) ?_
  obtain ⟨x13, σ11, hc12, h⟩ := cI_t h
  refine F_call (frX12_orderName o (a1 + (1 : Int32)) (1 : Int32) (4 : Int32) ho σ9 hc12) (by decide) ?_
  refine F_if h (fun h => ?_) (fun h => ?_)
  · skip
    refine F_rsc h (fun x14 h => ?_)
    refine F_ifn h (fun h => ?_) (fun h => ?_)
    · skip
      cases h
      exact F_refl
    · skip
      cases h
      exact F_refl
  · skip
    refine F_ifn h (fun h => ?_) (fun h => ?_)
    · skip
      obtain ⟨x17, σ15, hc16, h⟩ := cI_t h
      refine F_call (frX12_isSign o (60 : Int32) ho σ11 hc16) (by decide) ?_
      refine F_ifn h (fun h => ?_) (fun h => ?_)
      · skip
        refine F_rsc h (fun x18 h => ?_)
        refine F_sar ho (by decide) h (fun σ19 h => ?_)
        obtain ⟨σ20, hc21, h⟩ := cV_t h
        refine F_call (frX12_ahead o ho σ19 hc21) (by decide) ?_
        obtain ⟨x24, σ22, hc23, h⟩ := cI_t h
        refine F_call (frX12_number o (a1 + (2 : Int32)) (0 : Int32) (60 : Int32) ho σ20 hc23) (by decide) ?_
        obtain ⟨hz25, h⟩ := bz_t h
        cases h
        exact F_refl
      · skip
        obtain ⟨x28, σ26, hc27, h⟩ := cI_t h
        refine F_call (frX12_isSign o (62 : Int32) ho σ15 hc27) (by decide) ?_
        refine F_ifn h (fun h => ?_) (fun h => ?_)
        · skip
          refine F_rsc h (fun x29 h => ?_)
          refine F_sar ho (by decide) h (fun σ30 h => ?_)
          obtain ⟨σ31, hc32, h⟩ := cV_t h
          refine F_call (frX12_ahead o ho σ30 hc32) (by decide) ?_
          obtain ⟨x35, σ33, hc34, h⟩ := cI_t h
          refine F_call (frX12_number o (a1 + (2 : Int32)) (0 : Int32) (60 : Int32) ho σ31 hc34) (by decide) ?_
          obtain ⟨hz36, h⟩ := bz_t h
          cases h
          exact F_refl
        · skip
          obtain ⟨x39, σ37, hc38, h⟩ := cI_t h
          refine F_call (frX12_isSign o (61 : Int32) ho σ26 hc38) (by decide) ?_
          refine F_ifn h (fun h => ?_) (fun h => ?_)
          · skip
            refine F_rsc h (fun x40 h => ?_)
            refine F_sar ho (by decide) h (fun σ41 h => ?_)
            obtain ⟨σ42, hc43, h⟩ := cV_t h
            refine F_call (frX12_ahead o ho σ41 hc43) (by decide) ?_
            obtain ⟨x46, σ44, hc45, h⟩ := cI_t h
            refine F_call (frX12_number o (a1 + (2 : Int32)) (0 : Int32) (60 : Int32) ho σ42 hc45) (by decide) ?_
            obtain ⟨hz47, h⟩ := bz_t h
            cases h
            exact F_refl
          · skip
            obtain ⟨x50, σ48, hc49, h⟩ := cI_t h
            refine F_call (frX12_fails o (2 : Int32) ho σ37 hc49) (by decide) ?_
            obtain ⟨hz51, h⟩ := bz_t h
            cases h
            exact F_refl
    · skip
      refine F_rsc h (fun x52 h => ?_)
      refine F_ifn h (fun h => ?_) (fun h => ?_)
      · skip
        cases h
        exact F_refl
      · skip
        cases h
        exact F_refl
set_option maxRecDepth 100000 in
set_option maxHeartbeats 4000000 in
theorem frX12_aTest (o : Nat) (a1 : Int32) (ho : KD o = 12) (σ : Mm) {xr : Int32} {τ : Mm} (h : fX12_aTest o a1 σ = some (xr, τ)) : FK [12] σ τ := by
  unfold fX12_aTest at h
  obtain ⟨x3, σ1, hc2, h⟩ := cI_t h
  refine F_call (frX12_inWords o ho σ hc2) (by decide) ?_
  refine F_if h (fun h => ?_) (fun h => ?_)
  · skip
    exact ftX12_aTest_25 o a1 ho x3 σ1 h
  · skip
    refine F_if h (fun h => ?_) (fun h => ?_)
    · skip
      exact ftX12_aTest_25 o a1 ho x3 σ1 h
    · skip
      obtain ⟨x6, σ4, hc5, h⟩ := cI_t h
      refine F_call (frX12_fails o (2 : Int32) ho σ1 hc5) (by decide) ?_
      obtain ⟨hz7, h⟩ := bz_t h
      cases h
      exact F_refl
set_option maxRecDepth 100000 in
set_option maxHeartbeats 4000000 in
theorem frX12_order (o : Nat) (a1 : Int32) (a2 : Int32) (ho : KD o = 12) (σ : Mm) {xr : Int32} {τ : Mm} (h : fX12_order o a1 a2 σ = some (xr, τ)) : FK [12] σ τ := by
  unfold fX12_order at h
  by_cases hs1 : a1 = (10 : Int32)
  · rw [if_pos hs1] at h
    obtain ⟨x4, σ2, hc3, h⟩ := cI_t h
    refine F_call (frX12_orderName o (a2 + (1 : Int32)) (0 : Int32) (0 : Int32) ho σ hc3) (by decide) ?_
    refine F_if h (fun h => ?_) (fun h => ?_)
    · skip
      cases h
      exact F_refl
    · skip
      obtain ⟨x7, σ5, hc6, h⟩ := cI_t h
      refine F_call (frX12_number o (a2 + (2 : Int32)) (0 : Int32) (15 : Int32) ho σ2 hc6) (by decide) ?_
      refine F_if h (fun h => ?_) (fun h => ?_)
      · skip
        cases h
        exact F_refl
      · skip
        obtain ⟨x10, σ8, hc9, h⟩ := cI_t h
        refine F_call (frX12_number o (a2 + (3 : Int32)) (0 : Int32) (99 : Int32) ho σ5 hc9) (by decide) ?_
        refine F_if h (fun h => ?_) (fun h => ?_)
        · skip
          cases h
          exact F_refl
        · skip
          cases h
          exact F_refl
  rw [if_neg hs1] at h
  by_cases hs11 : a1 = (11 : Int32)
  · rw [if_pos hs11] at h
    obtain ⟨x14, σ12, hc13, h⟩ := cI_t h
    refine F_call (frX12_number o (a2 + (1 : Int32)) (0 : Int32) (99 : Int32) ho σ hc13) (by decide) ?_
    obtain ⟨hz15, h⟩ := bz_t h
    cases h
    exact F_refl
  rw [if_neg hs11] at h
  by_cases hs16 : a1 = (12 : Int32)
  · rw [if_pos hs16] at h
    obtain ⟨x19, σ17, hc18, h⟩ := cI_t h
    refine F_call (frX12_number o (a2 + (1 : Int32)) (1 : Int32) (99 : Int32) ho σ hc18) (by decide) ?_
    obtain ⟨hz20, h⟩ := bz_t h
    cases h
    exact F_refl
  rw [if_neg hs16] at h
  by_cases hs21 : a1 = (13 : Int32)
  · rw [if_pos hs21] at h
    obtain ⟨x24, σ22, hc23, h⟩ := cI_t h
    refine F_call (frX12_orderName o (a2 + (1 : Int32)) (2 : Int32) (12 : Int32) ho σ hc23) (by decide) ?_
    obtain ⟨hz25, h⟩ := bz_t h
    cases h
    exact F_refl
  rw [if_neg hs21] at h
  by_cases hs26 : a1 = (14 : Int32)
  · rw [if_pos hs26] at h
    obtain ⟨x29, σ27, hc28, h⟩ := cI_t h
    refine F_call (frX12_orderName o (a2 + (1 : Int32)) (2 : Int32) (12 : Int32) ho σ hc28) (by decide) ?_
    obtain ⟨hz30, h⟩ := bz_t h
    cases h
    exact F_refl
  rw [if_neg hs26] at h
  by_cases hs31 : a1 = (15 : Int32)
  · rw [if_pos hs31] at h
    obtain ⟨x34, σ32, hc33, h⟩ := cI_t h
    refine F_call (frX12_orderName o (a2 + (1 : Int32)) (1 : Int32) (4 : Int32) ho σ hc33) (by decide) ?_
    obtain ⟨hz35, h⟩ := bz_t h
    cases h
    exact F_refl
  rw [if_neg hs31] at h
  by_cases hs36 : a1 = (16 : Int32)
  · rw [if_pos hs36] at h
    obtain ⟨x39, σ37, hc38, h⟩ := cI_t h
    refine F_call (frX12_orderName o (a2 + (1 : Int32)) (1 : Int32) (4 : Int32) ho σ hc38) (by decide) ?_
    obtain ⟨hz40, h⟩ := bz_t h
    cases h
    exact F_refl
  rw [if_neg hs36] at h
  by_cases hs41 : a1 = (17 : Int32)
  · rw [if_pos hs41] at h
    obtain ⟨x44, σ42, hc43, h⟩ := cI_t h
    refine F_call (frX12_orderName o (a2 + (1 : Int32)) (1 : Int32) (4 : Int32) ho σ hc43) (by decide) ?_
    refine F_if h (fun h => ?_) (fun h => ?_)
    · skip
      cases h
      exact F_refl
    · skip
      obtain ⟨x47, σ45, hc46, h⟩ := cI_t h
      refine F_call (frX12_number o (a2 + (2 : Int32)) (1 : Int32) (99 : Int32) ho σ42 hc46) (by decide) ?_
      refine F_if h (fun h => ?_) (fun h => ?_)
      · skip
        cases h
        exact F_refl
      · skip
        cases h
        exact F_refl
  rw [if_neg hs41] at h
  by_cases hs48 : a1 = (18 : Int32)
  · rw [if_pos hs48] at h
    obtain ⟨x51, σ49, hc50, h⟩ := cI_t h
    refine F_call (frX12_aTest o a2 ho σ hc50) (by decide) ?_
    obtain ⟨hz52, h⟩ := bz_t h
    cases h
    exact F_refl
  rw [if_neg hs48] at h
  by_cases hs53 : a1 = (20 : Int32)
  · rw [if_pos hs53] at h
    obtain ⟨x56, σ54, hc55, h⟩ := cI_t h
    refine F_call (frX12_number o (a2 + (1 : Int32)) (1 : Int32) (99 : Int32) ho σ hc55) (by decide) ?_
    obtain ⟨hz57, h⟩ := bz_t h
    cases h
    exact F_refl
  rw [if_neg hs53] at h
  cases h
  exact F_refl
set_option maxRecDepth 100000 in
set_option maxHeartbeats 4000000 in
theorem ftX12_step_246 {xr : Int32} {τ : Mm} (o : Nat) (ho : KD o = 12) (v1 : Int32) (v2 : Int32) (v3 : Int32) (σ : Mm) (h : fX12_step_246 o v1 v2 v3 σ = some (xr, τ)) : FK [12] σ τ := by
  unfold fX12_step_246 at h
  refine F_ifn h (fun h => ?_) (fun h => ?_)
  · skip
    obtain ⟨x75, σ73, hc74, h⟩ := cI_t h
    refine F_call (frX12_wantSign o (59 : Int32) ho σ hc74) (by decide) ?_
    obtain ⟨hz76, h⟩ := bz_t h
    cases h
    exact F_refl
  · skip
    refine F_rsc h (fun x77 h => ?_)
    refine F_psc ho (by decide) h (fun σ78 h => ?_)
    refine F_rsc h (fun x79 h => ?_)
    refine F_gar h (fun x80 h => ?_)
    refine F_sar ho (by decide) h (fun σ81 h => ?_)
    refine F_rsc h (fun x82 h => ?_)
    refine F_gar h (fun x83 h => ?_)
    refine F_sar ho (by decide) h (fun σ84 h => ?_)
    obtain ⟨x87, σ85, hc86, h⟩ := cI_t h
    refine F_call (frX12_wantSign o (59 : Int32) ho σ84 hc86) (by decide) ?_
    obtain ⟨hz88, h⟩ := bz_t h
    cases h
    exact F_refl
set_option maxRecDepth 100000 in
set_option maxHeartbeats 4000000 in
theorem ftX12_step_194 {xr : Int32} {τ : Mm} (o : Nat) (ho : KD o = 12) (v1 : Int32) (v2 : Int32) (v3 : Int32) (v4 : Int32) (σ : Mm) (h : fX12_step_194 o v1 v2 v3 v4 σ = some (xr, τ)) : FK [12] σ τ := by
  unfold fX12_step_194 at h
  refine F_gar h (fun x62 h => ?_)
  refine F_sar ho (by decide) h (fun σ63 h => ?_)
  obtain ⟨σ64, hc65, h⟩ := cV_t h
  refine F_call (frX12_ahead o ho σ63 hc65) (by decide) ?_
  obtain ⟨x68, σ66, hc67, h⟩ := cI_t h
  refine F_call (frX12_order o v1 v3 ho σ64 hc67) (by decide) ?_
  refine F_ifn h (fun h => ?_) (fun h => ?_)
  · skip
    refine F_if h (fun h => ?_) (fun h => ?_)
    · skip
      exact ftX12_step_246 o ho v1 v2 v3 σ66 h
    · skip
      refine F_rsc h (fun x69 h => ?_)
      refine F_sar ho (by decide) h (fun σ70 h => ?_)
      refine F_rsc h (fun x71 h => ?_)
      refine F_psc ho (by decide) h (fun σ72 h => ?_)
      exact ftX12_step_246 o ho v1 v2 v3 σ72 h
  · skip
    cases h
    exact F_refl
set_option maxRecDepth 100000 in
set_option maxHeartbeats 4000000 in
theorem ftX12_step_171 {xr : Int32} {τ : Mm} (o : Nat) (ho : KD o = 12) : ∀ (n : Nat) (v1 : Int32) (v2 : Int32) (v3 : Int32) (v4 : Int32) (v6 : Int32) (σ : Mm), fX12_step_171 o n v1 v2 v3 v4 v6 σ = some (xr, τ) → FK [12] σ τ := by
  intro n
  induction n with
  | zero => intro v1 v2 v3 v4 v6 σ h; rw [fX12_step_171] at h; cases h
  | succ n ih =>
    intro v1 v2 v3 v4 v6 σ h
    rw [fX12_step_171] at h
    refine F_if h (fun h => ?_) (fun h => ?_)
    · skip
      exact ftX12_step_194 o ho v1 v2 v3 v4 σ h
    · skip
      refine F_sar ho (by decide) h (fun σ61 h => ?_)
      exact ih v1 v2 v3 v4 (v6 + (1 : Int32)) σ61 h
set_option maxRecDepth 100000 in
set_option maxHeartbeats 4000000 in
theorem ftX12_step_141 {xr : Int32} {τ : Mm} (o : Nat) (ho : KD o = 12) (v1 : Int32) (v2 : Int32) (v3 : Int32) (v4 : Int32) (σ : Mm) (h : fX12_step_141 o v1 v2 v3 v4 σ = some (xr, τ)) : FK [12] σ τ := by
  unfold fX12_step_141 at h
  refine F_rsc h (fun x56 h => ?_)
  refine F_ifn h (fun h => ?_) (fun h => ?_)
  · skip
    refine F_psc ho (by decide) h (fun σ57 h => ?_)
    refine F_sar ho (by decide) h (fun σ58 h => ?_)
    exact ftX12_step_171 o ho FU v1 v2 v3 v4 (1 : Int32) σ58 h
  · skip
    refine F_psc ho (by decide) h (fun σ59 h => ?_)
    refine F_sar ho (by decide) h (fun σ60 h => ?_)
    exact ftX12_step_171 o ho FU v1 v2 v3 v4 (1 : Int32) σ60 h
set_option maxRecDepth 100000 in
set_option maxHeartbeats 4000000 in
theorem ftX12_step_99 {xr : Int32} {τ : Mm} (o : Nat) (ho : KD o = 12) (v1 : Int32) (v2 : Int32) (v3 : Int32) (v4 : Int32) (σ : Mm) (h : fX12_step_99 o v1 v2 v3 v4 σ = some (xr, τ)) : FK [12] σ τ := by
  unfold fX12_step_99 at h
  refine F_if h (fun h => ?_) (fun h => ?_)
  · skip
    refine F_if h (fun h => ?_) (fun h => ?_)
    · skip
      exact ftX12_step_141 o ho v1 v2 v3 v4 σ h
    · skip
      refine F_rsc h (fun x41 h => ?_)
      refine F_ifn h (fun h => ?_) (fun h => ?_)
      · skip
        exact ftX12_step_141 o ho v1 v2 v3 v4 σ h
      · skip
        obtain ⟨x44, σ42, hc43, h⟩ := cI_t h
        refine F_call (frX12_fails o (7 : Int32) ho σ hc43) (by decide) ?_
        obtain ⟨hz45, h⟩ := bz_t h
        cases h
        exact F_refl
  · skip
    refine F_rsc h (fun x46 h => ?_)
    refine F_ifn h (fun h => ?_) (fun h => ?_)
    · skip
      refine F_if h (fun h => ?_) (fun h => ?_)
      · skip
        exact ftX12_step_141 o ho v1 v2 v3 v4 σ h
      · skip
        refine F_rsc h (fun x47 h => ?_)
        refine F_ifn h (fun h => ?_) (fun h => ?_)
        · skip
          exact ftX12_step_141 o ho v1 v2 v3 v4 σ h
        · skip
          obtain ⟨x50, σ48, hc49, h⟩ := cI_t h
          refine F_call (frX12_fails o (7 : Int32) ho σ hc49) (by decide) ?_
          obtain ⟨hz51, h⟩ := bz_t h
          cases h
          exact F_refl
    · skip
      obtain ⟨x54, σ52, hc53, h⟩ := cI_t h
      refine F_call (frX12_fails o (6 : Int32) ho σ hc53) (by decide) ?_
      obtain ⟨hz55, h⟩ := bz_t h
      cases h
      exact F_refl
set_option maxRecDepth 100000 in
set_option maxHeartbeats 4000000 in
theorem ftX12_step_56 {xr : Int32} {τ : Mm} (o : Nat) (ho : KD o = 12) (v1 : Int32) (v2 : Int32) (v3 : Int32) (v4 : Int32) (σ : Mm) (h : fX12_step_56 o v1 v2 v3 v4 σ = some (xr, τ)) : FK [12] σ τ := by
  unfold fX12_step_56 at h
  refine F_if h (fun h => ?_) (fun h => ?_)
  · skip
    refine F_ifn h (fun h => ?_) (fun h => ?_)
    · skip
      exact ftX12_step_99 o ho v1 v2 v3 v4 σ h
    · skip
      refine F_ifn h (fun h => ?_) (fun h => ?_)
      · skip
        obtain ⟨x16, σ14, hc15, h⟩ := cI_t h
        refine F_call (frX12_fails o (2 : Int32) ho σ hc15) (by decide) ?_
        obtain ⟨hz17, h⟩ := bz_t h
        cases h
        exact F_refl
      · skip
        refine F_rsc h (fun x18 h => ?_)
        refine F_ifn h (fun h => ?_) (fun h => ?_)
        · skip
          exact ftX12_step_99 o ho v1 v2 v3 v4 σ h
        · skip
          obtain ⟨x21, σ19, hc20, h⟩ := cI_t h
          refine F_call (frX12_fails o (2 : Int32) ho σ hc20) (by decide) ?_
          obtain ⟨hz22, h⟩ := bz_t h
          cases h
          exact F_refl
  · skip
    refine F_ifn h (fun h => ?_) (fun h => ?_)
    · skip
      refine F_ifn h (fun h => ?_) (fun h => ?_)
      · skip
        exact ftX12_step_99 o ho v1 v2 v3 v4 σ h
      · skip
        refine F_ifn h (fun h => ?_) (fun h => ?_)
        · skip
          obtain ⟨x25, σ23, hc24, h⟩ := cI_t h
          refine F_call (frX12_fails o (2 : Int32) ho σ hc24) (by decide) ?_
          obtain ⟨hz26, h⟩ := bz_t h
          cases h
          exact F_refl
        · skip
          refine F_rsc h (fun x27 h => ?_)
          refine F_ifn h (fun h => ?_) (fun h => ?_)
          · skip
            exact ftX12_step_99 o ho v1 v2 v3 v4 σ h
          · skip
            obtain ⟨x30, σ28, hc29, h⟩ := cI_t h
            refine F_call (frX12_fails o (2 : Int32) ho σ hc29) (by decide) ?_
            obtain ⟨hz31, h⟩ := bz_t h
            cases h
            exact F_refl
    · skip
      refine F_ifn h (fun h => ?_) (fun h => ?_)
      · skip
        exact ftX12_step_99 o ho v1 v2 v3 v4 σ h
      · skip
        refine F_ifn h (fun h => ?_) (fun h => ?_)
        · skip
          obtain ⟨x34, σ32, hc33, h⟩ := cI_t h
          refine F_call (frX12_fails o (2 : Int32) ho σ hc33) (by decide) ?_
          obtain ⟨hz35, h⟩ := bz_t h
          cases h
          exact F_refl
        · skip
          refine F_rsc h (fun x36 h => ?_)
          refine F_ifn h (fun h => ?_) (fun h => ?_)
          · skip
            exact ftX12_step_99 o ho v1 v2 v3 v4 σ h
          · skip
            obtain ⟨x39, σ37, hc38, h⟩ := cI_t h
            refine F_call (frX12_fails o (2 : Int32) ho σ hc38) (by decide) ?_
            obtain ⟨hz40, h⟩ := bz_t h
            cases h
            exact F_refl
set_option maxRecDepth 100000 in
set_option maxHeartbeats 4000000 in
theorem ftX12_step_42 {xr : Int32} {τ : Mm} (o : Nat) (ho : KD o = 12) (v1 : Int32) (v2 : Int32) (v3 : Int32) (s0 : Int32) (σ : Mm) (h : fX12_step_42 o v1 v2 v3 s0 σ = some (xr, τ)) : FK [12] σ τ := by
  unfold fX12_step_42 at h
  refine F_if h (fun h => ?_) (fun h => ?_)
  · skip
    exact ftX12_step_56 o ho v1 v2 v3 s0 σ h
  · skip
    refine F_if h (fun h => ?_) (fun h => ?_)
    · skip
      refine F_ifn h (fun h => ?_) (fun h => ?_)
      · skip
        exact ftX12_step_99 o ho v1 v2 v3 s0 σ h
      · skip
        refine F_ifn h (fun h => ?_) (fun h => ?_)
        · skip
          obtain ⟨x7, σ5, hc6, h⟩ := cI_t h
          refine F_call (frX12_fails o (2 : Int32) ho σ hc6) (by decide) ?_
          obtain ⟨hz8, h⟩ := bz_t h
          cases h
          exact F_refl
        · skip
          refine F_rsc h (fun x9 h => ?_)
          refine F_ifn h (fun h => ?_) (fun h => ?_)
          · skip
            exact ftX12_step_99 o ho v1 v2 v3 s0 σ h
          · skip
            obtain ⟨x12, σ10, hc11, h⟩ := cI_t h
            refine F_call (frX12_fails o (2 : Int32) ho σ hc11) (by decide) ?_
            obtain ⟨hz13, h⟩ := bz_t h
            cases h
            exact F_refl
    · skip
      exact ftX12_step_56 o ho v1 v2 v3 s0 σ h
set_option maxRecDepth 100000 in
set_option maxHeartbeats 4000000 in
theorem frX12_step (o : Nat) (ho : KD o = 12) (σ : Mm) {xr : Int32} {τ : Mm} (h : fX12_step o σ = some (xr, τ)) : FK [12] σ τ := by
  unfold fX12_step at h
  obtain ⟨x3, σ1, hc2, h⟩ := cI_t h
  refine F_call (frX12_inWords o ho σ hc2) (by decide) ?_
  refine F_gar h (fun x4 h => ?_)
  refine F_if h (fun h => ?_) (fun h => ?_)
  · skip
    exact ftX12_step_42 o ho x3 x4 ((2080 : Int32) + ((6 : Int32) * x4)) (1 : Int32) σ1 h
  · skip
    refine F_ifn h (fun h => ?_) (fun h => ?_)
    · skip
      exact ftX12_step_42 o ho x3 x4 ((2080 : Int32) + ((6 : Int32) * x4)) (0 : Int32) σ1 h
    · skip
      exact ftX12_step_42 o ho x3 x4 ((2080 : Int32) + ((6 : Int32) * x4)) (1 : Int32) σ1 h
set_option maxRecDepth 100000 in
set_option maxHeartbeats 4000000 in
theorem ftX12_orders_102 {xr : Int32} {τ : Mm} (o : Nat) (a1 : Int32) (ho : KD o = 12) : ∀ (n : Nat) (v3 : Int32) (σ : Mm), fX12_orders_102 o a1 n v3 σ = some (xr, τ) → FK [12] σ τ := by
  intro n
  induction n with
  | zero => intro v3 σ h; rw [fX12_orders_102] at h; cases h
  | succ n ih =>
    intro v3 σ h
    rw [fX12_orders_102] at h
    refine F_if h (fun h => ?_) (fun h => ?_)
    · skip
      refine F_rsc h (fun x40 h => ?_)
      obtain ⟨x43, σ41, hc42, h⟩ := cI_t h
      refine F_call (frX12_taken o x40 ho σ hc42) (by decide) ?_
      cases h
      exact F_refl
    · skip
      refine F_gar h (fun x44 h => ?_)
      refine F_sar ho (by decide) h (fun σ45 h => ?_)
      exact ih (v3 + (1 : Int32)) σ45 h
set_option maxRecDepth 100000 in
set_option maxHeartbeats 4000000 in
theorem ftX12_orders_57 {xr : Int32} {τ : Mm} (o : Nat) (a1 : Int32) (ho : KD o = 12) (σ : Mm) (h : fX12_orders_57 o a1 σ = some (xr, τ)) : FK [12] σ τ := by
  unfold fX12_orders_57 at h
  refine F_rsc h (fun x14 h => ?_)
  refine F_ifn h (fun h => ?_) (fun h => ?_)
  · skip
    refine F_rsc h (fun x15 h => ?_)
    refine F_ifn h (fun h => ?_) (fun h => ?_)
    · skip
      refine F_rsc h (fun x16 h => ?_)
      obtain ⟨x19, σ17, hc18, h⟩ := cI_t h
      refine F_call (frX12_taken o x16 ho σ hc18) (by decide) ?_
      cases h
      exact F_refl
    · skip
      refine F_gar h (fun x20 h => ?_)
      refine F_sar ho (by decide) h (fun σ21 h => ?_)
      exact ftX12_orders_102 o a1 ho FU (120 : Int32) σ21 h
  · skip
    refine F_rsc h (fun x22 h => ?_)
    refine F_if h (fun h => ?_) (fun h => ?_)
    · skip
      refine F_rsc h (fun x23 h => ?_)
      refine F_ifn h (fun h => ?_) (fun h => ?_)
      · skip
        refine F_rsc h (fun x24 h => ?_)
        obtain ⟨x27, σ25, hc26, h⟩ := cI_t h
        refine F_call (frX12_taken o x24 ho σ hc26) (by decide) ?_
        cases h
        exact F_refl
      · skip
        refine F_gar h (fun x28 h => ?_)
        refine F_sar ho (by decide) h (fun σ29 h => ?_)
        exact ftX12_orders_102 o a1 ho FU (120 : Int32) σ29 h
    · skip
      obtain ⟨x32, σ30, hc31, h⟩ := cI_t h
      refine F_call (frX12_fails o (2 : Int32) ho σ hc31) (by decide) ?_
      refine F_rsc h (fun x33 h => ?_)
      refine F_ifn h (fun h => ?_) (fun h => ?_)
      · skip
        refine F_rsc h (fun x34 h => ?_)
        obtain ⟨x37, σ35, hc36, h⟩ := cI_t h
        refine F_call (frX12_taken o x34 ho σ30 hc36) (by decide) ?_
        cases h
        exact F_refl
      · skip
        refine F_gar h (fun x38 h => ?_)
        refine F_sar ho (by decide) h (fun σ39 h => ?_)
        exact ftX12_orders_102 o a1 ho FU (120 : Int32) σ39 h
set_option maxRecDepth 100000 in
set_option maxHeartbeats 4000000 in
theorem ftX12_orders_38 {xr : Int32} {τ : Mm} (o : Nat) (a1 : Int32) (ho : KD o = 12) : ∀ (n : Nat) (v2 : Int32) (σ : Mm), fX12_orders_38 o a1 n v2 σ = some (xr, τ) → FK [12] σ τ := by
  intro n
  induction n with
  | zero => intro v2 σ h; rw [fX12_orders_38] at h; cases h
  | succ n ih =>
    intro v2 σ h
    rw [fX12_orders_38] at h
    refine F_if h (fun h => ?_) (fun h => ?_)
    · skip
      exact ftX12_orders_57 o a1 ho σ h
    · skip
      refine F_rsc h (fun x10 h => ?_)
      refine F_if h (fun h => ?_) (fun h => ?_)
      · skip
        exact ftX12_orders_57 o a1 ho σ h
      · skip
        obtain ⟨x13, σ11, hc12, h⟩ := cI_t h
        refine F_call (frX12_step o ho σ hc12) (by decide) ?_
        exact ih x13 σ11 h
set_option maxRecDepth 100000 in
set_option maxHeartbeats 4000000 in
theorem frX12_orders (o : Nat) (a1 : Int32) (ho : KD o = 12) (σ : Mm) {xr : Int32} {τ : Mm} (h : fX12_orders o a1 σ = some (xr, τ)) : FK [12] σ τ := by
  unfold fX12_orders at h
  obtain ⟨x3, σ1, hc2, h⟩ := cI_t h
  refine F_call (frX12_begins o a1 (300 : Int32) ho σ hc2) (by decide) ?_
  refine F_ifn h (fun h => ?_) (fun h => ?_)
  · skip
    refine F_sar ho (by decide) h (fun σ4 h => ?_)
    refine F_psc ho (by decide) h (fun σ5 h => ?_)
    refine F_psc ho (by decide) h (fun σ6 h => ?_)
    exact ftX12_orders_38 o a1 ho FU (1 : Int32) σ6 h
  · skip
    obtain ⟨x9, σ7, hc8, h⟩ := cI_t h
    refine F_call (frX12_refuse o (1 : Int32) ho σ1 hc8) (by decide) ?_
    cases h
    exact F_refl
set_option maxRecDepth 100000 in
set_option maxHeartbeats 4000000 in
theorem frX12_isPlace (o : Nat) (a1 : Int32) (ho : KD o = 12) (σ : Mm) {xr : Int32} {τ : Mm} (h : fX12_isPlace o a1 σ = some (xr, τ)) : FK [] σ τ := by
  unfold fX12_isPlace at h
  refine F_if h (fun h => ?_) (fun h => ?_)
  · skip
    cases h
    exact F_refl
  · skip
    refine F_gar h (fun x1 h => ?_)
    refine F_if h (fun h => ?_) (fun h => ?_)
    · skip
      cases h
      exact F_refl
    · skip
      cases h
      exact F_refl
set_option maxRecDepth 100000 in
set_option maxHeartbeats 4000000 in
theorem frX12_isVane (o : Nat) (a1 : Int32) (ho : KD o = 12) (σ : Mm) {xr : Int32} {τ : Mm} (h : fX12_isVane o a1 σ = some (xr, τ)) : FK [] σ τ := by
  unfold fX12_isVane at h
  refine F_if h (fun h => ?_) (fun h => ?_)
  · skip
    cases h
    exact F_refl
  · skip
    refine F_gar h (fun x1 h => ?_)
    refine F_if h (fun h => ?_) (fun h => ?_)
    · skip
      cases h
      exact F_refl
    · skip
      cases h
      exact F_refl
set_option maxRecDepth 100000 in
set_option maxHeartbeats 4000000 in
theorem frX12_isShaft (o : Nat) (a1 : Int32) (ho : KD o = 12) (σ : Mm) {xr : Int32} {τ : Mm} (h : fX12_isShaft o a1 σ = some (xr, τ)) : FK [] σ τ := by
  unfold fX12_isShaft at h
  refine F_if h (fun h => ?_) (fun h => ?_)
  · skip
    cases h
    exact F_refl
  · skip
    refine F_gar h (fun x1 h => ?_)
    refine F_if h (fun h => ?_) (fun h => ?_)
    · skip
      cases h
      exact F_refl
    · skip
      cases h
      exact F_refl
set_option maxRecDepth 100000 in
set_option maxHeartbeats 4000000 in
theorem frX12_isAhead (a1 : Int32) (σ : Mm) {xr : Int32} {τ : Mm} (h : fX12_isAhead a1 σ = some (xr, τ)) : FK [] σ τ := by
  unfold fX12_isAhead at h
  refine F_if h (fun h => ?_) (fun h => ?_)
  · skip
    cases h
    exact F_refl
  · skip
    refine F_if h (fun h => ?_) (fun h => ?_)
    · skip
      cases h
      exact F_refl
    · skip
      cases h
      exact F_refl
set_option maxRecDepth 100000 in
set_option maxHeartbeats 4000000 in
theorem frX12_isSpan (a1 : Int32) (σ : Mm) {xr : Int32} {τ : Mm} (h : fX12_isSpan a1 σ = some (xr, τ)) : FK [] σ τ := by
  unfold fX12_isSpan at h
  refine F_if h (fun h => ?_) (fun h => ?_)
  · skip
    cases h
    exact F_refl
  · skip
    refine F_if h (fun h => ?_) (fun h => ?_)
    · skip
      cases h
      exact F_refl
    · skip
      cases h
      exact F_refl
set_option maxRecDepth 100000 in
set_option maxHeartbeats 4000000 in
theorem frX12_vaneAt (o : Nat) (a1 : Int32) (a2 : Int32) (ho : KD o = 12) (σ : Mm) {xr : Int32} {τ : Mm} (h : fX12_vaneAt o a1 a2 σ = some (xr, τ)) : FK [] σ τ := by
  unfold fX12_vaneAt at h
  refine F_gar h (fun x1 h => ?_)
  cases h
  exact F_refl
set_option maxRecDepth 100000 in
set_option maxHeartbeats 4000000 in
theorem frX12_shaftAt (o : Nat) (a1 : Int32) (a2 : Int32) (ho : KD o = 12) (σ : Mm) {xr : Int32} {τ : Mm} (h : fX12_shaftAt o a1 a2 σ = some (xr, τ)) : FK [] σ τ := by
  unfold fX12_shaftAt at h
  refine F_gar h (fun x1 h => ?_)
  cases h
  exact F_refl
set_option maxRecDepth 100000 in
set_option maxHeartbeats 4000000 in
theorem ftX12_begins0_2 {τ : Mm} (o : Nat) (ho : KD o = 12) : ∀ (n : Nat) (v1 : Int32) (σ : Mm), fX12_begins0_2 o n v1 σ = some τ → FK [12] σ τ := by
  intro n
  induction n with
  | zero => intro v1 σ h; rw [fX12_begins0_2] at h; cases h
  | succ n ih =>
    intro v1 σ h
    rw [fX12_begins0_2] at h
    refine F_if h (fun h => ?_) (fun h => ?_)
    · cases h
      exact F_refl
    · skip
      refine F_gar h (fun x1 h => ?_)
      refine F_sar ho (by decide) h (fun σ2 h => ?_)
      exact ih (v1 + (1 : Int32)) σ2 h
set_option maxRecDepth 100000 in
set_option maxHeartbeats 4000000 in
theorem frX12_begins0 (o : Nat) (ho : KD o = 12) (σ : Mm) {τ : Mm} (h : fX12_begins0 o σ = some τ) : FK [12] σ τ := by
  unfold fX12_begins0 at h
  exact ftX12_begins0_2 o ho FU (0 : Int32) σ h
set_option maxRecDepth 100000 in
set_option maxHeartbeats 4000000 in
theorem ftX12_laysBack_2 {τ : Mm} (o : Nat) (ho : KD o = 12) : ∀ (n : Nat) (v1 : Int32) (σ : Mm), fX12_laysBack_2 o n v1 σ = some τ → FK [12] σ τ := by
  intro n
  induction n with
  | zero => intro v1 σ h; rw [fX12_laysBack_2] at h; cases h
  | succ n ih =>
    intro v1 σ h
    rw [fX12_laysBack_2] at h
    refine F_if h (fun h => ?_) (fun h => ?_)
    · cases h
      exact F_refl
    · skip
      refine F_gar h (fun x1 h => ?_)
      refine F_sar ho (by decide) h (fun σ2 h => ?_)
      exact ih (v1 + (1 : Int32)) σ2 h
set_option maxRecDepth 100000 in
set_option maxHeartbeats 4000000 in
theorem frX12_laysBack (o : Nat) (ho : KD o = 12) (σ : Mm) {τ : Mm} (h : fX12_laysBack o σ = some τ) : FK [12] σ τ := by
  unfold fX12_laysBack at h
  exact ftX12_laysBack_2 o ho FU (0 : Int32) σ h
set_option maxRecDepth 100000 in
set_option maxHeartbeats 4000000 in
theorem frX12_told (o : Nat) (a1 : Int32) (ho : KD o = 12) (σ : Mm) {xr : Int32} {τ : Mm} (h : fX12_told o a1 σ = some (xr, τ)) : FK [12] σ τ := by
  unfold fX12_told at h
  refine F_if h (fun h => ?_) (fun h => ?_)
  · skip
    obtain ⟨x3, σ1, hc2, h⟩ := cI_t h
    refine F_call (frX12_refuse o (1 : Int32) ho σ hc2) (by decide) ?_
    cases h
    exact F_refl
  · skip
    refine F_if h (fun h => ?_) (fun h => ?_)
    · skip
      refine F_gar h (fun x4 h => ?_)
      obtain ⟨x7, σ5, hc6, h⟩ := cI_t h
      refine F_call (frX12_gives o x4 ho σ hc6) (by decide) ?_
      cases h
      exact F_refl
    · skip
      obtain ⟨x10, σ8, hc9, h⟩ := cI_t h
      refine F_call (frX12_refuse o (1 : Int32) ho σ hc9) (by decide) ?_
      cases h
      exact F_refl
set_option maxRecDepth 100000 in
set_option maxHeartbeats 4000000 in
theorem frX12_vane (o : Nat) (a1 : Int32) (a2 : Int32) (ho : KD o = 12) (σ : Mm) {xr : Int32} {τ : Mm} (h : fX12_vane o a1 a2 σ = some (xr, τ)) : FK [12] σ τ := by
  unfold fX12_vane at h
  obtain ⟨x3, σ1, hc2, h⟩ := cI_t h
  refine F_call (frX12_isVane o a1 ho σ hc2) (by decide) ?_
  refine F_if h (fun h => ?_) (fun h => ?_)
  · skip
    obtain ⟨x6, σ4, hc5, h⟩ := cI_t h
    refine F_call (frX12_refuse o (1 : Int32) ho σ1 hc5) (by decide) ?_
    cases h
    exact F_refl
  · skip
    refine F_if h (fun h => ?_) (fun h => ?_)
    · skip
      obtain ⟨x9, σ7, hc8, h⟩ := cI_t h
      refine F_call (frX12_refuse o (1 : Int32) ho σ1 hc8) (by decide) ?_
      cases h
      exact F_refl
    · skip
      refine F_if h (fun h => ?_) (fun h => ?_)
      · skip
        obtain ⟨x12, σ10, hc11, h⟩ := cI_t h
        refine F_call (frX12_refuse o (1 : Int32) ho σ1 hc11) (by decide) ?_
        cases h
        exact F_refl
      · skip
        refine F_gar h (fun x13 h => ?_)
        obtain ⟨x16, σ14, hc15, h⟩ := cI_t h
        refine F_call (frX12_gives o x13 ho σ1 hc15) (by decide) ?_
        cases h
        exact F_refl
set_option maxRecDepth 100000 in
set_option maxHeartbeats 4000000 in
theorem frX12_shaft (o : Nat) (a1 : Int32) (a2 : Int32) (ho : KD o = 12) (σ : Mm) {xr : Int32} {τ : Mm} (h : fX12_shaft o a1 a2 σ = some (xr, τ)) : FK [12] σ τ := by
  unfold fX12_shaft at h
  obtain ⟨x3, σ1, hc2, h⟩ := cI_t h
  refine F_call (frX12_isShaft o a1 ho σ hc2) (by decide) ?_
  refine F_if h (fun h => ?_) (fun h => ?_)
  · skip
    obtain ⟨x6, σ4, hc5, h⟩ := cI_t h
    refine F_call (frX12_refuse o (1 : Int32) ho σ1 hc5) (by decide) ?_
    cases h
    exact F_refl
  · skip
    refine F_if h (fun h => ?_) (fun h => ?_)
    · skip
      obtain ⟨x9, σ7, hc8, h⟩ := cI_t h
      refine F_call (frX12_refuse o (1 : Int32) ho σ1 hc8) (by decide) ?_
      cases h
      exact F_refl
    · skip
      refine F_if h (fun h => ?_) (fun h => ?_)
      · skip
        obtain ⟨x12, σ10, hc11, h⟩ := cI_t h
        refine F_call (frX12_refuse o (1 : Int32) ho σ1 hc11) (by decide) ?_
        cases h
        exact F_refl
      · skip
        refine F_gar h (fun x13 h => ?_)
        obtain ⟨x16, σ14, hc15, h⟩ := cI_t h
        refine F_call (frX12_gives o x13 ho σ1 hc15) (by decide) ?_
        cases h
        exact F_refl
set_option maxRecDepth 100000 in
set_option maxHeartbeats 4000000 in
theorem frX12_isCalm (o : Nat) (a1 : Int32) (ho : KD o = 12) (σ : Mm) {xr : Int32} {τ : Mm} (h : fX12_isCalm o a1 σ = some (xr, τ)) : FK [] σ τ := by
  unfold fX12_isCalm at h
  obtain ⟨x3, σ1, hc2, h⟩ := cI_t h
  refine F_call (frX12_vaneAt o a1 (1 : Int32) ho σ hc2) (by decide) ?_
  refine F_gar h (fun x4 h => ?_)
  refine F_ifn h (fun h => ?_) (fun h => ?_)
  · skip
    cases h
    exact F_refl
  · skip
    cases h
    exact F_refl
set_option maxRecDepth 100000 in
set_option maxHeartbeats 4000000 in
theorem frX12_wantOf (o : Nat) (a1 : Int32) (ho : KD o = 12) (σ : Mm) {xr : Int32} {τ : Mm} (h : fX12_wantOf o a1 σ = some (xr, τ)) : FK [] σ τ := by
  unfold fX12_wantOf at h
  obtain ⟨x3, σ1, hc2, h⟩ := cI_t h
  refine F_call (frX12_vaneAt o a1 (0 : Int32) ho σ hc2) (by decide) ?_
  obtain ⟨x6, σ4, hc5, h⟩ := cI_t h
  refine F_call (frX12_vaneAt o a1 (1 : Int32) ho σ1 hc5) (by decide) ?_
  refine F_gar h (fun x7 h => ?_)
  obtain ⟨x10, σ8, hc9, h⟩ := cI_t h
  refine F_call (frX12_vaneAt o a1 (0 : Int32) ho σ4 hc9) (by decide) ?_
  obtain ⟨hz11, h⟩ := nz_t h
  cases h
  exact F_refl
set_option maxRecDepth 100000 in
set_option maxHeartbeats 4000000 in
theorem frX12_isRight (o : Nat) (a1 : Int32) (ho : KD o = 12) (σ : Mm) {xr : Int32} {τ : Mm} (h : fX12_isRight o a1 σ = some (xr, τ)) : FK [] σ τ := by
  unfold fX12_isRight at h
  obtain ⟨x3, σ1, hc2, h⟩ := cI_t h
  refine F_call (frX12_isCalm o a1 ho σ hc2) (by decide) ?_
  refine F_ifn h (fun h => ?_) (fun h => ?_)
  · skip
    cases h
    exact F_refl
  · skip
    obtain ⟨x6, σ4, hc5, h⟩ := cI_t h
    refine F_call (frX12_vaneAt o a1 (3 : Int32) ho σ1 hc5) (by decide) ?_
    obtain ⟨x9, σ7, hc8, h⟩ := cI_t h
    refine F_call (frX12_wantOf o a1 ho σ4 hc8) (by decide) ?_
    refine F_ifn h (fun h => ?_) (fun h => ?_)
    · skip
      cases h
      exact F_refl
    · skip
      cases h
      exact F_refl
set_option maxRecDepth 100000 in
set_option maxHeartbeats 4000000 in
theorem ftX12_rightSet_4 {xr : Int32} {τ : Mm} (o : Nat) (ho : KD o = 12) : ∀ (n : Nat) (v1 : Int32) (v2 : Int32) (σ : Mm), fX12_rightSet_4 o n v1 v2 σ = some (xr, τ) → FK [] σ τ := by
  intro n
  induction n with
  | zero => intro v1 v2 σ h; rw [fX12_rightSet_4] at h; cases h
  | succ n ih =>
    intro v1 v2 σ h
    rw [fX12_rightSet_4] at h
    refine F_gar h (fun x1 h => ?_)
    refine F_if h (fun h => ?_) (fun h => ?_)
    · skip
      cases h
      exact F_refl
    · skip
      obtain ⟨x4, σ2, hc3, h⟩ := cI_t h
      refine F_call (frX12_isRight o v2 ho σ hc3) (by decide) ?_
      refine F_if h (fun h => ?_) (fun h => ?_)
      · skip
        exact ih (v1 ||| (0 : Int32)) (v2 + (1 : Int32)) σ2 h
      · skip
        exact ih (v1 ||| ((1 : Int32) <<< (v2 &&& 31))) (v2 + (1 : Int32)) σ2 h
set_option maxRecDepth 100000 in
set_option maxHeartbeats 4000000 in
theorem frX12_rightSet (o : Nat) (ho : KD o = 12) (σ : Mm) {xr : Int32} {τ : Mm} (h : fX12_rightSet o σ = some (xr, τ)) : FK [] σ τ := by
  unfold fX12_rightSet at h
  exact ftX12_rightSet_4 o ho FU (0 : Int32) (0 : Int32) σ h
set_option maxRecDepth 100000 in
set_option maxHeartbeats 4000000 in
theorem frX12_wants (o : Nat) (a1 : Int32) (ho : KD o = 12) (σ : Mm) {xr : Int32} {τ : Mm} (h : fX12_wants o a1 σ = some (xr, τ)) : FK [12] σ τ := by
  unfold fX12_wants at h
  obtain ⟨x3, σ1, hc2, h⟩ := cI_t h
  refine F_call (frX12_isVane o a1 ho σ hc2) (by decide) ?_
  refine F_ifn h (fun h => ?_) (fun h => ?_)
  · skip
    obtain ⟨σ4, hc5, h⟩ := cV_t h
    refine F_call (frX12_begins0 o ho σ1 hc5) (by decide) ?_
    obtain ⟨x8, σ6, hc7, h⟩ := cI_t h
    refine F_call (frX12_isCalm o a1 ho σ4 hc7) (by decide) ?_
    refine F_if h (fun h => ?_) (fun h => ?_)
    · skip
      obtain ⟨x11, σ9, hc10, h⟩ := cI_t h
      refine F_call (frX12_wantOf o a1 ho σ6 hc10) (by decide) ?_
      obtain ⟨x14, σ12, hc13, h⟩ := cI_t h
      refine F_call (frX12_gives o x11 ho σ9 hc13) (by decide) ?_
      cases h
      exact F_refl
    · skip
      obtain ⟨x17, σ15, hc16, h⟩ := cI_t h
      refine F_call (frX12_refuse o (6 : Int32) ho σ6 hc16) (by decide) ?_
      cases h
      exact F_refl
  · skip
    obtain ⟨x20, σ18, hc19, h⟩ := cI_t h
    refine F_call (frX12_refuse o (1 : Int32) ho σ1 hc19) (by decide) ?_
    cases h
    exact F_refl
set_option maxRecDepth 100000 in
set_option maxHeartbeats 4000000 in
theorem frX12_right (o : Nat) (a1 : Int32) (ho : KD o = 12) (σ : Mm) {xr : Int32} {τ : Mm} (h : fX12_right o a1 σ = some (xr, τ)) : FK [12] σ τ := by
  unfold fX12_right at h
  obtain ⟨x3, σ1, hc2, h⟩ := cI_t h
  refine F_call (frX12_isVane o a1 ho σ hc2) (by decide) ?_
  refine F_ifn h (fun h => ?_) (fun h => ?_)
  · skip
    obtain ⟨σ4, hc5, h⟩ := cV_t h
    refine F_call (frX12_begins0 o ho σ1 hc5) (by decide) ?_
    obtain ⟨x8, σ6, hc7, h⟩ := cI_t h
    refine F_call (frX12_isRight o a1 ho σ4 hc7) (by decide) ?_
    refine F_if h (fun h => ?_) (fun h => ?_)
    · skip
      obtain ⟨x11, σ9, hc10, h⟩ := cI_t h
      refine F_call (frX12_gives o (0 : Int32) ho σ6 hc10) (by decide) ?_
      cases h
      exact F_refl
    · skip
      obtain ⟨x14, σ12, hc13, h⟩ := cI_t h
      refine F_call (frX12_gives o (1 : Int32) ho σ6 hc13) (by decide) ?_
      cases h
      exact F_refl
  · skip
    obtain ⟨x17, σ15, hc16, h⟩ := cI_t h
    refine F_call (frX12_refuse o (1 : Int32) ho σ1 hc16) (by decide) ?_
    cases h
    exact F_refl
set_option maxRecDepth 100000 in
set_option maxHeartbeats 4000000 in
theorem frX12_toRight (o : Nat) (a1 : Int32) (a2 : Int32) (ho : KD o = 12) (σ : Mm) {xr : Int32} {τ : Mm} (h : fX12_toRight o a1 a2 σ = some (xr, τ)) : FK [] σ τ := by
  unfold fX12_toRight at h
  obtain ⟨x3, σ1, hc2, h⟩ := cI_t h
  refine F_call (frX12_vaneAt o a1 (0 : Int32) ho σ hc2) (by decide) ?_
  obtain ⟨x6, σ4, hc5, h⟩ := cI_t h
  refine F_call (frX12_wantOf o a1 ho σ1 hc5) (by decide) ?_
  obtain ⟨hz7, h⟩ := nz_t h
  cases h
  exact F_refl
set_option maxRecDepth 100000 in
set_option maxHeartbeats 4000000 in
theorem frX12_farFrom (o : Nat) (a1 : Int32) (a2 : Int32) (ho : KD o = 12) (σ : Mm) {xr : Int32} {τ : Mm} (h : fX12_farFrom o a1 a2 σ = some (xr, τ)) : FK [] σ τ := by
  unfold fX12_farFrom at h
  obtain ⟨x3, σ1, hc2, h⟩ := cI_t h
  refine F_call (frX12_toRight o a1 a2 ho σ hc2) (by decide) ?_
  obtain ⟨x6, σ4, hc5, h⟩ := cI_t h
  refine F_call (frX12_vaneAt o a1 (0 : Int32) ho σ1 hc5) (by decide) ?_
  refine F_if h (fun h => ?_) (fun h => ?_)
  · skip
    cases h
    exact F_refl
  · skip
    cases h
    exact F_refl
set_option maxRecDepth 100000 in
set_option maxHeartbeats 4000000 in
theorem frX12_turned (o : Nat) (a1 : Int32) (a2 : Int32) (ho : KD o = 12) (σ : Mm) {xr : Int32} {τ : Mm} (h : fX12_turned o a1 a2 σ = some (xr, τ)) : FK [] σ τ := by
  unfold fX12_turned at h
  obtain ⟨x3, σ1, hc2, h⟩ := cI_t h
  refine F_call (frX12_vaneAt o a1 (3 : Int32) ho σ hc2) (by decide) ?_
  obtain ⟨x6, σ4, hc5, h⟩ := cI_t h
  refine F_call (frX12_vaneAt o a1 (0 : Int32) ho σ1 hc5) (by decide) ?_
  obtain ⟨x9, σ7, hc8, h⟩ := cI_t h
  refine F_call (frX12_vaneAt o a1 (0 : Int32) ho σ4 hc8) (by decide) ?_
  obtain ⟨hz10, h⟩ := nz_t h
  cases h
  exact F_refl
set_option maxRecDepth 100000 in
set_option maxHeartbeats 4000000 in
theorem frX12_playBehind (o : Nat) (a1 : Int32) (ho : KD o = 12) (σ : Mm) {xr : Int32} {τ : Mm} (h : fX12_playBehind o a1 σ = some (xr, τ)) : FK [] σ τ := by
  unfold fX12_playBehind at h
  obtain ⟨x3, σ1, hc2, h⟩ := cI_t h
  refine F_call (frX12_shaftAt o a1 (1 : Int32) ho σ hc2) (by decide) ?_
  refine F_gar h (fun x4 h => ?_)
  obtain ⟨x7, σ5, hc6, h⟩ := cI_t h
  refine F_call (frX12_shaftAt o a1 (4 : Int32) ho σ1 hc6) (by decide) ?_
  obtain ⟨x10, σ8, hc9, h⟩ := cI_t h
  refine F_call (frX12_shaftAt o a1 (0 : Int32) ho σ5 hc9) (by decide) ?_
  refine F_gar h (fun x11 h => ?_)
  obtain ⟨x14, σ12, hc13, h⟩ := cI_t h
  refine F_call (frX12_shaftAt o a1 (2 : Int32) ho σ8 hc13) (by decide) ?_
  refine F_ifn h (fun h => ?_) (fun h => ?_)
  · skip
    cases h
    exact F_refl
  · skip
    cases h
    exact F_refl
set_option maxRecDepth 100000 in
set_option maxHeartbeats 4000000 in
theorem frX12_isOut (o : Nat) (a1 : Int32) (ho : KD o = 12) (σ : Mm) {xr : Int32} {τ : Mm} (h : fX12_isOut o a1 σ = some (xr, τ)) : FK [] σ τ := by
  unfold fX12_isOut at h
  obtain ⟨x3, σ1, hc2, h⟩ := cI_t h
  refine F_call (frX12_playBehind o a1 ho σ hc2) (by decide) ?_
  refine F_if h (fun h => ?_) (fun h => ?_)
  · skip
    cases h
    exact F_refl
  · skip
    obtain ⟨x6, σ4, hc5, h⟩ := cI_t h
    refine F_call (frX12_playBehind o a1 ho σ1 hc5) (by decide) ?_
    obtain ⟨x9, σ7, hc8, h⟩ := cI_t h
    refine F_call (frX12_shaftAt o a1 (3 : Int32) ho σ4 hc8) (by decide) ?_
    refine F_if h (fun h => ?_) (fun h => ?_)
    · skip
      cases h
      exact F_refl
    · skip
      cases h
      exact F_refl
set_option maxRecDepth 100000 in
set_option maxHeartbeats 4000000 in
theorem frX12_isJoining (o : Nat) (a1 : Int32) (ho : KD o = 12) (σ : Mm) {xr : Int32} {τ : Mm} (h : fX12_isJoining o a1 σ = some (xr, τ)) : FK [] σ τ := by
  unfold fX12_isJoining at h
  refine F_gar h (fun x1 h => ?_)
  refine F_ifn h (fun h => ?_) (fun h => ?_)
  · skip
    cases h
    exact F_refl
  · skip
    cases h
    exact F_refl
set_option maxRecDepth 100000 in
set_option maxHeartbeats 4000000 in
theorem ftX12_dragsBy_142 {xr : Int32} {τ : Mm} (o : Nat) (a1 : Int32) (a2 : Int32) (ho : KD o = 12) (k30 : Int32 → Mm → Option (Int32 × Mm)) (hk30 : ∀ (v3 : Int32) (σ : Mm), k30 v3 σ = some (xr, τ) → FK [12] σ τ) (v4 : Int32) (v5 : Int32) (v6 : Int32) (σ : Mm) (h : fX12_dragsBy_142 o a1 a2 k30 v4 v5 v6 σ = some (xr, τ)) : FK [12] σ τ := by
  unfold fX12_dragsBy_142 at h
  refine F_gar h (fun x34 h => ?_)
  refine F_ifn h (fun h => ?_) (fun h => ?_)
  · skip
    refine F_sar ho (by decide) h (fun σ35 h => ?_)
    exact hk30 (0 : Int32) σ35 h
  · skip
    refine F_sar ho (by decide) h (fun σ36 h => ?_)
    exact hk30 (0 : Int32) σ36 h
set_option maxRecDepth 100000 in
set_option maxHeartbeats 4000000 in
theorem ftX12_dragsBy_94 {xr : Int32} {τ : Mm} (o : Nat) (a1 : Int32) (a2 : Int32) (ho : KD o = 12) (k30 : Int32 → Mm → Option (Int32 × Mm)) (hk30 : ∀ (v3 : Int32) (σ : Mm), k30 v3 σ = some (xr, τ) → FK [12] σ τ) (v3 : Int32) (v4 : Int32) (v5 : Int32) (s0 : Int32) (s1 : Int32) (σ : Mm) (h : fX12_dragsBy_94 o a1 a2 k30 v3 v4 v5 s0 s1 σ = some (xr, τ)) : FK [12] σ τ := by
  unfold fX12_dragsBy_94 at h
  refine F_if h (fun h => ?_) (fun h => ?_)
  · skip
    exact hk30 (v3 + (1 : Int32)) σ h
  · skip
    obtain ⟨x21, σ19, hc20, h⟩ := cI_t h
    refine F_call (frX12_isOut o v3 ho σ hc20) (by decide) ?_
    refine F_ifn h (fun h => ?_) (fun h => ?_)
    · skip
      refine F_gar h (fun x22 h => ?_)
      refine F_gar h (fun x23 h => ?_)
      obtain ⟨x26, σ24, hc25, h⟩ := cI_t h
      refine F_call (frX12_shaftAt o v3 (2 : Int32) ho σ19 hc25) (by decide) ?_
      refine F_ifn h (fun h => ?_) (fun h => ?_)
      · skip
        exact ftX12_dragsBy_142 o a1 a2 ho k30 hk30 v4 v5 (x22 + x23) σ24 h
      · skip
        exact ftX12_dragsBy_142 o a1 a2 ho k30 hk30 v4 v5 (-(x22 + x23)) σ24 h
    · skip
      exact hk30 (v3 + (1 : Int32)) σ19 h
set_option maxRecDepth 100000 in
set_option maxHeartbeats 4000000 in
theorem ftX12_dragsBy_230 {xr : Int32} {τ : Mm} (o : Nat) (a1 : Int32) (a2 : Int32) (ho : KD o = 12) : ∀ (n : Nat) (v4 : Int32) (σ : Mm), fX12_dragsBy_230 o a1 a2 n v4 σ = some (xr, τ) → FK [12] σ τ := by
  intro n
  induction n with
  | zero => intro v4 σ h; rw [fX12_dragsBy_230] at h; cases h
  | succ n ih =>
    intro v4 σ h
    rw [fX12_dragsBy_230] at h
    refine F_gar h (fun x27 h => ?_)
    refine F_if h (fun h => ?_) (fun h => ?_)
    · skip
      cases h
      exact F_refl
    · skip
      obtain ⟨x30, σ28, hc29, h⟩ := cI_t h
      refine F_call (frX12_isJoining o v4 ho σ hc29) (by decide) ?_
      refine F_if h (fun h => ?_) (fun h => ?_)
      · skip
        exact ih (v4 + (1 : Int32)) σ28 h
      · skip
        obtain ⟨x33, σ31, hc32, h⟩ := cI_t h
        refine F_call (frX12_isOut o v4 ho σ28 hc32) (by decide) ?_
        refine F_if h (fun h => ?_) (fun h => ?_)
        · skip
          exact ih (v4 + (1 : Int32)) σ31 h
        · skip
          cases h
          exact F_refl
set_option maxRecDepth 100000 in
set_option maxHeartbeats 4000000 in
theorem ftX12_dragsBy_181 {xr : Int32} {τ : Mm} (o : Nat) (a1 : Int32) (a2 : Int32) (ho : KD o = 12) : ∀ (n : Nat) (v4 : Int32) (σ : Mm), fX12_dragsBy_181 o a1 a2 n v4 σ = some (xr, τ) → FK [12] σ τ := by
  intro n
  induction n with
  | zero => intro v4 σ h; rw [fX12_dragsBy_181] at h; cases h
  | succ n ih =>
    intro v4 σ h
    rw [fX12_dragsBy_181] at h
    refine F_gar h (fun x16 h => ?_)
    refine F_if h (fun h => ?_) (fun h => ?_)
    · skip
      exact ftX12_dragsBy_230 o a1 a2 ho FU (0 : Int32) σ h
    · skip
      refine F_gar h (fun x17 h => ?_)
      refine F_if h (fun h => ?_) (fun h => ?_)
      · skip
        exact ih (v4 + (1 : Int32)) σ h
      · skip
        refine F_gar h (fun x18 h => ?_)
        refine F_ifn h (fun h => ?_) (fun h => ?_)
        · skip
          exact ih (v4 + (1 : Int32)) σ h
        · skip
          cases h
          exact F_refl
set_option maxRecDepth 100000 in
set_option maxHeartbeats 4000000 in
theorem ftX12_dragsBy_30 {xr : Int32} {τ : Mm} (o : Nat) (a1 : Int32) (a2 : Int32) (ho : KD o = 12) : ∀ (n : Nat) (v3 : Int32) (σ : Mm), fX12_dragsBy_30 o a1 a2 n v3 σ = some (xr, τ) → FK [12] σ τ := by
  intro n
  induction n with
  | zero => intro v3 σ h; rw [fX12_dragsBy_30] at h; cases h
  | succ n ih =>
    intro v3 σ h
    rw [fX12_dragsBy_30] at h
    refine F_gar h (fun x3 h => ?_)
    refine F_if h (fun h => ?_) (fun h => ?_)
    · skip
      exact ftX12_dragsBy_181 o a1 a2 ho FU (0 : Int32) σ h
    · skip
      obtain ⟨x6, σ4, hc5, h⟩ := cI_t h
      refine F_call (frX12_shaftAt o v3 (0 : Int32) ho σ hc5) (by decide) ?_
      obtain ⟨x9, σ7, hc8, h⟩ := cI_t h
      refine F_call (frX12_shaftAt o v3 (1 : Int32) ho σ4 hc8) (by decide) ?_
      obtain ⟨x12, σ10, hc11, h⟩ := cI_t h
      refine F_call (frX12_isJoining o v3 ho σ7 hc11) (by decide) ?_
      refine F_if h (fun h => ?_) (fun h => ?_)
      · skip
        exact ih (v3 + (1 : Int32)) σ10 h
      · skip
        refine F_gar h (fun x13 h => ?_)
        refine F_ifn h (fun h => ?_) (fun h => ?_)
        · skip
          refine F_gar h (fun x14 h => ?_)
          refine F_ifn h (fun h => ?_) (fun h => ?_)
          · skip
            exact ftX12_dragsBy_94 o a1 a2 ho (fX12_dragsBy_30 o a1 a2 n) ih v3 x6 x9 (0 : Int32) (0 : Int32) σ10 h
          · skip
            exact ftX12_dragsBy_94 o a1 a2 ho (fX12_dragsBy_30 o a1 a2 n) ih v3 x6 x9 (1 : Int32) (0 : Int32) σ10 h
        · skip
          refine F_gar h (fun x15 h => ?_)
          refine F_ifn h (fun h => ?_) (fun h => ?_)
          · skip
            exact ftX12_dragsBy_94 o a1 a2 ho (fX12_dragsBy_30 o a1 a2 n) ih v3 x6 x9 (0 : Int32) (1 : Int32) σ10 h
          · skip
            exact ftX12_dragsBy_94 o a1 a2 ho (fX12_dragsBy_30 o a1 a2 n) ih v3 x6 x9 (1 : Int32) (1 : Int32) σ10 h
set_option maxRecDepth 100000 in
set_option maxHeartbeats 4000000 in
theorem ftX12_dragsBy_21 {xr : Int32} {τ : Mm} (o : Nat) (a1 : Int32) (a2 : Int32) (ho : KD o = 12) (σ : Mm) (h : fX12_dragsBy_21 o a1 a2 σ = some (xr, τ)) : FK [12] σ τ := by
  unfold fX12_dragsBy_21 at h
  refine F_sar ho (by decide) h (fun σ2 h => ?_)
  exact ftX12_dragsBy_30 o a1 a2 ho FU (0 : Int32) σ2 h
set_option maxRecDepth 100000 in
set_option maxHeartbeats 4000000 in
theorem ftX12_dragsBy_2 {xr : Int32} {τ : Mm} (o : Nat) (a1 : Int32) (a2 : Int32) (ho : KD o = 12) : ∀ (n : Nat) (v3 : Int32) (σ : Mm), fX12_dragsBy_2 o a1 a2 n v3 σ = some (xr, τ) → FK [12] σ τ := by
  intro n
  induction n with
  | zero => intro v3 σ h; rw [fX12_dragsBy_2] at h; cases h
  | succ n ih =>
    intro v3 σ h
    rw [fX12_dragsBy_2] at h
    refine F_if h (fun h => ?_) (fun h => ?_)
    · skip
      exact ftX12_dragsBy_21 o a1 a2 ho σ h
    · skip
      refine F_sar ho (by decide) h (fun σ1 h => ?_)
      exact ih (v3 + (1 : Int32)) σ1 h
set_option maxRecDepth 100000 in
set_option maxHeartbeats 4000000 in
theorem frX12_dragsBy (o : Nat) (a1 : Int32) (a2 : Int32) (ho : KD o = 12) (σ : Mm) {xr : Int32} {τ : Mm} (h : fX12_dragsBy o a1 a2 σ = some (xr, τ)) : FK [12] σ τ := by
  unfold fX12_dragsBy at h
  exact ftX12_dragsBy_2 o a1 a2 ho FU (0 : Int32) σ h
set_option maxRecDepth 100000 in
set_option maxHeartbeats 4000000 in
theorem ftX12_turnedSet_4 {xr : Int32} {τ : Mm} (o : Nat) (ho : KD o = 12) : ∀ (n : Nat) (v1 : Int32) (v2 : Int32) (σ : Mm), fX12_turnedSet_4 o n v1 v2 σ = some (xr, τ) → FK [] σ τ := by
  intro n
  induction n with
  | zero => intro v1 v2 σ h; rw [fX12_turnedSet_4] at h; cases h
  | succ n ih =>
    intro v1 v2 σ h
    rw [fX12_turnedSet_4] at h
    refine F_gar h (fun x1 h => ?_)
    refine F_if h (fun h => ?_) (fun h => ?_)
    · skip
      cases h
      exact F_refl
    · skip
      refine F_gar h (fun x2 h => ?_)
      refine F_if h (fun h => ?_) (fun h => ?_)
      · skip
        exact ih (v1 ||| (0 : Int32)) (v2 + (1 : Int32)) σ h
      · skip
        exact ih (v1 ||| ((1 : Int32) <<< (v2 &&& 31))) (v2 + (1 : Int32)) σ h
set_option maxRecDepth 100000 in
set_option maxHeartbeats 4000000 in
theorem frX12_turnedSet (o : Nat) (ho : KD o = 12) (σ : Mm) {xr : Int32} {τ : Mm} (h : fX12_turnedSet o σ = some (xr, τ)) : FK [] σ τ := by
  unfold fX12_turnedSet at h
  exact ftX12_turnedSet_4 o ho FU (0 : Int32) (0 : Int32) σ h
set_option maxRecDepth 100000 in
set_option maxHeartbeats 4000000 in
theorem ftX12_turnsAll_47 {τ : Mm} (o : Nat) (ho : KD o = 12) : ∀ (n : Nat) (v1 : Int32) (σ : Mm), fX12_turnsAll_47 o n v1 σ = some τ → FK [12] σ τ := by
  intro n
  induction n with
  | zero => intro v1 σ h; rw [fX12_turnsAll_47] at h; cases h
  | succ n ih =>
    intro v1 σ h
    rw [fX12_turnsAll_47] at h
    refine F_gar h (fun x9 h => ?_)
    refine F_if h (fun h => ?_) (fun h => ?_)
    · cases h
      exact F_refl
    · skip
      refine F_gar h (fun x10 h => ?_)
      refine F_ifn h (fun h => ?_) (fun h => ?_)
      · skip
        refine F_gar h (fun x11 h => ?_)
        obtain ⟨x14, σ12, hc13, h⟩ := cI_t h
        refine F_call (frX12_turned o v1 x11 ho σ hc13) (by decide) ?_
        refine F_sar ho (by decide) h (fun σ15 h => ?_)
        refine F_gar h (fun x16 h => ?_)
        refine F_sar ho (by decide) h (fun σ17 h => ?_)
        refine F_rsc h (fun x18 h => ?_)
        refine F_psc ho (by decide) h (fun σ19 h => ?_)
        refine F_gar h (fun x20 h => ?_)
        refine F_if h (fun h => ?_) (fun h => ?_)
        · skip
          refine F_gar h (fun x21 h => ?_)
          refine F_sar ho (by decide) h (fun σ22 h => ?_)
          refine F_rsc h (fun x23 h => ?_)
          refine F_if h (fun h => ?_) (fun h => ?_)
          · skip
            refine F_rsc h (fun x24 h => ?_)
            refine F_psc ho (by decide) h (fun σ25 h => ?_)
            exact ih (v1 + (1 : Int32)) σ25 h
          · skip
            refine F_rsc h (fun x26 h => ?_)
            refine F_sar ho (by decide) h (fun σ27 h => ?_)
            refine F_rsc h (fun x28 h => ?_)
            refine F_psc ho (by decide) h (fun σ29 h => ?_)
            exact ih (v1 + (1 : Int32)) σ29 h
        · skip
          exact ih (v1 + (1 : Int32)) σ19 h
      · skip
        exact ih (v1 + (1 : Int32)) σ h
set_option maxRecDepth 100000 in
set_option maxHeartbeats 4000000 in
theorem ftX12_turnsAll_2 {τ : Mm} (o : Nat) (ho : KD o = 12) : ∀ (n : Nat) (v1 : Int32) (σ : Mm), fX12_turnsAll_2 o n v1 σ = some τ → FK [12] σ τ := by
  intro n
  induction n with
  | zero => intro v1 σ h; rw [fX12_turnsAll_2] at h; cases h
  | succ n ih =>
    intro v1 σ h
    rw [fX12_turnsAll_2] at h
    refine F_gar h (fun x1 h => ?_)
    refine F_if h (fun h => ?_) (fun h => ?_)
    · skip
      exact ftX12_turnsAll_47 o ho FU (0 : Int32) σ h
    · skip
      obtain ⟨x4, σ2, hc3, h⟩ := cI_t h
      refine F_call (frX12_isJoining o v1 ho σ hc3) (by decide) ?_
      refine F_if h (fun h => ?_) (fun h => ?_)
      · skip
        exact ih (v1 + (1 : Int32)) σ2 h
      · skip
        obtain ⟨x7, σ5, hc6, h⟩ := cI_t h
        refine F_call (frX12_playBehind o v1 ho σ2 hc6) (by decide) ?_
        refine F_sar ho (by decide) h (fun σ8 h => ?_)
        exact ih (v1 + (1 : Int32)) σ8 h
set_option maxRecDepth 100000 in
set_option maxHeartbeats 4000000 in
theorem frX12_turnsAll (o : Nat) (ho : KD o = 12) (σ : Mm) {τ : Mm} (h : fX12_turnsAll o σ = some τ) : FK [12] σ τ := by
  unfold fX12_turnsAll at h
  exact ftX12_turnsAll_2 o ho FU (0 : Int32) σ h
set_option maxRecDepth 100000 in
set_option maxHeartbeats 4000000 in
theorem ftX12_isStronger_22 {xr : Int32} {τ : Mm} (o : Nat) (a1 : Int32) (ho : KD o = 12) : ∀ (n : Nat) (v2 : Int32) (v3 : Int32) (σ : Mm), fX12_isStronger_22 o a1 n v2 v3 σ = some (xr, τ) → FK [] σ τ := by
  intro n
  induction n with
  | zero => intro v2 v3 σ h; rw [fX12_isStronger_22] at h; cases h
  | succ n ih =>
    intro v2 v3 σ h
    rw [fX12_isStronger_22] at h
    refine F_gar h (fun x5 h => ?_)
    refine F_if h (fun h => ?_) (fun h => ?_)
    · skip
      refine F_if h (fun h => ?_) (fun h => ?_)
      · skip
        cases h
        exact F_refl
      · skip
        cases h
        exact F_refl
    · skip
      refine F_gar h (fun x6 h => ?_)
      refine F_ifn h (fun h => ?_) (fun h => ?_)
      · skip
        obtain ⟨x9, σ7, hc8, h⟩ := cI_t h
        refine F_call (frX12_vaneAt o v3 (2 : Int32) ho σ hc8) (by decide) ?_
        refine F_if h (fun h => ?_) (fun h => ?_)
        · skip
          exact ih (v2 - x9) (v3 + (1 : Int32)) σ7 h
        · skip
          obtain ⟨x12, σ10, hc11, h⟩ := cI_t h
          refine F_call (frX12_isCalm o v3 ho σ7 hc11) (by decide) ?_
          refine F_if h (fun h => ?_) (fun h => ?_)
          · skip
            obtain ⟨x15, σ13, hc14, h⟩ := cI_t h
            refine F_call (frX12_vaneAt o v3 (3 : Int32) ho σ10 hc14) (by decide) ?_
            obtain ⟨x18, σ16, hc17, h⟩ := cI_t h
            refine F_call (frX12_farFrom o v3 x15 ho σ13 hc17) (by decide) ?_
            refine F_gar h (fun x19 h => ?_)
            obtain ⟨x22, σ20, hc21, h⟩ := cI_t h
            refine F_call (frX12_turned o v3 x19 ho σ16 hc21) (by decide) ?_
            obtain ⟨x25, σ23, hc24, h⟩ := cI_t h
            refine F_call (frX12_farFrom o v3 x22 ho σ20 hc24) (by decide) ?_
            obtain ⟨x28, σ26, hc27, h⟩ := cI_t h
            refine F_call (frX12_vaneAt o v3 (1 : Int32) ho σ23 hc27) (by decide) ?_
            refine F_gar h (fun x29 h => ?_)
            refine F_if h (fun h => ?_) (fun h => ?_)
            · skip
              refine F_if h (fun h => ?_) (fun h => ?_)
              · skip
                exact ih ((v2 - x9) + (0 : Int32)) (v3 + (1 : Int32)) σ26 h
              · skip
                exact ih ((v2 - x9) + (-x29)) (v3 + (1 : Int32)) σ26 h
            · skip
              exact ih ((v2 - x9) + x29) (v3 + (1 : Int32)) σ26 h
          · skip
            exact ih (v2 - x9) (v3 + (1 : Int32)) σ10 h
      · skip
        exact ih v2 (v3 + (1 : Int32)) σ h
set_option maxRecDepth 100000 in
set_option maxHeartbeats 4000000 in
theorem frX12_isStronger (o : Nat) (a1 : Int32) (ho : KD o = 12) (σ : Mm) {xr : Int32} {τ : Mm} (h : fX12_isStronger o a1 σ = some (xr, τ)) : FK [] σ τ := by
  unfold fX12_isStronger at h
  obtain ⟨x3, σ1, hc2, h⟩ := cI_t h
  refine F_call (frX12_vaneAt o a1 (1 : Int32) ho σ hc2) (by decide) ?_
  refine F_gar h (fun x4 h => ?_)
  exact ftX12_isStronger_22 o a1 ho FU x4 (0 : Int32) σ1 h
set_option maxRecDepth 100000 in
set_option maxHeartbeats 4000000 in
theorem frX12_shorter (o : Nat) (a1 : Int32) (ho : KD o = 12) (σ : Mm) {xr : Int32} {τ : Mm} (h : fX12_shorter o a1 σ = some (xr, τ)) : FK [] σ τ := by
  unfold fX12_shorter at h
  obtain ⟨x3, σ1, hc2, h⟩ := cI_t h
  refine F_call (frX12_vaneAt o a1 (3 : Int32) ho σ hc2) (by decide) ?_
  obtain ⟨x6, σ4, hc5, h⟩ := cI_t h
  refine F_call (frX12_toRight o a1 x3 ho σ1 hc5) (by decide) ?_
  obtain ⟨x9, σ7, hc8, h⟩ := cI_t h
  refine F_call (frX12_vaneAt o a1 (0 : Int32) ho σ4 hc8) (by decide) ?_
  refine F_if h (fun h => ?_) (fun h => ?_)
  · skip
    cases h
    exact F_refl
  · skip
    cases h
    exact F_refl
set_option maxRecDepth 100000 in
set_option maxHeartbeats 4000000 in
theorem ftX12_quarterGoes_91 {xr : Int32} {τ : Mm} (o : Nat) (ho : KD o = 12) (σ : Mm) (h : fX12_quarterGoes_91 o σ = some (xr, τ)) : FK [12] σ τ := by
  unfold fX12_quarterGoes_91 at h
  refine F_gar h (fun x20 h => ?_)
  refine F_if h (fun h => ?_) (fun h => ?_)
  · skip
    refine F_rsc h (fun x21 h => ?_)
    refine F_if h (fun h => ?_) (fun h => ?_)
    · skip
      cases h
      exact F_refl
    · skip
      cases h
      exact F_refl
  · skip
    refine F_gar h (fun x22 h => ?_)
    refine F_sar ho (by decide) h (fun σ23 h => ?_)
    refine F_rsc h (fun x24 h => ?_)
    refine F_if h (fun h => ?_) (fun h => ?_)
    · skip
      cases h
      exact F_refl
    · skip
      cases h
      exact F_refl
set_option maxRecDepth 100000 in
set_option maxHeartbeats 4000000 in
theorem ftX12_quarterGoes_7 {xr : Int32} {τ : Mm} (o : Nat) (ho : KD o = 12) : ∀ (n : Nat) (v1 : Int32) (σ : Mm), fX12_quarterGoes_7 o n v1 σ = some (xr, τ) → FK [12] σ τ := by
  intro n
  induction n with
  | zero => intro v1 σ h; rw [fX12_quarterGoes_7] at h; cases h
  | succ n ih =>
    intro v1 σ h
    rw [fX12_quarterGoes_7] at h
    refine F_gar h (fun x2 h => ?_)
    refine F_if h (fun h => ?_) (fun h => ?_)
    · skip
      exact ftX12_quarterGoes_91 o ho σ h
    · skip
      refine F_gar h (fun x3 h => ?_)
      refine F_if h (fun h => ?_) (fun h => ?_)
      · skip
        exact ih (v1 + (1 : Int32)) σ h
      · skip
        obtain ⟨x6, σ4, hc5, h⟩ := cI_t h
        refine F_call (frX12_isRight o v1 ho σ hc5) (by decide) ?_
        refine F_if h (fun h => ?_) (fun h => ?_)
        · skip
          obtain ⟨x9, σ7, hc8, h⟩ := cI_t h
          refine F_call (frX12_shorter o v1 ho σ4 hc8) (by decide) ?_
          obtain ⟨x12, σ10, hc11, h⟩ := cI_t h
          refine F_call (frX12_dragsBy o v1 x9 ho σ7 hc11) (by decide) ?_
          refine F_if h (fun h => ?_) (fun h => ?_)
          · skip
            exact ih (v1 + (1 : Int32)) σ10 h
          · skip
            obtain ⟨x15, σ13, hc14, h⟩ := cI_t h
            refine F_call (frX12_isStronger o v1 ho σ10 hc14) (by decide) ?_
            refine F_ifn h (fun h => ?_) (fun h => ?_)
            · skip
              obtain ⟨σ16, hc17, h⟩ := cV_t h
              refine F_call (frX12_turnsAll o ho σ13 hc17) (by decide) ?_
              refine F_rsc h (fun x18 h => ?_)
              refine F_ifn h (fun h => ?_) (fun h => ?_)
              · skip
                exact ih (v1 + (1 : Int32)) σ16 h
              · skip
                refine F_psc ho (by decide) h (fun σ19 h => ?_)
                exact ih (v1 + (1 : Int32)) σ19 h
            · skip
              exact ih (v1 + (1 : Int32)) σ13 h
        · skip
          exact ih (v1 + (1 : Int32)) σ4 h
set_option maxRecDepth 100000 in
set_option maxHeartbeats 4000000 in
theorem frX12_quarterGoes (o : Nat) (ho : KD o = 12) (σ : Mm) {xr : Int32} {τ : Mm} (h : fX12_quarterGoes o σ = some (xr, τ)) : FK [12] σ τ := by
  unfold fX12_quarterGoes at h
  refine F_psc ho (by decide) h (fun σ1 h => ?_)
  exact ftX12_quarterGoes_7 o ho FU (0 : Int32) σ1 h
set_option maxRecDepth 100000 in
set_option maxHeartbeats 4000000 in
theorem frX12_begins1 (o : Nat) (ho : KD o = 12) (σ : Mm) {τ : Mm} (h : fX12_begins1 o σ = some τ) : FK [12] σ τ := by
  unfold fX12_begins1 at h
  obtain ⟨σ1, hc2, h⟩ := cV_t h
  refine F_call (frX12_begins0 o ho σ hc2) (by decide) ?_
  refine F_psc ho (by decide) h (fun σ3 h => ?_)
  refine F_psc ho (by decide) h (fun σ4 h => ?_)
  cases h
  exact F_refl
set_option maxRecDepth 100000 in
set_option maxHeartbeats 4000000 in
theorem ftX12_goesBy_2 {τ : Mm} (o : Nat) (a1 : Int32) (ho : KD o = 12) : ∀ (n : Nat) (v2 : Int32) (σ : Mm), fX12_goesBy_2 o a1 n v2 σ = some τ → FK [12] σ τ := by
  intro n
  induction n with
  | zero => intro v2 σ h; rw [fX12_goesBy_2] at h; cases h
  | succ n ih =>
    intro v2 σ h
    rw [fX12_goesBy_2] at h
    refine F_if h (fun h => ?_) (fun h => ?_)
    · cases h
      exact F_refl
    · skip
      obtain ⟨x3, σ1, hc2, h⟩ := cI_t h
      refine F_call (frX12_quarterGoes o ho σ hc2) (by decide) ?_
      refine F_pbz ho (by decide) h (fun σ4 h => ?_)
      exact ih (v2 + (1 : Int32)) σ4 h
set_option maxRecDepth 100000 in
set_option maxHeartbeats 4000000 in
theorem frX12_goesBy (o : Nat) (a1 : Int32) (ho : KD o = 12) (σ : Mm) {τ : Mm} (h : fX12_goesBy o a1 σ = some τ) : FK [12] σ τ := by
  unfold fX12_goesBy at h
  exact ftX12_goesBy_2 o a1 ho FU (0 : Int32) σ h
set_option maxRecDepth 100000 in
set_option maxHeartbeats 4000000 in
theorem frX12_isDirection (a1 : Int32) (σ : Mm) {xr : Int32} {τ : Mm} (h : fX12_isDirection a1 σ = some (xr, τ)) : FK [] σ τ := by
  unfold fX12_isDirection at h
  refine F_if h (fun h => ?_) (fun h => ?_)
  · skip
    cases h
    exact F_refl
  · skip
    refine F_if h (fun h => ?_) (fun h => ?_)
    · skip
      cases h
      exact F_refl
    · skip
      cases h
      exact F_refl
set_option maxRecDepth 100000 in
set_option maxHeartbeats 4000000 in
theorem frX12_wind (o : Nat) (a1 : Int32) (a2 : Int32) (a3 : Int32) (ho : KD o = 12) (σ : Mm) {xr : Int32} {τ : Mm} (h : fX12_wind o a1 a2 a3 σ = some (xr, τ)) : FK [12] σ τ := by
  unfold fX12_wind at h
  obtain ⟨x3, σ1, hc2, h⟩ := cI_t h
  refine F_call (frX12_isPlace o a1 ho σ hc2) (by decide) ?_
  refine F_if h (fun h => ?_) (fun h => ?_)
  · skip
    obtain ⟨x6, σ4, hc5, h⟩ := cI_t h
    refine F_call (frX12_is o (1 : Int32) ho σ1 hc5) (by decide) ?_
    obtain ⟨hz7, h⟩ := bz_t h
    cases h
    exact F_refl
  · skip
    obtain ⟨x10, σ8, hc9, h⟩ := cI_t h
    refine F_call (frX12_isDirection a2 σ1 hc9) (by decide) ?_
    refine F_if h (fun h => ?_) (fun h => ?_)
    · skip
      obtain ⟨x13, σ11, hc12, h⟩ := cI_t h
      refine F_call (frX12_is o (1 : Int32) ho σ8 hc12) (by decide) ?_
      obtain ⟨hz14, h⟩ := bz_t h
      cases h
      exact F_refl
    · skip
      obtain ⟨x17, σ15, hc16, h⟩ := cI_t h
      refine F_call (frX12_isFrom a3.toInt64 (0 : Int64) (99 : Int64) σ8 hc16) (by decide) ?_
      refine F_ifn h (fun h => ?_) (fun h => ?_)
      · skip
        refine F_sar ho (by decide) h (fun σ18 h => ?_)
        refine F_sar ho (by decide) h (fun σ19 h => ?_)
        obtain ⟨x22, σ20, hc21, h⟩ := cI_t h
        refine F_call (frX12_is o (0 : Int32) ho σ19 hc21) (by decide) ?_
        obtain ⟨hz23, h⟩ := bz_t h
        cases h
        exact F_refl
      · skip
        obtain ⟨x26, σ24, hc25, h⟩ := cI_t h
        refine F_call (frX12_is o (1 : Int32) ho σ15 hc25) (by decide) ?_
        obtain ⟨hz27, h⟩ := bz_t h
        cases h
        exact F_refl
set_option maxRecDepth 100000 in
set_option maxHeartbeats 4000000 in
theorem frX12_windAt (o : Nat) (a1 : Int32) (a2 : Int32) (ho : KD o = 12) (σ : Mm) {xr : Int32} {τ : Mm} (h : fX12_windAt o a1 a2 σ = some (xr, τ)) : FK [12] σ τ := by
  unfold fX12_windAt at h
  obtain ⟨x3, σ1, hc2, h⟩ := cI_t h
  refine F_call (frX12_isPlace o a1 ho σ hc2) (by decide) ?_
  refine F_if h (fun h => ?_) (fun h => ?_)
  · skip
    obtain ⟨x6, σ4, hc5, h⟩ := cI_t h
    refine F_call (frX12_refuse o (1 : Int32) ho σ1 hc5) (by decide) ?_
    cases h
    exact F_refl
  · skip
    refine F_if h (fun h => ?_) (fun h => ?_)
    · skip
      refine F_gar h (fun x7 h => ?_)
      obtain ⟨x10, σ8, hc9, h⟩ := cI_t h
      refine F_call (frX12_gives o x7 ho σ1 hc9) (by decide) ?_
      cases h
      exact F_refl
    · skip
      refine F_ifn h (fun h => ?_) (fun h => ?_)
      · skip
        obtain ⟨x13, σ11, hc12, h⟩ := cI_t h
        refine F_call (frX12_refuse o (1 : Int32) ho σ1 hc12) (by decide) ?_
        cases h
        exact F_refl
      · skip
        refine F_gar h (fun x14 h => ?_)
        obtain ⟨x17, σ15, hc16, h⟩ := cI_t h
        refine F_call (frX12_gives o x14 ho σ1 hc16) (by decide) ?_
        cases h
        exact F_refl
set_option maxRecDepth 100000 in
set_option maxHeartbeats 4000000 in
theorem frX12_lift (o : Nat) (a1 : Int32) (a2 : Int32) (ho : KD o = 12) (σ : Mm) {xr : Int32} {τ : Mm} (h : fX12_lift o a1 a2 σ = some (xr, τ)) : FK [12] σ τ := by
  unfold fX12_lift at h
  obtain ⟨x3, σ1, hc2, h⟩ := cI_t h
  refine F_call (frX12_isShaft o a1 ho σ hc2) (by decide) ?_
  refine F_ifn h (fun h => ?_) (fun h => ?_)
  · skip
    refine F_gar h (fun x4 h => ?_)
    refine F_if h (fun h => ?_) (fun h => ?_)
    · skip
      refine F_sar ho (by decide) h (fun σ5 h => ?_)
      obtain ⟨x8, σ6, hc7, h⟩ := cI_t h
      refine F_call (frX12_is o (0 : Int32) ho σ5 hc7) (by decide) ?_
      obtain ⟨hz9, h⟩ := bz_t h
      cases h
      exact F_refl
    · skip
      refine F_sar ho (by decide) h (fun σ10 h => ?_)
      obtain ⟨x13, σ11, hc12, h⟩ := cI_t h
      refine F_call (frX12_is o (0 : Int32) ho σ10 hc12) (by decide) ?_
      obtain ⟨hz14, h⟩ := bz_t h
      cases h
      exact F_refl
  · skip
    obtain ⟨x17, σ15, hc16, h⟩ := cI_t h
    refine F_call (frX12_is o (1 : Int32) ho σ1 hc16) (by decide) ?_
    obtain ⟨hz18, h⟩ := bz_t h
    cases h
    exact F_refl
set_option maxRecDepth 100000 in
set_option maxHeartbeats 4000000 in
theorem frX12_hold (o : Nat) (a1 : Int32) (a2 : Int32) (ho : KD o = 12) (σ : Mm) {xr : Int32} {τ : Mm} (h : fX12_hold o a1 a2 σ = some (xr, τ)) : FK [12] σ τ := by
  unfold fX12_hold at h
  obtain ⟨x3, σ1, hc2, h⟩ := cI_t h
  refine F_call (frX12_isVane o a1 ho σ hc2) (by decide) ?_
  refine F_ifn h (fun h => ?_) (fun h => ?_)
  · skip
    refine F_gar h (fun x4 h => ?_)
    refine F_if h (fun h => ?_) (fun h => ?_)
    · skip
      refine F_sar ho (by decide) h (fun σ5 h => ?_)
      obtain ⟨x8, σ6, hc7, h⟩ := cI_t h
      refine F_call (frX12_is o (0 : Int32) ho σ5 hc7) (by decide) ?_
      obtain ⟨hz9, h⟩ := bz_t h
      cases h
      exact F_refl
    · skip
      refine F_sar ho (by decide) h (fun σ10 h => ?_)
      obtain ⟨x13, σ11, hc12, h⟩ := cI_t h
      refine F_call (frX12_is o (0 : Int32) ho σ10 hc12) (by decide) ?_
      obtain ⟨hz14, h⟩ := bz_t h
      cases h
      exact F_refl
  · skip
    obtain ⟨x17, σ15, hc16, h⟩ := cI_t h
    refine F_call (frX12_is o (1 : Int32) ho σ1 hc16) (by decide) ?_
    obtain ⟨hz18, h⟩ := bz_t h
    cases h
    exact F_refl
set_option maxRecDepth 100000 in
set_option maxHeartbeats 4000000 in
theorem frX12_pass (o : Nat) (a1 : Int32) (ho : KD o = 12) (σ : Mm) {xr : Int32} {τ : Mm} (h : fX12_pass o a1 σ = some (xr, τ)) : FK [12] σ τ := by
  unfold fX12_pass at h
  obtain ⟨x3, σ1, hc2, h⟩ := cI_t h
  refine F_call (frX12_isFrom a1.toInt64 (1 : Int64) (99 : Int64) σ hc2) (by decide) ?_
  refine F_ifn h (fun h => ?_) (fun h => ?_)
  · skip
    refine F_gar h (fun x4 h => ?_)
    refine F_if h (fun h => ?_) (fun h => ?_)
    · skip
      obtain ⟨σ5, hc6, h⟩ := cV_t h
      refine F_call (frX12_begins1 o ho σ1 hc6) (by decide) ?_
      obtain ⟨σ7, hc8, h⟩ := cV_t h
      refine F_call (frX12_goesBy o a1 ho σ5 hc8) (by decide) ?_
      obtain ⟨σ9, hc10, h⟩ := cV_t h
      refine F_call (frX12_laysBack o ho σ7 hc10) (by decide) ?_
      refine F_gar h (fun x11 h => ?_)
      obtain ⟨x14, σ12, hc13, h⟩ := cI_t h
      refine F_call (frX12_gives o x11 ho σ9 hc13) (by decide) ?_
      cases h
      exact F_refl
    · skip
      obtain ⟨x17, σ15, hc16, h⟩ := cI_t h
      refine F_call (frX12_refuse o (4 : Int32) ho σ1 hc16) (by decide) ?_
      cases h
      exact F_refl
  · skip
    obtain ⟨x20, σ18, hc19, h⟩ := cI_t h
    refine F_call (frX12_refuse o (1 : Int32) ho σ1 hc19) (by decide) ?_
    cases h
    exact F_refl
set_option maxRecDepth 100000 in
set_option maxHeartbeats 4000000 in
theorem ftX12_turnsBy_14 {xr : Int32} {τ : Mm} (o : Nat) (a1 : Int32) (a2 : Int32) (ho : KD o = 12) : ∀ (n : Nat) (v3 : Int32) (v4 : Int32) (σ : Mm), fX12_turnsBy_14 o a1 a2 n v3 v4 σ = some (xr, τ) → FK [12] σ τ := by
  intro n
  induction n with
  | zero => intro v3 v4 σ h; rw [fX12_turnsBy_14] at h; cases h
  | succ n ih =>
    intro v3 v4 σ h
    rw [fX12_turnsBy_14] at h
    refine F_if h (fun h => ?_) (fun h => ?_)
    · skip
      cases h
      exact F_refl
    · skip
      refine F_if h (fun h => ?_) (fun h => ?_)
      · skip
        obtain ⟨x3, σ1, hc2, h⟩ := cI_t h
        refine F_call (frX12_dragsBy o a1 (1 : Int32) ho σ hc2) (by decide) ?_
        refine F_ifn h (fun h => ?_) (fun h => ?_)
        · skip
          obtain ⟨σ4, hc5, h⟩ := cV_t h
          refine F_call (frX12_turnsAll o ho σ1 hc5) (by decide) ?_
          exact ih v3 (v4 + (1 : Int32)) σ4 h
        · skip
          cases h
          exact F_refl
      · skip
        obtain ⟨x8, σ6, hc7, h⟩ := cI_t h
        refine F_call (frX12_dragsBy o a1 (-1 : Int32) ho σ hc7) (by decide) ?_
        refine F_ifn h (fun h => ?_) (fun h => ?_)
        · skip
          obtain ⟨σ9, hc10, h⟩ := cV_t h
          refine F_call (frX12_turnsAll o ho σ6 hc10) (by decide) ?_
          exact ih v3 (v4 + (1 : Int32)) σ9 h
        · skip
          cases h
          exact F_refl
set_option maxRecDepth 100000 in
set_option maxHeartbeats 4000000 in
theorem frX12_turnsBy (o : Nat) (a1 : Int32) (a2 : Int32) (ho : KD o = 12) (σ : Mm) {xr : Int32} {τ : Mm} (h : fX12_turnsBy o a1 a2 σ = some (xr, τ)) : FK [12] σ τ := by
  unfold fX12_turnsBy at h
  refine F_if h (fun h => ?_) (fun h => ?_)
  · skip
    exact ftX12_turnsBy_14 o a1 a2 ho FU a2 (0 : Int32) σ h
  · skip
    exact ftX12_turnsBy_14 o a1 a2 ho FU (-a2) (0 : Int32) σ h
set_option maxRecDepth 100000 in
set_option maxHeartbeats 4000000 in
theorem frX12_turn (o : Nat) (a1 : Int32) (a2 : Int32) (ho : KD o = 12) (σ : Mm) {xr : Int32} {τ : Mm} (h : fX12_turn o a1 a2 σ = some (xr, τ)) : FK [12] σ τ := by
  unfold fX12_turn at h
  obtain ⟨x3, σ1, hc2, h⟩ := cI_t h
  refine F_call (frX12_isVane o a1 ho σ hc2) (by decide) ?_
  refine F_if h (fun h => ?_) (fun h => ?_)
  · skip
    obtain ⟨x6, σ4, hc5, h⟩ := cI_t h
    refine F_call (frX12_refuse o (1 : Int32) ho σ1 hc5) (by decide) ?_
    cases h
    exact F_refl
  · skip
    refine F_if h (fun h => ?_) (fun h => ?_)
    · skip
      obtain ⟨x9, σ7, hc8, h⟩ := cI_t h
      refine F_call (frX12_refuse o (1 : Int32) ho σ1 hc8) (by decide) ?_
      cases h
      exact F_refl
    · skip
      obtain ⟨x12, σ10, hc11, h⟩ := cI_t h
      refine F_call (frX12_isFrom a2.toInt64 (-99 : Int64) (99 : Int64) σ1 hc11) (by decide) ?_
      refine F_ifn h (fun h => ?_) (fun h => ?_)
      · skip
        obtain ⟨σ13, hc14, h⟩ := cV_t h
        refine F_call (frX12_begins1 o ho σ10 hc14) (by decide) ?_
        obtain ⟨x17, σ15, hc16, h⟩ := cI_t h
        refine F_call (frX12_turnsBy o a1 a2 ho σ13 hc16) (by decide) ?_
        obtain ⟨σ18, hc19, h⟩ := cV_t h
        refine F_call (frX12_laysBack o ho σ15 hc19) (by decide) ?_
        obtain ⟨x22, σ20, hc21, h⟩ := cI_t h
        refine F_call (frX12_gives o x17 ho σ18 hc21) (by decide) ?_
        cases h
        exact F_refl
      · skip
        obtain ⟨x25, σ23, hc24, h⟩ := cI_t h
        refine F_call (frX12_refuse o (1 : Int32) ho σ10 hc24) (by decide) ?_
        cases h
        exact F_refl
set_option maxRecDepth 100000 in
set_option maxHeartbeats 4000000 in
theorem frX12_drags (o : Nat) (a1 : Int32) (a2 : Int32) (ho : KD o = 12) (σ : Mm) {xr : Int32} {τ : Mm} (h : fX12_drags o a1 a2 σ = some (xr, τ)) : FK [12] σ τ := by
  unfold fX12_drags at h
  obtain ⟨x3, σ1, hc2, h⟩ := cI_t h
  refine F_call (frX12_isVane o a1 ho σ hc2) (by decide) ?_
  refine F_if h (fun h => ?_) (fun h => ?_)
  · skip
    obtain ⟨x6, σ4, hc5, h⟩ := cI_t h
    refine F_call (frX12_refuse o (1 : Int32) ho σ1 hc5) (by decide) ?_
    cases h
    exact F_refl
  · skip
    refine F_if h (fun h => ?_) (fun h => ?_)
    · skip
      obtain ⟨σ7, hc8, h⟩ := cV_t h
      refine F_call (frX12_begins0 o ho σ1 hc8) (by decide) ?_
      obtain ⟨x11, σ9, hc10, h⟩ := cI_t h
      refine F_call (frX12_dragsBy o a1 a2 ho σ7 hc10) (by decide) ?_
      refine F_if h (fun h => ?_) (fun h => ?_)
      · skip
        obtain ⟨x14, σ12, hc13, h⟩ := cI_t h
        refine F_call (frX12_refuse o (7 : Int32) ho σ9 hc13) (by decide) ?_
        cases h
        exact F_refl
      · skip
        obtain ⟨x17, σ15, hc16, h⟩ := cI_t h
        refine F_call (frX12_turnedSet o ho σ9 hc16) (by decide) ?_
        obtain ⟨x20, σ18, hc19, h⟩ := cI_t h
        refine F_call (frX12_gives o x17 ho σ15 hc19) (by decide) ?_
        cases h
        exact F_refl
    · skip
      refine F_if h (fun h => ?_) (fun h => ?_)
      · skip
        obtain ⟨σ21, hc22, h⟩ := cV_t h
        refine F_call (frX12_begins0 o ho σ1 hc22) (by decide) ?_
        obtain ⟨x25, σ23, hc24, h⟩ := cI_t h
        refine F_call (frX12_dragsBy o a1 a2 ho σ21 hc24) (by decide) ?_
        refine F_if h (fun h => ?_) (fun h => ?_)
        · skip
          obtain ⟨x28, σ26, hc27, h⟩ := cI_t h
          refine F_call (frX12_refuse o (7 : Int32) ho σ23 hc27) (by decide) ?_
          cases h
          exact F_refl
        · skip
          obtain ⟨x31, σ29, hc30, h⟩ := cI_t h
          refine F_call (frX12_turnedSet o ho σ23 hc30) (by decide) ?_
          obtain ⟨x34, σ32, hc33, h⟩ := cI_t h
          refine F_call (frX12_gives o x31 ho σ29 hc33) (by decide) ?_
          cases h
          exact F_refl
      · skip
        obtain ⟨x37, σ35, hc36, h⟩ := cI_t h
        refine F_call (frX12_refuse o (1 : Int32) ho σ1 hc36) (by decide) ?_
        cases h
        exact F_refl
set_option maxRecDepth 100000 in
set_option maxHeartbeats 4000000 in
theorem frX12_otherOf (o : Nat) (a1 : Int32) (a2 : Int32) (ho : KD o = 12) (σ : Mm) {xr : Int32} {τ : Mm} (h : fX12_otherOf o a1 a2 σ = some (xr, τ)) : FK [] σ τ := by
  unfold fX12_otherOf at h
  refine F_gar h (fun x1 h => ?_)
  refine F_gar h (fun x2 h => ?_)
  refine F_gar h (fun x3 h => ?_)
  refine F_ifn h (fun h => ?_) (fun h => ?_)
  · skip
    refine F_ifn h (fun h => ?_) (fun h => ?_)
    · skip
      refine F_ifn h (fun h => ?_) (fun h => ?_)
      · skip
        cases h
        exact F_refl
      · skip
        cases h
        exact F_refl
    · skip
      cases h
      exact F_refl
  · skip
    cases h
    exact F_refl
set_option maxRecDepth 100000 in
set_option maxHeartbeats 4000000 in
theorem ftX12_joinedWith_36 {xr : Int32} {τ : Mm} (o : Nat) (a1 : Int32) (ho : KD o = 12) (k25 : Int32 → Int32 → Mm → Option (Int32 × Mm)) (hk25 : ∀ (v2 : Int32) (v3 : Int32) (σ : Mm), k25 v2 v3 σ = some (xr, τ) → FK [12] σ τ) : ∀ (n : Nat) (v2 : Int32) (v3 : Int32) (v4 : Int32) (σ : Mm), fX12_joinedWith_36 o a1 k25 n v2 v3 v4 σ = some (xr, τ) → FK [12] σ τ := by
  intro n
  induction n with
  | zero => intro v2 v3 v4 σ h; rw [fX12_joinedWith_36] at h; cases h
  | succ n ih =>
    intro v2 v3 v4 σ h
    rw [fX12_joinedWith_36] at h
    refine F_gar h (fun x5 h => ?_)
    refine F_if h (fun h => ?_) (fun h => ?_)
    · skip
      exact hk25 v2 (v3 + (1 : Int32)) σ h
    · skip
      refine F_gar h (fun x6 h => ?_)
      obtain ⟨x9, σ7, hc8, h⟩ := cI_t h
      refine F_call (frX12_otherOf o v4 x6 ho σ hc8) (by decide) ?_
      refine F_if h (fun h => ?_) (fun h => ?_)
      · skip
        exact ih v2 v3 (v4 + (1 : Int32)) σ7 h
      · skip
        refine F_ifn h (fun h => ?_) (fun h => ?_)
        · skip
          refine F_gar h (fun x10 h => ?_)
          refine F_ifn h (fun h => ?_) (fun h => ?_)
          · skip
            refine F_gar h (fun x11 h => ?_)
            refine F_gar h (fun x12 h => ?_)
            refine F_sar ho (by decide) h (fun σ13 h => ?_)
            refine F_rsc h (fun x14 h => ?_)
            refine F_sar ho (by decide) h (fun σ15 h => ?_)
            refine F_rsc h (fun x16 h => ?_)
            refine F_psc ho (by decide) h (fun σ17 h => ?_)
            exact ih (v2 ||| ((1 : Int32) <<< (x9 &&& 31))) v3 (v4 + (1 : Int32)) σ17 h
          · skip
            refine F_gar h (fun x18 h => ?_)
            refine F_gar h (fun x19 h => ?_)
            refine F_sar ho (by decide) h (fun σ20 h => ?_)
            refine F_rsc h (fun x21 h => ?_)
            refine F_sar ho (by decide) h (fun σ22 h => ?_)
            refine F_rsc h (fun x23 h => ?_)
            refine F_psc ho (by decide) h (fun σ24 h => ?_)
            exact ih (v2 ||| ((1 : Int32) <<< (x9 &&& 31))) v3 (v4 + (1 : Int32)) σ24 h
        · skip
          exact ih v2 v3 (v4 + (1 : Int32)) σ7 h
set_option maxRecDepth 100000 in
set_option maxHeartbeats 4000000 in
theorem ftX12_joinedWith_25 {xr : Int32} {τ : Mm} (o : Nat) (a1 : Int32) (ho : KD o = 12) : ∀ (n : Nat) (v2 : Int32) (v3 : Int32) (σ : Mm), fX12_joinedWith_25 o a1 n v2 v3 σ = some (xr, τ) → FK [12] σ τ := by
  intro n
  induction n with
  | zero => intro v2 v3 σ h; rw [fX12_joinedWith_25] at h; cases h
  | succ n ih =>
    intro v2 v3 σ h
    rw [fX12_joinedWith_25] at h
    refine F_rsc h (fun x4 h => ?_)
    refine F_if h (fun h => ?_) (fun h => ?_)
    · skip
      cases h
      exact F_refl
    · skip
      exact ftX12_joinedWith_36 o a1 ho (fX12_joinedWith_25 o a1 n) ih FU v2 v3 (0 : Int32) σ h
set_option maxRecDepth 100000 in
set_option maxHeartbeats 4000000 in
theorem frX12_joinedWith (o : Nat) (a1 : Int32) (ho : KD o = 12) (σ : Mm) {xr : Int32} {τ : Mm} (h : fX12_joinedWith o a1 σ = some (xr, τ)) : FK [12] σ τ := by
  unfold fX12_joinedWith at h
  refine F_sar ho (by decide) h (fun σ1 h => ?_)
  refine F_psc ho (by decide) h (fun σ2 h => ?_)
  refine F_sar ho (by decide) h (fun σ3 h => ?_)
  exact ftX12_joinedWith_25 o a1 ho FU ((1 : Int32) <<< (a1 &&& 31)) (0 : Int32) σ3 h
set_option maxRecDepth 100000 in
set_option maxHeartbeats 4000000 in
theorem frX12_joined (o : Nat) (a1 : Int32) (ho : KD o = 12) (σ : Mm) {xr : Int32} {τ : Mm} (h : fX12_joined o a1 σ = some (xr, τ)) : FK [12] σ τ := by
  unfold fX12_joined at h
  obtain ⟨x3, σ1, hc2, h⟩ := cI_t h
  refine F_call (frX12_isVane o a1 ho σ hc2) (by decide) ?_
  refine F_if h (fun h => ?_) (fun h => ?_)
  · skip
    obtain ⟨x6, σ4, hc5, h⟩ := cI_t h
    refine F_call (frX12_refuse o (1 : Int32) ho σ1 hc5) (by decide) ?_
    cases h
    exact F_refl
  · skip
    obtain ⟨x9, σ7, hc8, h⟩ := cI_t h
    refine F_call (frX12_joinedWith o a1 ho σ1 hc8) (by decide) ?_
    obtain ⟨x12, σ10, hc11, h⟩ := cI_t h
    refine F_call (frX12_gives o x9 ho σ7 hc11) (by decide) ?_
    cases h
    exact F_refl
set_option maxRecDepth 100000 in
set_option maxHeartbeats 4000000 in
theorem frX12_ratio (o : Nat) (a1 : Int32) (a2 : Int32) (ho : KD o = 12) (σ : Mm) {xr : Int32} {τ : Mm} (h : fX12_ratio o a1 a2 σ = some (xr, τ)) : FK [12] σ τ := by
  unfold fX12_ratio at h
  obtain ⟨x3, σ1, hc2, h⟩ := cI_t h
  refine F_call (frX12_isVane o a1 ho σ hc2) (by decide) ?_
  refine F_if h (fun h => ?_) (fun h => ?_)
  · skip
    obtain ⟨x6, σ4, hc5, h⟩ := cI_t h
    refine F_call (frX12_is o (1 : Int32) ho σ1 hc5) (by decide) ?_
    obtain ⟨hz7, h⟩ := bz_t h
    cases h
    exact F_refl
  · skip
    obtain ⟨x10, σ8, hc9, h⟩ := cI_t h
    refine F_call (frX12_isVane o a2 ho σ1 hc9) (by decide) ?_
    refine F_ifn h (fun h => ?_) (fun h => ?_)
    · skip
      obtain ⟨x13, σ11, hc12, h⟩ := cI_t h
      refine F_call (frX12_joinedWith o a1 ho σ8 hc12) (by decide) ?_
      refine F_ifn h (fun h => ?_) (fun h => ?_)
      · skip
        refine F_gar h (fun x14 h => ?_)
        refine F_gar h (fun x15 h => ?_)
        refine F_gar h (fun x16 h => ?_)
        obtain ⟨x19, σ17, hc18, h⟩ := cI_t h
        refine F_call (frX12_tellsBy o (x14.toInt64 * x15.toInt64) x16.toInt64 ho σ11 hc18) (by decide) ?_
        obtain ⟨hz20, h⟩ := bz_t h
        cases h
        exact F_refl
      · skip
        obtain ⟨x23, σ21, hc22, h⟩ := cI_t h
        refine F_call (frX12_is o (7 : Int32) ho σ11 hc22) (by decide) ?_
        obtain ⟨hz24, h⟩ := bz_t h
        cases h
        exact F_refl
    · skip
      obtain ⟨x27, σ25, hc26, h⟩ := cI_t h
      refine F_call (frX12_is o (1 : Int32) ho σ8 hc26) (by decide) ?_
      obtain ⟨hz28, h⟩ := bz_t h
      cases h
      exact F_refl
set_option maxRecDepth 100000 in
set_option maxHeartbeats 4000000 in
theorem ftX12_locked_115 {xr : Int32} {τ : Mm} (o : Nat) (ho : KD o = 12) (k4 : Int32 → Int32 → Mm → Option (Int32 × Mm)) (k23 : Int32 → Int32 → Int32 → Int32 → Mm → Option (Int32 × Mm)) (hk4 : ∀ (v1 : Int32) (v2 : Int32) (σ : Mm), k4 v1 v2 σ = some (xr, τ) → FK [12] σ τ) (hk23 : ∀ (v1 : Int32) (v2 : Int32) (v3 : Int32) (v4 : Int32) (σ : Mm), k23 v1 v2 v3 v4 σ = some (xr, τ) → FK [12] σ τ) (v1 : Int32) (v2 : Int32) (v3 : Int32) (v4 : Int32) (s0 : Int32) (σ : Mm) (h : fX12_locked_115 o k4 k23 v1 v2 v3 v4 s0 σ = some (xr, τ)) : FK [12] σ τ := by
  unfold fX12_locked_115 at h
  refine F_gar h (fun x14 h => ?_)
  refine F_ifn h (fun h => ?_) (fun h => ?_)
  · skip
    refine F_if h (fun h => ?_) (fun h => ?_)
    · skip
      exact hk23 v1 v2 v3 (v4 + (1 : Int32)) σ h
    · skip
      exact hk23 (v1 ||| ((1 : Int32) <<< (v2 &&& 31))) v2 v3 (v4 + (1 : Int32)) σ h
  · skip
    refine F_if h (fun h => ?_) (fun h => ?_)
    · skip
      exact hk23 v1 v2 v3 (v4 + (1 : Int32)) σ h
    · skip
      exact hk23 (v1 ||| ((1 : Int32) <<< (v2 &&& 31))) v2 v3 (v4 + (1 : Int32)) σ h
set_option maxRecDepth 100000 in
set_option maxHeartbeats 4000000 in
theorem ftX12_locked_23 {xr : Int32} {τ : Mm} (o : Nat) (ho : KD o = 12) (k4 : Int32 → Int32 → Mm → Option (Int32 × Mm)) (hk4 : ∀ (v1 : Int32) (v2 : Int32) (σ : Mm), k4 v1 v2 σ = some (xr, τ) → FK [12] σ τ) : ∀ (n : Nat) (v1 : Int32) (v2 : Int32) (v3 : Int32) (v4 : Int32) (σ : Mm), fX12_locked_23 o k4 n v1 v2 v3 v4 σ = some (xr, τ) → FK [12] σ τ := by
  intro n
  induction n with
  | zero => intro v1 v2 v3 v4 σ h; rw [fX12_locked_23] at h; cases h
  | succ n ih =>
    intro v1 v2 v3 v4 σ h
    rw [fX12_locked_23] at h
    refine F_gar h (fun x8 h => ?_)
    refine F_if h (fun h => ?_) (fun h => ?_)
    · skip
      exact hk4 v1 (v2 + (1 : Int32)) σ h
    · skip
      refine F_gar h (fun x9 h => ?_)
      refine F_gar h (fun x10 h => ?_)
      refine F_gar h (fun x11 h => ?_)
      refine F_if h (fun h => ?_) (fun h => ?_)
      · skip
        exact ih v1 v2 v3 (v4 + (1 : Int32)) σ h
      · skip
        refine F_ifn h (fun h => ?_) (fun h => ?_)
        · skip
          refine F_gar h (fun x12 h => ?_)
          refine F_gar h (fun x13 h => ?_)
          refine F_ifn h (fun h => ?_) (fun h => ?_)
          · skip
            exact ftX12_locked_115 o ho k4 (fX12_locked_23 o k4 n) hk4 ih v1 v2 v3 v4 (0 : Int32) σ h
          · skip
            exact ftX12_locked_115 o ho k4 (fX12_locked_23 o k4 n) hk4 ih v1 v2 v3 v4 (1 : Int32) σ h
        · skip
          exact ih v1 v2 v3 (v4 + (1 : Int32)) σ h
set_option maxRecDepth 100000 in
set_option maxHeartbeats 4000000 in
theorem ftX12_locked_4 {xr : Int32} {τ : Mm} (o : Nat) (ho : KD o = 12) : ∀ (n : Nat) (v1 : Int32) (v2 : Int32) (σ : Mm), fX12_locked_4 o n v1 v2 σ = some (xr, τ) → FK [12] σ τ := by
  intro n
  induction n with
  | zero => intro v1 v2 σ h; rw [fX12_locked_4] at h; cases h
  | succ n ih =>
    intro v1 v2 σ h
    rw [fX12_locked_4] at h
    refine F_gar h (fun x1 h => ?_)
    refine F_if h (fun h => ?_) (fun h => ?_)
    · skip
      obtain ⟨x4, σ2, hc3, h⟩ := cI_t h
      refine F_call (frX12_gives o v1 ho σ hc3) (by decide) ?_
      cases h
      exact F_refl
    · skip
      obtain ⟨x7, σ5, hc6, h⟩ := cI_t h
      refine F_call (frX12_joinedWith o v2 ho σ hc6) (by decide) ?_
      exact ftX12_locked_23 o ho (fX12_locked_4 o n) ih FU v1 v2 x7 (0 : Int32) σ5 h
set_option maxRecDepth 100000 in
set_option maxHeartbeats 4000000 in
theorem frX12_locked (o : Nat) (ho : KD o = 12) (σ : Mm) {xr : Int32} {τ : Mm} (h : fX12_locked o σ = some (xr, τ)) : FK [12] σ τ := by
  unfold fX12_locked at h
  exact ftX12_locked_4 o ho FU (0 : Int32) (0 : Int32) σ h
set_option maxRecDepth 100000 in
set_option maxHeartbeats 4000000 in
theorem ftX12_common_95 {xr : Int64} {τ : Mm} (o : Nat) (a1 : Int32) (ho : KD o = 12) (k28 : Int64 → Int32 → Mm → Option (Int64 × Mm)) (hk28 : ∀ (v2 : Int64) (v4 : Int32) (σ : Mm), k28 v2 v4 σ = some (xr, τ) → FK [12] σ τ) (v2 : Int64) (v4 : Int32) (v5 : Int64) (σ : Mm) (h : fX12_common_95 o a1 k28 v2 v4 v5 σ = some (xr, τ)) : FK [12] σ τ := by
  unfold fX12_common_95 at h
  obtain ⟨hz13, h⟩ := nzl_t h
  refine F_gar h (fun x12 h => ?_)
  exact hk28 ((v2 / v5) * x12.toInt64) (v4 + (1 : Int32)) σ h
set_option maxRecDepth 100000 in
set_option maxHeartbeats 4000000 in
theorem ftX12_common_70 {xr : Int64} {τ : Mm} (o : Nat) (a1 : Int32) (ho : KD o = 12) (k28 : Int64 → Int32 → Mm → Option (Int64 × Mm)) (hk28 : ∀ (v2 : Int64) (v4 : Int32) (σ : Mm), k28 v2 v4 σ = some (xr, τ) → FK [12] σ τ) : ∀ (n : Nat) (v2 : Int64) (v4 : Int32) (v5 : Int64) (v7 : Int64) (σ : Mm), fX12_common_70 o a1 k28 n v2 v4 v5 v7 σ = some (xr, τ) → FK [12] σ τ := by
  intro n
  induction n with
  | zero => intro v2 v4 v5 v7 σ h; rw [fX12_common_70] at h; cases h
  | succ n ih =>
    intro v2 v4 v5 v7 σ h
    rw [fX12_common_70] at h
    refine F_if h (fun h => ?_) (fun h => ?_)
    · skip
      exact ftX12_common_95 o a1 ho k28 hk28 v2 v4 v5 σ h
    · skip
      obtain ⟨hz11, h⟩ := nzl_t h
      exact ih v2 v4 v7 (v5 - v5 / v7 * v7) σ h
set_option maxRecDepth 100000 in
set_option maxHeartbeats 4000000 in
theorem ftX12_common_28 {xr : Int64} {τ : Mm} (o : Nat) (a1 : Int32) (ho : KD o = 12) : ∀ (n : Nat) (v2 : Int64) (v4 : Int32) (σ : Mm), fX12_common_28 o a1 n v2 v4 σ = some (xr, τ) → FK [12] σ τ := by
  intro n
  induction n with
  | zero => intro v2 v4 σ h; rw [fX12_common_28] at h; cases h
  | succ n ih =>
    intro v2 v4 σ h
    rw [fX12_common_28] at h
    refine F_gar h (fun x8 h => ?_)
    refine F_if h (fun h => ?_) (fun h => ?_)
    · skip
      refine F_psc ho (by decide) h (fun σ9 h => ?_)
      cases h
      exact F_refl
    · skip
      refine F_ifn h (fun h => ?_) (fun h => ?_)
      · skip
        refine F_gar h (fun x10 h => ?_)
        exact ftX12_common_70 o a1 ho (fX12_common_28 o a1 n) ih FU v2 v4 v2 x10.toInt64 σ h
      · skip
        exact ih v2 (v4 + (1 : Int32)) σ h
set_option maxRecDepth 100000 in
set_option maxHeartbeats 4000000 in
theorem frX12_common (o : Nat) (a1 : Int32) (ho : KD o = 12) (σ : Mm) {xr : Int64} {τ : Mm} (h : fX12_common o a1 σ = some (xr, τ)) : FK [12] σ τ := by
  unfold fX12_common at h
  refine F_if h (fun h => ?_) (fun h => ?_)
  · skip
    obtain ⟨x3, σ1, hc2, h⟩ := cI_t h
    refine F_call (frX12_refuse o (1 : Int32) ho σ hc2) (by decide) ?_
    cases h
    exact F_refl
  · skip
    refine F_gar h (fun x4 h => ?_)
    refine F_if h (fun h => ?_) (fun h => ?_)
    · skip
      exact ftX12_common_28 o a1 ho FU (1 : Int64) (0 : Int32) σ h
    · skip
      obtain ⟨x7, σ5, hc6, h⟩ := cI_t h
      refine F_call (frX12_refuse o (1 : Int32) ho σ hc6) (by decide) ?_
      cases h
      exact F_refl
set_option maxRecDepth 100000 in
set_option maxHeartbeats 4000000 in
theorem ftX12_sway_179 {xr : Int32} {τ : Mm} (o : Nat) (a1 : Int32) (a2 : Int32) (ho : KD o = 12) (k56 : Int32 → Mm → Option (Int32 × Mm)) (k65 : Int32 → Int32 → Mm → Option (Int32 × Mm)) (hk56 : ∀ (v3 : Int32) (σ : Mm), k56 v3 σ = some (xr, τ) → FK [12] σ τ) (hk65 : ∀ (v3 : Int32) (v4 : Int32) (σ : Mm), k65 v3 v4 σ = some (xr, τ) → FK [12] σ τ) (v3 : Int32) (v4 : Int32) (v5 : Int32) (v6 : Int32) (v7 : Int32) (σ : Mm) (h : fX12_sway_179 o a1 a2 k56 k65 v3 v4 v5 v6 v7 σ = some (xr, τ)) : FK [12] σ τ := by
  unfold fX12_sway_179 at h
  refine F_gar h (fun x32 h => ?_)
  refine F_gar h (fun x33 h => ?_)
  refine F_if h (fun h => ?_) (fun h => ?_)
  · skip
    exact hk65 v3 (v4 + (1 : Int32)) σ h
  · skip
    refine F_gar h (fun x34 h => ?_)
    refine F_sar ho (by decide) h (fun σ35 h => ?_)
    exact hk65 v3 (v4 + (1 : Int32)) σ35 h
set_option maxRecDepth 100000 in
set_option maxHeartbeats 4000000 in
theorem ftX12_sway_65 {xr : Int32} {τ : Mm} (o : Nat) (a1 : Int32) (a2 : Int32) (ho : KD o = 12) (k56 : Int32 → Mm → Option (Int32 × Mm)) (hk56 : ∀ (v3 : Int32) (σ : Mm), k56 v3 σ = some (xr, τ) → FK [12] σ τ) : ∀ (n : Nat) (v3 : Int32) (v4 : Int32) (σ : Mm), fX12_sway_65 o a1 a2 k56 n v3 v4 σ = some (xr, τ) → FK [12] σ τ := by
  intro n
  induction n with
  | zero => intro v3 v4 σ h; rw [fX12_sway_65] at h; cases h
  | succ n ih =>
    intro v3 v4 σ h
    rw [fX12_sway_65] at h
    refine F_gar h (fun x23 h => ?_)
    refine F_if h (fun h => ?_) (fun h => ?_)
    · skip
      exact hk56 (v3 + (1 : Int32)) σ h
    · skip
      refine F_gar h (fun x24 h => ?_)
      refine F_ifn h (fun h => ?_) (fun h => ?_)
      · skip
        refine F_gar h (fun x25 h => ?_)
        refine F_gar h (fun x26 h => ?_)
        refine F_gar h (fun x27 h => ?_)
        refine F_gar h (fun x28 h => ?_)
        refine F_gar h (fun x29 h => ?_)
        refine F_if h (fun h => ?_) (fun h => ?_)
        · skip
          exact ftX12_sway_179 o a1 a2 ho k56 (fX12_sway_65 o a1 a2 k56 n) hk56 ih v3 v4 x25 x26 x27 σ h
        · skip
          refine F_gar h (fun x30 h => ?_)
          refine F_sar ho (by decide) h (fun σ31 h => ?_)
          exact ftX12_sway_179 o a1 a2 ho k56 (fX12_sway_65 o a1 a2 k56 n) hk56 ih v3 v4 x25 x26 x27 σ31 h
      · skip
        exact ih v3 (v4 + (1 : Int32)) σ h
set_option maxRecDepth 100000 in
set_option maxHeartbeats 4000000 in
theorem ftX12_sway_228 {xr : Int32} {τ : Mm} (o : Nat) (a1 : Int32) (a2 : Int32) (ho : KD o = 12) (σ : Mm) (h : fX12_sway_228 o a1 a2 σ = some (xr, τ)) : FK [12] σ τ := by
  unfold fX12_sway_228 at h
  refine F_gar h (fun x15 h => ?_)
  refine F_if h (fun h => ?_) (fun h => ?_)
  · skip
    obtain ⟨x18, σ16, hc17, h⟩ := cI_t h
    refine F_call (frX12_refuse o (7 : Int32) ho σ hc17) (by decide) ?_
    cases h
    exact F_refl
  · skip
    refine F_gar h (fun x19 h => ?_)
    obtain ⟨x22, σ20, hc21, h⟩ := cI_t h
    refine F_call (frX12_gives o x19 ho σ hc21) (by decide) ?_
    cases h
    exact F_refl
set_option maxRecDepth 100000 in
set_option maxHeartbeats 4000000 in
theorem ftX12_sway_56 {xr : Int32} {τ : Mm} (o : Nat) (a1 : Int32) (a2 : Int32) (ho : KD o = 12) : ∀ (n : Nat) (v3 : Int32) (σ : Mm), fX12_sway_56 o a1 a2 n v3 σ = some (xr, τ) → FK [12] σ τ := by
  intro n
  induction n with
  | zero => intro v3 σ h; rw [fX12_sway_56] at h; cases h
  | succ n ih =>
    intro v3 σ h
    rw [fX12_sway_56] at h
    refine F_if h (fun h => ?_) (fun h => ?_)
    · skip
      exact ftX12_sway_228 o a1 a2 ho σ h
    · skip
      exact ftX12_sway_65 o a1 a2 ho (fX12_sway_56 o a1 a2 n) ih FU v3 (0 : Int32) σ h
set_option maxRecDepth 100000 in
set_option maxHeartbeats 4000000 in
theorem ftX12_sway_24 {xr : Int32} {τ : Mm} (o : Nat) (a1 : Int32) (a2 : Int32) (ho : KD o = 12) : ∀ (n : Nat) (v3 : Int32) (σ : Mm), fX12_sway_24 o a1 a2 n v3 σ = some (xr, τ) → FK [12] σ τ := by
  intro n
  induction n with
  | zero => intro v3 σ h; rw [fX12_sway_24] at h; cases h
  | succ n ih =>
    intro v3 σ h
    rw [fX12_sway_24] at h
    refine F_if h (fun h => ?_) (fun h => ?_)
    · skip
      exact ftX12_sway_56 o a1 a2 ho FU (0 : Int32) σ h
    · skip
      refine F_ifn h (fun h => ?_) (fun h => ?_)
      · skip
        refine F_sar ho (by decide) h (fun σ13 h => ?_)
        exact ih (v3 + (1 : Int32)) σ13 h
      · skip
        refine F_sar ho (by decide) h (fun σ14 h => ?_)
        exact ih (v3 + (1 : Int32)) σ14 h
set_option maxRecDepth 100000 in
set_option maxHeartbeats 4000000 in
theorem frX12_sway (o : Nat) (a1 : Int32) (a2 : Int32) (ho : KD o = 12) (σ : Mm) {xr : Int32} {τ : Mm} (h : fX12_sway o a1 a2 σ = some (xr, τ)) : FK [12] σ τ := by
  unfold fX12_sway at h
  obtain ⟨x3, σ1, hc2, h⟩ := cI_t h
  refine F_call (frX12_isVane o a1 ho σ hc2) (by decide) ?_
  refine F_if h (fun h => ?_) (fun h => ?_)
  · skip
    obtain ⟨x6, σ4, hc5, h⟩ := cI_t h
    refine F_call (frX12_refuse o (1 : Int32) ho σ1 hc5) (by decide) ?_
    cases h
    exact F_refl
  · skip
    obtain ⟨x9, σ7, hc8, h⟩ := cI_t h
    refine F_call (frX12_isVane o a2 ho σ1 hc8) (by decide) ?_
    refine F_ifn h (fun h => ?_) (fun h => ?_)
    · skip
      exact ftX12_sway_24 o a1 a2 ho FU (0 : Int32) σ7 h
    · skip
      obtain ⟨x12, σ10, hc11, h⟩ := cI_t h
      refine F_call (frX12_refuse o (1 : Int32) ho σ7 hc11) (by decide) ?_
      cases h
      exact F_refl
set_option maxRecDepth 100000 in
set_option maxHeartbeats 4000000 in
theorem frX12_points (o : Nat) (a1 : Int32) (a2 : Int32) (ho : KD o = 12) (σ : Mm) {xr : Int32} {τ : Mm} (h : fX12_points o a1 a2 σ = some (xr, τ)) : FK [12] σ τ := by
  unfold fX12_points at h
  obtain ⟨x3, σ1, hc2, h⟩ := cI_t h
  refine F_call (frX12_isVane o a1 ho σ hc2) (by decide) ?_
  refine F_if h (fun h => ?_) (fun h => ?_)
  · skip
    obtain ⟨x6, σ4, hc5, h⟩ := cI_t h
    refine F_call (frX12_refuse o (1 : Int32) ho σ1 hc5) (by decide) ?_
    cases h
    exact F_refl
  · skip
    obtain ⟨x9, σ7, hc8, h⟩ := cI_t h
    refine F_call (frX12_isAhead a2 σ1 hc8) (by decide) ?_
    refine F_ifn h (fun h => ?_) (fun h => ?_)
    · skip
      obtain ⟨σ10, hc11, h⟩ := cV_t h
      refine F_call (frX12_begins1 o ho σ7 hc11) (by decide) ?_
      obtain ⟨σ12, hc13, h⟩ := cV_t h
      refine F_call (frX12_goesBy o a2 ho σ10 hc13) (by decide) ?_
      obtain ⟨x16, σ14, hc15, h⟩ := cI_t h
      refine F_call (frX12_vaneAt o a1 (3 : Int32) ho σ12 hc15) (by decide) ?_
      obtain ⟨x19, σ17, hc18, h⟩ := cI_t h
      refine F_call (frX12_gives o x16 ho σ14 hc18) (by decide) ?_
      cases h
      exact F_refl
    · skip
      obtain ⟨x22, σ20, hc21, h⟩ := cI_t h
      refine F_call (frX12_refuse o (1 : Int32) ho σ7 hc21) (by decide) ?_
      cases h
      exact F_refl
set_option maxRecDepth 100000 in
set_option maxHeartbeats 4000000 in
theorem frX12_rights (o : Nat) (a1 : Int32) (ho : KD o = 12) (σ : Mm) {xr : Int32} {τ : Mm} (h : fX12_rights o a1 σ = some (xr, τ)) : FK [12] σ τ := by
  unfold fX12_rights at h
  obtain ⟨x3, σ1, hc2, h⟩ := cI_t h
  refine F_call (frX12_isAhead a1 σ hc2) (by decide) ?_
  refine F_ifn h (fun h => ?_) (fun h => ?_)
  · skip
    obtain ⟨σ4, hc5, h⟩ := cV_t h
    refine F_call (frX12_begins1 o ho σ1 hc5) (by decide) ?_
    obtain ⟨σ6, hc7, h⟩ := cV_t h
    refine F_call (frX12_goesBy o a1 ho σ4 hc7) (by decide) ?_
    obtain ⟨x10, σ8, hc9, h⟩ := cI_t h
    refine F_call (frX12_rightSet o ho σ6 hc9) (by decide) ?_
    obtain ⟨x13, σ11, hc12, h⟩ := cI_t h
    refine F_call (frX12_gives o x10 ho σ8 hc12) (by decide) ?_
    cases h
    exact F_refl
  · skip
    obtain ⟨x16, σ14, hc15, h⟩ := cI_t h
    refine F_call (frX12_refuse o (1 : Int32) ho σ1 hc15) (by decide) ?_
    cases h
    exact F_refl
set_option maxRecDepth 100000 in
set_option maxHeartbeats 4000000 in
theorem ftX12_isAgain_2 {xr : Int32} {τ : Mm} (o : Nat) (a1 : Int32) (a2 : Int32) (ho : KD o = 12) : ∀ (n : Nat) (v3 : Int32) (σ : Mm), fX12_isAgain_2 o a1 a2 n v3 σ = some (xr, τ) → FK [] σ τ := by
  intro n
  induction n with
  | zero => intro v3 σ h; rw [fX12_isAgain_2] at h; cases h
  | succ n ih =>
    intro v3 σ h
    rw [fX12_isAgain_2] at h
    refine F_if h (fun h => ?_) (fun h => ?_)
    · skip
      cases h
      exact F_refl
    · skip
      refine F_gar h (fun x1 h => ?_)
      refine F_gar h (fun x2 h => ?_)
      refine F_if h (fun h => ?_) (fun h => ?_)
      · skip
        exact ih (v3 + (1 : Int32)) σ h
      · skip
        cases h
        exact F_refl
set_option maxRecDepth 100000 in
set_option maxHeartbeats 4000000 in
theorem frX12_isAgain (o : Nat) (a1 : Int32) (a2 : Int32) (ho : KD o = 12) (σ : Mm) {xr : Int32} {τ : Mm} (h : fX12_isAgain o a1 a2 σ = some (xr, τ)) : FK [] σ τ := by
  unfold fX12_isAgain at h
  exact ftX12_isAgain_2 o a1 a2 ho FU (0 : Int32) σ h
