set_option maxRecDepth 100000 in
set_option maxHeartbeats 4000000 in
theorem ftX12_again_93 {xr : Int32} {τ : Mm} (o : Nat) (a1 : Int32) (ho : KD o = 12) (k21 : Int32 → Mm → Option (Int32 × Mm)) (hk21 : ∀ (v2 : Int32) (σ : Mm), k21 v2 σ = some (xr, τ) → FK [12] σ τ) (v2 : Int32) (σ : Mm) (h : fX12_again_93 o a1 k21 v2 σ = some (xr, τ)) : FK [12] σ τ := by
  unfold fX12_again_93 at h
  obtain ⟨x31, σ29, hc30, h⟩ := cI_t h
  refine F_call (frX12_quarterGoes o ho σ hc30) (by decide) ?_
  refine F_pbz ho (by decide) h (fun σ32 h => ?_)
  exact hk21 (v2 + (1 : Int32)) σ32 h
set_option maxRecDepth 100000 in
set_option maxHeartbeats 4000000 in
theorem ftX12_again_61 {xr : Int32} {τ : Mm} (o : Nat) (a1 : Int32) (ho : KD o = 12) (k21 : Int32 → Mm → Option (Int32 × Mm)) (hk21 : ∀ (v2 : Int32) (σ : Mm), k21 v2 σ = some (xr, τ) → FK [12] σ τ) : ∀ (n : Nat) (v2 : Int32) (v3 : Int32) (σ : Mm), fX12_again_61 o a1 k21 n v2 v3 σ = some (xr, τ) → FK [12] σ τ := by
  intro n
  induction n with
  | zero => intro v2 v3 σ h; rw [fX12_again_61] at h; cases h
  | succ n ih =>
    intro v2 v3 σ h
    rw [fX12_again_61] at h
    refine F_if h (fun h => ?_) (fun h => ?_)
    · skip
      exact ftX12_again_93 o a1 ho k21 hk21 v2 σ h
    · skip
      obtain ⟨x21, σ19, hc20, h⟩ := cI_t h
      refine F_call (frX12_shaftAt o v3 (4 : Int32) ho σ hc20) (by decide) ?_
      refine F_sar ho (by decide) h (fun σ22 h => ?_)
      exact ih v2 (v3 + (1 : Int32)) σ22 h
set_option maxRecDepth 100000 in
set_option maxHeartbeats 4000000 in
theorem ftX12_again_30 {xr : Int32} {τ : Mm} (o : Nat) (a1 : Int32) (ho : KD o = 12) (k21 : Int32 → Mm → Option (Int32 × Mm)) (hk21 : ∀ (v2 : Int32) (σ : Mm), k21 v2 σ = some (xr, τ) → FK [12] σ τ) : ∀ (n : Nat) (v2 : Int32) (v3 : Int32) (σ : Mm), fX12_again_30 o a1 k21 n v2 v3 σ = some (xr, τ) → FK [12] σ τ := by
  intro n
  induction n with
  | zero => intro v2 v3 σ h; rw [fX12_again_30] at h; cases h
  | succ n ih =>
    intro v2 v3 σ h
    rw [fX12_again_30] at h
    refine F_if h (fun h => ?_) (fun h => ?_)
    · skip
      exact ftX12_again_61 o a1 ho k21 hk21 FU v2 (0 : Int32) σ h
    · skip
      obtain ⟨x14, σ12, hc13, h⟩ := cI_t h
      refine F_call (frX12_vaneAt o v3 (3 : Int32) ho σ hc13) (by decide) ?_
      refine F_sar ho (by decide) h (fun σ15 h => ?_)
      exact ih v2 (v3 + (1 : Int32)) σ15 h
set_option maxRecDepth 100000 in
set_option maxHeartbeats 4000000 in
theorem ftX12_again_136 {xr : Int32} {τ : Mm} (o : Nat) (a1 : Int32) (ho : KD o = 12) (v2 : Int32) (v3 : Int32) (σ : Mm) (h : fX12_again_136 o a1 v2 v3 σ = some (xr, τ)) : FK [12] σ τ := by
  unfold fX12_again_136 at h
  refine F_ifn h (fun h => ?_) (fun h => ?_)
  · skip
    obtain ⟨x25, σ23, hc24, h⟩ := cI_t h
    refine F_call (frX12_gives o (v3 - v2) ho σ hc24) (by decide) ?_
    cases h
    exact F_refl
  · skip
    obtain ⟨x28, σ26, hc27, h⟩ := cI_t h
    refine F_call (frX12_gives o v2 ho σ hc27) (by decide) ?_
    cases h
    exact F_refl
set_option maxRecDepth 100000 in
set_option maxHeartbeats 4000000 in
theorem ftX12_again_120 {xr : Int32} {τ : Mm} (o : Nat) (a1 : Int32) (ho : KD o = 12) (k109 : Int32 → Mm → Option (Int32 × Mm)) (hk109 : ∀ (v2 : Int32) (σ : Mm), k109 v2 σ = some (xr, τ) → FK [12] σ τ) : ∀ (n : Nat) (v2 : Int32) (v3 : Int32) (σ : Mm), fX12_again_120 o a1 k109 n v2 v3 σ = some (xr, τ) → FK [12] σ τ := by
  intro n
  induction n with
  | zero => intro v2 v3 σ h; rw [fX12_again_120] at h; cases h
  | succ n ih =>
    intro v2 v3 σ h
    rw [fX12_again_120] at h
    refine F_if h (fun h => ?_) (fun h => ?_)
    · skip
      exact hk109 (v2 + (1 : Int32)) σ h
    · skip
      obtain ⟨x18, σ16, hc17, h⟩ := cI_t h
      refine F_call (frX12_isAgain o v2 v3 ho σ hc17) (by decide) ?_
      refine F_if h (fun h => ?_) (fun h => ?_)
      · skip
        exact ih v2 (v3 + (1 : Int32)) σ16 h
      · skip
        exact ftX12_again_136 o a1 ho v2 v3 σ16 h
set_option maxRecDepth 100000 in
set_option maxHeartbeats 4000000 in
theorem ftX12_again_109 {xr : Int32} {τ : Mm} (o : Nat) (a1 : Int32) (ho : KD o = 12) : ∀ (n : Nat) (v2 : Int32) (σ : Mm), fX12_again_109 o a1 n v2 σ = some (xr, τ) → FK [12] σ τ := by
  intro n
  induction n with
  | zero => intro v2 σ h; rw [fX12_again_109] at h; cases h
  | succ n ih =>
    intro v2 σ h
    rw [fX12_again_109] at h
    refine F_if h (fun h => ?_) (fun h => ?_)
    · skip
      obtain ⟨x11, σ9, hc10, h⟩ := cI_t h
      refine F_call (frX12_refuse o (6 : Int32) ho σ hc10) (by decide) ?_
      cases h
      exact F_refl
    · skip
      exact ftX12_again_120 o a1 ho (fX12_again_109 o a1 n) ih FU v2 (v2 + (1 : Int32)) σ h
set_option maxRecDepth 100000 in
set_option maxHeartbeats 4000000 in
theorem ftX12_again_21 {xr : Int32} {τ : Mm} (o : Nat) (a1 : Int32) (ho : KD o = 12) : ∀ (n : Nat) (v2 : Int32) (σ : Mm), fX12_again_21 o a1 n v2 σ = some (xr, τ) → FK [12] σ τ := by
  intro n
  induction n with
  | zero => intro v2 σ h; rw [fX12_again_21] at h; cases h
  | succ n ih =>
    intro v2 σ h
    rw [fX12_again_21] at h
    refine F_if h (fun h => ?_) (fun h => ?_)
    · skip
      exact ftX12_again_109 o a1 ho FU (0 : Int32) σ h
    · skip
      exact ftX12_again_30 o a1 ho (fX12_again_21 o a1 n) ih FU v2 (0 : Int32) σ h
set_option maxRecDepth 100000 in
set_option maxHeartbeats 4000000 in
theorem frX12_again (o : Nat) (a1 : Int32) (ho : KD o = 12) (σ : Mm) {xr : Int32} {τ : Mm} (h : fX12_again o a1 σ = some (xr, τ)) : FK [12] σ τ := by
  unfold fX12_again at h
  refine F_if h (fun h => ?_) (fun h => ?_)
  · skip
    obtain ⟨x3, σ1, hc2, h⟩ := cI_t h
    refine F_call (frX12_refuse o (1 : Int32) ho σ hc2) (by decide) ?_
    cases h
    exact F_refl
  · skip
    refine F_if h (fun h => ?_) (fun h => ?_)
    · skip
      obtain ⟨σ4, hc5, h⟩ := cV_t h
      refine F_call (frX12_begins1 o ho σ hc5) (by decide) ?_
      exact ftX12_again_21 o a1 ho FU (0 : Int32) σ4 h
    · skip
      obtain ⟨x8, σ6, hc7, h⟩ := cI_t h
      refine F_call (frX12_refuse o (1 : Int32) ho σ hc7) (by decide) ?_
      cases h
      exact F_refl
set_option maxRecDepth 100000 in
set_option maxHeartbeats 4000000 in
theorem frX12_strikes (o : Nat) (a1 : Int32) (a2 : Int32) (ho : KD o = 12) (σ : Mm) {xr : Int32} {τ : Mm} (h : fX12_strikes o a1 a2 σ = some (xr, τ)) : FK [12] σ τ := by
  unfold fX12_strikes at h
  obtain ⟨x3, σ1, hc2, h⟩ := cI_t h
  refine F_call (frX12_isVane o a1 ho σ hc2) (by decide) ?_
  refine F_if h (fun h => ?_) (fun h => ?_)
  · skip
    obtain ⟨x6, σ4, hc5, h⟩ := cI_t h
    refine F_call (frX12_refuse o (1 : Int32) ho σ1 hc5) (by decide) ?_
    cases h
    exact F_refl
  · skip
    obtain ⟨x9, σ7, hc8, h⟩ := cI_t h
    refine F_call (frX12_isSpan a2 σ1 hc8) (by decide) ?_
    refine F_ifn h (fun h => ?_) (fun h => ?_)
    · skip
      obtain ⟨σ10, hc11, h⟩ := cV_t h
      refine F_call (frX12_begins1 o ho σ7 hc11) (by decide) ?_
      obtain ⟨x14, σ12, hc13, h⟩ := cI_t h
      refine F_call (frX12_vaneAt o a1 (5 : Int32) ho σ10 hc13) (by decide) ?_
      obtain ⟨σ15, hc16, h⟩ := cV_t h
      refine F_call (frX12_goesBy o a2 ho σ12 hc16) (by decide) ?_
      obtain ⟨x19, σ17, hc18, h⟩ := cI_t h
      refine F_call (frX12_vaneAt o a1 (5 : Int32) ho σ15 hc18) (by decide) ?_
      obtain ⟨x22, σ20, hc21, h⟩ := cI_t h
      refine F_call (frX12_gives o (x19 - x14) ho σ17 hc21) (by decide) ?_
      cases h
      exact F_refl
    · skip
      obtain ⟨x25, σ23, hc24, h⟩ := cI_t h
      refine F_call (frX12_refuse o (1 : Int32) ho σ7 hc24) (by decide) ?_
      cases h
      exact F_refl
set_option maxRecDepth 100000 in
set_option maxHeartbeats 4000000 in
theorem frX12_bell (o : Nat) (a1 : Int32) (a2 : Int32) (ho : KD o = 12) (σ : Mm) {xr : Int32} {τ : Mm} (h : fX12_bell o a1 a2 σ = some (xr, τ)) : FK [12] σ τ := by
  unfold fX12_bell at h
  refine F_if h (fun h => ?_) (fun h => ?_)
  · skip
    obtain ⟨x3, σ1, hc2, h⟩ := cI_t h
    refine F_call (frX12_refuse o (1 : Int32) ho σ hc2) (by decide) ?_
    cases h
    exact F_refl
  · skip
    obtain ⟨x6, σ4, hc5, h⟩ := cI_t h
    refine F_call (frX12_isSpan a2 σ hc5) (by decide) ?_
    refine F_ifn h (fun h => ?_) (fun h => ?_)
    · skip
      obtain ⟨σ7, hc8, h⟩ := cV_t h
      refine F_call (frX12_begins1 o ho σ4 hc8) (by decide) ?_
      obtain ⟨σ9, hc10, h⟩ := cV_t h
      refine F_call (frX12_goesBy o a2 ho σ7 hc10) (by decide) ?_
      refine F_rsc h (fun x11 h => ?_)
      refine F_if h (fun h => ?_) (fun h => ?_)
      · skip
        refine F_gar h (fun x12 h => ?_)
        obtain ⟨x15, σ13, hc14, h⟩ := cI_t h
        refine F_call (frX12_gives o x12 ho σ9 hc14) (by decide) ?_
        cases h
        exact F_refl
      · skip
        obtain ⟨x18, σ16, hc17, h⟩ := cI_t h
        refine F_call (frX12_refuse o (6 : Int32) ho σ9 hc17) (by decide) ?_
        cases h
        exact F_refl
    · skip
      obtain ⟨x21, σ19, hc20, h⟩ := cI_t h
      refine F_call (frX12_refuse o (1 : Int32) ho σ4 hc20) (by decide) ?_
      cases h
      exact F_refl
set_option maxRecDepth 100000 in
set_option maxHeartbeats 4000000 in
theorem ftX12_wrongOf_28 {xr : Int32} {τ : Mm} (o : Nat) (a1 : Int32) (a2 : Int32) (ho : KD o = 12) (k5 : Int32 → Int32 → Mm → Option (Int32 × Mm)) (hk5 : ∀ (v3 : Int32) (v4 : Int32) (σ : Mm), k5 v3 v4 σ = some (xr, τ) → FK [12] σ τ) : ∀ (n : Nat) (v3 : Int32) (v4 : Int32) (v5 : Int32) (v6 : Int32) (σ : Mm), fX12_wrongOf_28 o a1 a2 k5 n v3 v4 v5 v6 σ = some (xr, τ) → FK [12] σ τ := by
  intro n
  induction n with
  | zero => intro v3 v4 v5 v6 σ h; rw [fX12_wrongOf_28] at h; cases h
  | succ n ih =>
    intro v3 v4 v5 v6 σ h
    rw [fX12_wrongOf_28] at h
    refine F_gar h (fun x8 h => ?_)
    refine F_if h (fun h => ?_) (fun h => ?_)
    · skip
      exact hk5 v3 (v4 + (1 : Int32)) σ h
    · skip
      exact ih (v3 + (((a1 &&& (v5 ^^^ (-1 : Int32))) >>> (v6 &&& 31)) &&& (1 : Int32))) v4 v5 (v6 + (1 : Int32)) σ h
set_option maxRecDepth 100000 in
set_option maxHeartbeats 4000000 in
theorem ftX12_wrongOf_5 {xr : Int32} {τ : Mm} (o : Nat) (a1 : Int32) (a2 : Int32) (ho : KD o = 12) : ∀ (n : Nat) (v3 : Int32) (v4 : Int32) (σ : Mm), fX12_wrongOf_5 o a1 a2 n v3 v4 σ = some (xr, τ) → FK [12] σ τ := by
  intro n
  induction n with
  | zero => intro v3 v4 σ h; rw [fX12_wrongOf_5] at h; cases h
  | succ n ih =>
    intro v3 v4 σ h
    rw [fX12_wrongOf_5] at h
    refine F_if h (fun h => ?_) (fun h => ?_)
    · skip
      cases h
      exact F_refl
    · skip
      obtain ⟨x3, σ1, hc2, h⟩ := cI_t h
      refine F_call (frX12_quarterGoes o ho σ hc2) (by decide) ?_
      refine F_pbz ho (by decide) h (fun σ4 h => ?_)
      obtain ⟨x7, σ5, hc6, h⟩ := cI_t h
      refine F_call (frX12_rightSet o ho σ4 hc6) (by decide) ?_
      exact ftX12_wrongOf_28 o a1 a2 ho (fX12_wrongOf_5 o a1 a2 n) ih FU v3 v4 x7 (0 : Int32) σ5 h
set_option maxRecDepth 100000 in
set_option maxHeartbeats 4000000 in
theorem frX12_wrongOf (o : Nat) (a1 : Int32) (a2 : Int32) (ho : KD o = 12) (σ : Mm) {xr : Int32} {τ : Mm} (h : fX12_wrongOf o a1 a2 σ = some (xr, τ)) : FK [12] σ τ := by
  unfold fX12_wrongOf at h
  exact ftX12_wrongOf_5 o a1 a2 ho FU (0 : Int32) (0 : Int32) σ h
set_option maxRecDepth 100000 in
set_option maxHeartbeats 4000000 in
theorem frX12_wrong (o : Nat) (a1 : Int32) (a2 : Int32) (ho : KD o = 12) (σ : Mm) {xr : Int32} {τ : Mm} (h : fX12_wrong o a1 a2 σ = some (xr, τ)) : FK [12] σ τ := by
  unfold fX12_wrong at h
  obtain ⟨x3, σ1, hc2, h⟩ := cI_t h
  refine F_call (frX12_isVane o a1 ho σ hc2) (by decide) ?_
  refine F_if h (fun h => ?_) (fun h => ?_)
  · skip
    obtain ⟨x6, σ4, hc5, h⟩ := cI_t h
    refine F_call (frX12_refuse o (1 : Int32) ho σ1 hc5) (by decide) ?_
    cases h
    exact F_refl
  · skip
    obtain ⟨x9, σ7, hc8, h⟩ := cI_t h
    refine F_call (frX12_isSpan a2 σ1 hc8) (by decide) ?_
    refine F_ifn h (fun h => ?_) (fun h => ?_)
    · skip
      obtain ⟨σ10, hc11, h⟩ := cV_t h
      refine F_call (frX12_begins1 o ho σ7 hc11) (by decide) ?_
      obtain ⟨x14, σ12, hc13, h⟩ := cI_t h
      refine F_call (frX12_wrongOf o ((1 : Int32) <<< (a1 &&& 31)) a2 ho σ10 hc13) (by decide) ?_
      obtain ⟨x17, σ15, hc16, h⟩ := cI_t h
      refine F_call (frX12_gives o x14 ho σ12 hc16) (by decide) ?_
      cases h
      exact F_refl
    · skip
      obtain ⟨x20, σ18, hc19, h⟩ := cI_t h
      refine F_call (frX12_refuse o (1 : Int32) ho σ7 hc19) (by decide) ?_
      cases h
      exact F_refl
set_option maxRecDepth 100000 in
set_option maxHeartbeats 4000000 in
theorem frX12_holding (o : Nat) (a1 : Int32) (a2 : Int32) (ho : KD o = 12) (σ : Mm) {xr : Int32} {τ : Mm} (h : fX12_holding o a1 a2 σ = some (xr, τ)) : FK [12] σ τ := by
  unfold fX12_holding at h
  obtain ⟨x3, σ1, hc2, h⟩ := cI_t h
  refine F_call (frX12_isVane o a1 ho σ hc2) (by decide) ?_
  refine F_if h (fun h => ?_) (fun h => ?_)
  · skip
    obtain ⟨x6, σ4, hc5, h⟩ := cI_t h
    refine F_call (frX12_refuse o (1 : Int32) ho σ1 hc5) (by decide) ?_
    cases h
    exact F_refl
  · skip
    obtain ⟨x9, σ7, hc8, h⟩ := cI_t h
    refine F_call (frX12_isSpan a2 σ1 hc8) (by decide) ?_
    refine F_ifn h (fun h => ?_) (fun h => ?_)
    · skip
      refine F_gar h (fun x10 h => ?_)
      obtain ⟨σ11, hc12, h⟩ := cV_t h
      refine F_call (frX12_begins1 o ho σ7 hc12) (by decide) ?_
      obtain ⟨x15, σ13, hc14, h⟩ := cI_t h
      refine F_call (frX12_wrongOf o ((((1 : Int32) <<< (x10 &&& 31)) - (1 : Int32)) &&& (((1 : Int32) <<< (a1 &&& 31)) ^^^ (-1 : Int32))) a2 ho σ11 hc14) (by decide) ?_
      obtain ⟨σ16, hc17, h⟩ := cV_t h
      refine F_call (frX12_begins1 o ho σ13 hc17) (by decide) ?_
      refine F_gar h (fun x18 h => ?_)
      refine F_sar ho (by decide) h (fun σ19 h => ?_)
      obtain ⟨x22, σ20, hc21, h⟩ := cI_t h
      refine F_call (frX12_wrongOf o ((((1 : Int32) <<< (x10 &&& 31)) - (1 : Int32)) &&& (((1 : Int32) <<< (a1 &&& 31)) ^^^ (-1 : Int32))) a2 ho σ19 hc21) (by decide) ?_
      obtain ⟨x25, σ23, hc24, h⟩ := cI_t h
      refine F_call (frX12_gives o (x22 - x15) ho σ20 hc24) (by decide) ?_
      cases h
      exact F_refl
    · skip
      obtain ⟨x28, σ26, hc27, h⟩ := cI_t h
      refine F_call (frX12_refuse o (1 : Int32) ho σ7 hc27) (by decide) ?_
      cases h
      exact F_refl
set_option maxRecDepth 100000 in
set_option maxHeartbeats 4000000 in
theorem ftX12_helpers_57 {xr : Int32} {τ : Mm} (o : Nat) (a1 : Int32) (ho : KD o = 12) : ∀ (n : Nat) (v2 : Int32) (v3 : Int32) (σ : Mm), fX12_helpers_57 o a1 n v2 v3 σ = some (xr, τ) → FK [12] σ τ := by
  intro n
  induction n with
  | zero => intro v2 v3 σ h; rw [fX12_helpers_57] at h; cases h
  | succ n ih =>
    intro v2 v3 σ h
    rw [fX12_helpers_57] at h
    refine F_gar h (fun x24 h => ?_)
    refine F_if h (fun h => ?_) (fun h => ?_)
    · skip
      obtain ⟨x27, σ25, hc26, h⟩ := cI_t h
      refine F_call (frX12_gives o v2 ho σ hc26) (by decide) ?_
      cases h
      exact F_refl
    · skip
      refine F_if h (fun h => ?_) (fun h => ?_)
      · skip
        exact ih v2 (v3 + (1 : Int32)) σ h
      · skip
        refine F_gar h (fun x28 h => ?_)
        refine F_if h (fun h => ?_) (fun h => ?_)
        · skip
          exact ih v2 (v3 + (1 : Int32)) σ h
        · skip
          obtain ⟨x31, σ29, hc30, h⟩ := cI_t h
          refine F_call (frX12_isCalm o v3 ho σ hc30) (by decide) ?_
          refine F_if h (fun h => ?_) (fun h => ?_)
          · skip
            refine F_gar h (fun x32 h => ?_)
            obtain ⟨x35, σ33, hc34, h⟩ := cI_t h
            refine F_call (frX12_turned o v3 x32 ho σ29 hc34) (by decide) ?_
            obtain ⟨x38, σ36, hc37, h⟩ := cI_t h
            refine F_call (frX12_farFrom o v3 x35 ho σ33 hc37) (by decide) ?_
            obtain ⟨x41, σ39, hc40, h⟩ := cI_t h
            refine F_call (frX12_vaneAt o v3 (3 : Int32) ho σ36 hc40) (by decide) ?_
            obtain ⟨x44, σ42, hc43, h⟩ := cI_t h
            refine F_call (frX12_farFrom o v3 x41 ho σ39 hc43) (by decide) ?_
            refine F_if h (fun h => ?_) (fun h => ?_)
            · skip
              exact ih (v2 ||| (0 : Int32)) (v3 + (1 : Int32)) σ42 h
            · skip
              exact ih (v2 ||| ((1 : Int32) <<< (v3 &&& 31))) (v3 + (1 : Int32)) σ42 h
          · skip
            exact ih v2 (v3 + (1 : Int32)) σ29 h
set_option maxRecDepth 100000 in
set_option maxHeartbeats 4000000 in
theorem frX12_helpers (o : Nat) (a1 : Int32) (ho : KD o = 12) (σ : Mm) {xr : Int32} {τ : Mm} (h : fX12_helpers o a1 σ = some (xr, τ)) : FK [12] σ τ := by
  unfold fX12_helpers at h
  obtain ⟨x3, σ1, hc2, h⟩ := cI_t h
  refine F_call (frX12_isVane o a1 ho σ hc2) (by decide) ?_
  refine F_ifn h (fun h => ?_) (fun h => ?_)
  · skip
    obtain ⟨σ4, hc5, h⟩ := cV_t h
    refine F_call (frX12_begins0 o ho σ1 hc5) (by decide) ?_
    obtain ⟨x8, σ6, hc7, h⟩ := cI_t h
    refine F_call (frX12_isRight o a1 ho σ4 hc7) (by decide) ?_
    refine F_if h (fun h => ?_) (fun h => ?_)
    · skip
      obtain ⟨x11, σ9, hc10, h⟩ := cI_t h
      refine F_call (frX12_shorter o a1 ho σ6 hc10) (by decide) ?_
      obtain ⟨x14, σ12, hc13, h⟩ := cI_t h
      refine F_call (frX12_dragsBy o a1 x11 ho σ9 hc13) (by decide) ?_
      refine F_ifn h (fun h => ?_) (fun h => ?_)
      · skip
        exact ftX12_helpers_57 o a1 ho FU (0 : Int32) (0 : Int32) σ12 h
      · skip
        obtain ⟨x17, σ15, hc16, h⟩ := cI_t h
        refine F_call (frX12_refuse o (7 : Int32) ho σ12 hc16) (by decide) ?_
        cases h
        exact F_refl
    · skip
      obtain ⟨x20, σ18, hc19, h⟩ := cI_t h
      refine F_call (frX12_refuse o (6 : Int32) ho σ6 hc19) (by decide) ?_
      cases h
      exact F_refl
  · skip
    obtain ⟨x23, σ21, hc22, h⟩ := cI_t h
    refine F_call (frX12_refuse o (1 : Int32) ho σ1 hc22) (by decide) ?_
    cases h
    exact F_refl
set_option maxRecDepth 100000 in
set_option maxHeartbeats 4000000 in
theorem frX12_firstToTurn (o : Nat) (ho : KD o = 12) (σ : Mm) {xr : Int32} {τ : Mm} (h : fX12_firstToTurn o σ = some (xr, τ)) : FK [12] σ τ := by
  unfold fX12_firstToTurn at h
  obtain ⟨σ1, hc2, h⟩ := cV_t h
  refine F_call (frX12_begins1 o ho σ hc2) (by decide) ?_
  obtain ⟨x5, σ3, hc4, h⟩ := cI_t h
  refine F_call (frX12_quarterGoes o ho σ1 hc4) (by decide) ?_
  refine F_pbz ho (by decide) h (fun σ6 h => ?_)
  refine F_rsc h (fun x7 h => ?_)
  obtain ⟨x10, σ8, hc9, h⟩ := cI_t h
  refine F_call (frX12_orNone o x7 ho σ6 hc9) (by decide) ?_
  cases h
  exact F_refl
set_option maxRecDepth 100000 in
set_option maxHeartbeats 4000000 in
theorem ftX12_bits_4 {xr : Int32} {τ : Mm} (a1 : Int32) : ∀ (n : Nat) (v1 : Int32) (v2 : Int32) (σ : Mm), fX12_bits_4 a1 n v1 v2 σ = some (xr, τ) → FK [] σ τ := by
  intro n
  induction n with
  | zero => intro v1 v2 σ h; rw [fX12_bits_4] at h; cases h
  | succ n ih =>
    intro v1 v2 σ h
    rw [fX12_bits_4] at h
    refine F_if h (fun h => ?_) (fun h => ?_)
    · skip
      cases h
      exact F_refl
    · skip
      exact ih (v1 + (1 : Int32)) (v2 &&& (v2 - (1 : Int32))) σ h
set_option maxRecDepth 100000 in
set_option maxHeartbeats 4000000 in
theorem frX12_bits (a1 : Int32) (σ : Mm) {xr : Int32} {τ : Mm} (h : fX12_bits a1 σ = some (xr, τ)) : FK [] σ τ := by
  unfold fX12_bits at h
  exact ftX12_bits_4 a1 FU (0 : Int32) a1 σ h
set_option maxRecDepth 100000 in
set_option maxHeartbeats 4000000 in
theorem ftX12_heaviest_23 {xr : Int32} {τ : Mm} (o : Nat) (ho : KD o = 12) (k10 : Int32 → Int32 → Int32 → Mm → Option (Int32 × Mm)) (hk10 : ∀ (v1 : Int32) (v2 : Int32) (v3 : Int32) (σ : Mm), k10 v1 v2 v3 σ = some (xr, τ) → FK [12] σ τ) : ∀ (n : Nat) (v1 : Int32) (v2 : Int32) (v3 : Int32) (v4 : Int32) (σ : Mm), fX12_heaviest_23 o k10 n v1 v2 v3 v4 σ = some (xr, τ) → FK [12] σ τ := by
  intro n
  induction n with
  | zero => intro v1 v2 v3 v4 σ h; rw [fX12_heaviest_23] at h; cases h
  | succ n ih =>
    intro v1 v2 v3 v4 σ h
    rw [fX12_heaviest_23] at h
    refine F_if h (fun h => ?_) (fun h => ?_)
    · skip
      exact hk10 v1 v2 (v3 + (1 : Int32)) σ h
    · skip
      obtain ⟨x9, σ7, hc8, h⟩ := cI_t h
      refine F_call (frX12_dragsBy o v3 v4 ho σ hc8) (by decide) ?_
      refine F_if h (fun h => ?_) (fun h => ?_)
      · skip
        exact ih v1 v2 v3 (v4 + (2 : Int32)) σ7 h
      · skip
        obtain ⟨x12, σ10, hc11, h⟩ := cI_t h
        refine F_call (frX12_turnedSet o ho σ7 hc11) (by decide) ?_
        obtain ⟨x15, σ13, hc14, h⟩ := cI_t h
        refine F_call (frX12_bits x12 σ10 hc14) (by decide) ?_
        refine F_if h (fun h => ?_) (fun h => ?_)
        · skip
          obtain ⟨x18, σ16, hc17, h⟩ := cI_t h
          refine F_call (frX12_turnedSet o ho σ13 hc17) (by decide) ?_
          obtain ⟨x21, σ19, hc20, h⟩ := cI_t h
          refine F_call (frX12_bits x18 σ16 hc20) (by decide) ?_
          exact ih v3 x21 v3 (v4 + (2 : Int32)) σ19 h
        · skip
          exact ih v1 v2 v3 (v4 + (2 : Int32)) σ13 h
set_option maxRecDepth 100000 in
set_option maxHeartbeats 4000000 in
theorem ftX12_heaviest_10 {xr : Int32} {τ : Mm} (o : Nat) (ho : KD o = 12) : ∀ (n : Nat) (v1 : Int32) (v2 : Int32) (v3 : Int32) (σ : Mm), fX12_heaviest_10 o n v1 v2 v3 σ = some (xr, τ) → FK [12] σ τ := by
  intro n
  induction n with
  | zero => intro v1 v2 v3 σ h; rw [fX12_heaviest_10] at h; cases h
  | succ n ih =>
    intro v1 v2 v3 σ h
    rw [fX12_heaviest_10] at h
    refine F_gar h (fun x3 h => ?_)
    refine F_if h (fun h => ?_) (fun h => ?_)
    · skip
      obtain ⟨x6, σ4, hc5, h⟩ := cI_t h
      refine F_call (frX12_orNone o v1 ho σ hc5) (by decide) ?_
      cases h
      exact F_refl
    · skip
      exact ftX12_heaviest_23 o ho (fX12_heaviest_10 o n) ih FU v1 v2 v3 (-1 : Int32) σ h
set_option maxRecDepth 100000 in
set_option maxHeartbeats 4000000 in
theorem frX12_heaviest (o : Nat) (ho : KD o = 12) (σ : Mm) {xr : Int32} {τ : Mm} (h : fX12_heaviest o σ = some (xr, τ)) : FK [12] σ τ := by
  unfold fX12_heaviest at h
  obtain ⟨σ1, hc2, h⟩ := cV_t h
  refine F_call (frX12_begins0 o ho σ hc2) (by decide) ?_
  exact ftX12_heaviest_10 o ho FU (-1 : Int32) (0 : Int32) (0 : Int32) σ1 h
set_option maxRecDepth 100000 in
set_option maxHeartbeats 4000000 in
theorem ftX12_farthest_10 {xr : Int32} {τ : Mm} (o : Nat) (ho : KD o = 12) : ∀ (n : Nat) (v1 : Int32) (v2 : Int32) (v3 : Int32) (σ : Mm), fX12_farthest_10 o n v1 v2 v3 σ = some (xr, τ) → FK [12] σ τ := by
  intro n
  induction n with
  | zero => intro v1 v2 v3 σ h; rw [fX12_farthest_10] at h; cases h
  | succ n ih =>
    intro v1 v2 v3 σ h
    rw [fX12_farthest_10] at h
    refine F_gar h (fun x3 h => ?_)
    refine F_if h (fun h => ?_) (fun h => ?_)
    · skip
      obtain ⟨x6, σ4, hc5, h⟩ := cI_t h
      refine F_call (frX12_orNone o v1 ho σ hc5) (by decide) ?_
      cases h
      exact F_refl
    · skip
      obtain ⟨x9, σ7, hc8, h⟩ := cI_t h
      refine F_call (frX12_isRight o v3 ho σ hc8) (by decide) ?_
      refine F_if h (fun h => ?_) (fun h => ?_)
      · skip
        obtain ⟨x12, σ10, hc11, h⟩ := cI_t h
        refine F_call (frX12_vaneAt o v3 (3 : Int32) ho σ7 hc11) (by decide) ?_
        obtain ⟨x15, σ13, hc14, h⟩ := cI_t h
        refine F_call (frX12_farFrom o v3 x12 ho σ10 hc14) (by decide) ?_
        refine F_if h (fun h => ?_) (fun h => ?_)
        · skip
          exact ih v3 x15 (v3 + (1 : Int32)) σ13 h
        · skip
          exact ih v1 v2 (v3 + (1 : Int32)) σ13 h
      · skip
        refine F_if h (fun h => ?_) (fun h => ?_)
        · skip
          exact ih v3 (0 : Int32) (v3 + (1 : Int32)) σ7 h
        · skip
          exact ih v1 v2 (v3 + (1 : Int32)) σ7 h
set_option maxRecDepth 100000 in
set_option maxHeartbeats 4000000 in
theorem frX12_farthest (o : Nat) (ho : KD o = 12) (σ : Mm) {xr : Int32} {τ : Mm} (h : fX12_farthest o σ = some (xr, τ)) : FK [12] σ τ := by
  unfold fX12_farthest at h
  obtain ⟨σ1, hc2, h⟩ := cV_t h
  refine F_call (frX12_begins0 o ho σ hc2) (by decide) ?_
  exact ftX12_farthest_10 o ho FU (-1 : Int32) (0 : Int32) (0 : Int32) σ1 h
set_option maxRecDepth 100000 in
set_option maxHeartbeats 4000000 in
theorem ftX12_calmed_6 {xr : Int32} {τ : Mm} (o : Nat) (ho : KD o = 12) : ∀ (n : Nat) (v1 : Int32) (σ : Mm), fX12_calmed_6 o n v1 σ = some (xr, τ) → FK [12] σ τ := by
  intro n
  induction n with
  | zero => intro v1 σ h; rw [fX12_calmed_6] at h; cases h
  | succ n ih =>
    intro v1 σ h
    rw [fX12_calmed_6] at h
    refine F_if h (fun h => ?_) (fun h => ?_)
    · skip
      obtain ⟨x5, σ3, hc4, h⟩ := cI_t h
      refine F_call (frX12_refuse o (6 : Int32) ho σ hc4) (by decide) ?_
      cases h
      exact F_refl
    · skip
      obtain ⟨x8, σ6, hc7, h⟩ := cI_t h
      refine F_call (frX12_quarterGoes o ho σ hc7) (by decide) ?_
      refine F_ifn h (fun h => ?_) (fun h => ?_)
      · skip
        exact ih (v1 + (1 : Int32)) σ6 h
      · skip
        obtain ⟨x11, σ9, hc10, h⟩ := cI_t h
        refine F_call (frX12_gives o v1 ho σ6 hc10) (by decide) ?_
        cases h
        exact F_refl
set_option maxRecDepth 100000 in
set_option maxHeartbeats 4000000 in
theorem frX12_calmed (o : Nat) (ho : KD o = 12) (σ : Mm) {xr : Int32} {τ : Mm} (h : fX12_calmed o σ = some (xr, τ)) : FK [12] σ τ := by
  unfold fX12_calmed at h
  obtain ⟨σ1, hc2, h⟩ := cV_t h
  refine F_call (frX12_begins1 o ho σ hc2) (by decide) ?_
  exact ftX12_calmed_6 o ho FU (0 : Int32) σ1 h
set_option maxRecDepth 100000 in
set_option maxHeartbeats 4000000 in
theorem frX12_teeth (o : Nat) (a1 : Int32) (ho : KD o = 12) (σ : Mm) {xr : Int32} {τ : Mm} (h : fX12_teeth o a1 σ = some (xr, τ)) : FK [12] σ τ := by
  unfold fX12_teeth at h
  obtain ⟨x3, σ1, hc2, h⟩ := cI_t h
  refine F_call (frX12_isSpan a1 σ hc2) (by decide) ?_
  refine F_ifn h (fun h => ?_) (fun h => ?_)
  · skip
    obtain ⟨σ4, hc5, h⟩ := cV_t h
    refine F_call (frX12_begins1 o ho σ1 hc5) (by decide) ?_
    obtain ⟨σ6, hc7, h⟩ := cV_t h
    refine F_call (frX12_goesBy o a1 ho σ4 hc7) (by decide) ?_
    refine F_rsc h (fun x8 h => ?_)
    obtain ⟨x11, σ9, hc10, h⟩ := cI_t h
    refine F_call (frX12_gives o x8 ho σ6 hc10) (by decide) ?_
    cases h
    exact F_refl
  · skip
    obtain ⟨x14, σ12, hc13, h⟩ := cI_t h
    refine F_call (frX12_refuse o (1 : Int32) ho σ1 hc13) (by decide) ?_
    cases h
    exact F_refl
set_option maxRecDepth 100000 in
set_option maxHeartbeats 4000000 in
theorem frX12_blows (o : Nat) (a1 : Int32) (a2 : Int32) (a3 : Int32) (ho : KD o = 12) (σ : Mm) {τ : Mm} (h : fX12_blows o a1 a2 a3 σ = some τ) : FK [12] σ τ := by
  unfold fX12_blows at h
  refine F_sar ho (by decide) h (fun σ1 h => ?_)
  refine F_sar ho (by decide) h (fun σ2 h => ?_)
  cases h
  exact F_refl
set_option maxRecDepth 100000 in
set_option maxHeartbeats 4000000 in
theorem ftX12_blowsAll_2 {τ : Mm} (o : Nat) (a1 : Int32) (a2 : Int32) (ho : KD o = 12) : ∀ (n : Nat) (v3 : Int32) (σ : Mm), fX12_blowsAll_2 o a1 a2 n v3 σ = some τ → FK [12] σ τ := by
  intro n
  induction n with
  | zero => intro v3 σ h; rw [fX12_blowsAll_2] at h; cases h
  | succ n ih =>
    intro v3 σ h
    rw [fX12_blowsAll_2] at h
    refine F_if h (fun h => ?_) (fun h => ?_)
    · cases h
      exact F_refl
    · skip
      obtain ⟨σ1, hc2, h⟩ := cV_t h
      refine F_call (frX12_blows o v3 a1 a2 ho σ hc2) (by decide) ?_
      exact ih (v3 + (1 : Int32)) σ1 h
set_option maxRecDepth 100000 in
set_option maxHeartbeats 4000000 in
theorem frX12_blowsAll (o : Nat) (a1 : Int32) (a2 : Int32) (ho : KD o = 12) (σ : Mm) {τ : Mm} (h : fX12_blowsAll o a1 a2 σ = some τ) : FK [12] σ τ := by
  unfold fX12_blowsAll at h
  exact ftX12_blowsAll_2 o a1 a2 ho FU (0 : Int32) σ h
set_option maxRecDepth 100000 in
set_option maxHeartbeats 4000000 in
theorem ftX12_bestWind_33 {xr : Int32} {τ : Mm} (o : Nat) (a1 : Int32) (a2 : Int32) (ho : KD o = 12) : ∀ (n : Nat) (v3 : Int32) (v4 : Int32) (v5 : Int32) (σ : Mm), fX12_bestWind_33 o a1 a2 n v3 v4 v5 σ = some (xr, τ) → FK [12] σ τ := by
  intro n
  induction n with
  | zero => intro v3 v4 v5 σ h; rw [fX12_bestWind_33] at h; cases h
  | succ n ih =>
    intro v3 v4 v5 σ h
    rw [fX12_bestWind_33] at h
    refine F_if h (fun h => ?_) (fun h => ?_)
    · skip
      obtain ⟨x15, σ13, hc14, h⟩ := cI_t h
      refine F_call (frX12_gives o v3 ho σ hc14) (by decide) ?_
      cases h
      exact F_refl
    · skip
      obtain ⟨σ16, hc17, h⟩ := cV_t h
      refine F_call (frX12_begins1 o ho σ hc17) (by decide) ?_
      obtain ⟨σ18, hc19, h⟩ := cV_t h
      refine F_call (frX12_blowsAll o v5 a1 ho σ16 hc19) (by decide) ?_
      obtain ⟨σ20, hc21, h⟩ := cV_t h
      refine F_call (frX12_goesBy o a2 ho σ18 hc21) (by decide) ?_
      obtain ⟨x24, σ22, hc23, h⟩ := cI_t h
      refine F_call (frX12_rightSet o ho σ20 hc23) (by decide) ?_
      obtain ⟨x27, σ25, hc26, h⟩ := cI_t h
      refine F_call (frX12_bits x24 σ22 hc26) (by decide) ?_
      refine F_if h (fun h => ?_) (fun h => ?_)
      · skip
        obtain ⟨x30, σ28, hc29, h⟩ := cI_t h
        refine F_call (frX12_rightSet o ho σ25 hc29) (by decide) ?_
        obtain ⟨x33, σ31, hc32, h⟩ := cI_t h
        refine F_call (frX12_bits x30 σ28 hc32) (by decide) ?_
        exact ih v5 x33 (v5 + (1 : Int32)) σ31 h
      · skip
        exact ih v3 v4 (v5 + (1 : Int32)) σ25 h
set_option maxRecDepth 100000 in
set_option maxHeartbeats 4000000 in
theorem frX12_bestWind (o : Nat) (a1 : Int32) (a2 : Int32) (ho : KD o = 12) (σ : Mm) {xr : Int32} {τ : Mm} (h : fX12_bestWind o a1 a2 σ = some (xr, τ)) : FK [12] σ τ := by
  unfold fX12_bestWind at h
  obtain ⟨x3, σ1, hc2, h⟩ := cI_t h
  refine F_call (frX12_isFrom a1.toInt64 (1 : Int64) (99 : Int64) σ hc2) (by decide) ?_
  refine F_if h (fun h => ?_) (fun h => ?_)
  · skip
    obtain ⟨x6, σ4, hc5, h⟩ := cI_t h
    refine F_call (frX12_refuse o (1 : Int32) ho σ1 hc5) (by decide) ?_
    cases h
    exact F_refl
  · skip
    obtain ⟨x9, σ7, hc8, h⟩ := cI_t h
    refine F_call (frX12_isAhead a2 σ1 hc8) (by decide) ?_
    refine F_ifn h (fun h => ?_) (fun h => ?_)
    · skip
      exact ftX12_bestWind_33 o a1 a2 ho FU (-1 : Int32) (-1 : Int32) (0 : Int32) σ7 h
    · skip
      obtain ⟨x12, σ10, hc11, h⟩ := cI_t h
      refine F_call (frX12_refuse o (1 : Int32) ho σ7 hc11) (by decide) ?_
      cases h
      exact F_refl
set_option maxRecDepth 100000 in
set_option maxHeartbeats 4000000 in
theorem ftX12_parting_11 {xr : Int32} {τ : Mm} (o : Nat) (ho : KD o = 12) : ∀ (n : Nat) (v1 : Int32) (v2 : Int32) (v3 : Int32) (σ : Mm), fX12_parting_11 o n v1 v2 v3 σ = some (xr, τ) → FK [12] σ τ := by
  intro n
  induction n with
  | zero => intro v1 v2 v3 σ h; rw [fX12_parting_11] at h; cases h
  | succ n ih =>
    intro v1 v2 v3 σ h
    rw [fX12_parting_11] at h
    refine F_gar h (fun x2 h => ?_)
    refine F_if h (fun h => ?_) (fun h => ?_)
    · skip
      obtain ⟨x5, σ3, hc4, h⟩ := cI_t h
      refine F_call (frX12_gives o v1 ho σ hc4) (by decide) ?_
      cases h
      exact F_refl
    · skip
      refine F_ifn h (fun h => ?_) (fun h => ?_)
      · skip
        refine F_sar ho (by decide) h (fun σ6 h => ?_)
        refine F_gar h (fun x7 h => ?_)
        obtain ⟨x10, σ8, hc9, h⟩ := cI_t h
        refine F_call (frX12_joinedWith o x7 ho σ6 hc9) (by decide) ?_
        refine F_gar h (fun x11 h => ?_)
        refine F_ifn h (fun h => ?_) (fun h => ?_)
        · skip
          refine F_sar ho (by decide) h (fun σ12 h => ?_)
          exact ih (v1 ||| (0 : Int32)) v2 (v3 + (1 : Int32)) σ12 h
        · skip
          refine F_sar ho (by decide) h (fun σ13 h => ?_)
          exact ih (v1 ||| ((1 : Int32) <<< (v3 &&& 31))) v2 (v3 + (1 : Int32)) σ13 h
      · skip
        exact ih v1 v2 (v3 + (1 : Int32)) σ h
set_option maxRecDepth 100000 in
set_option maxHeartbeats 4000000 in
theorem frX12_parting (o : Nat) (ho : KD o = 12) (σ : Mm) {xr : Int32} {τ : Mm} (h : fX12_parting o σ = some (xr, τ)) : FK [12] σ τ := by
  unfold fX12_parting at h
  refine F_gar h (fun x1 h => ?_)
  exact ftX12_parting_11 o ho FU (0 : Int32) x1 (0 : Int32) σ h
set_option maxRecDepth 100000 in
set_option maxHeartbeats 4000000 in
theorem frX12_rightsBy (o : Nat) (a1 : Int32) (a2 : Int32) (ho : KD o = 12) (σ : Mm) {xr : Int32} {τ : Mm} (h : fX12_rightsBy o a1 a2 σ = some (xr, τ)) : FK [12] σ τ := by
  unfold fX12_rightsBy at h
  obtain ⟨σ1, hc2, h⟩ := cV_t h
  refine F_call (frX12_begins1 o ho σ hc2) (by decide) ?_
  refine F_gar h (fun x3 h => ?_)
  refine F_sar ho (by decide) h (fun σ4 h => ?_)
  obtain ⟨σ5, hc6, h⟩ := cV_t h
  refine F_call (frX12_goesBy o a1 ho σ4 hc6) (by decide) ?_
  obtain ⟨x9, σ7, hc8, h⟩ := cI_t h
  refine F_call (frX12_rightSet o ho σ5 hc8) (by decide) ?_
  obtain ⟨x12, σ10, hc11, h⟩ := cI_t h
  refine F_call (frX12_bits x9 σ7 hc11) (by decide) ?_
  cases h
  exact F_refl
set_option maxRecDepth 100000 in
set_option maxHeartbeats 4000000 in
theorem ftX12_mending_25 {xr : Int32} {τ : Mm} (o : Nat) (a1 : Int32) (ho : KD o = 12) : ∀ (n : Nat) (v2 : Int32) (v3 : Int32) (v4 : Int32) (σ : Mm), fX12_mending_25 o a1 n v2 v3 v4 σ = some (xr, τ) → FK [12] σ τ := by
  intro n
  induction n with
  | zero => intro v2 v3 v4 σ h; rw [fX12_mending_25] at h; cases h
  | succ n ih =>
    intro v2 v3 v4 σ h
    rw [fX12_mending_25] at h
    refine F_gar h (fun x10 h => ?_)
    refine F_if h (fun h => ?_) (fun h => ?_)
    · skip
      obtain ⟨x13, σ11, hc12, h⟩ := cI_t h
      refine F_call (frX12_orNone o v3 ho σ hc12) (by decide) ?_
      cases h
      exact F_refl
    · skip
      refine F_gar h (fun x14 h => ?_)
      refine F_ifn h (fun h => ?_) (fun h => ?_)
      · skip
        obtain ⟨x17, σ15, hc16, h⟩ := cI_t h
        refine F_call (frX12_rightsBy o a1 ((1 : Int32) <<< (v4 &&& 31)) ho σ hc16) (by decide) ?_
        refine F_if h (fun h => ?_) (fun h => ?_)
        · skip
          exact ih x17 v4 (v4 + (1 : Int32)) σ15 h
        · skip
          exact ih v2 v3 (v4 + (1 : Int32)) σ15 h
      · skip
        refine F_if h (fun h => ?_) (fun h => ?_)
        · skip
          exact ih (-1 : Int32) v4 (v4 + (1 : Int32)) σ h
        · skip
          exact ih v2 v3 (v4 + (1 : Int32)) σ h
set_option maxRecDepth 100000 in
set_option maxHeartbeats 4000000 in
theorem frX12_mending (o : Nat) (a1 : Int32) (ho : KD o = 12) (σ : Mm) {xr : Int32} {τ : Mm} (h : fX12_mending o a1 σ = some (xr, τ)) : FK [12] σ τ := by
  unfold fX12_mending at h
  obtain ⟨x3, σ1, hc2, h⟩ := cI_t h
  refine F_call (frX12_isAhead a1 σ hc2) (by decide) ?_
  refine F_ifn h (fun h => ?_) (fun h => ?_)
  · skip
    obtain ⟨x6, σ4, hc5, h⟩ := cI_t h
    refine F_call (frX12_rightsBy o a1 (0 : Int32) ho σ1 hc5) (by decide) ?_
    exact ftX12_mending_25 o a1 ho FU x6 (-1 : Int32) (0 : Int32) σ4 h
  · skip
    obtain ⟨x9, σ7, hc8, h⟩ := cI_t h
    refine F_call (frX12_refuse o (1 : Int32) ho σ1 hc8) (by decide) ?_
    cases h
    exact F_refl
set_option maxRecDepth 100000 in
set_option maxHeartbeats 4000000 in
theorem ftX12_leavingBy_5 {xr : Int32} {τ : Mm} (o : Nat) (a1 : Int32) (a2 : Int32) (ho : KD o = 12) : ∀ (n : Nat) (v3 : Int32) (v4 : Int32) (σ : Mm), fX12_leavingBy_5 o a1 a2 n v3 v4 σ = some (xr, τ) → FK [12] σ τ := by
  intro n
  induction n with
  | zero => intro v3 v4 σ h; rw [fX12_leavingBy_5] at h; cases h
  | succ n ih =>
    intro v3 v4 σ h
    rw [fX12_leavingBy_5] at h
    refine F_if h (fun h => ?_) (fun h => ?_)
    · skip
      cases h
      exact F_refl
    · skip
      obtain ⟨σ1, hc2, h⟩ := cV_t h
      refine F_call (frX12_begins1 o ho σ hc2) (by decide) ?_
      refine F_gar h (fun x3 h => ?_)
      refine F_sar ho (by decide) h (fun σ4 h => ?_)
      obtain ⟨σ5, hc6, h⟩ := cV_t h
      refine F_call (frX12_blowsAll o v4 a1 ho σ4 hc6) (by decide) ?_
      obtain ⟨x9, σ7, hc8, h⟩ := cI_t h
      refine F_call (frX12_quarterGoes o ho σ5 hc8) (by decide) ?_
      refine F_if h (fun h => ?_) (fun h => ?_)
      · skip
        exact ih (v3 ||| ((1 : Int32) <<< (v4 &&& 31))) (v4 + (1 : Int32)) σ7 h
      · skip
        exact ih (v3 ||| (0 : Int32)) (v4 + (1 : Int32)) σ7 h
set_option maxRecDepth 100000 in
set_option maxHeartbeats 4000000 in
theorem frX12_leavingBy (o : Nat) (a1 : Int32) (a2 : Int32) (ho : KD o = 12) (σ : Mm) {xr : Int32} {τ : Mm} (h : fX12_leavingBy o a1 a2 σ = some (xr, τ)) : FK [12] σ τ := by
  unfold fX12_leavingBy at h
  exact ftX12_leavingBy_5 o a1 a2 ho FU (0 : Int32) (0 : Int32) σ h
set_option maxRecDepth 100000 in
set_option maxHeartbeats 4000000 in
theorem frX12_leaving (o : Nat) (a1 : Int32) (ho : KD o = 12) (σ : Mm) {xr : Int32} {τ : Mm} (h : fX12_leaving o a1 σ = some (xr, τ)) : FK [12] σ τ := by
  unfold fX12_leaving at h
  obtain ⟨x3, σ1, hc2, h⟩ := cI_t h
  refine F_call (frX12_isFrom a1.toInt64 (1 : Int64) (99 : Int64) σ hc2) (by decide) ?_
  refine F_if h (fun h => ?_) (fun h => ?_)
  · skip
    obtain ⟨x6, σ4, hc5, h⟩ := cI_t h
    refine F_call (frX12_refuse o (1 : Int32) ho σ1 hc5) (by decide) ?_
    cases h
    exact F_refl
  · skip
    obtain ⟨x9, σ7, hc8, h⟩ := cI_t h
    refine F_call (frX12_leavingBy o a1 (0 : Int32) ho σ1 hc8) (by decide) ?_
    obtain ⟨x12, σ10, hc11, h⟩ := cI_t h
    refine F_call (frX12_gives o x9 ho σ7 hc11) (by decide) ?_
    cases h
    exact F_refl
set_option maxRecDepth 100000 in
set_option maxHeartbeats 4000000 in
theorem ftX12_knowing_33 {xr : Int32} {τ : Mm} (o : Nat) (a1 : Int32) (ho : KD o = 12) : ∀ (n : Nat) (v2 : Int32) (v3 : Int32) (v4 : Int32) (σ : Mm), fX12_knowing_33 o a1 n v2 v3 v4 σ = some (xr, τ) → FK [12] σ τ := by
  intro n
  induction n with
  | zero => intro v2 v3 v4 σ h; rw [fX12_knowing_33] at h; cases h
  | succ n ih =>
    intro v2 v3 v4 σ h
    rw [fX12_knowing_33] at h
    refine F_gar h (fun x13 h => ?_)
    refine F_if h (fun h => ?_) (fun h => ?_)
    · skip
      obtain ⟨x16, σ14, hc15, h⟩ := cI_t h
      refine F_call (frX12_orNone o v3 ho σ hc15) (by decide) ?_
      cases h
      exact F_refl
    · skip
      refine F_gar h (fun x17 h => ?_)
      refine F_ifn h (fun h => ?_) (fun h => ?_)
      · skip
        obtain ⟨x20, σ18, hc19, h⟩ := cI_t h
        refine F_call (frX12_leavingBy o a1 ((1 : Int32) <<< (v4 &&& 31)) ho σ hc19) (by decide) ?_
        obtain ⟨x23, σ21, hc22, h⟩ := cI_t h
        refine F_call (frX12_bits x20 σ18 hc22) (by decide) ?_
        refine F_if h (fun h => ?_) (fun h => ?_)
        · skip
          exact ih x23 v4 (v4 + (1 : Int32)) σ21 h
        · skip
          exact ih v2 v3 (v4 + (1 : Int32)) σ21 h
      · skip
        exact ih v2 v3 (v4 + (1 : Int32)) σ h
set_option maxRecDepth 100000 in
set_option maxHeartbeats 4000000 in
theorem frX12_knowing (o : Nat) (a1 : Int32) (ho : KD o = 12) (σ : Mm) {xr : Int32} {τ : Mm} (h : fX12_knowing o a1 σ = some (xr, τ)) : FK [12] σ τ := by
  unfold fX12_knowing at h
  obtain ⟨x3, σ1, hc2, h⟩ := cI_t h
  refine F_call (frX12_isFrom a1.toInt64 (1 : Int64) (99 : Int64) σ hc2) (by decide) ?_
  refine F_ifn h (fun h => ?_) (fun h => ?_)
  · skip
    obtain ⟨x6, σ4, hc5, h⟩ := cI_t h
    refine F_call (frX12_leavingBy o a1 (0 : Int32) ho σ1 hc5) (by decide) ?_
    obtain ⟨x9, σ7, hc8, h⟩ := cI_t h
    refine F_call (frX12_bits x6 σ4 hc8) (by decide) ?_
    exact ftX12_knowing_33 o a1 ho FU x9 (-1 : Int32) (0 : Int32) σ7 h
  · skip
    obtain ⟨x12, σ10, hc11, h⟩ := cI_t h
    refine F_call (frX12_refuse o (1 : Int32) ho σ1 hc11) (by decide) ?_
    cases h
    exact F_refl
set_option maxRecDepth 100000 in
set_option maxHeartbeats 4000000 in
theorem ftX12_wrongRows_54 {xr : Int32} {τ : Mm} (o : Nat) (a1 : Int32) (a2 : Int32) (ho : KD o = 12) : ∀ (n : Nat) (v3 : Int32) (σ : Mm), fX12_wrongRows_54 o a1 a2 n v3 σ = some (xr, τ) → FK [] σ τ := by
  intro n
  induction n with
  | zero => intro v3 σ h; rw [fX12_wrongRows_54] at h; cases h
  | succ n ih =>
    intro v3 σ h
    rw [fX12_wrongRows_54] at h
    refine F_gar h (fun x10 h => ?_)
    refine F_if h (fun h => ?_) (fun h => ?_)
    · skip
      cases h
      exact F_refl
    · skip
      refine F_gla h (fun x11 h => ?_)
      refine F_gar h (fun x12 h => ?_)
      obtain ⟨hz17, h⟩ := nz_t h
      refine F_gar h (fun x13 h => ?_)
      obtain ⟨x16, σ14, hc15, h⟩ := cI_t h
      refine F_call (frX12_isFrom x11 (0 : Int64) (x13 - (1 : Int32)).toInt64 σ hc15) (by decide) ?_
      refine F_ifn h (fun h => ?_) (fun h => ?_)
      · skip
        exact ih (v3 + (1 : Int32)) σ14 h
      · skip
        cases h
        exact F_refl
set_option maxRecDepth 100000 in
set_option maxHeartbeats 4000000 in
theorem frX12_wrongRows (o : Nat) (a1 : Int32) (a2 : Int32) (ho : KD o = 12) (σ : Mm) {xr : Int32} {τ : Mm} (h : fX12_wrongRows o a1 a2 σ = some (xr, τ)) : FK [] σ τ := by
  unfold fX12_wrongRows at h
  obtain ⟨x3, σ1, hc2, h⟩ := cI_t h
  refine F_call (frX12_isTray a1 σ hc2) (by decide) ?_
  refine F_if h (fun h => ?_) (fun h => ?_)
  · skip
    cases h
    exact F_refl
  · skip
    obtain ⟨x6, σ4, hc5, h⟩ := cI_t h
    refine F_call (frX12_isFrom a2.toInt64 (1 : Int64) (15 : Int64) σ1 hc5) (by decide) ?_
    refine F_ifn h (fun h => ?_) (fun h => ?_)
    · skip
      refine F_gar h (fun x7 h => ?_)
      refine F_ifn h (fun h => ?_) (fun h => ?_)
      · skip
        refine F_gar h (fun x8 h => ?_)
        refine F_gar h (fun x9 h => ?_)
        refine F_if h (fun h => ?_) (fun h => ?_)
        · skip
          exact ftX12_wrongRows_54 o a1 a2 ho FU (0 : Int32) σ4 h
        · skip
          cases h
          exact F_refl
      · skip
        cases h
        exact F_refl
    · skip
      cases h
      exact F_refl
set_option maxRecDepth 100000 in
set_option maxHeartbeats 4000000 in
theorem ftX12_isSeen_36 {xr : Int32} {τ : Mm} (o : Nat) (a1 : Int32) (a2 : Int32) (a3 : Int32) (ho : KD o = 12) (k19 : Int32 → Mm → Option (Int32 × Mm)) (hk19 : ∀ (v4 : Int32) (σ : Mm), k19 v4 σ = some (xr, τ) → FK [12] σ τ) : ∀ (n : Nat) (v4 : Int32) (v5 : Int32) (σ : Mm), fX12_isSeen_36 o a1 a2 a3 k19 n v4 v5 σ = some (xr, τ) → FK [12] σ τ := by
  intro n
  induction n with
  | zero => intro v4 v5 σ h; rw [fX12_isSeen_36] at h; cases h
  | succ n ih =>
    intro v4 v5 σ h
    rw [fX12_isSeen_36] at h
    refine F_gar h (fun x9 h => ?_)
    refine F_if h (fun h => ?_) (fun h => ?_)
    · skip
      exact hk19 (v4 + (1 : Int32)) σ h
    · skip
      refine F_gar h (fun x10 h => ?_)
      refine F_gla h (fun x11 h => ?_)
      obtain ⟨x14, σ12, hc13, h⟩ := cI_t h
      refine F_call (frX12_vaneAt o v5 (3 : Int32) ho σ hc13) (by decide) ?_
      refine F_if h (fun h => ?_) (fun h => ?_)
      · skip
        exact ih v4 (v5 + (1 : Int32)) σ12 h
      · skip
        cases h
        exact F_refl
set_option maxRecDepth 100000 in
set_option maxHeartbeats 4000000 in
theorem ftX12_isSeen_19 {xr : Int32} {τ : Mm} (o : Nat) (a1 : Int32) (a2 : Int32) (a3 : Int32) (ho : KD o = 12) : ∀ (n : Nat) (v4 : Int32) (σ : Mm), fX12_isSeen_19 o a1 a2 a3 n v4 σ = some (xr, τ) → FK [12] σ τ := by
  intro n
  induction n with
  | zero => intro v4 σ h; rw [fX12_isSeen_19] at h; cases h
  | succ n ih =>
    intro v4 σ h
    rw [fX12_isSeen_19] at h
    refine F_if h (fun h => ?_) (fun h => ?_)
    · skip
      cases h
      exact F_refl
    · skip
      obtain ⟨x7, σ5, hc6, h⟩ := cI_t h
      refine F_call (frX12_quarterGoes o ho σ hc6) (by decide) ?_
      refine F_pbz ho (by decide) h (fun σ8 h => ?_)
      exact ftX12_isSeen_36 o a1 a2 a3 ho (fX12_isSeen_19 o a1 a2 a3 n) ih FU v4 (0 : Int32) σ8 h
set_option maxRecDepth 100000 in
set_option maxHeartbeats 4000000 in
theorem frX12_isSeen (o : Nat) (a1 : Int32) (a2 : Int32) (a3 : Int32) (ho : KD o = 12) (σ : Mm) {xr : Int32} {τ : Mm} (h : fX12_isSeen o a1 a2 a3 σ = some (xr, τ)) : FK [12] σ τ := by
  unfold fX12_isSeen at h
  obtain ⟨σ1, hc2, h⟩ := cV_t h
  refine F_call (frX12_begins1 o ho σ hc2) (by decide) ?_
  refine F_gar h (fun x3 h => ?_)
  refine F_sar ho (by decide) h (fun σ4 h => ?_)
  exact ftX12_isSeen_19 o a1 a2 a3 ho FU (0 : Int32) σ4 h
set_option maxRecDepth 100000 in
set_option maxHeartbeats 4000000 in
theorem frX12_whole (o : Nat) (a1 : Int32) (a2 : Int32) (ho : KD o = 12) (σ : Mm) {xr : Int32} {τ : Mm} (h : fX12_whole o a1 a2 σ = some (xr, τ)) : FK [12] σ τ := by
  unfold fX12_whole at h
  obtain ⟨x3, σ1, hc2, h⟩ := cI_t h
  refine F_call (frX12_wrongRows o a1 a2 ho σ hc2) (by decide) ?_
  refine F_if h (fun h => ?_) (fun h => ?_)
  · skip
    obtain ⟨x6, σ4, hc5, h⟩ := cI_t h
    refine F_call (frX12_isSeen o a1 a2 (0 : Int32) ho σ1 hc5) (by decide) ?_
    refine F_if h (fun h => ?_) (fun h => ?_)
    · skip
      obtain ⟨x9, σ7, hc8, h⟩ := cI_t h
      refine F_call (frX12_gives o (0 : Int32) ho σ4 hc8) (by decide) ?_
      cases h
      exact F_refl
    · skip
      obtain ⟨x12, σ10, hc11, h⟩ := cI_t h
      refine F_call (frX12_gives o (1 : Int32) ho σ4 hc11) (by decide) ?_
      cases h
      exact F_refl
  · skip
    obtain ⟨x15, σ13, hc14, h⟩ := cI_t h
    refine F_call (frX12_refuse o x3 ho σ1 hc14) (by decide) ?_
    cases h
    exact F_refl
set_option maxRecDepth 100000 in
set_option maxHeartbeats 4000000 in
theorem ftX12_broken_23 {xr : Int32} {τ : Mm} (o : Nat) (a1 : Int32) (a2 : Int32) (ho : KD o = 12) : ∀ (n : Nat) (v4 : Int32) (v5 : Int32) (σ : Mm), fX12_broken_23 o a1 a2 n v4 v5 σ = some (xr, τ) → FK [12] σ τ := by
  intro n
  induction n with
  | zero => intro v4 v5 σ h; rw [fX12_broken_23] at h; cases h
  | succ n ih =>
    intro v4 v5 σ h
    rw [fX12_broken_23] at h
    refine F_gar h (fun x7 h => ?_)
    refine F_if h (fun h => ?_) (fun h => ?_)
    · skip
      obtain ⟨x10, σ8, hc9, h⟩ := cI_t h
      refine F_call (frX12_gives o v4 ho σ hc9) (by decide) ?_
      cases h
      exact F_refl
    · skip
      refine F_gar h (fun x11 h => ?_)
      refine F_ifn h (fun h => ?_) (fun h => ?_)
      · skip
        exact ih (v4 ||| (0 : Int32)) (v5 + (1 : Int32)) σ h
      · skip
        obtain ⟨x14, σ12, hc13, h⟩ := cI_t h
        refine F_call (frX12_isSeen o a1 a2 ((1 : Int32) <<< (v5 &&& 31)) ho σ hc13) (by decide) ?_
        refine F_if h (fun h => ?_) (fun h => ?_)
        · skip
          exact ih (v4 ||| (0 : Int32)) (v5 + (1 : Int32)) σ12 h
        · skip
          exact ih (v4 ||| ((1 : Int32) <<< (v5 &&& 31))) (v5 + (1 : Int32)) σ12 h
set_option maxRecDepth 100000 in
set_option maxHeartbeats 4000000 in
theorem frX12_broken (o : Nat) (a1 : Int32) (a2 : Int32) (ho : KD o = 12) (σ : Mm) {xr : Int32} {τ : Mm} (h : fX12_broken o a1 a2 σ = some (xr, τ)) : FK [12] σ τ := by
  unfold fX12_broken at h
  obtain ⟨x3, σ1, hc2, h⟩ := cI_t h
  refine F_call (frX12_wrongRows o a1 a2 ho σ hc2) (by decide) ?_
  refine F_if h (fun h => ?_) (fun h => ?_)
  · skip
    exact ftX12_broken_23 o a1 a2 ho FU (0 : Int32) (0 : Int32) σ1 h
  · skip
    obtain ⟨x6, σ4, hc5, h⟩ := cI_t h
    refine F_call (frX12_refuse o x3 ho σ1 hc5) (by decide) ?_
    cases h
    exact F_refl
set_option maxRecDepth 100000 in
set_option maxHeartbeats 4000000 in
theorem frX12_draw (o : Nat) (ho : KD o = 12) (σ : Mm) {xr : Int32} {τ : Mm} (h : fX12_draw o σ = some (xr, τ)) : FK [12] σ τ := by
  unfold fX12_draw at h
  refine F_rsc h (fun x1 h => ?_)
  refine F_psc ho (by decide) h (fun σ2 h => ?_)
  refine F_rsc h (fun x3 h => ?_)
  cases h
  exact F_refl
set_option maxRecDepth 100000 in
set_option maxHeartbeats 4000000 in
theorem ftX12_does_94 {τ : Mm} (o : Nat) (a1 : Int32) (ho : KD o = 12) : ∀ (n : Nat) (v2 : Int32) (v3 : Int32) (σ : Mm), fX12_does_94 o a1 n v2 v3 σ = some τ → FK [12] σ τ := by
  intro n
  induction n with
  | zero => intro v2 v3 σ h; rw [fX12_does_94] at h; cases h
  | succ n ih =>
    intro v2 v3 σ h
    rw [fX12_does_94] at h
    refine F_gar h (fun x50 h => ?_)
    refine F_if h (fun h => ?_) (fun h => ?_)
    · skip
      cases h
      exact F_refl
    · skip
      obtain ⟨x53, σ51, hc52, h⟩ := cI_t h
      refine F_call (frX12_draw o ho σ hc52) (by decide) ?_
      obtain ⟨σ54, hc55, h⟩ := cV_t h
      refine F_call (frX12_blows o v3 x53 v2 ho σ51 hc55) (by decide) ?_
      exact ih v2 (v3 + (1 : Int32)) σ54 h
set_option maxRecDepth 100000 in
set_option maxHeartbeats 4000000 in
theorem frX12_does (o : Nat) (a1 : Int32) (ho : KD o = 12) (σ : Mm) {τ : Mm} (h : fX12_does o a1 σ = some τ) : FK [12] σ τ := by
  unfold fX12_does at h
  refine F_gar h (fun x1 h => ?_)
  refine F_gar h (fun x2 h => ?_)
  by_cases hs3 : x2 = (10 : Int32)
  · rw [if_pos hs3] at h
    obtain ⟨x6, σ4, hc5, h⟩ := cI_t h
    refine F_call (frX12_isPlace o x1 ho σ hc5) (by decide) ?_
    refine F_if h (fun h => ?_) (fun h => ?_)
    · cases h
      exact F_refl
    · skip
      refine F_gar h (fun x7 h => ?_)
      refine F_gar h (fun x8 h => ?_)
      obtain ⟨σ9, hc10, h⟩ := cV_t h
      refine F_call (frX12_blows o x1 x7 x8 ho σ4 hc10) (by decide) ?_
      cases h
      exact F_refl
  rw [if_neg hs3] at h
  by_cases hs11 : x2 = (11 : Int32)
  · rw [if_pos hs11] at h
    exact ftX12_does_94 o a1 ho FU x1 (0 : Int32) σ h
  rw [if_neg hs11] at h
  by_cases hs12 : x2 = (12 : Int32)
  · rw [if_pos hs12] at h
    obtain ⟨σ13, hc14, h⟩ := cV_t h
    refine F_call (frX12_goesBy o x1 ho σ hc14) (by decide) ?_
    refine F_rsc h (fun x15 h => ?_)
    refine F_psc ho (by decide) h (fun σ16 h => ?_)
    cases h
    exact F_refl
  rw [if_neg hs12] at h
  by_cases hs17 : x2 = (13 : Int32)
  · rw [if_pos hs17] at h
    obtain ⟨x20, σ18, hc19, h⟩ := cI_t h
    refine F_call (frX12_isShaft o x1 ho σ hc19) (by decide) ?_
    refine F_if h (fun h => ?_) (fun h => ?_)
    · cases h
      exact F_refl
    · skip
      refine F_gar h (fun x21 h => ?_)
      refine F_sar ho (by decide) h (fun σ22 h => ?_)
      cases h
      exact F_refl
  rw [if_neg hs17] at h
  by_cases hs23 : x2 = (14 : Int32)
  · rw [if_pos hs23] at h
    obtain ⟨x26, σ24, hc25, h⟩ := cI_t h
    refine F_call (frX12_isShaft o x1 ho σ hc25) (by decide) ?_
    refine F_if h (fun h => ?_) (fun h => ?_)
    · cases h
      exact F_refl
    · skip
      refine F_gar h (fun x27 h => ?_)
      refine F_sar ho (by decide) h (fun σ28 h => ?_)
      cases h
      exact F_refl
  rw [if_neg hs23] at h
  by_cases hs29 : x2 = (15 : Int32)
  · rw [if_pos hs29] at h
    obtain ⟨x32, σ30, hc31, h⟩ := cI_t h
    refine F_call (frX12_isVane o x1 ho σ hc31) (by decide) ?_
    refine F_if h (fun h => ?_) (fun h => ?_)
    · cases h
      exact F_refl
    · skip
      refine F_gar h (fun x33 h => ?_)
      refine F_sar ho (by decide) h (fun σ34 h => ?_)
      cases h
      exact F_refl
  rw [if_neg hs29] at h
  by_cases hs35 : x2 = (16 : Int32)
  · rw [if_pos hs35] at h
    obtain ⟨x38, σ36, hc37, h⟩ := cI_t h
    refine F_call (frX12_isVane o x1 ho σ hc37) (by decide) ?_
    refine F_if h (fun h => ?_) (fun h => ?_)
    · cases h
      exact F_refl
    · skip
      refine F_gar h (fun x39 h => ?_)
      refine F_sar ho (by decide) h (fun σ40 h => ?_)
      cases h
      exact F_refl
  rw [if_neg hs35] at h
  by_cases hs41 : x2 = (17 : Int32)
  · rw [if_pos hs41] at h
    obtain ⟨x44, σ42, hc43, h⟩ := cI_t h
    refine F_call (frX12_isVane o x1 ho σ hc43) (by decide) ?_
    refine F_if h (fun h => ?_) (fun h => ?_)
    · cases h
      exact F_refl
    · skip
      refine F_gar h (fun x45 h => ?_)
      obtain ⟨x48, σ46, hc47, h⟩ := cI_t h
      refine F_call (frX12_turnsBy o x1 x45 ho σ42 hc47) (by decide) ?_
      refine F_psc ho (by decide) h (fun σ49 h => ?_)
      cases h
      exact F_refl
  rw [if_neg hs41] at h
  cases h
  exact F_refl
set_option maxRecDepth 100000 in
set_option maxHeartbeats 4000000 in
theorem frX12_holdsNow (o : Nat) (a1 : Int32) (ho : KD o = 12) (σ : Mm) {xr : Int32} {τ : Mm} (h : fX12_holdsNow o a1 σ = some (xr, τ)) : FK [] σ τ := by
  unfold fX12_holdsNow at h
  refine F_gar h (fun x1 h => ?_)
  obtain ⟨x4, σ2, hc3, h⟩ := cI_t h
  refine F_call (frX12_isVane o x1 ho σ hc3) (by decide) ?_
  refine F_ifn h (fun h => ?_) (fun h => ?_)
  · skip
    refine F_gar h (fun x5 h => ?_)
    refine F_ifn h (fun h => ?_) (fun h => ?_)
    · skip
      obtain ⟨x8, σ6, hc7, h⟩ := cI_t h
      refine F_call (frX12_vaneAt o x1 (3 : Int32) ho σ2 hc7) (by decide) ?_
      refine F_gar h (fun x9 h => ?_)
      refine F_ifn h (fun h => ?_) (fun h => ?_)
      · skip
        refine F_gar h (fun x10 h => ?_)
        refine F_ifn h (fun h => ?_) (fun h => ?_)
        · skip
          refine F_gar h (fun x11 h => ?_)
          refine F_ifn h (fun h => ?_) (fun h => ?_)
          · skip
            cases h
            exact F_refl
          · skip
            cases h
            exact F_refl
        · skip
          refine F_gar h (fun x12 h => ?_)
          refine F_if h (fun h => ?_) (fun h => ?_)
          · skip
            cases h
            exact F_refl
          · skip
            cases h
            exact F_refl
      · skip
        refine F_gar h (fun x13 h => ?_)
        refine F_if h (fun h => ?_) (fun h => ?_)
        · skip
          cases h
          exact F_refl
        · skip
          cases h
          exact F_refl
    · skip
      obtain ⟨x16, σ14, hc15, h⟩ := cI_t h
      refine F_call (frX12_isRight o x1 ho σ2 hc15) (by decide) ?_
      obtain ⟨hz17, h⟩ := bz_t h
      cases h
      exact F_refl
  · skip
    cases h
    exact F_refl
set_option maxRecDepth 100000 in
set_option maxHeartbeats 4000000 in
theorem ftX12_behindEnds_76 {xr : Int32} {τ : Mm} (o : Nat) (a1 : Int32) (ho : KD o = 12) (k2 : Int32 → Mm → Option (Int32 × Mm)) (hk2 : ∀ (v2 : Int32) (σ : Mm), k2 v2 σ = some (xr, τ) → FK [12] σ τ) (v2 : Int32) (v3 : Int32) (s0 : Int32) (σ : Mm) (h : fX12_behindEnds_76 o a1 k2 v2 v3 s0 σ = some (xr, τ)) : FK [12] σ τ := by
  unfold fX12_behindEnds_76 at h
  refine F_gar h (fun x6 h => ?_)
  refine F_if h (fun h => ?_) (fun h => ?_)
  · skip
    refine F_sar ho (by decide) h (fun σ7 h => ?_)
    refine F_if h (fun h => ?_) (fun h => ?_)
    · skip
      exact hk2 (v2 + (1 : Int32)) σ7 h
    · skip
      exact hk2 (v3 + (1 : Int32)) σ7 h
  · skip
    refine F_sar ho (by decide) h (fun σ8 h => ?_)
    refine F_if h (fun h => ?_) (fun h => ?_)
    · skip
      exact hk2 (v2 + (1 : Int32)) σ8 h
    · skip
      exact hk2 (v3 + (1 : Int32)) σ8 h
set_option maxRecDepth 100000 in
set_option maxHeartbeats 4000000 in
theorem ftX12_behindEnds_2 {xr : Int32} {τ : Mm} (o : Nat) (a1 : Int32) (ho : KD o = 12) : ∀ (n : Nat) (v2 : Int32) (σ : Mm), fX12_behindEnds_2 o a1 n v2 σ = some (xr, τ) → FK [12] σ τ := by
  intro n
  induction n with
  | zero => intro v2 σ h; rw [fX12_behindEnds_2] at h; cases h
  | succ n ih =>
    intro v2 σ h
    rw [fX12_behindEnds_2] at h
    refine F_gar h (fun x1 h => ?_)
    refine F_if h (fun h => ?_) (fun h => ?_)
    · skip
      cases h
      exact F_refl
    · skip
      refine F_gar h (fun x2 h => ?_)
      refine F_ifn h (fun h => ?_) (fun h => ?_)
      · skip
        cases h
        exact F_refl
      · skip
        refine F_gar h (fun x3 h => ?_)
        refine F_gar h (fun x4 h => ?_)
        refine F_ifn h (fun h => ?_) (fun h => ?_)
        · skip
          exact ftX12_behindEnds_76 o a1 ho (fX12_behindEnds_2 o a1 n) ih v2 x3 (0 : Int32) σ h
        · skip
          refine F_gar h (fun x5 h => ?_)
          refine F_if h (fun h => ?_) (fun h => ?_)
          · skip
            exact ftX12_behindEnds_76 o a1 ho (fX12_behindEnds_2 o a1 n) ih v2 x3 (0 : Int32) σ h
          · skip
            exact ftX12_behindEnds_76 o a1 ho (fX12_behindEnds_2 o a1 n) ih v2 x3 (1 : Int32) σ h
set_option maxRecDepth 100000 in
set_option maxHeartbeats 4000000 in
theorem frX12_behindEnds (o : Nat) (a1 : Int32) (ho : KD o = 12) (σ : Mm) {xr : Int32} {τ : Mm} (h : fX12_behindEnds o a1 σ = some (xr, τ)) : FK [12] σ τ := by
  unfold fX12_behindEnds at h
  exact ftX12_behindEnds_2 o a1 ho FU a1 σ h
set_option maxRecDepth 100000 in
set_option maxHeartbeats 4000000 in
theorem ftX12_runs_115 {τ : Mm} (o : Nat) (a1 : Int32) (ho : KD o = 12) (k26 : Int32 → Mm → Option (Mm)) (hk26 : ∀ (v2 : Int32) (σ : Mm), k26 v2 σ = some τ → FK [12] σ τ) (v2 : Int32) (v3 : Int32) (σ : Mm) (h : fX12_runs_115 o a1 k26 v2 v3 σ = some τ) : FK [12] σ τ := by
  unfold fX12_runs_115 at h
  refine F_gar h (fun x18 h => ?_)
  refine F_if h (fun h => ?_) (fun h => ?_)
  · skip
    obtain ⟨x21, σ19, hc20, h⟩ := cI_t h
    refine F_call (frX12_behindEnds o (v2 + (1 : Int32)) ho σ hc20) (by decide) ?_
    exact hk26 x21 σ19 h
  · skip
    obtain ⟨x24, σ22, hc23, h⟩ := cI_t h
    refine F_call (frX12_holdsNow o v3 ho σ hc23) (by decide) ?_
    refine F_ifn h (fun h => ?_) (fun h => ?_)
    · skip
      obtain ⟨x27, σ25, hc26, h⟩ := cI_t h
      refine F_call (frX12_behindEnds o (v2 + (1 : Int32)) ho σ22 hc26) (by decide) ?_
      exact hk26 x27 σ25 h
    · skip
      refine F_gar h (fun x28 h => ?_)
      obtain ⟨x31, σ29, hc30, h⟩ := cI_t h
      refine F_call (frX12_behindEnds o (x28 + (1 : Int32)) ho σ22 hc30) (by decide) ?_
      exact hk26 x31 σ29 h
set_option maxRecDepth 100000 in
set_option maxHeartbeats 4000000 in
theorem ftX12_runs_26 {τ : Mm} (o : Nat) (a1 : Int32) (ho : KD o = 12) : ∀ (n : Nat) (v2 : Int32) (σ : Mm), fX12_runs_26 o a1 n v2 σ = some τ → FK [12] σ τ := by
  intro n
  induction n with
  | zero => intro v2 σ h; rw [fX12_runs_26] at h; cases h
  | succ n ih =>
    intro v2 σ h
    rw [fX12_runs_26] at h
    refine F_gar h (fun x7 h => ?_)
    refine F_if h (fun h => ?_) (fun h => ?_)
    · cases h
      exact F_refl
    · skip
      refine F_rsc h (fun x8 h => ?_)
      refine F_ifn h (fun h => ?_) (fun h => ?_)
      · skip
        refine F_rsc h (fun x9 h => ?_)
        refine F_psc ho (by decide) h (fun σ10 h => ?_)
        refine F_gar h (fun x11 h => ?_)
        refine F_ifn h (fun h => ?_) (fun h => ?_)
        · skip
          obtain ⟨σ12, hc13, h⟩ := cV_t h
          refine F_call (frX12_does o ((120 : Int32) + ((6 : Int32) * v2)) ho σ10 hc13) (by decide) ?_
          refine F_gar h (fun x14 h => ?_)
          refine F_ifn h (fun h => ?_) (fun h => ?_)
          · skip
            exact ftX12_runs_115 o a1 ho (fX12_runs_26 o a1 n) ih v2 ((120 : Int32) + ((6 : Int32) * v2)) σ12 h
          · skip
            refine F_gar h (fun x15 h => ?_)
            refine F_sar ho (by decide) h (fun σ16 h => ?_)
            exact ftX12_runs_115 o a1 ho (fX12_runs_26 o a1 n) ih v2 ((120 : Int32) + ((6 : Int32) * v2)) σ16 h
        · cases h
          exact F_refl
      · skip
        refine F_psc ho (by decide) h (fun σ17 h => ?_)
        cases h
        exact F_refl
set_option maxRecDepth 100000 in
set_option maxHeartbeats 4000000 in
theorem frX12_runs (o : Nat) (a1 : Int32) (ho : KD o = 12) (σ : Mm) {τ : Mm} (h : fX12_runs o a1 σ = some τ) : FK [12] σ τ := by
  unfold fX12_runs at h
  obtain ⟨σ1, hc2, h⟩ := cV_t h
  refine F_call (frX12_begins1 o ho σ hc2) (by decide) ?_
  refine F_psc ho (by decide) h (fun σ3 h => ?_)
  refine F_psc ho (by decide) h (fun σ4 h => ?_)
  refine F_psc ho (by decide) h (fun σ5 h => ?_)
  refine F_psc ho (by decide) h (fun σ6 h => ?_)
  exact ftX12_runs_26 o a1 ho FU (0 : Int32) σ6 h
set_option maxRecDepth 100000 in
set_option maxHeartbeats 4000000 in
theorem ftX12_run_103 {xr : Int32} {τ : Mm} (o : Nat) (a1 : Int32) (ho : KD o = 12) : ∀ (n : Nat) (v2 : Int32) (σ : Mm), fX12_run_103 o a1 n v2 σ = some (xr, τ) → FK [12] σ τ := by
  intro n
  induction n with
  | zero => intro v2 σ h; rw [fX12_run_103] at h; cases h
  | succ n ih =>
    intro v2 σ h
    rw [fX12_run_103] at h
    refine F_if h (fun h => ?_) (fun h => ?_)
    · skip
      refine F_rsc h (fun x27 h => ?_)
      obtain ⟨x30, σ28, hc29, h⟩ := cI_t h
      refine F_call (frX12_gives o x27 ho σ hc29) (by decide) ?_
      cases h
      exact F_refl
    · skip
      obtain ⟨x33, σ31, hc32, h⟩ := cI_t h
      refine F_call (frX12_vaneAt o v2 (3 : Int32) ho σ hc32) (by decide) ?_
      refine F_sar ho (by decide) h (fun σ34 h => ?_)
      exact ih (v2 + (1 : Int32)) σ34 h
set_option maxRecDepth 100000 in
set_option maxHeartbeats 4000000 in
theorem frX12_run (o : Nat) (a1 : Int32) (ho : KD o = 12) (σ : Mm) {xr : Int32} {τ : Mm} (h : fX12_run o a1 σ = some (xr, τ)) : FK [12] σ τ := by
  unfold fX12_run at h
  obtain ⟨x3, σ1, hc2, h⟩ := cI_t h
  refine F_call (frX12_isFrom a1.toInt64 (0 : Int64) (9999 : Int64) σ hc2) (by decide) ?_
  refine F_ifn h (fun h => ?_) (fun h => ?_)
  · skip
    refine F_gar h (fun x4 h => ?_)
    refine F_ifn h (fun h => ?_) (fun h => ?_)
    · skip
      obtain ⟨σ5, hc6, h⟩ := cV_t h
      refine F_call (frX12_runs o a1 ho σ1 hc6) (by decide) ?_
      refine F_rsc h (fun x7 h => ?_)
      refine F_sar ho (by decide) h (fun σ8 h => ?_)
      refine F_rsc h (fun x9 h => ?_)
      refine F_sar ho (by decide) h (fun σ10 h => ?_)
      refine F_rsc h (fun x11 h => ?_)
      refine F_sar ho (by decide) h (fun σ12 h => ?_)
      obtain ⟨x15, σ13, hc14, h⟩ := cI_t h
      refine F_call (frX12_rightSet o ho σ12 hc14) (by decide) ?_
      refine F_sar ho (by decide) h (fun σ16 h => ?_)
      refine F_rsc h (fun x17 h => ?_)
      refine F_sar ho (by decide) h (fun σ18 h => ?_)
      refine F_gar h (fun x19 h => ?_)
      refine F_psc ho (by decide) h (fun σ20 h => ?_)
      exact ftX12_run_103 o a1 ho FU (0 : Int32) σ20 h
    · skip
      obtain ⟨x23, σ21, hc22, h⟩ := cI_t h
      refine F_call (frX12_refuse o (6 : Int32) ho σ1 hc22) (by decide) ?_
      cases h
      exact F_refl
  · skip
    obtain ⟨x26, σ24, hc25, h⟩ := cI_t h
    refine F_call (frX12_refuse o (1 : Int32) ho σ1 hc25) (by decide) ?_
    cases h
    exact F_refl
set_option maxRecDepth 100000 in
set_option maxHeartbeats 4000000 in
theorem frX12_ran (o : Nat) (a1 : Int32) (ho : KD o = 12) (σ : Mm) {xr : Int32} {τ : Mm} (h : fX12_ran o a1 σ = some (xr, τ)) : FK [12] σ τ := by
  unfold fX12_ran at h
  refine F_if h (fun h => ?_) (fun h => ?_)
  · skip
    obtain ⟨x3, σ1, hc2, h⟩ := cI_t h
    refine F_call (frX12_refuse o (1 : Int32) ho σ hc2) (by decide) ?_
    cases h
    exact F_refl
  · skip
    refine F_if h (fun h => ?_) (fun h => ?_)
    · skip
      refine F_rsc h (fun x4 h => ?_)
      refine F_ifn h (fun h => ?_) (fun h => ?_)
      · skip
        refine F_gar h (fun x5 h => ?_)
        obtain ⟨x8, σ6, hc7, h⟩ := cI_t h
        refine F_call (frX12_gives o x5 ho σ hc7) (by decide) ?_
        cases h
        exact F_refl
      · skip
        obtain ⟨x11, σ9, hc10, h⟩ := cI_t h
        refine F_call (frX12_refuse o (6 : Int32) ho σ hc10) (by decide) ?_
        cases h
        exact F_refl
    · skip
      obtain ⟨x14, σ12, hc13, h⟩ := cI_t h
      refine F_call (frX12_refuse o (1 : Int32) ho σ hc13) (by decide) ?_
      cases h
      exact F_refl
set_option maxRecDepth 100000 in
set_option maxHeartbeats 4000000 in
theorem frX12_ranTo (o : Nat) (a1 : Int32) (ho : KD o = 12) (σ : Mm) {xr : Int32} {τ : Mm} (h : fX12_ranTo o a1 σ = some (xr, τ)) : FK [12] σ τ := by
  unfold fX12_ranTo at h
  refine F_if h (fun h => ?_) (fun h => ?_)
  · skip
    obtain ⟨x3, σ1, hc2, h⟩ := cI_t h
    refine F_call (frX12_refuse o (1 : Int32) ho σ hc2) (by decide) ?_
    cases h
    exact F_refl
  · skip
    refine F_if h (fun h => ?_) (fun h => ?_)
    · skip
      refine F_rsc h (fun x4 h => ?_)
      refine F_if h (fun h => ?_) (fun h => ?_)
      · skip
        refine F_gar h (fun x5 h => ?_)
        obtain ⟨x8, σ6, hc7, h⟩ := cI_t h
        refine F_call (frX12_gives o x5 ho σ hc7) (by decide) ?_
        cases h
        exact F_refl
      · skip
        obtain ⟨x11, σ9, hc10, h⟩ := cI_t h
        refine F_call (frX12_refuse o (6 : Int32) ho σ hc10) (by decide) ?_
        cases h
        exact F_refl
    · skip
      obtain ⟨x14, σ12, hc13, h⟩ := cI_t h
      refine F_call (frX12_refuse o (1 : Int32) ho σ hc13) (by decide) ?_
      cases h
      exact F_refl
set_option maxRecDepth 100000 in
set_option maxHeartbeats 4000000 in
theorem ftX12_odds_73 {xr : Int32} {τ : Mm} (o : Nat) (a1 : Int32) (a2 : Int32) (a3 : Int32) (ho : KD o = 12) : ∀ (n : Nat) (v4 : Int32) (v5 : Int32) (σ : Mm), fX12_odds_73 o a1 a2 a3 n v4 v5 σ = some (xr, τ) → FK [12] σ τ := by
  intro n
  induction n with
  | zero => intro v4 v5 σ h; rw [fX12_odds_73] at h; cases h
  | succ n ih =>
    intro v4 v5 σ h
    rw [fX12_odds_73] at h
    refine F_if h (fun h => ?_) (fun h => ?_)
    · skip
      obtain ⟨x33, σ31, hc32, h⟩ := cI_t h
      refine F_call (frX12_tellsBy o v4.toInt64 a3.toInt64 ho σ hc32) (by decide) ?_
      obtain ⟨hz34, h⟩ := bz_t h
      cases h
      exact F_refl
    · skip
      obtain ⟨σ35, hc36, h⟩ := cV_t h
      refine F_call (frX12_runs o (a2 + v5) ho σ hc36) (by decide) ?_
      obtain ⟨x39, σ37, hc38, h⟩ := cI_t h
      refine F_call (frX12_isRight o a1 ho σ35 hc38) (by decide) ?_
      refine F_if h (fun h => ?_) (fun h => ?_)
      · skip
        exact ih (v4 + (0 : Int32)) (v5 + (1 : Int32)) σ37 h
      · skip
        exact ih (v4 + (1 : Int32)) (v5 + (1 : Int32)) σ37 h
set_option maxRecDepth 100000 in
set_option maxHeartbeats 4000000 in
theorem frX12_odds (o : Nat) (a1 : Int32) (a2 : Int32) (a3 : Int32) (ho : KD o = 12) (σ : Mm) {xr : Int32} {τ : Mm} (h : fX12_odds o a1 a2 a3 σ = some (xr, τ)) : FK [12] σ τ := by
  unfold fX12_odds at h
  obtain ⟨x3, σ1, hc2, h⟩ := cI_t h
  refine F_call (frX12_isVane o a1 ho σ hc2) (by decide) ?_
  refine F_if h (fun h => ?_) (fun h => ?_)
  · skip
    obtain ⟨x6, σ4, hc5, h⟩ := cI_t h
    refine F_call (frX12_is o (1 : Int32) ho σ1 hc5) (by decide) ?_
    obtain ⟨hz7, h⟩ := bz_t h
    cases h
    exact F_refl
  · skip
    obtain ⟨x10, σ8, hc9, h⟩ := cI_t h
    refine F_call (frX12_isFrom a2.toInt64 (0 : Int64) (9999 : Int64) σ1 hc9) (by decide) ?_
    refine F_if h (fun h => ?_) (fun h => ?_)
    · skip
      obtain ⟨x13, σ11, hc12, h⟩ := cI_t h
      refine F_call (frX12_is o (1 : Int32) ho σ8 hc12) (by decide) ?_
      obtain ⟨hz14, h⟩ := bz_t h
      cases h
      exact F_refl
    · skip
      obtain ⟨x17, σ15, hc16, h⟩ := cI_t h
      refine F_call (frX12_isFrom a3.toInt64 (1 : Int64) (20 : Int64) σ8 hc16) (by decide) ?_
      refine F_if h (fun h => ?_) (fun h => ?_)
      · skip
        obtain ⟨x20, σ18, hc19, h⟩ := cI_t h
        refine F_call (frX12_is o (1 : Int32) ho σ15 hc19) (by decide) ?_
        obtain ⟨hz21, h⟩ := bz_t h
        cases h
        exact F_refl
      · skip
        refine F_if h (fun h => ?_) (fun h => ?_)
        · skip
          refine F_gar h (fun x22 h => ?_)
          refine F_ifn h (fun h => ?_) (fun h => ?_)
          · skip
            exact ftX12_odds_73 o a1 a2 a3 ho FU (0 : Int32) (0 : Int32) σ15 h
          · skip
            obtain ⟨x25, σ23, hc24, h⟩ := cI_t h
            refine F_call (frX12_is o (6 : Int32) ho σ15 hc24) (by decide) ?_
            obtain ⟨hz26, h⟩ := bz_t h
            cases h
            exact F_refl
        · skip
          obtain ⟨x29, σ27, hc28, h⟩ := cI_t h
          refine F_call (frX12_is o (1 : Int32) ho σ15 hc28) (by decide) ?_
          obtain ⟨hz30, h⟩ := bz_t h
          cases h
          exact F_refl
set_option maxRecDepth 100000 in
set_option maxHeartbeats 4000000 in
theorem ftX12_copies_41 {τ : Mm} (o : Nat) (a1 : Int32) (a2 : Int32) (ho : KD o = 12) : ∀ (n : Nat) (v3 : Int32) (σ : Mm), fX12_copies_41 o a1 a2 n v3 σ = some τ → FK [12] σ τ := by
  intro n
  induction n with
  | zero => intro v3 σ h; rw [fX12_copies_41] at h; cases h
  | succ n ih =>
    intro v3 σ h
    rw [fX12_copies_41] at h
    refine F_if h (fun h => ?_) (fun h => ?_)
    · cases h
      exact F_refl
    · skip
      refine F_gla h (fun x3 h => ?_)
      refine F_sla ho (by decide) h (fun σ4 h => ?_)
      exact ih (v3 + (1 : Int32)) σ4 h
set_option maxRecDepth 100000 in
set_option maxHeartbeats 4000000 in
theorem ftX12_copies_2 {τ : Mm} (o : Nat) (a1 : Int32) (a2 : Int32) (ho : KD o = 12) : ∀ (n : Nat) (v3 : Int32) (σ : Mm), fX12_copies_2 o a1 a2 n v3 σ = some τ → FK [12] σ τ := by
  intro n
  induction n with
  | zero => intro v3 σ h; rw [fX12_copies_2] at h; cases h
  | succ n ih =>
    intro v3 σ h
    rw [fX12_copies_2] at h
    refine F_if h (fun h => ?_) (fun h => ?_)
    · skip
      exact ftX12_copies_41 o a1 a2 ho FU (0 : Int32) σ h
    · skip
      refine F_gar h (fun x1 h => ?_)
      refine F_sar ho (by decide) h (fun σ2 h => ?_)
      exact ih (v3 + (1 : Int32)) σ2 h
set_option maxRecDepth 100000 in
set_option maxHeartbeats 4000000 in
theorem frX12_copies (o : Nat) (a1 : Int32) (a2 : Int32) (ho : KD o = 12) (σ : Mm) {τ : Mm} (h : fX12_copies o a1 a2 σ = some τ) : FK [12] σ τ := by
  unfold fX12_copies at h
  exact ftX12_copies_2 o a1 a2 ho FU (0 : Int32) σ h
set_option maxRecDepth 100000 in
set_option maxHeartbeats 4000000 in
theorem frX12_mark (o : Nat) (ho : KD o = 12) (σ : Mm) {xr : Int32} {τ : Mm} (h : fX12_mark o σ = some (xr, τ)) : FK [12] σ τ := by
  unfold fX12_mark at h
  refine F_rsc h (fun x1 h => ?_)
  refine F_ifn h (fun h => ?_) (fun h => ?_)
  · skip
    refine F_rsc h (fun x2 h => ?_)
    refine F_psc ho (by decide) h (fun σ3 h => ?_)
    refine F_rsc h (fun x4 h => ?_)
    obtain ⟨σ5, hc6, h⟩ := cV_t h
    refine F_call (frX12_copies o (0 : Int32) x4 ho σ3 hc6) (by decide) ?_
    refine F_rsc h (fun x7 h => ?_)
    obtain ⟨x10, σ8, hc9, h⟩ := cI_t h
    refine F_call (frX12_gives o x7 ho σ5 hc9) (by decide) ?_
    cases h
    exact F_refl
  · skip
    obtain ⟨x13, σ11, hc12, h⟩ := cI_t h
    refine F_call (frX12_refuse o (4 : Int32) ho σ hc12) (by decide) ?_
    cases h
    exact F_refl
set_option maxRecDepth 100000 in
set_option maxHeartbeats 4000000 in
theorem frX12_back (o : Nat) (ho : KD o = 12) (σ : Mm) {xr : Int32} {τ : Mm} (h : fX12_back o σ = some (xr, τ)) : FK [12] σ τ := by
  unfold fX12_back at h
  refine F_rsc h (fun x1 h => ?_)
  refine F_ifn h (fun h => ?_) (fun h => ?_)
  · skip
    refine F_rsc h (fun x2 h => ?_)
    obtain ⟨σ3, hc4, h⟩ := cV_t h
    refine F_call (frX12_copies o x2 (0 : Int32) ho σ hc4) (by decide) ?_
    refine F_rsc h (fun x5 h => ?_)
    refine F_psc ho (by decide) h (fun σ6 h => ?_)
    refine F_rsc h (fun x7 h => ?_)
    obtain ⟨x10, σ8, hc9, h⟩ := cI_t h
    refine F_call (frX12_gives o x7 ho σ6 hc9) (by decide) ?_
    cases h
    exact F_refl
  · skip
    obtain ⟨x13, σ11, hc12, h⟩ := cI_t h
    refine F_call (frX12_refuse o (6 : Int32) ho σ hc12) (by decide) ?_
    cases h
    exact F_refl
