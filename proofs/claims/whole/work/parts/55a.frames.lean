/-! FRAMES: a block is as it was; all blocks but those of some kinds are -/
def BU (q : Nat) (σ τ : Mm) : Prop := (∀ k, m_sc τ q k = m_sc σ q k) ∧ (∀ k, m_lg τ q k = m_lg σ q k) ∧ (∀ j, m_ar τ q j = m_ar σ q j) ∧ (∀ j, m_la τ q j = m_la σ q j) ∧ ∀ k, m_rf τ q k = m_rf σ q k
theorem BU.rf {q : Nat} {σ : Mm} : BU q σ σ := ⟨fun _ => rfl, fun _ => rfl, fun _ => rfl, fun _ => rfl, fun _ => rfl⟩
theorem BU.tr {q : Nat} {σ τ ω : Mm} (h : BU q σ τ) (h2 : BU q τ ω) : BU q σ ω := ⟨fun k => (h2.1 k).trans (h.1 k), fun k => (h2.2.1 k).trans (h.2.1 k), fun k => (h2.2.2.1 k).trans (h.2.2.1 k), fun k => (h2.2.2.2.1 k).trans (h.2.2.2.1 k), fun k => (h2.2.2.2.2 k).trans (h.2.2.2.2 k)⟩
theorem BU.sc {q o k : Nat} {σ : Mm} {v : Int32} (h : q ≠ o) : BU q σ (w_sc σ o k v) := ⟨fun k' => by simp [m_sc, w_sc, u_2, h], fun _ => rfl, fun _ => rfl, fun _ => rfl, fun _ => rfl⟩
theorem BU.lg {q o k : Nat} {σ : Mm} {v : Int64} (h : q ≠ o) : BU q σ (w_lg σ o k v) := ⟨fun _ => rfl, fun k' => by simp [m_lg, w_lg, u_2, h], fun _ => rfl, fun _ => rfl, fun _ => rfl⟩
theorem BU.af {q o j : Nat} {σ : Mm} {g : Nat → Int32} (h : q ≠ o) : BU q σ (w_af σ o j g) := ⟨fun _ => rfl, fun _ => rfl, fun j' => by simp [m_ar, w_af, u_3, h], fun _ => rfl, fun _ => rfl⟩
theorem BU.lf {q o j : Nat} {σ : Mm} {g : Nat → Int64} (h : q ≠ o) : BU q σ (w_lf σ o j g) := ⟨fun _ => rfl, fun _ => rfl, fun _ => rfl, fun j' => by simp [m_la, w_lf, u_3, h], fun _ => rfl⟩
theorem BU.pr {q o k : Nat} {σ : Mm} {r : Option Nat} (h : q ≠ o) : BU q σ (w_rf σ o k r) := ⟨fun _ => rfl, fun _ => rfl, fun _ => rfl, fun _ => rfl, fun k' => by simp [m_rf, w_rf, u_2, h]⟩
def FK (ks : List Nat) (σ τ : Mm) : Prop := ∀ q, KD q ∉ ks → BU q σ τ
section FR
variable {α : Type} {ρ : α} {σ ω : Mm} {ks : List Nat} {o c k j n : Nat}
theorem FK.ne {q : Nat} (ho : KD o = c) (hc : c ∈ ks) (hq : KD q ∉ ks) : q ≠ o := fun e => hq (by rw [e, ho]; exact hc)
theorem F_refl : FK ks σ σ := fun _ _ => BU.rf
theorem F_tr {τ : Mm} (h : FK ks σ τ) (h2 : FK ks τ ω) : FK ks σ ω := fun q hq => (h q hq).tr (h2 q hq)
theorem F_sub {ks' : List Nat} (h : FK ks' σ ω) (hs : ∀ x ∈ ks', x ∈ ks) : FK ks σ ω := fun q hq => h q (fun z => hq (hs _ z))
theorem F_rsc {K : Int32 → Option α} (h : r_sc σ o k K = some ρ) (kk : ∀ x, K x = some ρ → FK ks σ ω) : FK ks σ ω := kk _ h
theorem F_rlg {K : Int64 → Option α} (h : r_lg σ o k K = some ρ) (kk : ∀ x, K x = some ρ → FK ks σ ω) : FK ks σ ω := kk _ h
theorem F_rrf {K : Nat → Option α} (h : r_rf σ o k c K = some ρ) (kk : ∀ q, KD q = c → K q = some ρ → FK ks σ ω) : FK ks σ ω := by
  unfold r_rf at h
  split at h
  · split at h
    · exact kk _ (by assumption) h
    · cases h
  · cases h
theorem F_psc {v : Int32} {K : Mm → Option α} (ho : KD o = c) (hc : c ∈ ks) (h : p_sc σ o k v K = some ρ) (kk : ∀ τ, K τ = some ρ → FK ks τ ω) : FK ks σ ω := F_tr (fun q hq => BU.sc (FK.ne ho hc hq)) (kk _ h)
theorem F_pbz {v : Int32} {K : Mm → Option α} (ho : KD o = c) (hc : c ∈ ks) (h : p_bz σ o k v K = some ρ) (kk : ∀ τ, K τ = some ρ → FK ks τ ω) : FK ks σ ω := by
  unfold p_bz at h
  split at h
  · exact F_tr (fun q hq => BU.sc (FK.ne ho hc hq)) (kk _ h)
  · cases h
theorem F_plg {v : Int64} {K : Mm → Option α} (ho : KD o = c) (hc : c ∈ ks) (h : p_lg σ o k v K = some ρ) (kk : ∀ τ, K τ = some ρ → FK ks τ ω) : FK ks σ ω := F_tr (fun q hq => BU.lg (FK.ne ho hc hq)) (kk _ h)
theorem F_prf {v : Nat} {K : Mm → Option α} (ho : KD o = c) (hc : c ∈ ks) (h : p_rf σ o k v K = some ρ) (kk : ∀ τ, K τ = some ρ → FK ks τ ω) : FK ks σ ω := F_tr (fun q hq => BU.pr (FK.ne ho hc hq)) (kk _ h)
theorem F_gar {i : Int32} {K : Int32 → Option α} (h : g_ar σ o j n i K = some ρ) (kk : ∀ x, K x = some ρ → FK ks σ ω) : FK ks σ ω := by
  unfold g_ar at h
  split at h
  · cases h
  · exact kk _ h
theorem F_gla {i : Int32} {K : Int64 → Option α} (h : g_la σ o j n i K = some ρ) (kk : ∀ x, K x = some ρ → FK ks σ ω) : FK ks σ ω := by
  unfold g_la at h
  split at h
  · cases h
  · exact kk _ h
theorem F_gkw {i : Int32} {K : Int64 → Option α} (h : g_kw i K = some ρ) (kk : ∀ x, K x = some ρ → FK ks σ ω) : FK ks σ ω := by
  unfold g_kw at h
  split at h
  · cases h
  · exact kk _ h
theorem F_gky {i : Int32} {K : Int32 → Option α} (h : g_ky i K = some ρ) (kk : ∀ x, K x = some ρ → FK ks σ ω) : FK ks σ ω := by
  unfold g_ky at h
  split at h
  · cases h
  · exact kk _ h
theorem F_gbl {i : Int32} {K : Nat → Option α} (hk : ∀ a, a < n → KD (ra j a) = c) (h : g_bl j n i K = some ρ) (kk : ∀ q, KD q = c → K q = some ρ → FK ks σ ω) : FK ks σ ω := by
  unfold g_bl at h
  split at h
  · cases h
  · rename_i hi
    exact kk _ (hk _ (Nat.not_le.mp fun z => hi (Or.inr z))) h
theorem F_sar {i v : Int32} {K : Mm → Option α} (ho : KD o = c) (hc : c ∈ ks) (h : s_ar σ o j n i v K = some ρ) (kk : ∀ τ, K τ = some ρ → FK ks τ ω) : FK ks σ ω := by
  unfold s_ar at h
  split at h
  · cases h
  · exact F_tr (fun q hq => BU.af (FK.ne ho hc hq)) (kk _ h)
theorem F_sla {i : Int32} {v : Int64} {K : Mm → Option α} (ho : KD o = c) (hc : c ∈ ks) (h : s_la σ o j n i v K = some ρ) (kk : ∀ τ, K τ = some ρ → FK ks τ ω) : FK ks σ ω := by
  unfold s_la at h
  split at h
  · cases h
  · exact F_tr (fun q hq => BU.lf (FK.ne ho hc hq)) (kk _ h)
theorem F_aci {o' j' n1 : Nat} {sp dp m : Int32} {K : Mm → Option α} (ho : KD o' = c) (hc : c ∈ ks) (h : a_ci σ o j n sp o' j' n1 dp m K = some ρ) (kk : ∀ τ, K τ = some ρ → FK ks τ ω) : FK ks σ ω := F_tr (fun q hq => BU.af (FK.ne ho hc hq)) (kk _ (y_ac_t h).2.2.2.2.2)
theorem F_acl {o' j' n1 : Nat} {sp dp m : Int32} {K : Mm → Option α} (ho : KD o' = c) (hc : c ∈ ks) (h : a_cl σ o j n sp o' j' n1 dp m K = some ρ) (kk : ∀ τ, K τ = some ρ → FK ks τ ω) : FK ks σ ω := F_tr (fun q hq => BU.lf (FK.ne ho hc hq)) (kk _ (y_ac_t h).2.2.2.2.2)
theorem F_if {p : Prop} [Decidable p] {A B : Option α} (h : (if p then A else B) = some ρ) (ka : A = some ρ → FK ks σ ω) (kb : B = some ρ → FK ks σ ω) : FK ks σ ω := by
  split at h
  · exact ka h
  · exact kb h
theorem F_ifn {p : Prop} [Decidable p] {A B : Option α} (h : (if p then A else B) = some ρ) (kb : B = some ρ → FK ks σ ω) (ka : A = some ρ → FK ks σ ω) : FK ks σ ω := F_if h ka kb
theorem F_call {ks' : List Nat} {τ : Mm} (h : FK ks' σ τ) (hs : ∀ x ∈ ks', x ∈ ks) (kk : FK ks τ ω) : FK ks σ ω := F_tr (F_sub h hs) kk
end FR
set_option maxRecDepth 100000 in
set_option maxHeartbeats 4000000 in
theorem frX11_has (a1 : Int32) (a2 : Int32) (σ : Mm) {xr : Int32} {τ : Mm} (h : fX11_has a1 a2 σ = some (xr, τ)) : FK [] σ τ := by
  unfold fX11_has at h
  refine F_if h (fun h => ?_) (fun h => ?_)
  · skip
    cases h
    exact F_refl
  · skip
    cases h
    exact F_refl
set_option maxRecDepth 100000 in
set_option maxHeartbeats 4000000 in
theorem frX11_with (a1 : Int32) (a2 : Int32) (a3 : Int32) (σ : Mm) {xr : Int32} {τ : Mm} (h : fX11_with a1 a2 a3 σ = some (xr, τ)) : FK [] σ τ := by
  unfold fX11_with at h
  refine F_if h (fun h => ?_) (fun h => ?_)
  · skip
    cases h
    exact F_refl
  · skip
    cases h
    exact F_refl
set_option maxRecDepth 100000 in
set_option maxHeartbeats 4000000 in
theorem frX0_find (o : Nat) (a1 : Int32) (a2 : Int32) (ho : KD o = 0) (σ : Mm) {τ : Mm} (h : fX0_find o a1 a2 σ = some τ) : FK [0] σ τ := by
  unfold fX0_find at h
  refine F_rsc h (fun x1 h => ?_)
  obtain ⟨x4, σ2, hc3, h⟩ := cI_t h
  refine F_call (frX11_has x1 a1 σ hc3) (by decide) ?_
  refine F_if h (fun h => ?_) (fun h => ?_)
  · skip
    refine F_rsc h (fun x5 h => ?_)
    obtain ⟨x8, σ6, hc7, h⟩ := cI_t h
    refine F_call (frX11_with x5 a1 (1 : Int32) σ2 hc7) (by decide) ?_
    refine F_psc ho (by decide) h (fun σ9 h => ?_)
    refine F_sar ho (by decide) h (fun σ10 h => ?_)
    refine F_rsc h (fun x11 h => ?_)
    refine F_sar ho (by decide) h (fun σ12 h => ?_)
    refine F_rsc h (fun x13 h => ?_)
    refine F_psc ho (by decide) h (fun σ14 h => ?_)
    cases h
    exact F_refl
  · cases h
    exact F_refl
set_option maxRecDepth 100000 in
set_option maxHeartbeats 4000000 in
theorem ftX0_findFrom_2 {τ : Mm} (o : Nat) (a1 : Int32) (ho : KD o = 0) : ∀ (n : Nat) (v2 : Int32) (σ : Mm), fX0_findFrom_2 o a1 n v2 σ = some τ → FK [0] σ τ := by
  intro n
  induction n with
  | zero => intro v2 σ h; rw [fX0_findFrom_2] at h; cases h
  | succ n ih =>
    intro v2 σ h
    rw [fX0_findFrom_2] at h
    refine F_rrf h (fun q1 hq1 h => ?_)
    refine F_rsc h (fun x2 h => ?_)
    refine F_if h (fun h => ?_) (fun h => ?_)
    · cases h
      exact F_refl
    · skip
      refine F_rsc h (fun x3 h => ?_)
      obtain ⟨x6, σ4, hc5, h⟩ := cI_t h
      refine F_call (frX11_has x3 v2 σ hc5) (by decide) ?_
      refine F_if h (fun h => ?_) (fun h => ?_)
      · skip
        refine F_gar h (fun x7 h => ?_)
        refine F_rrf h (fun q8 hq8 h => ?_)
        refine F_gar h (fun x9 h => ?_)
        refine F_rrf h (fun q10 hq10 h => ?_)
        refine F_gar h (fun x11 h => ?_)
        refine F_ifn h (fun h => ?_) (fun h => ?_)
        · skip
          refine F_rrf h (fun q12 hq12 h => ?_)
          refine F_gar h (fun x13 h => ?_)
          refine F_ifn h (fun h => ?_) (fun h => ?_)
          · skip
            exact ih (v2 + (1 : Int32)) σ4 h
          · skip
            refine F_rrf h (fun q14 hq14 h => ?_)
            refine F_gar h (fun x15 h => ?_)
            obtain ⟨σ16, hc17, h⟩ := cV_t h
            refine F_call (frX0_find o x15 (x7 * x9) ho σ4 hc17) (by decide) ?_
            exact ih (v2 + (1 : Int32)) σ16 h
        · skip
          refine F_rrf h (fun q18 hq18 h => ?_)
          refine F_gar h (fun x19 h => ?_)
          obtain ⟨σ20, hc21, h⟩ := cV_t h
          refine F_call (frX0_find o x19 (x7 * x9) ho σ4 hc21) (by decide) ?_
          exact ih (v2 + (1 : Int32)) σ20 h
      · skip
        exact ih (v2 + (1 : Int32)) σ4 h
set_option maxRecDepth 100000 in
set_option maxHeartbeats 4000000 in
theorem frX0_findFrom (o : Nat) (a1 : Int32) (ho : KD o = 0) (σ : Mm) {τ : Mm} (h : fX0_findFrom o a1 σ = some τ) : FK [0] σ τ := by
  unfold fX0_findFrom at h
  exact ftX0_findFrom_2 o a1 ho FU (0 : Int32) σ h
set_option maxRecDepth 100000 in
set_option maxHeartbeats 4000000 in
theorem ftX0_search_29 {τ : Mm} (o : Nat) (a1 : Nat) (a2 : Int32) (a3 : Int32) (ho : KD o = 0) (ha1 : KD a1 = 2) : ∀ (n : Nat) (v4 : Int32) (σ : Mm), fX0_search_29 o a1 a2 a3 n v4 σ = some τ → FK [0] σ τ := by
  intro n
  induction n with
  | zero => intro v4 σ h; rw [fX0_search_29] at h; cases h
  | succ n ih =>
    intro v4 σ h
    rw [fX0_search_29] at h
    refine F_rsc h (fun x7 h => ?_)
    refine F_if h (fun h => ?_) (fun h => ?_)
    · cases h
      exact F_refl
    · skip
      refine F_gar h (fun x8 h => ?_)
      obtain ⟨σ9, hc10, h⟩ := cV_t h
      refine F_call (frX0_findFrom o x8 ho σ hc10) (by decide) ?_
      exact ih (v4 + (1 : Int32)) σ9 h
set_option maxRecDepth 100000 in
set_option maxHeartbeats 4000000 in
theorem frX0_search (o : Nat) (a1 : Nat) (a2 : Int32) (a3 : Int32) (ho : KD o = 0) (ha1 : KD a1 = 2) (σ : Mm) {τ : Mm} (h : fX0_search o a1 a2 a3 σ = some τ) : FK [0] σ τ := by
  unfold fX0_search at h
  refine F_prf ho (by decide) h (fun σ1 h => ?_)
  refine F_psc ho (by decide) h (fun σ2 h => ?_)
  refine F_psc ho (by decide) h (fun σ3 h => ?_)
  refine F_psc ho (by decide) h (fun σ4 h => ?_)
  obtain ⟨σ5, hc6, h⟩ := cV_t h
  refine F_call (frX0_find o a3 (1 : Int32) ho σ4 hc6) (by decide) ?_
  exact ftX0_search_29 o a1 a2 a3 ho ha1 FU (0 : Int32) σ5 h
set_option maxRecDepth 100000 in
set_option maxHeartbeats 4000000 in
theorem ftX0_turnsBothWays_2 {xr : Int32} {τ : Mm} (o : Nat) (ho : KD o = 0) : ∀ (n : Nat) (v1 : Int32) (σ : Mm), fX0_turnsBothWays_2 o n v1 σ = some (xr, τ) → FK [] σ τ := by
  intro n
  induction n with
  | zero => intro v1 σ h; rw [fX0_turnsBothWays_2] at h; cases h
  | succ n ih =>
    intro v1 σ h
    rw [fX0_turnsBothWays_2] at h
    refine F_rrf h (fun q1 hq1 h => ?_)
    refine F_rsc h (fun x2 h => ?_)
    refine F_if h (fun h => ?_) (fun h => ?_)
    · skip
      cases h
      exact F_refl
    · skip
      refine F_rrf h (fun q3 hq3 h => ?_)
      refine F_gar h (fun x4 h => ?_)
      refine F_rrf h (fun q5 hq5 h => ?_)
      refine F_gar h (fun x6 h => ?_)
      refine F_rsc h (fun x7 h => ?_)
      obtain ⟨x10, σ8, hc9, h⟩ := cI_t h
      refine F_call (frX11_has x7 v1 σ hc9) (by decide) ?_
      refine F_ifn h (fun h => ?_) (fun h => ?_)
      · skip
        exact ih (v1 + (1 : Int32)) σ8 h
      · skip
        refine F_rsc h (fun x11 h => ?_)
        obtain ⟨x14, σ12, hc13, h⟩ := cI_t h
        refine F_call (frX11_has x11 x4 σ8 hc13) (by decide) ?_
        refine F_if h (fun h => ?_) (fun h => ?_)
        · skip
          exact ih (v1 + (1 : Int32)) σ12 h
        · skip
          refine F_gar h (fun x15 h => ?_)
          refine F_rrf h (fun q16 hq16 h => ?_)
          refine F_gar h (fun x17 h => ?_)
          refine F_gar h (fun x18 h => ?_)
          refine F_if h (fun h => ?_) (fun h => ?_)
          · skip
            exact ih (v1 + (1 : Int32)) σ12 h
          · skip
            cases h
            exact F_refl
set_option maxRecDepth 100000 in
set_option maxHeartbeats 4000000 in
theorem frX0_turnsBothWays (o : Nat) (ho : KD o = 0) (σ : Mm) {xr : Int32} {τ : Mm} (h : fX0_turnsBothWays o σ = some (xr, τ)) : FK [] σ τ := by
  unfold fX0_turnsBothWays at h
  exact ftX0_turnsBothWays_2 o ho FU (0 : Int32) σ h
set_option maxRecDepth 100000 in
set_option maxHeartbeats 4000000 in
theorem ftX0_lockedVanes_8 {xr : Int32} {τ : Mm} (o : Nat) (a1 : Nat) (a2 : Int32) (ho : KD o = 0) (ha1 : KD a1 = 2) : ∀ (n : Nat) (v3 : Int32) (v4 : Int32) (v5 : Int32) (σ : Mm), fX0_lockedVanes_8 o a1 a2 n v3 v4 v5 σ = some (xr, τ) → FK [0] σ τ := by
  intro n
  induction n with
  | zero => intro v3 v4 v5 σ h; rw [fX0_lockedVanes_8] at h; cases h
  | succ n ih =>
    intro v3 v4 v5 σ h
    rw [fX0_lockedVanes_8] at h
    refine F_rsc h (fun x1 h => ?_)
    refine F_if h (fun h => ?_) (fun h => ?_)
    · skip
      cases h
      exact F_refl
    · skip
      obtain ⟨x4, σ2, hc3, h⟩ := cI_t h
      refine F_call (frX11_has v4 v5 σ hc3) (by decide) ?_
      refine F_if h (fun h => ?_) (fun h => ?_)
      · skip
        obtain ⟨σ5, hc6, h⟩ := cV_t h
        refine F_call (frX0_search o a1 a2 v5 ho ha1 σ2 hc6) (by decide) ?_
        refine F_rsc h (fun x7 h => ?_)
        obtain ⟨x10, σ8, hc9, h⟩ := cI_t h
        refine F_call (frX0_turnsBothWays o ho σ5 hc9) (by decide) ?_
        refine F_if h (fun h => ?_) (fun h => ?_)
        · skip
          exact ih v3 (v4 ||| x7) (v5 + (1 : Int32)) σ8 h
        · skip
          refine F_rsc h (fun x11 h => ?_)
          exact ih (v3 ||| x11) (v4 ||| x7) (v5 + (1 : Int32)) σ8 h
      · skip
        exact ih v3 v4 (v5 + (1 : Int32)) σ2 h
set_option maxRecDepth 100000 in
set_option maxHeartbeats 4000000 in
theorem frX0_lockedVanes (o : Nat) (a1 : Nat) (a2 : Int32) (ho : KD o = 0) (ha1 : KD a1 = 2) (σ : Mm) {xr : Int32} {τ : Mm} (h : fX0_lockedVanes o a1 a2 σ = some (xr, τ)) : FK [0] σ τ := by
  unfold fX0_lockedVanes at h
  exact ftX0_lockedVanes_8 o a1 a2 ho ha1 FU (0 : Int32) (0 : Int32) (0 : Int32) σ h
set_option maxRecDepth 100000 in
set_option maxHeartbeats 4000000 in
theorem ftX0_spreadSlack_2 {τ : Mm} (o : Nat) (ho : KD o = 0) : ∀ (n : Nat) (v1 : Int32) (σ : Mm), fX0_spreadSlack_2 o n v1 σ = some τ → FK [0] σ τ := by
  intro n
  induction n with
  | zero => intro v1 σ h; rw [fX0_spreadSlack_2] at h; cases h
  | succ n ih =>
    intro v1 σ h
    rw [fX0_spreadSlack_2] at h
    refine F_rrf h (fun q1 hq1 h => ?_)
    refine F_rsc h (fun x2 h => ?_)
    refine F_if h (fun h => ?_) (fun h => ?_)
    · cases h
      exact F_refl
    · skip
      refine F_rsc h (fun x3 h => ?_)
      obtain ⟨x6, σ4, hc5, h⟩ := cI_t h
      refine F_call (frX11_has x3 v1 σ hc5) (by decide) ?_
      refine F_if h (fun h => ?_) (fun h => ?_)
      · skip
        refine F_rrf h (fun q7 hq7 h => ?_)
        refine F_gar h (fun x8 h => ?_)
        refine F_rrf h (fun q9 hq9 h => ?_)
        refine F_gar h (fun x10 h => ?_)
        refine F_gar h (fun x11 h => ?_)
        refine F_gar h (fun x12 h => ?_)
        refine F_rrf h (fun q13 hq13 h => ?_)
        refine F_gar h (fun x14 h => ?_)
        refine F_sar ho (by decide) h (fun σ15 h => ?_)
        refine F_gar h (fun x16 h => ?_)
        refine F_gar h (fun x17 h => ?_)
        refine F_rrf h (fun q18 hq18 h => ?_)
        refine F_gar h (fun x19 h => ?_)
        refine F_sar ho (by decide) h (fun σ20 h => ?_)
        exact ih (v1 + (1 : Int32)) σ20 h
      · skip
        exact ih (v1 + (1 : Int32)) σ4 h
set_option maxRecDepth 100000 in
set_option maxHeartbeats 4000000 in
theorem frX0_spreadSlack (o : Nat) (ho : KD o = 0) (σ : Mm) {τ : Mm} (h : fX0_spreadSlack o σ = some τ) : FK [0] σ τ := by
  unfold fX0_spreadSlack at h
  exact ftX0_spreadSlack_2 o ho FU (0 : Int32) σ h
set_option maxRecDepth 100000 in
set_option maxHeartbeats 4000000 in
theorem ftX0_leastSlack_63 {xr : Int32} {τ : Mm} (o : Nat) (a1 : Nat) (a2 : Int32) (a3 : Int32) (a4 : Int32) (ho : KD o = 0) (ha1 : KD a1 = 2) (σ : Mm) (h : fX0_leastSlack_63 o a1 a2 a3 a4 σ = some (xr, τ)) : FK [0] σ τ := by
  unfold fX0_leastSlack_63 at h
  refine F_gar h (fun x7 h => ?_)
  refine F_ifn h (fun h => ?_) (fun h => ?_)
  · skip
    refine F_gar h (fun x8 h => ?_)
    cases h
    exact F_refl
  · skip
    cases h
    exact F_refl
set_option maxRecDepth 100000 in
set_option maxHeartbeats 4000000 in
theorem ftX0_leastSlack_46 {xr : Int32} {τ : Mm} (o : Nat) (a1 : Nat) (a2 : Int32) (a3 : Int32) (a4 : Int32) (ho : KD o = 0) (ha1 : KD a1 = 2) : ∀ (n : Nat) (v5 : Int32) (σ : Mm), fX0_leastSlack_46 o a1 a2 a3 a4 n v5 σ = some (xr, τ) → FK [0] σ τ := by
  intro n
  induction n with
  | zero => intro v5 σ h; rw [fX0_leastSlack_46] at h; cases h
  | succ n ih =>
    intro v5 σ h
    rw [fX0_leastSlack_46] at h
    refine F_if h (fun h => ?_) (fun h => ?_)
    · skip
      exact ftX0_leastSlack_63 o a1 a2 a3 a4 ho ha1 σ h
    · skip
      obtain ⟨σ5, hc6, h⟩ := cV_t h
      refine F_call (frX0_spreadSlack o ho σ hc6) (by decide) ?_
      exact ih (v5 + (1 : Int32)) σ5 h
set_option maxRecDepth 100000 in
set_option maxHeartbeats 4000000 in
theorem ftX0_leastSlack_36 {xr : Int32} {τ : Mm} (o : Nat) (a1 : Nat) (a2 : Int32) (a3 : Int32) (a4 : Int32) (ho : KD o = 0) (ha1 : KD a1 = 2) (σ : Mm) (h : fX0_leastSlack_36 o a1 a2 a3 a4 σ = some (xr, τ)) : FK [0] σ τ := by
  unfold fX0_leastSlack_36 at h
  refine F_sar ho (by decide) h (fun σ4 h => ?_)
  exact ftX0_leastSlack_46 o a1 a2 a3 a4 ho ha1 FU (0 : Int32) σ4 h
set_option maxRecDepth 100000 in
set_option maxHeartbeats 4000000 in
theorem ftX0_leastSlack_13 {xr : Int32} {τ : Mm} (o : Nat) (a1 : Nat) (a2 : Int32) (a3 : Int32) (a4 : Int32) (ho : KD o = 0) (ha1 : KD a1 = 2) : ∀ (n : Nat) (v5 : Int32) (σ : Mm), fX0_leastSlack_13 o a1 a2 a3 a4 n v5 σ = some (xr, τ) → FK [0] σ τ := by
  intro n
  induction n with
  | zero => intro v5 σ h; rw [fX0_leastSlack_13] at h; cases h
  | succ n ih =>
    intro v5 σ h
    rw [fX0_leastSlack_13] at h
    refine F_if h (fun h => ?_) (fun h => ?_)
    · skip
      exact ftX0_leastSlack_36 o a1 a2 a3 a4 ho ha1 σ h
    · skip
      refine F_sar ho (by decide) h (fun σ3 h => ?_)
      exact ih (v5 + (1 : Int32)) σ3 h
set_option maxRecDepth 100000 in
set_option maxHeartbeats 4000000 in
theorem frX0_leastSlack (o : Nat) (a1 : Nat) (a2 : Int32) (a3 : Int32) (a4 : Int32) (ho : KD o = 0) (ha1 : KD a1 = 2) (σ : Mm) {xr : Int32} {τ : Mm} (h : fX0_leastSlack o a1 a2 a3 a4 σ = some (xr, τ)) : FK [0] σ τ := by
  unfold fX0_leastSlack at h
  refine F_prf ho (by decide) h (fun σ1 h => ?_)
  refine F_psc ho (by decide) h (fun σ2 h => ?_)
  exact ftX0_leastSlack_13 o a1 a2 a3 a4 ho ha1 FU (0 : Int32) σ2 h
set_option maxRecDepth 100000 in
set_option maxHeartbeats 4000000 in
theorem ftX0_partingShafts_5 {xr : Int32} {τ : Mm} (o : Nat) (a1 : Nat) (a2 : Int32) (ho : KD o = 0) (ha1 : KD a1 = 2) : ∀ (n : Nat) (v3 : Int32) (v4 : Int32) (σ : Mm), fX0_partingShafts_5 o a1 a2 n v3 v4 σ = some (xr, τ) → FK [0] σ τ := by
  intro n
  induction n with
  | zero => intro v3 v4 σ h; rw [fX0_partingShafts_5] at h; cases h
  | succ n ih =>
    intro v3 v4 σ h
    rw [fX0_partingShafts_5] at h
    refine F_rsc h (fun x1 h => ?_)
    refine F_if h (fun h => ?_) (fun h => ?_)
    · skip
      cases h
      exact F_refl
    · skip
      obtain ⟨x4, σ2, hc3, h⟩ := cI_t h
      refine F_call (frX11_has a2 v4 σ hc3) (by decide) ?_
      refine F_if h (fun h => ?_) (fun h => ?_)
      · skip
        obtain ⟨x7, σ5, hc6, h⟩ := cI_t h
        refine F_call (frX11_with a2 v4 (1 : Int32) σ2 hc6) (by decide) ?_
        refine F_gar h (fun x8 h => ?_)
        obtain ⟨σ9, hc10, h⟩ := cV_t h
        refine F_call (frX0_search o a1 x7 x8 ho ha1 σ5 hc10) (by decide) ?_
        refine F_rsc h (fun x11 h => ?_)
        refine F_gar h (fun x12 h => ?_)
        obtain ⟨x15, σ13, hc14, h⟩ := cI_t h
        refine F_call (frX11_has x11 x12 σ9 hc14) (by decide) ?_
        refine F_ifn h (fun h => ?_) (fun h => ?_)
        · skip
          exact ih v3 (v4 + (1 : Int32)) σ13 h
        · skip
          obtain ⟨x18, σ16, hc17, h⟩ := cI_t h
          refine F_call (frX11_with v3 v4 (1 : Int32) σ13 hc17) (by decide) ?_
          exact ih x18 (v4 + (1 : Int32)) σ16 h
      · skip
        exact ih v3 (v4 + (1 : Int32)) σ2 h
set_option maxRecDepth 100000 in
set_option maxHeartbeats 4000000 in
theorem frX0_partingShafts (o : Nat) (a1 : Nat) (a2 : Int32) (ho : KD o = 0) (ha1 : KD a1 = 2) (σ : Mm) {xr : Int32} {τ : Mm} (h : fX0_partingShafts o a1 a2 σ = some (xr, τ)) : FK [0] σ τ := by
  unfold fX0_partingShafts at h
  exact ftX0_partingShafts_5 o a1 a2 ho ha1 FU (0 : Int32) (0 : Int32) σ h
set_option maxRecDepth 100000 in
set_option maxHeartbeats 4000000 in
theorem frX5_clear (o : Nat) (ho : KD o = 5) (σ : Mm) {τ : Mm} (h : fX5_clear o σ = some τ) : FK [5] σ τ := by
  unfold fX5_clear at h
  refine F_pbz ho (by decide) h (fun σ1 h => ?_)
  refine F_psc ho (by decide) h (fun σ2 h => ?_)
  refine F_psc ho (by decide) h (fun σ3 h => ?_)
  cases h
  exact F_refl
set_option maxRecDepth 100000 in
set_option maxHeartbeats 4000000 in
theorem ftX6_scanWord_96 {τ : Mm} (o : Nat) (ho : KD o = 6) : ∀ (n : Nat) (v2 : Int32) (σ : Mm), fX6_scanWord_96 o n v2 σ = some τ → FK [6] σ τ := by
  intro n
  induction n with
  | zero => intro v2 σ h; rw [fX6_scanWord_96] at h; cases h
  | succ n ih =>
    intro v2 σ h
    rw [fX6_scanWord_96] at h
    refine F_if h (fun h => ?_) (fun h => ?_)
    · cases h
      exact F_refl
    · skip
      refine F_gkw h (fun x14 h => ?_)
      refine F_rlg h (fun x15 h => ?_)
      refine F_ifn h (fun h => ?_) (fun h => ?_)
      · skip
        exact ih (v2 + (1 : Int32)) σ h
      · skip
        refine F_psc ho (by decide) h (fun σ16 h => ?_)
        exact ih (v2 + (1 : Int32)) σ16 h
set_option maxRecDepth 100000 in
set_option maxHeartbeats 4000000 in
theorem ftX6_scanWord_65 {τ : Mm} (o : Nat) (ho : KD o = 6) (v1 : Int32) (σ : Mm) (h : fX6_scanWord_65 o v1 σ = some τ) : FK [6] σ τ := by
  unfold fX6_scanWord_65 at h
  refine F_psc ho (by decide) h (fun σ9 h => ?_)
  refine F_psc ho (by decide) h (fun σ10 h => ?_)
  refine F_rsc h (fun x11 h => ?_)
  refine F_rsc h (fun x12 h => ?_)
  refine F_if h (fun h => ?_) (fun h => ?_)
  · skip
    exact ftX6_scanWord_96 o ho FU (0 : Int32) σ10 h
  · skip
    refine F_plg ho (by decide) h (fun σ13 h => ?_)
    exact ftX6_scanWord_96 o ho FU (0 : Int32) σ13 h
set_option maxRecDepth 100000 in
set_option maxHeartbeats 4000000 in
theorem ftX6_scanWord_10 {τ : Mm} (o : Nat) (ho : KD o = 6) : ∀ (n : Nat) (v1 : Int32) (σ : Mm), fX6_scanWord_10 o n v1 σ = some τ → FK [6] σ τ := by
  intro n
  induction n with
  | zero => intro v1 σ h; rw [fX6_scanWord_10] at h; cases h
  | succ n ih =>
    intro v1 σ h
    rw [fX6_scanWord_10] at h
    refine F_rsc h (fun x3 h => ?_)
    refine F_if h (fun h => ?_) (fun h => ?_)
    · skip
      exact ftX6_scanWord_65 o ho v1 σ h
    · skip
      refine F_gar h (fun x4 h => ?_)
      refine F_if h (fun h => ?_) (fun h => ?_)
      · skip
        exact ftX6_scanWord_65 o ho v1 σ h
      · skip
        refine F_gar h (fun x5 h => ?_)
        refine F_if h (fun h => ?_) (fun h => ?_)
        · skip
          exact ftX6_scanWord_65 o ho v1 σ h
        · skip
          refine F_rlg h (fun x6 h => ?_)
          refine F_gar h (fun x7 h => ?_)
          refine F_plg ho (by decide) h (fun σ8 h => ?_)
          exact ih (v1 + (1 : Int32)) σ8 h
set_option maxRecDepth 100000 in
set_option maxHeartbeats 4000000 in
theorem frX6_scanWord (o : Nat) (ho : KD o = 6) (σ : Mm) {τ : Mm} (h : fX6_scanWord o σ = some τ) : FK [6] σ τ := by
  unfold fX6_scanWord at h
  refine F_rsc h (fun x1 h => ?_)
  refine F_plg ho (by decide) h (fun σ2 h => ?_)
  exact ftX6_scanWord_10 o ho FU x1 σ2 h
set_option maxRecDepth 100000 in
set_option maxHeartbeats 4000000 in
theorem ftX6_scanNumber_67 {τ : Mm} (o : Nat) (ho : KD o = 6) (v1 : Int32) (σ : Mm) (h : fX6_scanNumber_67 o v1 σ = some τ) : FK [6] σ τ := by
  unfold fX6_scanNumber_67 at h
  refine F_psc ho (by decide) h (fun σ9 h => ?_)
  refine F_rsc h (fun x10 h => ?_)
  refine F_rsc h (fun x11 h => ?_)
  refine F_if h (fun h => ?_) (fun h => ?_)
  · skip
    refine F_psc ho (by decide) h (fun σ12 h => ?_)
    cases h
    exact F_refl
  · skip
    refine F_psc ho (by decide) h (fun σ13 h => ?_)
    cases h
    exact F_refl
set_option maxRecDepth 100000 in
set_option maxHeartbeats 4000000 in
theorem ftX6_scanNumber_10 {τ : Mm} (o : Nat) (ho : KD o = 6) : ∀ (n : Nat) (v1 : Int32) (σ : Mm), fX6_scanNumber_10 o n v1 σ = some τ → FK [6] σ τ := by
  intro n
  induction n with
  | zero => intro v1 σ h; rw [fX6_scanNumber_10] at h; cases h
  | succ n ih =>
    intro v1 σ h
    rw [fX6_scanNumber_10] at h
    refine F_rsc h (fun x3 h => ?_)
    refine F_if h (fun h => ?_) (fun h => ?_)
    · skip
      exact ftX6_scanNumber_67 o ho v1 σ h
    · skip
      refine F_gar h (fun x4 h => ?_)
      refine F_if h (fun h => ?_) (fun h => ?_)
      · skip
        exact ftX6_scanNumber_67 o ho v1 σ h
      · skip
        refine F_gar h (fun x5 h => ?_)
        refine F_if h (fun h => ?_) (fun h => ?_)
        · skip
          exact ftX6_scanNumber_67 o ho v1 σ h
        · skip
          refine F_rsc h (fun x6 h => ?_)
          refine F_gar h (fun x7 h => ?_)
          refine F_psc ho (by decide) h (fun σ8 h => ?_)
          exact ih (v1 + (1 : Int32)) σ8 h
set_option maxRecDepth 100000 in
set_option maxHeartbeats 4000000 in
theorem frX6_scanNumber (o : Nat) (ho : KD o = 6) (σ : Mm) {τ : Mm} (h : fX6_scanNumber o σ = some τ) : FK [6] σ τ := by
  unfold fX6_scanNumber at h
  refine F_rsc h (fun x1 h => ?_)
  refine F_psc ho (by decide) h (fun σ2 h => ?_)
  exact ftX6_scanNumber_10 o ho FU x1 σ2 h
set_option maxRecDepth 100000 in
set_option maxHeartbeats 4000000 in
theorem frX6_isSign (a1 : Int32) (σ : Mm) {xr : Int32} {τ : Mm} (h : fX6_isSign a1 σ = some (xr, τ)) : FK [] σ τ := by
  unfold fX6_isSign at h
  refine F_if h (fun h => ?_) (fun h => ?_)
  · skip
    cases h
    exact F_refl
  · skip
    refine F_if h (fun h => ?_) (fun h => ?_)
    · skip
      cases h
      exact F_refl
    · skip
      refine F_if h (fun h => ?_) (fun h => ?_)
      · skip
        cases h
        exact F_refl
      · skip
        refine F_ifn h (fun h => ?_) (fun h => ?_)
        · skip
          cases h
          exact F_refl
        · skip
          cases h
          exact F_refl
set_option maxRecDepth 100000 in
set_option maxHeartbeats 4000000 in
theorem ftX6_advance_133 {τ : Mm} (o : Nat) (ho : KD o = 6) (v1 : Int32) (σ : Mm) (h : fX6_advance_133 o v1 σ = some τ) : FK [6] σ τ := by
  unfold fX6_advance_133 at h
  refine F_gar h (fun x23 h => ?_)
  refine F_psc ho (by decide) h (fun σ24 h => ?_)
  refine F_rsc h (fun x25 h => ?_)
  obtain ⟨x28, σ26, hc27, h⟩ := cI_t h
  refine F_call (frX6_isSign x25 σ24 hc27) (by decide) ?_
  refine F_if h (fun h => ?_) (fun h => ?_)
  · skip
    refine F_psc ho (by decide) h (fun σ29 h => ?_)
    refine F_psc ho (by decide) h (fun σ30 h => ?_)
    cases h
    exact F_refl
  · skip
    refine F_psc ho (by decide) h (fun σ31 h => ?_)
    refine F_psc ho (by decide) h (fun σ32 h => ?_)
    cases h
    exact F_refl
set_option maxRecDepth 100000 in
set_option maxHeartbeats 4000000 in
theorem ftX6_advance_41 {τ : Mm} (o : Nat) (ho : KD o = 6) (v1 : Int32) (σ : Mm) (h : fX6_advance_41 o v1 σ = some τ) : FK [6] σ τ := by
  unfold fX6_advance_41 at h
  refine F_psc ho (by decide) h (fun σ5 h => ?_)
  refine F_psc ho (by decide) h (fun σ6 h => ?_)
  refine F_rsc h (fun x7 h => ?_)
  refine F_if h (fun h => ?_) (fun h => ?_)
  · skip
    refine F_gar h (fun x8 h => ?_)
    refine F_if h (fun h => ?_) (fun h => ?_)
    · skip
      refine F_gar h (fun x9 h => ?_)
      refine F_if h (fun h => ?_) (fun h => ?_)
      · skip
        exact ftX6_advance_133 o ho v1 σ6 h
      · skip
        refine F_gar h (fun x10 h => ?_)
        refine F_if h (fun h => ?_) (fun h => ?_)
        · skip
          exact ftX6_advance_133 o ho v1 σ6 h
        · skip
          obtain ⟨σ11, hc12, h⟩ := cV_t h
          refine F_call (frX6_scanNumber o ho σ6 hc12) (by decide) ?_
          cases h
          exact F_refl
    · skip
      refine F_gar h (fun x13 h => ?_)
      refine F_if h (fun h => ?_) (fun h => ?_)
      · skip
        refine F_gar h (fun x14 h => ?_)
        refine F_if h (fun h => ?_) (fun h => ?_)
        · skip
          exact ftX6_advance_133 o ho v1 σ6 h
        · skip
          refine F_gar h (fun x15 h => ?_)
          refine F_if h (fun h => ?_) (fun h => ?_)
          · skip
            exact ftX6_advance_133 o ho v1 σ6 h
          · skip
            obtain ⟨σ16, hc17, h⟩ := cV_t h
            refine F_call (frX6_scanNumber o ho σ6 hc17) (by decide) ?_
            cases h
            exact F_refl
      · skip
        obtain ⟨σ18, hc19, h⟩ := cV_t h
        refine F_call (frX6_scanWord o ho σ6 hc19) (by decide) ?_
        cases h
        exact F_refl
  · skip
    refine F_psc ho (by decide) h (fun σ20 h => ?_)
    refine F_rsc h (fun x21 h => ?_)
    refine F_psc ho (by decide) h (fun σ22 h => ?_)
    cases h
    exact F_refl
set_option maxRecDepth 100000 in
set_option maxHeartbeats 4000000 in
theorem ftX6_advance_5 {τ : Mm} (o : Nat) (ho : KD o = 6) : ∀ (n : Nat) (v1 : Int32) (σ : Mm), fX6_advance_5 o n v1 σ = some τ → FK [6] σ τ := by
  intro n
  induction n with
  | zero => intro v1 σ h; rw [fX6_advance_5] at h; cases h
  | succ n ih =>
    intro v1 σ h
    rw [fX6_advance_5] at h
    refine F_rsc h (fun x2 h => ?_)
    refine F_if h (fun h => ?_) (fun h => ?_)
    · skip
      exact ftX6_advance_41 o ho v1 σ h
    · skip
      refine F_gar h (fun x3 h => ?_)
      refine F_if h (fun h => ?_) (fun h => ?_)
      · skip
        exact ih (v1 + (1 : Int32)) σ h
      · skip
        refine F_gar h (fun x4 h => ?_)
        refine F_ifn h (fun h => ?_) (fun h => ?_)
        · skip
          exact ftX6_advance_41 o ho v1 σ h
        · skip
          exact ih (v1 + (1 : Int32)) σ h
set_option maxRecDepth 100000 in
set_option maxHeartbeats 4000000 in
theorem frX6_advance (o : Nat) (ho : KD o = 6) (σ : Mm) {τ : Mm} (h : fX6_advance o σ = some τ) : FK [6] σ τ := by
  unfold fX6_advance at h
  refine F_rsc h (fun x1 h => ?_)
  exact ftX6_advance_5 o ho FU x1 σ h
set_option maxRecDepth 100000 in
set_option maxHeartbeats 4000000 in
theorem frX6_refuse (o : Nat) (a1 : Int32) (ho : KD o = 6) (σ : Mm) {xr : Int32} {τ : Mm} (h : fX6_refuse o a1 σ = some (xr, τ)) : FK [6] σ τ := by
  unfold fX6_refuse at h
  refine F_psc ho (by decide) h (fun σ1 h => ?_)
  refine F_rsc h (fun x2 h => ?_)
  refine F_psc ho (by decide) h (fun σ3 h => ?_)
  cases h
  exact F_refl
set_option maxRecDepth 100000 in
set_option maxHeartbeats 4000000 in
theorem frX6_refuseToken (o : Nat) (ho : KD o = 6) (σ : Mm) {xr : Int32} {τ : Mm} (h : fX6_refuseToken o σ = some (xr, τ)) : FK [6] σ τ := by
  unfold fX6_refuseToken at h
  refine F_rsc h (fun x1 h => ?_)
  refine F_ifn h (fun h => ?_) (fun h => ?_)
  · skip
    obtain ⟨x4, σ2, hc3, h⟩ := cI_t h
    refine F_call (frX6_refuse o (2 : Int32) ho σ hc3) (by decide) ?_
    obtain ⟨hz5, h⟩ := bz_t h
    cases h
    exact F_refl
  · skip
    obtain ⟨x8, σ6, hc7, h⟩ := cI_t h
    refine F_call (frX6_refuse o (1 : Int32) ho σ hc7) (by decide) ?_
    obtain ⟨hz9, h⟩ := bz_t h
    cases h
    exact F_refl
set_option maxRecDepth 100000 in
set_option maxHeartbeats 4000000 in
theorem frX6_takeSemicolon (o : Nat) (ho : KD o = 6) (σ : Mm) {xr : Int32} {τ : Mm} (h : fX6_takeSemicolon o σ = some (xr, τ)) : FK [6] σ τ := by
  unfold fX6_takeSemicolon at h
  refine F_rsc h (fun x1 h => ?_)
  refine F_ifn h (fun h => ?_) (fun h => ?_)
  · skip
    obtain ⟨x4, σ2, hc3, h⟩ := cI_t h
    refine F_call (frX6_refuseToken o ho σ hc3) (by decide) ?_
    obtain ⟨hz5, h⟩ := bz_t h
    cases h
    exact F_refl
  · skip
    refine F_rsc h (fun x6 h => ?_)
    refine F_if h (fun h => ?_) (fun h => ?_)
    · skip
      obtain ⟨σ7, hc8, h⟩ := cV_t h
      refine F_call (frX6_advance o ho σ hc8) (by decide) ?_
      cases h
      exact F_refl
    · skip
      obtain ⟨x11, σ9, hc10, h⟩ := cI_t h
      refine F_call (frX6_refuseToken o ho σ hc10) (by decide) ?_
      obtain ⟨hz12, h⟩ := bz_t h
      cases h
      exact F_refl
set_option maxRecDepth 100000 in
set_option maxHeartbeats 4000000 in
theorem frX1_addRow (o : Nat) (a1 : Int32) (ho : KD o = 1) (σ : Mm) {τ : Mm} (h : fX1_addRow o a1 σ = some τ) : FK [5] σ τ := by
  unfold fX1_addRow at h
  refine F_rrf h (fun q1 hq1 h => ?_)
  refine F_rrf h (fun q2 hq2 h => ?_)
  refine F_rsc h (fun x3 h => ?_)
  refine F_sar hq1 (by decide) h (fun σ4 h => ?_)
  refine F_rrf h (fun q5 hq5 h => ?_)
  refine F_rsc h (fun x6 h => ?_)
  refine F_psc hq5 (by decide) h (fun σ7 h => ?_)
  cases h
  exact F_refl
set_option maxRecDepth 100000 in
set_option maxHeartbeats 4000000 in
theorem frX1_readEnd (o : Nat) (ho : KD o = 1) (σ : Mm) {xr : Int32} {τ : Mm} (h : fX1_readEnd o σ = some (xr, τ)) : FK [1, 5, 6] σ τ := by
  unfold fX1_readEnd at h
  refine F_rrf h (fun q1 hq1 h => ?_)
  obtain ⟨σ2, hc3, h⟩ := cV_t h
  refine F_call (frX6_advance q1 hq1 σ hc3) (by decide) ?_
  refine F_rrf h (fun q4 hq4 h => ?_)
  obtain ⟨x7, σ5, hc6, h⟩ := cI_t h
  refine F_call (frX6_takeSemicolon q4 hq4 σ2 hc6) (by decide) ?_
  refine F_ifn h (fun h => ?_) (fun h => ?_)
  · skip
    refine F_rsc h (fun x8 h => ?_)
    refine F_psc ho (by decide) h (fun σ9 h => ?_)
    refine F_rsc h (fun x10 h => ?_)
    refine F_gar h (fun x11 h => ?_)
    refine F_rrf h (fun q12 hq12 h => ?_)
    refine F_rrf h (fun q13 hq13 h => ?_)
    refine F_rsc h (fun x14 h => ?_)
    refine F_sar hq12 (by decide) h (fun σ15 h => ?_)
    refine F_rrf h (fun q16 hq16 h => ?_)
    refine F_rrf h (fun q17 hq17 h => ?_)
    refine F_rsc h (fun x18 h => ?_)
    refine F_sar hq16 (by decide) h (fun σ19 h => ?_)
    obtain ⟨σ20, hc21, h⟩ := cV_t h
    refine F_call (frX1_addRow o (21 : Int32) ho σ19 hc21) (by decide) ?_
    cases h
    exact F_refl
  · skip
    cases h
    exact F_refl
set_option maxRecDepth 100000 in
set_option maxHeartbeats 4000000 in
theorem frX1_isStep (a1 : Int32) (σ : Mm) {xr : Int32} {τ : Mm} (h : fX1_isStep a1 σ = some (xr, τ)) : FK [] σ τ := by
  unfold fX1_isStep at h
  by_cases hs1 : a1 = (10 : Int32)
  · rw [if_pos hs1] at h
    cases h
    exact F_refl
  rw [if_neg hs1] at h
  by_cases hs2 : a1 = (11 : Int32)
  · rw [if_pos hs2] at h
    cases h
    exact F_refl
  rw [if_neg hs2] at h
  by_cases hs3 : a1 = (12 : Int32)
  · rw [if_pos hs3] at h
    cases h
    exact F_refl
  rw [if_neg hs3] at h
  by_cases hs4 : a1 = (13 : Int32)
  · rw [if_pos hs4] at h
    cases h
    exact F_refl
  rw [if_neg hs4] at h
  by_cases hs5 : a1 = (14 : Int32)
  · rw [if_pos hs5] at h
    cases h
    exact F_refl
  rw [if_neg hs5] at h
  by_cases hs6 : a1 = (15 : Int32)
  · rw [if_pos hs6] at h
    cases h
    exact F_refl
  rw [if_neg hs6] at h
  by_cases hs7 : a1 = (16 : Int32)
  · rw [if_pos hs7] at h
    cases h
    exact F_refl
  rw [if_neg hs7] at h
  by_cases hs8 : a1 = (17 : Int32)
  · rw [if_pos hs8] at h
    cases h
    exact F_refl
  rw [if_neg hs8] at h
  by_cases hs9 : a1 = (18 : Int32)
  · rw [if_pos hs9] at h
    cases h
    exact F_refl
  rw [if_neg hs9] at h
  by_cases hs10 : a1 = (20 : Int32)
  · rw [if_pos hs10] at h
    cases h
    exact F_refl
  rw [if_neg hs10] at h
  by_cases hs11 : a1 = (22 : Int32)
  · rw [if_pos hs11] at h
    cases h
    exact F_refl
  rw [if_neg hs11] at h
  cases h
  exact F_refl
set_option maxRecDepth 100000 in
set_option maxHeartbeats 4000000 in
theorem frX6_seesName (o : Nat) (ho : KD o = 6) (σ : Mm) {xr : Int32} {τ : Mm} (h : fX6_seesName o σ = some (xr, τ)) : FK [6] σ τ := by
  unfold fX6_seesName at h
  refine F_rsc h (fun x1 h => ?_)
  refine F_ifn h (fun h => ?_) (fun h => ?_)
  · skip
    obtain ⟨x4, σ2, hc3, h⟩ := cI_t h
    refine F_call (frX6_refuseToken o ho σ hc3) (by decide) ?_
    obtain ⟨hz5, h⟩ := bz_t h
    cases h
    exact F_refl
  · skip
    refine F_rlg h (fun x6 h => ?_)
    refine F_if h (fun h => ?_) (fun h => ?_)
    · skip
      obtain ⟨x9, σ7, hc8, h⟩ := cI_t h
      refine F_call (frX6_refuseToken o ho σ hc8) (by decide) ?_
      obtain ⟨hz10, h⟩ := bz_t h
      cases h
      exact F_refl
    · skip
      refine F_rsc h (fun x11 h => ?_)
      refine F_if h (fun h => ?_) (fun h => ?_)
      · skip
        cases h
        exact F_refl
      · skip
        obtain ⟨x14, σ12, hc13, h⟩ := cI_t h
        refine F_call (frX6_refuseToken o ho σ hc13) (by decide) ?_
        obtain ⟨hz15, h⟩ := bz_t h
        cases h
        exact F_refl
set_option maxRecDepth 100000 in
set_option maxHeartbeats 4000000 in
theorem ftX2_indexIn_3 {xr : Int32} {τ : Mm} (a1 : Nat) (a1j : Nat) (a1n : Nat) (a2 : Int32) (a3 : Int64) (ha1 : KD a1 = 2) (hca1 : 2 < 13 ∧ a1j < nA 2 ∧ at_ 2 a1j = (2, a1n)) : ∀ (n : Nat) (v4 : Int32) (σ : Mm), fX2_indexIn_3 a1 a1j a1n a2 a3 n v4 σ = some (xr, τ) → FK [] σ τ := by
  intro n
  induction n with
  | zero => intro v4 σ h; rw [fX2_indexIn_3] at h; cases h
  | succ n ih =>
    intro v4 σ h
    rw [fX2_indexIn_3] at h
    refine F_if h (fun h => ?_) (fun h => ?_)
    · skip
      cases h
      exact F_refl
    · skip
      refine F_gla h (fun x1 h => ?_)
      refine F_ifn h (fun h => ?_) (fun h => ?_)
      · skip
        exact ih (v4 + (1 : Int32)) σ h
      · skip
        cases h
        exact F_refl
set_option maxRecDepth 100000 in
set_option maxHeartbeats 4000000 in
theorem frX2_indexIn (a1 : Nat) (a1j : Nat) (a1n : Nat) (a2 : Int32) (a3 : Int64) (ha1 : KD a1 = 2) (hca1 : 2 < 13 ∧ a1j < nA 2 ∧ at_ 2 a1j = (2, a1n)) (σ : Mm) {xr : Int32} {τ : Mm} (h : fX2_indexIn a1 a1j a1n a2 a3 σ = some (xr, τ)) : FK [] σ τ := by
  unfold fX2_indexIn at h
  exact ftX2_indexIn_3 a1 a1j a1n a2 a3 ha1 hca1 FU (0 : Int32) σ h
set_option maxRecDepth 100000 in
set_option maxHeartbeats 4000000 in
theorem frX2_vaneNamed (o : Nat) (a1 : Int64) (ho : KD o = 2) (σ : Mm) {xr : Int32} {τ : Mm} (h : fX2_vaneNamed o a1 σ = some (xr, τ)) : FK [] σ τ := by
  unfold fX2_vaneNamed at h
  refine F_rsc h (fun x1 h => ?_)
  obtain ⟨x4, σ2, hc3, h⟩ := cI_t h
  refine F_call (frX2_indexIn o 1 8 x1 a1 ho ha2_1 σ hc3) (by decide) ?_
  cases h
  exact F_refl
set_option maxRecDepth 100000 in
set_option maxHeartbeats 4000000 in
theorem frX6_takeThing (o : Nat) (a1 : Int32) (ho : KD o = 6) (σ : Mm) {xr : Int32} {τ : Mm} (h : fX6_takeThing o a1 σ = some (xr, τ)) : FK [6] σ τ := by
  unfold fX6_takeThing at h
  refine F_ifn h (fun h => ?_) (fun h => ?_)
  · skip
    refine F_psc ho (by decide) h (fun σ1 h => ?_)
    obtain ⟨σ2, hc3, h⟩ := cV_t h
    refine F_call (frX6_advance o ho σ1 hc3) (by decide) ?_
    cases h
    exact F_refl
  · skip
    obtain ⟨x6, σ4, hc5, h⟩ := cI_t h
    refine F_call (frX6_refuse o (3 : Int32) ho σ hc5) (by decide) ?_
    obtain ⟨hz7, h⟩ := bz_t h
    cases h
    exact F_refl
set_option maxRecDepth 100000 in
set_option maxHeartbeats 4000000 in
theorem frX6_takeVane (o : Nat) (a1 : Nat) (ho : KD o = 6) (ha1 : KD a1 = 2) (σ : Mm) {xr : Int32} {τ : Mm} (h : fX6_takeVane o a1 σ = some (xr, τ)) : FK [6] σ τ := by
  unfold fX6_takeVane at h
  obtain ⟨x3, σ1, hc2, h⟩ := cI_t h
  refine F_call (frX6_seesName o ho σ hc2) (by decide) ?_
  refine F_if h (fun h => ?_) (fun h => ?_)
  · skip
    cases h
    exact F_refl
  · skip
    refine F_rlg h (fun x4 h => ?_)
    obtain ⟨x7, σ5, hc6, h⟩ := cI_t h
    refine F_call (frX2_vaneNamed a1 x4 ha1 σ1 hc6) (by decide) ?_
    obtain ⟨x10, σ8, hc9, h⟩ := cI_t h
    refine F_call (frX6_takeThing o x7 ho σ5 hc9) (by decide) ?_
    refine F_if h (fun h => ?_) (fun h => ?_)
    · skip
      cases h
      exact F_refl
    · skip
      cases h
      exact F_refl
set_option maxRecDepth 100000 in
set_option maxHeartbeats 4000000 in
theorem frX1_keepWhat (o : Nat) (a1 : Int32) (ho : KD o = 1) (σ : Mm) {xr : Int32} {τ : Mm} (h : fX1_keepWhat o a1 σ = some (xr, τ)) : FK [5] σ τ := by
  unfold fX1_keepWhat at h
  refine F_rrf h (fun q1 hq1 h => ?_)
  refine F_rrf h (fun q2 hq2 h => ?_)
  refine F_rsc h (fun x3 h => ?_)
  refine F_sar hq1 (by decide) h (fun σ4 h => ?_)
  cases h
  exact F_refl
set_option maxRecDepth 100000 in
set_option maxHeartbeats 4000000 in
theorem frX6_takeKeyword (o : Nat) (a1 : Int32) (ho : KD o = 6) (σ : Mm) {xr : Int32} {τ : Mm} (h : fX6_takeKeyword o a1 σ = some (xr, τ)) : FK [6] σ τ := by
  unfold fX6_takeKeyword at h
  refine F_rsc h (fun x1 h => ?_)
  refine F_if h (fun h => ?_) (fun h => ?_)
  · skip
    obtain ⟨σ2, hc3, h⟩ := cV_t h
    refine F_call (frX6_advance o ho σ hc3) (by decide) ?_
    cases h
    exact F_refl
  · skip
    obtain ⟨x6, σ4, hc5, h⟩ := cI_t h
    refine F_call (frX6_refuseToken o ho σ hc5) (by decide) ?_
    obtain ⟨hz7, h⟩ := bz_t h
    cases h
    exact F_refl
set_option maxRecDepth 100000 in
set_option maxHeartbeats 4000000 in
theorem frX6_takeCompare (o : Nat) (ho : KD o = 6) (σ : Mm) {xr : Int32} {τ : Mm} (h : fX6_takeCompare o σ = some (xr, τ)) : FK [6] σ τ := by
  unfold fX6_takeCompare at h
  refine F_rsc h (fun x1 h => ?_)
  refine F_ifn h (fun h => ?_) (fun h => ?_)
  · skip
    obtain ⟨x4, σ2, hc3, h⟩ := cI_t h
    refine F_call (frX6_refuseToken o ho σ hc3) (by decide) ?_
    obtain ⟨hz5, h⟩ := bz_t h
    cases h
    exact F_refl
  · skip
    refine F_rsc h (fun x6 h => ?_)
    refine F_ifn h (fun h => ?_) (fun h => ?_)
    · skip
      refine F_rsc h (fun x7 h => ?_)
      refine F_psc ho (by decide) h (fun σ8 h => ?_)
      obtain ⟨σ9, hc10, h⟩ := cV_t h
      refine F_call (frX6_advance o ho σ8 hc10) (by decide) ?_
      cases h
      exact F_refl
    · skip
      obtain ⟨x13, σ11, hc12, h⟩ := cI_t h
      refine F_call (frX6_refuseToken o ho σ hc12) (by decide) ?_
      obtain ⟨hz14, h⟩ := bz_t h
      cases h
      exact F_refl
set_option maxRecDepth 100000 in
set_option maxHeartbeats 4000000 in
theorem frX1_keepHow (o : Nat) (a1 : Int32) (ho : KD o = 1) (σ : Mm) {xr : Int32} {τ : Mm} (h : fX1_keepHow o a1 σ = some (xr, τ)) : FK [5] σ τ := by
  unfold fX1_keepHow at h
  refine F_rrf h (fun q1 hq1 h => ?_)
  refine F_rrf h (fun q2 hq2 h => ?_)
  refine F_rsc h (fun x3 h => ?_)
  refine F_sar hq1 (by decide) h (fun σ4 h => ?_)
  cases h
  exact F_refl
set_option maxRecDepth 100000 in
set_option maxHeartbeats 4000000 in
theorem frX6_takeNumber (o : Nat) (a1 : Int32) (a2 : Int32) (ho : KD o = 6) (σ : Mm) {xr : Int32} {τ : Mm} (h : fX6_takeNumber o a1 a2 σ = some (xr, τ)) : FK [6] σ τ := by
  unfold fX6_takeNumber at h
  refine F_rsc h (fun x1 h => ?_)
  refine F_if h (fun h => ?_) (fun h => ?_)
  · skip
    refine F_rsc h (fun x2 h => ?_)
    refine F_if h (fun h => ?_) (fun h => ?_)
    · skip
      obtain ⟨x5, σ3, hc4, h⟩ := cI_t h
      refine F_call (frX6_refuse o (4 : Int32) ho σ hc4) (by decide) ?_
      obtain ⟨hz6, h⟩ := bz_t h
      cases h
      exact F_refl
    · skip
      refine F_rsc h (fun x7 h => ?_)
      refine F_if h (fun h => ?_) (fun h => ?_)
      · skip
        refine F_rsc h (fun x8 h => ?_)
        refine F_psc ho (by decide) h (fun σ9 h => ?_)
        obtain ⟨σ10, hc11, h⟩ := cV_t h
        refine F_call (frX6_advance o ho σ9 hc11) (by decide) ?_
        cases h
        exact F_refl
      · skip
        obtain ⟨x14, σ12, hc13, h⟩ := cI_t h
        refine F_call (frX6_refuse o (4 : Int32) ho σ hc13) (by decide) ?_
        obtain ⟨hz15, h⟩ := bz_t h
        cases h
        exact F_refl
  · skip
    obtain ⟨x18, σ16, hc17, h⟩ := cI_t h
    refine F_call (frX6_refuseToken o ho σ hc17) (by decide) ?_
    obtain ⟨hz19, h⟩ := bz_t h
    cases h
    exact F_refl
set_option maxRecDepth 100000 in
set_option maxHeartbeats 4000000 in
theorem frX1_keepMuch (o : Nat) (a1 : Int32) (ho : KD o = 1) (σ : Mm) {xr : Int32} {τ : Mm} (h : fX1_keepMuch o a1 σ = some (xr, τ)) : FK [5] σ τ := by
  unfold fX1_keepMuch at h
  refine F_rrf h (fun q1 hq1 h => ?_)
  refine F_rrf h (fun q2 hq2 h => ?_)
  refine F_rsc h (fun x3 h => ?_)
  refine F_sar hq1 (by decide) h (fun σ4 h => ?_)
  cases h
  exact F_refl
set_option maxRecDepth 100000 in
set_option maxHeartbeats 4000000 in
theorem frX1_readTest (o : Nat) (a1 : Int32) (ho : KD o = 1) (σ : Mm) {xr : Int32} {τ : Mm} (h : fX1_readTest o a1 σ = some (xr, τ)) : FK [5, 6] σ τ := by
  unfold fX1_readTest at h
  refine F_rrf h (fun q1 hq1 h => ?_)
  refine F_rsc h (fun x2 h => ?_)
  refine F_ifn h (fun h => ?_) (fun h => ?_)
  · skip
    refine F_rrf h (fun q3 hq3 h => ?_)
    obtain ⟨x6, σ4, hc5, h⟩ := cI_t h
    refine F_call (frX6_takeKeyword q3 (5 : Int32) hq3 σ hc5) (by decide) ?_
    refine F_if h (fun h => ?_) (fun h => ?_)
    · skip
      cases h
      exact F_refl
    · skip
      refine F_rrf h (fun q7 hq7 h => ?_)
      refine F_rrf h (fun q8 hq8 h => ?_)
      obtain ⟨x11, σ9, hc10, h⟩ := cI_t h
      refine F_call (frX6_takeVane q7 q8 hq7 hq8 σ4 hc10) (by decide) ?_
      refine F_if h (fun h => ?_) (fun h => ?_)
      · skip
        cases h
        exact F_refl
      · skip
        obtain ⟨x14, σ12, hc13, h⟩ := cI_t h
        refine F_call (frX1_keepWhat o a1 ho σ9 hc13) (by decide) ?_
        refine F_if h (fun h => ?_) (fun h => ?_)
        · skip
          cases h
          exact F_refl
        · skip
          refine F_rrf h (fun q15 hq15 h => ?_)
          obtain ⟨x18, σ16, hc17, h⟩ := cI_t h
          refine F_call (frX6_takeCompare q15 hq15 σ12 hc17) (by decide) ?_
          refine F_if h (fun h => ?_) (fun h => ?_)
          · skip
            cases h
            exact F_refl
          · skip
            obtain ⟨x21, σ19, hc20, h⟩ := cI_t h
            refine F_call (frX1_keepHow o a1 ho σ16 hc20) (by decide) ?_
            refine F_if h (fun h => ?_) (fun h => ?_)
            · skip
              cases h
              exact F_refl
            · skip
              refine F_rrf h (fun q22 hq22 h => ?_)
              obtain ⟨x25, σ23, hc24, h⟩ := cI_t h
              refine F_call (frX6_takeNumber q22 (0 : Int32) (60 : Int32) hq22 σ19 hc24) (by decide) ?_
              refine F_if h (fun h => ?_) (fun h => ?_)
              · skip
                cases h
                exact F_refl
              · skip
                obtain ⟨x28, σ26, hc27, h⟩ := cI_t h
                refine F_call (frX1_keepMuch o a1 ho σ23 hc27) (by decide) ?_
                refine F_if h (fun h => ?_) (fun h => ?_)
                · skip
                  cases h
                  exact F_refl
                · skip
                  cases h
                  exact F_refl
  · skip
    refine F_rrf h (fun q29 hq29 h => ?_)
    refine F_sar hq29 (by decide) h (fun σ30 h => ?_)
    refine F_rrf h (fun q31 hq31 h => ?_)
    obtain ⟨σ32, hc33, h⟩ := cV_t h
    refine F_call (frX6_advance q31 hq31 σ30 hc33) (by decide) ?_
    refine F_rrf h (fun q34 hq34 h => ?_)
    refine F_rrf h (fun q35 hq35 h => ?_)
    obtain ⟨x38, σ36, hc37, h⟩ := cI_t h
    refine F_call (frX6_takeVane q34 q35 hq34 hq35 σ32 hc37) (by decide) ?_
    refine F_if h (fun h => ?_) (fun h => ?_)
    · skip
      cases h
      exact F_refl
    · skip
      obtain ⟨x41, σ39, hc40, h⟩ := cI_t h
      refine F_call (frX1_keepWhat o a1 ho σ36 hc40) (by decide) ?_
      refine F_if h (fun h => ?_) (fun h => ?_)
      · skip
        cases h
        exact F_refl
      · skip
        cases h
        exact F_refl
set_option maxRecDepth 100000 in
set_option maxHeartbeats 4000000 in
theorem frX2_placeNamed (o : Nat) (a1 : Int64) (ho : KD o = 2) (σ : Mm) {xr : Int32} {τ : Mm} (h : fX2_placeNamed o a1 σ = some (xr, τ)) : FK [] σ τ := by
  unfold fX2_placeNamed at h
  refine F_rsc h (fun x1 h => ?_)
  obtain ⟨x4, σ2, hc3, h⟩ := cI_t h
  refine F_call (frX2_indexIn o 0 4 x1 a1 ho ha2_0 σ hc3) (by decide) ?_
  cases h
  exact F_refl
set_option maxRecDepth 100000 in
set_option maxHeartbeats 4000000 in
theorem frX6_takePlace (o : Nat) (a1 : Nat) (ho : KD o = 6) (ha1 : KD a1 = 2) (σ : Mm) {xr : Int32} {τ : Mm} (h : fX6_takePlace o a1 σ = some (xr, τ)) : FK [6] σ τ := by
  unfold fX6_takePlace at h
  obtain ⟨x3, σ1, hc2, h⟩ := cI_t h
  refine F_call (frX6_seesName o ho σ hc2) (by decide) ?_
  refine F_if h (fun h => ?_) (fun h => ?_)
  · skip
    cases h
    exact F_refl
  · skip
    refine F_rlg h (fun x4 h => ?_)
    obtain ⟨x7, σ5, hc6, h⟩ := cI_t h
    refine F_call (frX2_placeNamed a1 x4 ha1 σ1 hc6) (by decide) ?_
    obtain ⟨x10, σ8, hc9, h⟩ := cI_t h
    refine F_call (frX6_takeThing o x7 ho σ5 hc9) (by decide) ?_
    refine F_if h (fun h => ?_) (fun h => ?_)
    · skip
      cases h
      exact F_refl
    · skip
      cases h
      exact F_refl
set_option maxRecDepth 100000 in
set_option maxHeartbeats 4000000 in
theorem frX2_shaftNamed (o : Nat) (a1 : Int64) (ho : KD o = 2) (σ : Mm) {xr : Int32} {τ : Mm} (h : fX2_shaftNamed o a1 σ = some (xr, τ)) : FK [] σ τ := by
  unfold fX2_shaftNamed at h
  refine F_rsc h (fun x1 h => ?_)
  obtain ⟨x4, σ2, hc3, h⟩ := cI_t h
  refine F_call (frX2_indexIn o 2 10 x1 a1 ho ha2_2 σ hc3) (by decide) ?_
  cases h
  exact F_refl
set_option maxRecDepth 100000 in
set_option maxHeartbeats 4000000 in
theorem frX6_takeShaft (o : Nat) (a1 : Nat) (ho : KD o = 6) (ha1 : KD a1 = 2) (σ : Mm) {xr : Int32} {τ : Mm} (h : fX6_takeShaft o a1 σ = some (xr, τ)) : FK [6] σ τ := by
  unfold fX6_takeShaft at h
  obtain ⟨x3, σ1, hc2, h⟩ := cI_t h
  refine F_call (frX6_seesName o ho σ hc2) (by decide) ?_
  refine F_if h (fun h => ?_) (fun h => ?_)
  · skip
    cases h
    exact F_refl
  · skip
    refine F_rlg h (fun x4 h => ?_)
    obtain ⟨x7, σ5, hc6, h⟩ := cI_t h
    refine F_call (frX2_shaftNamed a1 x4 ha1 σ1 hc6) (by decide) ?_
    obtain ⟨x10, σ8, hc9, h⟩ := cI_t h
    refine F_call (frX6_takeThing o x7 ho σ5 hc9) (by decide) ?_
    refine F_if h (fun h => ?_) (fun h => ?_)
    · skip
      cases h
      exact F_refl
    · skip
      cases h
      exact F_refl
set_option maxRecDepth 100000 in
set_option maxHeartbeats 4000000 in
theorem frX1_readNumbers (o : Nat) (a1 : Int32) (a2 : Int32) (ho : KD o = 1) (σ : Mm) {xr : Int32} {τ : Mm} (h : fX1_readNumbers o a1 a2 σ = some (xr, τ)) : FK [5, 6] σ τ := by
  unfold fX1_readNumbers at h
  by_cases hs1 : a1 = (10 : Int32)
  · rw [if_pos hs1] at h
    refine F_rrf h (fun q2 hq2 h => ?_)
    refine F_rrf h (fun q3 hq3 h => ?_)
    obtain ⟨x6, σ4, hc5, h⟩ := cI_t h
    refine F_call (frX6_takePlace q2 q3 hq2 hq3 σ hc5) (by decide) ?_
    refine F_if h (fun h => ?_) (fun h => ?_)
    · skip
      cases h
      exact F_refl
    · skip
      obtain ⟨x9, σ7, hc8, h⟩ := cI_t h
      refine F_call (frX1_keepWhat o a2 ho σ4 hc8) (by decide) ?_
      refine F_if h (fun h => ?_) (fun h => ?_)
      · skip
        cases h
        exact F_refl
      · skip
        refine F_rrf h (fun q10 hq10 h => ?_)
        obtain ⟨x13, σ11, hc12, h⟩ := cI_t h
        refine F_call (frX6_takeNumber q10 (0 : Int32) (15 : Int32) hq10 σ7 hc12) (by decide) ?_
        refine F_if h (fun h => ?_) (fun h => ?_)
        · skip
          cases h
          exact F_refl
        · skip
          obtain ⟨x16, σ14, hc15, h⟩ := cI_t h
          refine F_call (frX1_keepHow o a2 ho σ11 hc15) (by decide) ?_
          refine F_if h (fun h => ?_) (fun h => ?_)
          · skip
            cases h
            exact F_refl
          · skip
            refine F_rrf h (fun q17 hq17 h => ?_)
            obtain ⟨x20, σ18, hc19, h⟩ := cI_t h
            refine F_call (frX6_takeNumber q17 (0 : Int32) (99 : Int32) hq17 σ14 hc19) (by decide) ?_
            refine F_if h (fun h => ?_) (fun h => ?_)
            · skip
              cases h
              exact F_refl
            · skip
              obtain ⟨x23, σ21, hc22, h⟩ := cI_t h
              refine F_call (frX1_keepMuch o a2 ho σ18 hc22) (by decide) ?_
              refine F_if h (fun h => ?_) (fun h => ?_)
              · skip
                cases h
                exact F_refl
              · skip
                cases h
                exact F_refl
  rw [if_neg hs1] at h
  by_cases hs24 : a1 = (11 : Int32)
  · rw [if_pos hs24] at h
    refine F_rrf h (fun q25 hq25 h => ?_)
    obtain ⟨x28, σ26, hc27, h⟩ := cI_t h
    refine F_call (frX6_takeNumber q25 (1 : Int32) (99 : Int32) hq25 σ hc27) (by decide) ?_
    refine F_if h (fun h => ?_) (fun h => ?_)
    · skip
      cases h
      exact F_refl
    · skip
      obtain ⟨x31, σ29, hc30, h⟩ := cI_t h
      refine F_call (frX1_keepMuch o a2 ho σ26 hc30) (by decide) ?_
      refine F_if h (fun h => ?_) (fun h => ?_)
      · skip
        cases h
        exact F_refl
      · skip
        cases h
        exact F_refl
  rw [if_neg hs24] at h
  by_cases hs32 : a1 = (12 : Int32)
  · rw [if_pos hs32] at h
    refine F_rrf h (fun q33 hq33 h => ?_)
    refine F_rrf h (fun q34 hq34 h => ?_)
    obtain ⟨x37, σ35, hc36, h⟩ := cI_t h
    refine F_call (frX6_takeShaft q33 q34 hq33 hq34 σ hc36) (by decide) ?_
    refine F_if h (fun h => ?_) (fun h => ?_)
    · skip
      cases h
      exact F_refl
    · skip
      obtain ⟨x40, σ38, hc39, h⟩ := cI_t h
      refine F_call (frX1_keepWhat o a2 ho σ35 hc39) (by decide) ?_
      refine F_if h (fun h => ?_) (fun h => ?_)
      · skip
        cases h
        exact F_refl
      · skip
        cases h
        exact F_refl
  rw [if_neg hs32] at h
  by_cases hs41 : a1 = (13 : Int32)
  · rw [if_pos hs41] at h
    refine F_rrf h (fun q42 hq42 h => ?_)
    refine F_rrf h (fun q43 hq43 h => ?_)
    obtain ⟨x46, σ44, hc45, h⟩ := cI_t h
    refine F_call (frX6_takeShaft q42 q43 hq42 hq43 σ hc45) (by decide) ?_
    refine F_if h (fun h => ?_) (fun h => ?_)
    · skip
      cases h
      exact F_refl
    · skip
      obtain ⟨x49, σ47, hc48, h⟩ := cI_t h
      refine F_call (frX1_keepWhat o a2 ho σ44 hc48) (by decide) ?_
      refine F_if h (fun h => ?_) (fun h => ?_)
      · skip
        cases h
        exact F_refl
      · skip
        cases h
        exact F_refl
  rw [if_neg hs41] at h
  by_cases hs50 : a1 = (14 : Int32)
  · rw [if_pos hs50] at h
    refine F_rrf h (fun q51 hq51 h => ?_)
    refine F_rrf h (fun q52 hq52 h => ?_)
    obtain ⟨x55, σ53, hc54, h⟩ := cI_t h
    refine F_call (frX6_takeVane q51 q52 hq51 hq52 σ hc54) (by decide) ?_
    refine F_if h (fun h => ?_) (fun h => ?_)
    · skip
      cases h
      exact F_refl
    · skip
      obtain ⟨x58, σ56, hc57, h⟩ := cI_t h
      refine F_call (frX1_keepWhat o a2 ho σ53 hc57) (by decide) ?_
      refine F_if h (fun h => ?_) (fun h => ?_)
      · skip
        cases h
        exact F_refl
      · skip
        cases h
        exact F_refl
  rw [if_neg hs50] at h
  by_cases hs59 : a1 = (15 : Int32)
  · rw [if_pos hs59] at h
    refine F_rrf h (fun q60 hq60 h => ?_)
    refine F_rrf h (fun q61 hq61 h => ?_)
    obtain ⟨x64, σ62, hc63, h⟩ := cI_t h
    refine F_call (frX6_takeVane q60 q61 hq60 hq61 σ hc63) (by decide) ?_
    refine F_if h (fun h => ?_) (fun h => ?_)
    · skip
      cases h
      exact F_refl
    · skip
      obtain ⟨x67, σ65, hc66, h⟩ := cI_t h
      refine F_call (frX1_keepWhat o a2 ho σ62 hc66) (by decide) ?_
      refine F_if h (fun h => ?_) (fun h => ?_)
      · skip
        cases h
        exact F_refl
      · skip
        cases h
        exact F_refl
  rw [if_neg hs59] at h
  by_cases hs68 : a1 = (16 : Int32)
  · rw [if_pos hs68] at h
    refine F_rrf h (fun q69 hq69 h => ?_)
    refine F_rrf h (fun q70 hq70 h => ?_)
    obtain ⟨x73, σ71, hc72, h⟩ := cI_t h
    refine F_call (frX6_takeVane q69 q70 hq69 hq70 σ hc72) (by decide) ?_
    refine F_if h (fun h => ?_) (fun h => ?_)
    · skip
      cases h
      exact F_refl
    · skip
      obtain ⟨x76, σ74, hc75, h⟩ := cI_t h
      refine F_call (frX1_keepWhat o a2 ho σ71 hc75) (by decide) ?_
      refine F_if h (fun h => ?_) (fun h => ?_)
      · skip
        cases h
        exact F_refl
      · skip
        refine F_rrf h (fun q77 hq77 h => ?_)
        obtain ⟨x80, σ78, hc79, h⟩ := cI_t h
        refine F_call (frX6_takeNumber q77 (1 : Int32) (99 : Int32) hq77 σ74 hc79) (by decide) ?_
        refine F_if h (fun h => ?_) (fun h => ?_)
        · skip
          cases h
          exact F_refl
        · skip
          obtain ⟨x83, σ81, hc82, h⟩ := cI_t h
          refine F_call (frX1_keepMuch o a2 ho σ78 hc82) (by decide) ?_
          refine F_if h (fun h => ?_) (fun h => ?_)
          · skip
            cases h
            exact F_refl
          · skip
            cases h
            exact F_refl
  rw [if_neg hs68] at h
  by_cases hs84 : a1 = (17 : Int32)
  · rw [if_pos hs84] at h
    refine F_rrf h (fun q85 hq85 h => ?_)
    obtain ⟨x88, σ86, hc87, h⟩ := cI_t h
    refine F_call (frX6_takeNumber q85 (0 : Int32) (99 : Int32) hq85 σ hc87) (by decide) ?_
    refine F_if h (fun h => ?_) (fun h => ?_)
    · skip
      cases h
      exact F_refl
    · skip
      obtain ⟨x91, σ89, hc90, h⟩ := cI_t h
      refine F_call (frX1_keepMuch o a2 ho σ86 hc90) (by decide) ?_
      refine F_if h (fun h => ?_) (fun h => ?_)
      · skip
        cases h
        exact F_refl
      · skip
        cases h
        exact F_refl
  rw [if_neg hs84] at h
  by_cases hs92 : a1 = (20 : Int32)
  · rw [if_pos hs92] at h
    refine F_rrf h (fun q93 hq93 h => ?_)
    obtain ⟨x96, σ94, hc95, h⟩ := cI_t h
    refine F_call (frX6_takeNumber q93 (1 : Int32) (99 : Int32) hq93 σ hc95) (by decide) ?_
    refine F_if h (fun h => ?_) (fun h => ?_)
    · skip
      cases h
      exact F_refl
    · skip
      obtain ⟨x99, σ97, hc98, h⟩ := cI_t h
      refine F_call (frX1_keepMuch o a2 ho σ94 hc98) (by decide) ?_
      refine F_if h (fun h => ?_) (fun h => ?_)
      · skip
        cases h
        exact F_refl
      · skip
        cases h
        exact F_refl
  rw [if_neg hs92] at h
  cases h
  exact F_refl
set_option maxRecDepth 100000 in
set_option maxHeartbeats 4000000 in
theorem ftX1_readRow_148 {xr : Int32} {τ : Mm} (o : Nat) (ho : KD o = 1) (v1 : Int32) (v2 : Int32) (v3 : Int32) (s0 : Int32) (σ : Mm) (h : fX1_readRow_148 o v1 v2 v3 s0 σ = some (xr, τ)) : FK [1, 5, 6] σ τ := by
  unfold fX1_readRow_148 at h
  refine F_if h (fun h => ?_) (fun h => ?_)
  · skip
    cases h
    exact F_refl
  · skip
    refine F_rrf h (fun q56 hq56 h => ?_)
    obtain ⟨x59, σ57, hc58, h⟩ := cI_t h
    refine F_call (frX6_takeSemicolon q56 hq56 σ hc58) (by decide) ?_
    refine F_ifn h (fun h => ?_) (fun h => ?_)
    · skip
      obtain ⟨σ60, hc61, h⟩ := cV_t h
      refine F_call (frX1_addRow o v1 ho σ57 hc61) (by decide) ?_
      refine F_rrf h (fun q62 hq62 h => ?_)
      refine F_rsc h (fun x63 h => ?_)
      refine F_psc hq62 (by decide) h (fun σ64 h => ?_)
      refine F_if h (fun h => ?_) (fun h => ?_)
      · skip
        cases h
        exact F_refl
      · skip
        refine F_rsc h (fun x65 h => ?_)
        refine F_sar ho (by decide) h (fun σ66 h => ?_)
        refine F_rsc h (fun x67 h => ?_)
        refine F_psc ho (by decide) h (fun σ68 h => ?_)
        cases h
        exact F_refl
    · skip
      cases h
      exact F_refl
set_option maxRecDepth 100000 in
set_option maxHeartbeats 4000000 in
theorem ftX1_readRow_90 {xr : Int32} {τ : Mm} (o : Nat) (ho : KD o = 1) (v1 : Int32) (s0 : Int32) (σ : Mm) (h : fX1_readRow_90 o v1 s0 σ = some (xr, τ)) : FK [1, 5, 6] σ τ := by
  unfold fX1_readRow_90 at h
  refine F_if h (fun h => ?_) (fun h => ?_)
  · skip
    refine F_rrf h (fun q28 hq28 h => ?_)
    refine F_rsc h (fun x29 h => ?_)
    refine F_rrf h (fun q30 hq30 h => ?_)
    obtain ⟨σ31, hc32, h⟩ := cV_t h
    refine F_call (frX6_advance q30 hq30 σ hc32) (by decide) ?_
    refine F_ifn h (fun h => ?_) (fun h => ?_)
    · skip
      obtain ⟨x35, σ33, hc34, h⟩ := cI_t h
      refine F_call (frX1_readNumbers o v1 x29 ho σ31 hc34) (by decide) ?_
      exact ftX1_readRow_148 o ho v1 s0 x29 x35 σ33 h
    · skip
      obtain ⟨x38, σ36, hc37, h⟩ := cI_t h
      refine F_call (frX1_readTest o x29 ho σ31 hc37) (by decide) ?_
      exact ftX1_readRow_148 o ho v1 s0 x29 x38 σ36 h
  · skip
    refine F_rsc h (fun x39 h => ?_)
    refine F_if h (fun h => ?_) (fun h => ?_)
    · skip
      refine F_rrf h (fun q40 hq40 h => ?_)
      refine F_rsc h (fun x41 h => ?_)
      refine F_rrf h (fun q42 hq42 h => ?_)
      obtain ⟨σ43, hc44, h⟩ := cV_t h
      refine F_call (frX6_advance q42 hq42 σ hc44) (by decide) ?_
      refine F_ifn h (fun h => ?_) (fun h => ?_)
      · skip
        obtain ⟨x47, σ45, hc46, h⟩ := cI_t h
        refine F_call (frX1_readNumbers o v1 x41 ho σ43 hc46) (by decide) ?_
        exact ftX1_readRow_148 o ho v1 s0 x41 x47 σ45 h
      · skip
        obtain ⟨x50, σ48, hc49, h⟩ := cI_t h
        refine F_call (frX1_readTest o x41 ho σ43 hc49) (by decide) ?_
        exact ftX1_readRow_148 o ho v1 s0 x41 x50 σ48 h
    · skip
      refine F_rrf h (fun q51 hq51 h => ?_)
      obtain ⟨x54, σ52, hc53, h⟩ := cI_t h
      refine F_call (frX6_refuse q51 (7 : Int32) hq51 σ hc53) (by decide) ?_
      obtain ⟨hz55, h⟩ := bz_t h
      cases h
      exact F_refl
set_option maxRecDepth 100000 in
set_option maxHeartbeats 4000000 in
theorem frX1_readRow (o : Nat) (ho : KD o = 1) (σ : Mm) {xr : Int32} {τ : Mm} (h : fX1_readRow o σ = some (xr, τ)) : FK [1, 5, 6] σ τ := by
  unfold fX1_readRow at h
  refine F_rrf h (fun q1 hq1 h => ?_)
  refine F_rsc h (fun x2 h => ?_)
  refine F_ifn h (fun h => ?_) (fun h => ?_)
  · skip
    obtain ⟨x5, σ3, hc4, h⟩ := cI_t h
    refine F_call (frX1_isStep x2 σ hc4) (by decide) ?_
    refine F_ifn h (fun h => ?_) (fun h => ?_)
    · skip
      refine F_rrf h (fun q6 hq6 h => ?_)
      refine F_rsc h (fun x7 h => ?_)
      refine F_if h (fun h => ?_) (fun h => ?_)
      · skip
        refine F_if h (fun h => ?_) (fun h => ?_)
        · skip
          exact ftX1_readRow_90 o ho x2 (1 : Int32) σ3 h
        · skip
          refine F_ifn h (fun h => ?_) (fun h => ?_)
          · skip
            exact ftX1_readRow_90 o ho x2 (0 : Int32) σ3 h
          · skip
            exact ftX1_readRow_90 o ho x2 (1 : Int32) σ3 h
      · skip
        refine F_rrf h (fun q8 hq8 h => ?_)
        obtain ⟨x11, σ9, hc10, h⟩ := cI_t h
        refine F_call (frX6_refuse q8 (6 : Int32) hq8 σ3 hc10) (by decide) ?_
        obtain ⟨hz12, h⟩ := bz_t h
        cases h
        exact F_refl
    · skip
      refine F_rrf h (fun q13 hq13 h => ?_)
      obtain ⟨x16, σ14, hc15, h⟩ := cI_t h
      refine F_call (frX6_refuseToken q13 hq13 σ3 hc15) (by decide) ?_
      obtain ⟨hz17, h⟩ := bz_t h
      cases h
      exact F_refl
  · skip
    refine F_rsc h (fun x18 h => ?_)
    refine F_if h (fun h => ?_) (fun h => ?_)
    · skip
      refine F_rrf h (fun q19 hq19 h => ?_)
      obtain ⟨x22, σ20, hc21, h⟩ := cI_t h
      refine F_call (frX6_refuseToken q19 hq19 σ hc21) (by decide) ?_
      obtain ⟨hz23, h⟩ := bz_t h
      cases h
      exact F_refl
    · skip
      obtain ⟨x26, σ24, hc25, h⟩ := cI_t h
      refine F_call (frX1_readEnd o ho σ hc25) (by decide) ?_
      obtain ⟨hz27, h⟩ := bz_t h
      cases h
      exact F_refl
set_option maxRecDepth 100000 in
set_option maxHeartbeats 4000000 in
theorem ftX1_readAll_62 {xr : Int32} {τ : Mm} (o : Nat) (a1 : Nat) (a2 : Nat) (a3 : Nat) (ho : KD o = 1) (ha1 : KD a1 = 6) (ha2 : KD a2 = 2) (ha3 : KD a3 = 5) (σ : Mm) (h : fX1_readAll_62 o a1 a2 a3 σ = some (xr, τ)) : FK [1, 5, 6] σ τ := by
  unfold fX1_readAll_62 at h
  refine F_rsc h (fun x13 h => ?_)
  refine F_if h (fun h => ?_) (fun h => ?_)
  · skip
    refine F_rrf h (fun q14 hq14 h => ?_)
    obtain ⟨x17, σ15, hc16, h⟩ := cI_t h
    refine F_call (frX6_refuseToken q14 hq14 σ hc16) (by decide) ?_
    obtain ⟨hz18, h⟩ := bz_t h
    cases h
    exact F_refl
  · skip
    refine F_rrf h (fun q19 hq19 h => ?_)
    refine F_rsc h (fun x20 h => ?_)
    refine F_if h (fun h => ?_) (fun h => ?_)
    · skip
      refine F_rrf h (fun q21 hq21 h => ?_)
      refine F_pbz hq21 (by decide) h (fun σ22 h => ?_)
      cases h
      exact F_refl
    · skip
      refine F_rrf h (fun q23 hq23 h => ?_)
      obtain ⟨x26, σ24, hc25, h⟩ := cI_t h
      refine F_call (frX6_refuseToken q23 hq23 σ hc25) (by decide) ?_
      obtain ⟨hz27, h⟩ := bz_t h
      cases h
      exact F_refl
set_option maxRecDepth 100000 in
set_option maxHeartbeats 4000000 in
theorem ftX1_readAll_30 {xr : Int32} {τ : Mm} (o : Nat) (a1 : Nat) (a2 : Nat) (a3 : Nat) (ho : KD o = 1) (ha1 : KD a1 = 6) (ha2 : KD a2 = 2) (ha3 : KD a3 = 5) : ∀ (n : Nat) (v4 : Int32) (σ : Mm), fX1_readAll_30 o a1 a2 a3 n v4 σ = some (xr, τ) → FK [1, 5, 6] σ τ := by
  intro n
  induction n with
  | zero => intro v4 σ h; rw [fX1_readAll_30] at h; cases h
  | succ n ih =>
    intro v4 σ h
    rw [fX1_readAll_30] at h
    refine F_if h (fun h => ?_) (fun h => ?_)
    · skip
      exact ftX1_readAll_62 o a1 a2 a3 ho ha1 ha2 ha3 σ h
    · skip
      refine F_rrf h (fun q8 hq8 h => ?_)
      refine F_rsc h (fun x9 h => ?_)
      refine F_if h (fun h => ?_) (fun h => ?_)
      · skip
        exact ftX1_readAll_62 o a1 a2 a3 ho ha1 ha2 ha3 σ h
      · skip
        obtain ⟨x12, σ10, hc11, h⟩ := cI_t h
        refine F_call (frX1_readRow o ho σ hc11) (by decide) ?_
        refine F_ifn h (fun h => ?_) (fun h => ?_)
        · skip
          exact ih (v4 + (1 : Int32)) σ10 h
        · skip
          cases h
          exact F_refl
set_option maxRecDepth 100000 in
set_option maxHeartbeats 4000000 in
theorem frX1_readAll (o : Nat) (a1 : Nat) (a2 : Nat) (a3 : Nat) (ho : KD o = 1) (ha1 : KD a1 = 6) (ha2 : KD a2 = 2) (ha3 : KD a3 = 5) (σ : Mm) {xr : Int32} {τ : Mm} (h : fX1_readAll o a1 a2 a3 σ = some (xr, τ)) : FK [1, 5, 6] σ τ := by
  unfold fX1_readAll at h
  refine F_prf ho (by decide) h (fun σ1 h => ?_)
  refine F_prf ho (by decide) h (fun σ2 h => ?_)
  refine F_prf ho (by decide) h (fun σ3 h => ?_)
  refine F_rrf h (fun q4 hq4 h => ?_)
  obtain ⟨σ5, hc6, h⟩ := cV_t h
  refine F_call (frX5_clear q4 hq4 σ3 hc6) (by decide) ?_
  refine F_psc ho (by decide) h (fun σ7 h => ?_)
  exact ftX1_readAll_30 o a1 a2 a3 ho ha1 ha2 ha3 FU (0 : Int32) σ7 h
set_option maxRecDepth 100000 in
set_option maxHeartbeats 4000000 in
theorem frX2_clear (o : Nat) (ho : KD o = 2) (σ : Mm) {τ : Mm} (h : fX2_clear o σ = some τ) : FK [2] σ τ := by
  unfold fX2_clear at h
  refine F_psc ho (by decide) h (fun σ1 h => ?_)
  refine F_psc ho (by decide) h (fun σ2 h => ?_)
  refine F_psc ho (by decide) h (fun σ3 h => ?_)
  cases h
  exact F_refl
set_option maxRecDepth 100000 in
set_option maxHeartbeats 4000000 in
theorem frX2_isTaken (o : Nat) (a1 : Int64) (ho : KD o = 2) (σ : Mm) {xr : Int32} {τ : Mm} (h : fX2_isTaken o a1 σ = some (xr, τ)) : FK [] σ τ := by
  unfold fX2_isTaken at h
  obtain ⟨x3, σ1, hc2, h⟩ := cI_t h
  refine F_call (frX2_placeNamed o a1 ho σ hc2) (by decide) ?_
  refine F_ifn h (fun h => ?_) (fun h => ?_)
  · skip
    cases h
    exact F_refl
  · skip
    obtain ⟨x6, σ4, hc5, h⟩ := cI_t h
    refine F_call (frX2_vaneNamed o a1 ho σ1 hc5) (by decide) ?_
    refine F_ifn h (fun h => ?_) (fun h => ?_)
    · skip
      cases h
      exact F_refl
    · skip
      obtain ⟨x9, σ7, hc8, h⟩ := cI_t h
      refine F_call (frX2_shaftNamed o a1 ho σ4 hc8) (by decide) ?_
      refine F_if h (fun h => ?_) (fun h => ?_)
      · skip
        cases h
        exact F_refl
      · skip
        cases h
        exact F_refl
set_option maxRecDepth 100000 in
set_option maxHeartbeats 4000000 in
theorem frX2_copyFrom (o : Nat) (a1 : Nat) (ho : KD o = 2) (ha1 : KD a1 = 2) (σ : Mm) {τ : Mm} (h : fX2_copyFrom o a1 σ = some τ) : FK [2] σ τ := by
  unfold fX2_copyFrom at h
  refine F_rsc h (fun x1 h => ?_)
  refine F_psc ho (by decide) h (fun σ2 h => ?_)
  refine F_rsc h (fun x3 h => ?_)
  refine F_psc ho (by decide) h (fun σ4 h => ?_)
  refine F_rsc h (fun x5 h => ?_)
  refine F_psc ho (by decide) h (fun σ6 h => ?_)
  refine F_acl ho (by decide) h (fun σ7 h => ?_)
  refine F_acl ho (by decide) h (fun σ8 h => ?_)
  refine F_acl ho (by decide) h (fun σ9 h => ?_)
  refine F_aci ho (by decide) h (fun σ10 h => ?_)
  refine F_aci ho (by decide) h (fun σ11 h => ?_)
  refine F_aci ho (by decide) h (fun σ12 h => ?_)
  refine F_aci ho (by decide) h (fun σ13 h => ?_)
  refine F_aci ho (by decide) h (fun σ14 h => ?_)
  refine F_aci ho (by decide) h (fun σ15 h => ?_)
  refine F_aci ho (by decide) h (fun σ16 h => ?_)
  refine F_aci ho (by decide) h (fun σ17 h => ?_)
  cases h
  exact F_refl
set_option maxRecDepth 100000 in
set_option maxHeartbeats 4000000 in
theorem frX4_copyFrom (o : Nat) (a1 : Nat) (ho : KD o = 4) (ha1 : KD a1 = 4) (σ : Mm) {τ : Mm} (h : fX4_copyFrom o a1 σ = some τ) : FK [4] σ τ := by
  unfold fX4_copyFrom at h
  refine F_aci ho (by decide) h (fun σ1 h => ?_)
  refine F_aci ho (by decide) h (fun σ2 h => ?_)
  refine F_aci ho (by decide) h (fun σ3 h => ?_)
  refine F_aci ho (by decide) h (fun σ4 h => ?_)
  refine F_aci ho (by decide) h (fun σ5 h => ?_)
  refine F_aci ho (by decide) h (fun σ6 h => ?_)
  refine F_rsc h (fun x7 h => ?_)
  refine F_psc ho (by decide) h (fun σ8 h => ?_)
  refine F_rsc h (fun x9 h => ?_)
  refine F_psc ho (by decide) h (fun σ10 h => ?_)
  refine F_rsc h (fun x11 h => ?_)
  refine F_psc ho (by decide) h (fun σ12 h => ?_)
  cases h
  exact F_refl
set_option maxRecDepth 100000 in
set_option maxHeartbeats 4000000 in
theorem frX10_listenFor (o : Nat) (a1 : Int32) (ho : KD o = 10) (σ : Mm) {τ : Mm} (h : fX10_listenFor o a1 σ = some τ) : FK [10] σ τ := by
  unfold fX10_listenFor at h
  refine F_psc ho (by decide) h (fun σ1 h => ?_)
  refine F_psc ho (by decide) h (fun σ2 h => ?_)
  cases h
  exact F_refl
set_option maxRecDepth 100000 in
set_option maxHeartbeats 4000000 in
theorem ftX10_aim_2 {τ : Mm} (o : Nat) (ho : KD o = 10) : ∀ (n : Nat) (v1 : Int32) (σ : Mm), fX10_aim_2 o n v1 σ = some τ → FK [10] σ τ := by
  intro n
  induction n with
  | zero => intro v1 σ h; rw [fX10_aim_2] at h; cases h
  | succ n ih =>
    intro v1 σ h
    rw [fX10_aim_2] at h
    refine F_rrf h (fun q1 hq1 h => ?_)
    refine F_rsc h (fun x2 h => ?_)
    refine F_if h (fun h => ?_) (fun h => ?_)
    · cases h
      exact F_refl
    · skip
      refine F_rrf h (fun q3 hq3 h => ?_)
      refine F_gar h (fun x4 h => ?_)
      refine F_rrf h (fun q5 hq5 h => ?_)
      refine F_gar h (fun x6 h => ?_)
      refine F_rrf h (fun q7 hq7 h => ?_)
      refine F_gar h (fun x8 h => ?_)
      refine F_rrf h (fun q9 hq9 h => ?_)
      refine F_gar h (fun x10 h => ?_)
      refine F_ifn h (fun h => ?_) (fun h => ?_)
      · skip
        refine F_if h (fun h => ?_) (fun h => ?_)
        · skip
          refine F_sar ho (by decide) h (fun σ11 h => ?_)
          exact ih (v1 + (1 : Int32)) σ11 h
        · skip
          refine F_sar ho (by decide) h (fun σ12 h => ?_)
          exact ih (v1 + (1 : Int32)) σ12 h
      · skip
        refine F_sar ho (by decide) h (fun σ13 h => ?_)
        exact ih (v1 + (1 : Int32)) σ13 h
set_option maxRecDepth 100000 in
set_option maxHeartbeats 4000000 in
theorem frX10_aim (o : Nat) (ho : KD o = 10) (σ : Mm) {τ : Mm} (h : fX10_aim o σ = some τ) : FK [10] σ τ := by
  unfold fX10_aim at h
  exact ftX10_aim_2 o ho FU (0 : Int32) σ h
set_option maxRecDepth 100000 in
set_option maxHeartbeats 4000000 in
theorem frX10_use (o : Nat) (a1 : Nat) (a2 : Nat) (ho : KD o = 10) (ha1 : KD a1 = 2) (ha2 : KD a2 = 4) (σ : Mm) {τ : Mm} (h : fX10_use o a1 a2 σ = some τ) : FK [10] σ τ := by
  unfold fX10_use at h
  refine F_prf ho (by decide) h (fun σ1 h => ?_)
  refine F_prf ho (by decide) h (fun σ2 h => ?_)
  refine F_psc ho (by decide) h (fun σ3 h => ?_)
  refine F_psc ho (by decide) h (fun σ4 h => ?_)
  obtain ⟨σ5, hc6, h⟩ := cV_t h
  refine F_call (frX10_listenFor o (-1 : Int32) ho σ4 hc6) (by decide) ?_
  obtain ⟨σ7, hc8, h⟩ := cV_t h
  refine F_call (frX10_aim o ho σ5 hc8) (by decide) ?_
  cases h
  exact F_refl
set_option maxRecDepth 100000 in
set_option maxHeartbeats 4000000 in
theorem frX3_rowBehindEnd (o : Nat) (a1 : Int32) (ho : KD o = 3) (σ : Mm) {xr : Int32} {τ : Mm} (h : fX3_rowBehindEnd o a1 σ = some (xr, τ)) : FK [3] σ τ := by
  unfold fX3_rowBehindEnd at h
  refine F_rrf h (fun q1 hq1 h => ?_)
  refine F_gar h (fun x2 h => ?_)
  refine F_rrf h (fun q3 hq3 h => ?_)
  refine F_gar h (fun x4 h => ?_)
  refine F_ifn h (fun h => ?_) (fun h => ?_)
  · skip
    cases h
    exact F_refl
  · skip
    refine F_gar h (fun x5 h => ?_)
    refine F_if h (fun h => ?_) (fun h => ?_)
    · skip
      cases h
      exact F_refl
    · skip
      refine F_gar h (fun x6 h => ?_)
      refine F_sar ho (by decide) h (fun σ7 h => ?_)
      cases h
      exact F_refl
set_option maxRecDepth 100000 in
set_option maxHeartbeats 4000000 in
theorem frX10_blow (o : Nat) (a1 : Int32) (a2 : Int32) (a3 : Int32) (ho : KD o = 10) (σ : Mm) {τ : Mm} (h : fX10_blow o a1 a2 a3 σ = some τ) : FK [4, 10] σ τ := by
  unfold fX10_blow at h
  refine F_rrf h (fun q1 hq1 h => ?_)
  refine F_sar hq1 (by decide) h (fun σ2 h => ?_)
  refine F_rrf h (fun q3 hq3 h => ?_)
  refine F_sar hq3 (by decide) h (fun σ4 h => ?_)
  obtain ⟨σ5, hc6, h⟩ := cV_t h
  refine F_call (frX10_aim o ho σ4 hc6) (by decide) ?_
  cases h
  exact F_refl
set_option maxRecDepth 100000 in
set_option maxHeartbeats 4000000 in
theorem ftX3_drawWinds_2 {τ : Mm} (o : Nat) (a1 : Int32) (ho : KD o = 3) : ∀ (n : Nat) (v2 : Int32) (σ : Mm), fX3_drawWinds_2 o a1 n v2 σ = some τ → FK [3, 4, 10] σ τ := by
  intro n
  induction n with
  | zero => intro v2 σ h; rw [fX3_drawWinds_2] at h; cases h
  | succ n ih =>
    intro v2 σ h
    rw [fX3_drawWinds_2] at h
    refine F_rrf h (fun q1 hq1 h => ?_)
    refine F_rsc h (fun x2 h => ?_)
    refine F_if h (fun h => ?_) (fun h => ?_)
    · cases h
      exact F_refl
    · skip
      refine F_rsc h (fun x3 h => ?_)
      refine F_psc ho (by decide) h (fun σ4 h => ?_)
      refine F_rrf h (fun q5 hq5 h => ?_)
      refine F_rsc h (fun x6 h => ?_)
      obtain ⟨σ7, hc8, h⟩ := cV_t h
      refine F_call (frX10_blow q5 v2 ((x6 / (8 : Int32)) - (x6 / (8 : Int32)) / (16 : Int32) * (16 : Int32)) a1 hq5 σ4 hc8) (by decide) ?_
      exact ih (v2 + (1 : Int32)) σ7 h
set_option maxRecDepth 100000 in
set_option maxHeartbeats 4000000 in
theorem frX3_drawWinds (o : Nat) (a1 : Int32) (ho : KD o = 3) (σ : Mm) {τ : Mm} (h : fX3_drawWinds o a1 σ = some τ) : FK [3, 4, 10] σ τ := by
  unfold fX3_drawWinds at h
  exact ftX3_drawWinds_2 o a1 ho FU (0 : Int32) σ h
set_option maxRecDepth 100000 in
set_option maxHeartbeats 4000000 in
theorem frX10_isRight (o : Nat) (a1 : Int32) (ho : KD o = 10) (σ : Mm) {xr : Int32} {τ : Mm} (h : fX10_isRight o a1 σ = some (xr, τ)) : FK [] σ τ := by
  unfold fX10_isRight at h
  refine F_gar h (fun x1 h => ?_)
  refine F_if h (fun h => ?_) (fun h => ?_)
  · skip
    cases h
    exact F_refl
  · skip
    refine F_gar h (fun x2 h => ?_)
    refine F_rrf h (fun q3 hq3 h => ?_)
    refine F_gar h (fun x4 h => ?_)
    refine F_ifn h (fun h => ?_) (fun h => ?_)
    · skip
      cases h
      exact F_refl
    · skip
      cases h
      exact F_refl
set_option maxRecDepth 100000 in
set_option maxHeartbeats 4000000 in
theorem frX10_shorterWay (o : Nat) (a1 : Int32) (ho : KD o = 10) (σ : Mm) {xr : Int32} {τ : Mm} (h : fX10_shorterWay o a1 σ = some (xr, τ)) : FK [] σ τ := by
  unfold fX10_shorterWay at h
  refine F_gar h (fun x1 h => ?_)
  refine F_rrf h (fun q2 hq2 h => ?_)
  refine F_gar h (fun x3 h => ?_)
  refine F_if h (fun h => ?_) (fun h => ?_)
  · skip
    refine F_rrf h (fun q4 hq4 h => ?_)
    refine F_gar h (fun x5 h => ?_)
    refine F_if h (fun h => ?_) (fun h => ?_)
    · skip
      cases h
      exact F_refl
    · skip
      cases h
      exact F_refl
  · skip
    refine F_rrf h (fun q6 hq6 h => ?_)
    refine F_gar h (fun x7 h => ?_)
    refine F_rrf h (fun q8 hq8 h => ?_)
    refine F_gar h (fun x9 h => ?_)
    refine F_if h (fun h => ?_) (fun h => ?_)
    · skip
      cases h
      exact F_refl
    · skip
      cases h
      exact F_refl
set_option maxRecDepth 100000 in
set_option maxHeartbeats 4000000 in
theorem frX10_playChange (o : Nat) (a1 : Int32) (ho : KD o = 10) (σ : Mm) {xr : Int32} {τ : Mm} (h : fX10_playChange o a1 σ = some (xr, τ)) : FK [] σ τ := by
  unfold fX10_playChange at h
  refine F_rrf h (fun q1 hq1 h => ?_)
  refine F_gar h (fun x2 h => ?_)
  refine F_gar h (fun x3 h => ?_)
  refine F_rrf h (fun q4 hq4 h => ?_)
  refine F_gar h (fun x5 h => ?_)
  refine F_rrf h (fun q6 hq6 h => ?_)
  refine F_gar h (fun x7 h => ?_)
  refine F_gar h (fun x8 h => ?_)
  cases h
  exact F_refl
set_option maxRecDepth 100000 in
set_option maxHeartbeats 4000000 in
theorem frX10_isInBounds (o : Nat) (a1 : Int32) (a2 : Int32) (ho : KD o = 10) (σ : Mm) {xr : Int32} {τ : Mm} (h : fX10_isInBounds o a1 a2 σ = some (xr, τ)) : FK [] σ τ := by
  unfold fX10_isInBounds at h
  refine F_if h (fun h => ?_) (fun h => ?_)
  · skip
    cases h
    exact F_refl
  · skip
    refine F_rrf h (fun q1 hq1 h => ?_)
    refine F_gar h (fun x2 h => ?_)
    refine F_if h (fun h => ?_) (fun h => ?_)
    · skip
      cases h
      exact F_refl
    · skip
      cases h
      exact F_refl
set_option maxRecDepth 100000 in
set_option maxHeartbeats 4000000 in
theorem ftX10_draggingShaft_65 {xr : Int32} {τ : Mm} (o : Nat) (ho : KD o = 10) (k2 : Int32 → Mm → Option (Int32 × Mm)) (hk2 : ∀ (v1 : Int32) (σ : Mm), k2 v1 σ = some (xr, τ) → FK [] σ τ) (v1 : Int32) (s0 : Int32) (σ : Mm) (h : fX10_draggingShaft_65 o k2 v1 s0 σ = some (xr, τ)) : FK [] σ τ := by
  unfold fX10_draggingShaft_65 at h
  refine F_if h (fun h => ?_) (fun h => ?_)
  · skip
    exact hk2 (v1 + (1 : Int32)) σ h
  · skip
    refine F_rrf h (fun q9 hq9 h => ?_)
    refine F_rsc h (fun x10 h => ?_)
    obtain ⟨x13, σ11, hc12, h⟩ := cI_t h
    refine F_call (frX11_has x10 v1 σ hc12) (by decide) ?_
    refine F_ifn h (fun h => ?_) (fun h => ?_)
    · skip
      exact hk2 (v1 + (1 : Int32)) σ11 h
    · skip
      refine F_rrf h (fun q14 hq14 h => ?_)
      refine F_gar h (fun x15 h => ?_)
      obtain ⟨x18, σ16, hc17, h⟩ := cI_t h
      refine F_call (frX10_playChange o v1 ho σ11 hc17) (by decide) ?_
      obtain ⟨x21, σ19, hc20, h⟩ := cI_t h
      refine F_call (frX10_isInBounds o v1 (x15 + x18) ho σ16 hc20) (by decide) ?_
      refine F_ifn h (fun h => ?_) (fun h => ?_)
      · skip
        exact hk2 (v1 + (1 : Int32)) σ19 h
      · skip
        cases h
        exact F_refl
set_option maxRecDepth 100000 in
set_option maxHeartbeats 4000000 in
theorem ftX10_draggingShaft_35 {xr : Int32} {τ : Mm} (o : Nat) (ho : KD o = 10) (k2 : Int32 → Mm → Option (Int32 × Mm)) (hk2 : ∀ (v1 : Int32) (σ : Mm), k2 v1 σ = some (xr, τ) → FK [] σ τ) (v1 : Int32) (s0 : Int32) (σ : Mm) (h : fX10_draggingShaft_35 o k2 v1 s0 σ = some (xr, τ)) : FK [] σ τ := by
  unfold fX10_draggingShaft_35 at h
  refine F_rrf h (fun q6 hq6 h => ?_)
  refine F_gar h (fun x7 h => ?_)
  refine F_gar h (fun x8 h => ?_)
  refine F_ifn h (fun h => ?_) (fun h => ?_)
  · skip
    refine F_if h (fun h => ?_) (fun h => ?_)
    · skip
      exact ftX10_draggingShaft_65 o ho k2 hk2 v1 (0 : Int32) σ h
    · skip
      exact ftX10_draggingShaft_65 o ho k2 hk2 v1 (1 : Int32) σ h
  · skip
    refine F_if h (fun h => ?_) (fun h => ?_)
    · skip
      exact ftX10_draggingShaft_65 o ho k2 hk2 v1 (0 : Int32) σ h
    · skip
      exact ftX10_draggingShaft_65 o ho k2 hk2 v1 (1 : Int32) σ h
set_option maxRecDepth 100000 in
set_option maxHeartbeats 4000000 in
theorem ftX10_draggingShaft_2 {xr : Int32} {τ : Mm} (o : Nat) (ho : KD o = 10) : ∀ (n : Nat) (v1 : Int32) (σ : Mm), fX10_draggingShaft_2 o n v1 σ = some (xr, τ) → FK [] σ τ := by
  intro n
  induction n with
  | zero => intro v1 σ h; rw [fX10_draggingShaft_2] at h; cases h
  | succ n ih =>
    intro v1 σ h
    rw [fX10_draggingShaft_2] at h
    refine F_rrf h (fun q1 hq1 h => ?_)
    refine F_rsc h (fun x2 h => ?_)
    refine F_if h (fun h => ?_) (fun h => ?_)
    · skip
      cases h
      exact F_refl
    · skip
      refine F_rrf h (fun q3 hq3 h => ?_)
      refine F_gar h (fun x4 h => ?_)
      refine F_gar h (fun x5 h => ?_)
      refine F_ifn h (fun h => ?_) (fun h => ?_)
      · skip
        exact ftX10_draggingShaft_35 o ho (fX10_draggingShaft_2 o n) ih v1 (0 : Int32) σ h
      · skip
        exact ftX10_draggingShaft_35 o ho (fX10_draggingShaft_2 o n) ih v1 (1 : Int32) σ h
set_option maxRecDepth 100000 in
set_option maxHeartbeats 4000000 in
theorem frX10_draggingShaft (o : Nat) (ho : KD o = 10) (σ : Mm) {xr : Int32} {τ : Mm} (h : fX10_draggingShaft o σ = some (xr, τ)) : FK [] σ τ := by
  unfold fX10_draggingShaft at h
  exact ftX10_draggingShaft_2 o ho FU (0 : Int32) σ h
set_option maxRecDepth 100000 in
set_option maxHeartbeats 4000000 in
theorem ftX10_isAllPlayInBounds_2 {xr : Int32} {τ : Mm} (o : Nat) (ho : KD o = 10) : ∀ (n : Nat) (v1 : Int32) (σ : Mm), fX10_isAllPlayInBounds_2 o n v1 σ = some (xr, τ) → FK [] σ τ := by
  intro n
  induction n with
  | zero => intro v1 σ h; rw [fX10_isAllPlayInBounds_2] at h; cases h
  | succ n ih =>
    intro v1 σ h
    rw [fX10_isAllPlayInBounds_2] at h
    refine F_rrf h (fun q1 hq1 h => ?_)
    refine F_rsc h (fun x2 h => ?_)
    refine F_if h (fun h => ?_) (fun h => ?_)
    · skip
      cases h
      exact F_refl
    · skip
      refine F_rrf h (fun q3 hq3 h => ?_)
      refine F_rsc h (fun x4 h => ?_)
      obtain ⟨x7, σ5, hc6, h⟩ := cI_t h
      refine F_call (frX11_has x4 v1 σ hc6) (by decide) ?_
      refine F_ifn h (fun h => ?_) (fun h => ?_)
      · skip
        exact ih (v1 + (1 : Int32)) σ5 h
      · skip
        refine F_rrf h (fun q8 hq8 h => ?_)
        refine F_gar h (fun x9 h => ?_)
        obtain ⟨x12, σ10, hc11, h⟩ := cI_t h
        refine F_call (frX10_playChange o v1 ho σ5 hc11) (by decide) ?_
        obtain ⟨x15, σ13, hc14, h⟩ := cI_t h
        refine F_call (frX10_isInBounds o v1 (x9 + x12) ho σ10 hc14) (by decide) ?_
        refine F_ifn h (fun h => ?_) (fun h => ?_)
        · skip
          exact ih (v1 + (1 : Int32)) σ13 h
        · skip
          cases h
          exact F_refl
set_option maxRecDepth 100000 in
set_option maxHeartbeats 4000000 in
theorem frX10_isAllPlayInBounds (o : Nat) (ho : KD o = 10) (σ : Mm) {xr : Int32} {τ : Mm} (h : fX10_isAllPlayInBounds o σ = some (xr, τ)) : FK [] σ τ := by
  unfold fX10_isAllPlayInBounds at h
  exact ftX10_isAllPlayInBounds_2 o ho FU (0 : Int32) σ h
set_option maxRecDepth 100000 in
set_option maxHeartbeats 4000000 in
theorem ftX10_engage_156 {xr : Int32} {τ : Mm} (o : Nat) (a1 : Int32) (a2 : Int32) (ho : KD o = 10) (σ : Mm) (h : fX10_engage_156 o a1 a2 σ = some (xr, τ)) : FK [10] σ τ := by
  unfold fX10_engage_156 at h
  refine F_rsc h (fun x28 h => ?_)
  refine F_rrf h (fun q29 hq29 h => ?_)
  refine F_rsc h (fun x30 h => ?_)
  refine F_ifn h (fun h => ?_) (fun h => ?_)
  · skip
    cases h
    exact F_refl
  · skip
    obtain ⟨x33, σ31, hc32, h⟩ := cI_t h
    refine F_call (frX10_isAllPlayInBounds o ho σ hc32) (by decide) ?_
    refine F_if h (fun h => ?_) (fun h => ?_)
    · skip
      cases h
      exact F_refl
    · skip
      cases h
      exact F_refl
set_option maxRecDepth 100000 in
set_option maxHeartbeats 4000000 in
theorem ftX10_engage_43 {xr : Int32} {τ : Mm} (o : Nat) (a1 : Int32) (a2 : Int32) (ho : KD o = 10) : ∀ (n : Nat) (v3 : Int32) (v4 : Int32) (σ : Mm), fX10_engage_43 o a1 a2 n v3 v4 σ = some (xr, τ) → FK [10] σ τ := by
  intro n
  induction n with
  | zero => intro v3 v4 σ h; rw [fX10_engage_43] at h; cases h
  | succ n ih =>
    intro v3 v4 σ h
    rw [fX10_engage_43] at h
    refine F_if h (fun h => ?_) (fun h => ?_)
    · skip
      exact ftX10_engage_156 o a1 a2 ho σ h
    · skip
      refine F_if h (fun h => ?_) (fun h => ?_)
      · skip
        exact ftX10_engage_156 o a1 a2 ho σ h
      · skip
        refine F_rrf h (fun q7 hq7 h => ?_)
        refine F_gar h (fun x8 h => ?_)
        refine F_rrf h (fun q9 hq9 h => ?_)
        refine F_gar h (fun x10 h => ?_)
        refine F_rrf h (fun q11 hq11 h => ?_)
        refine F_gar h (fun x12 h => ?_)
        refine F_gar h (fun x13 h => ?_)
        refine F_gar h (fun x14 h => ?_)
        refine F_gar h (fun x15 h => ?_)
        refine F_ifn h (fun h => ?_) (fun h => ?_)
        · skip
          refine F_sar ho (by decide) h (fun σ16 h => ?_)
          refine F_rsc h (fun x17 h => ?_)
          refine F_psc ho (by decide) h (fun σ18 h => ?_)
          obtain ⟨x21, σ19, hc20, h⟩ := cI_t h
          refine F_call (frX10_draggingShaft o ho σ18 hc20) (by decide) ?_
          exact ih x21 (v4 + (1 : Int32)) σ19 h
        · skip
          refine F_sar ho (by decide) h (fun σ22 h => ?_)
          refine F_rsc h (fun x23 h => ?_)
          refine F_psc ho (by decide) h (fun σ24 h => ?_)
          obtain ⟨x27, σ25, hc26, h⟩ := cI_t h
          refine F_call (frX10_draggingShaft o ho σ24 hc26) (by decide) ?_
          exact ih x27 (v4 + (1 : Int32)) σ25 h
set_option maxRecDepth 100000 in
set_option maxHeartbeats 4000000 in
theorem ftX10_engage_21 {xr : Int32} {τ : Mm} (o : Nat) (a1 : Int32) (a2 : Int32) (ho : KD o = 10) (σ : Mm) (h : fX10_engage_21 o a1 a2 σ = some (xr, τ)) : FK [10] σ τ := by
  unfold fX10_engage_21 at h
  refine F_sar ho (by decide) h (fun σ2 h => ?_)
  refine F_psc ho (by decide) h (fun σ3 h => ?_)
  obtain ⟨x6, σ4, hc5, h⟩ := cI_t h
  refine F_call (frX10_draggingShaft o ho σ3 hc5) (by decide) ?_
  exact ftX10_engage_43 o a1 a2 ho FU x6 (0 : Int32) σ4 h
set_option maxRecDepth 100000 in
set_option maxHeartbeats 4000000 in
theorem ftX10_engage_2 {xr : Int32} {τ : Mm} (o : Nat) (a1 : Int32) (a2 : Int32) (ho : KD o = 10) : ∀ (n : Nat) (v3 : Int32) (σ : Mm), fX10_engage_2 o a1 a2 n v3 σ = some (xr, τ) → FK [10] σ τ := by
  intro n
  induction n with
  | zero => intro v3 σ h; rw [fX10_engage_2] at h; cases h
  | succ n ih =>
    intro v3 σ h
    rw [fX10_engage_2] at h
    refine F_if h (fun h => ?_) (fun h => ?_)
    · skip
      exact ftX10_engage_21 o a1 a2 ho σ h
    · skip
      refine F_sar ho (by decide) h (fun σ1 h => ?_)
      exact ih (v3 + (1 : Int32)) σ1 h
set_option maxRecDepth 100000 in
set_option maxHeartbeats 4000000 in
theorem frX10_engage (o : Nat) (a1 : Int32) (a2 : Int32) (ho : KD o = 10) (σ : Mm) {xr : Int32} {τ : Mm} (h : fX10_engage o a1 a2 σ = some (xr, τ)) : FK [10] σ τ := by
  unfold fX10_engage at h
  exact ftX10_engage_2 o a1 a2 ho FU (0 : Int32) σ h
set_option maxRecDepth 100000 in
set_option maxHeartbeats 4000000 in
theorem frX10_gap (o : Nat) (a1 : Int32) (a2 : Int32) (ho : KD o = 10) (σ : Mm) {xr : Int32} {τ : Mm} (h : fX10_gap o a1 a2 σ = some (xr, τ)) : FK [] σ τ := by
  unfold fX10_gap at h
  refine F_gar h (fun x1 h => ?_)
  refine F_if h (fun h => ?_) (fun h => ?_)
  · skip
    refine F_gar h (fun x2 h => ?_)
    refine F_rrf h (fun q3 hq3 h => ?_)
    refine F_gar h (fun x4 h => ?_)
    refine F_if h (fun h => ?_) (fun h => ?_)
    · skip
      cases h
      exact F_refl
    · skip
      cases h
      exact F_refl
  · skip
    refine F_gar h (fun x5 h => ?_)
    refine F_rrf h (fun q6 hq6 h => ?_)
    refine F_gar h (fun x7 h => ?_)
    refine F_if h (fun h => ?_) (fun h => ?_)
    · skip
      cases h
      exact F_refl
    · skip
      cases h
      exact F_refl
set_option maxRecDepth 100000 in
set_option maxHeartbeats 4000000 in
theorem frX10_toothBehindStep (o : Nat) (a1 : Int32) (ho : KD o = 10) (σ : Mm) {xr : Int32} {τ : Mm} (h : fX10_toothBehindStep o a1 σ = some (xr, τ)) : FK [] σ τ := by
  unfold fX10_toothBehindStep at h
  refine F_rrf h (fun q1 hq1 h => ?_)
  refine F_gar h (fun x2 h => ?_)
  refine F_gar h (fun x3 h => ?_)
  refine F_if h (fun h => ?_) (fun h => ?_)
  · skip
    refine F_rrf h (fun q4 hq4 h => ?_)
    refine F_gar h (fun x5 h => ?_)
    refine F_if h (fun h => ?_) (fun h => ?_)
    · skip
      cases h
      exact F_refl
    · skip
      cases h
      exact F_refl
  · skip
    refine F_rrf h (fun q6 hq6 h => ?_)
    refine F_gar h (fun x7 h => ?_)
    cases h
    exact F_refl
set_option maxRecDepth 100000 in
set_option maxHeartbeats 4000000 in
theorem frX10_gain (o : Nat) (a1 : Int32) (ho : KD o = 10) (σ : Mm) {xr : Int32} {τ : Mm} (h : fX10_gain o a1 σ = some (xr, τ)) : FK [] σ τ := by
  unfold fX10_gain at h
  refine F_gar h (fun x1 h => ?_)
  refine F_ifn h (fun h => ?_) (fun h => ?_)
  · skip
    refine F_rrf h (fun q2 hq2 h => ?_)
    refine F_gar h (fun x3 h => ?_)
    obtain ⟨x6, σ4, hc5, h⟩ := cI_t h
    refine F_call (frX10_gap o a1 x3 ho σ hc5) (by decide) ?_
    obtain ⟨x9, σ7, hc8, h⟩ := cI_t h
    refine F_call (frX10_toothBehindStep o a1 ho σ4 hc8) (by decide) ?_
    obtain ⟨x12, σ10, hc11, h⟩ := cI_t h
    refine F_call (frX10_gap o a1 x9 ho σ7 hc11) (by decide) ?_
    cases h
    exact F_refl
  · skip
    cases h
    exact F_refl
set_option maxRecDepth 100000 in
set_option maxHeartbeats 4000000 in
theorem ftX10_force_4 {xr : Int32} {τ : Mm} (o : Nat) (ho : KD o = 10) : ∀ (n : Nat) (v1 : Int32) (v2 : Int32) (σ : Mm), fX10_force_4 o n v1 v2 σ = some (xr, τ) → FK [] σ τ := by
  intro n
  induction n with
  | zero => intro v1 v2 σ h; rw [fX10_force_4] at h; cases h
  | succ n ih =>
    intro v1 v2 σ h
    rw [fX10_force_4] at h
    refine F_rrf h (fun q1 hq1 h => ?_)
    refine F_rsc h (fun x2 h => ?_)
    refine F_if h (fun h => ?_) (fun h => ?_)
    · skip
      cases h
      exact F_refl
    · skip
      refine F_rsc h (fun x3 h => ?_)
      obtain ⟨x6, σ4, hc5, h⟩ := cI_t h
      refine F_call (frX11_has x3 v2 σ hc5) (by decide) ?_
      refine F_if h (fun h => ?_) (fun h => ?_)
      · skip
        exact ih v1 (v2 + (1 : Int32)) σ4 h
      · skip
        obtain ⟨x9, σ7, hc8, h⟩ := cI_t h
        refine F_call (frX10_gain o v2 ho σ4 hc8) (by decide) ?_
        refine F_rrf h (fun q10 hq10 h => ?_)
        refine F_rrf h (fun q11 hq11 h => ?_)
        refine F_gar h (fun x12 h => ?_)
        refine F_gar h (fun x13 h => ?_)
        refine F_rrf h (fun q14 hq14 h => ?_)
        refine F_gar h (fun x15 h => ?_)
        exact ih (v1 + ((x9 * x13) - x15)) (v2 + (1 : Int32)) σ7 h
set_option maxRecDepth 100000 in
set_option maxHeartbeats 4000000 in
theorem frX10_force (o : Nat) (ho : KD o = 10) (σ : Mm) {xr : Int32} {τ : Mm} (h : fX10_force o σ = some (xr, τ)) : FK [] σ τ := by
  unfold fX10_force at h
  exact ftX10_force_4 o ho FU (0 : Int32) (0 : Int32) σ h
set_option maxRecDepth 100000 in
set_option maxHeartbeats 4000000 in
theorem frX10_isDriven (o : Nat) (a1 : Int32) (ho : KD o = 10) (σ : Mm) {xr : Int32} {τ : Mm} (h : fX10_isDriven o a1 σ = some (xr, τ)) : FK [10] σ τ := by
  unfold fX10_isDriven at h
  refine F_rrf h (fun q1 hq1 h => ?_)
  refine F_rsc h (fun x2 h => ?_)
  obtain ⟨x5, σ3, hc4, h⟩ := cI_t h
  refine F_call (frX11_has x2 a1 σ hc4) (by decide) ?_
  refine F_ifn h (fun h => ?_) (fun h => ?_)
  · skip
    cases h
    exact F_refl
  · skip
    obtain ⟨x8, σ6, hc7, h⟩ := cI_t h
    refine F_call (frX10_isRight o a1 ho σ3 hc7) (by decide) ?_
    refine F_if h (fun h => ?_) (fun h => ?_)
    · skip
      obtain ⟨x11, σ9, hc10, h⟩ := cI_t h
      refine F_call (frX10_shorterWay o a1 ho σ6 hc10) (by decide) ?_
      obtain ⟨x14, σ12, hc13, h⟩ := cI_t h
      refine F_call (frX10_engage o a1 x11 ho σ9 hc13) (by decide) ?_
      refine F_if h (fun h => ?_) (fun h => ?_)
      · skip
        cases h
        exact F_refl
      · skip
        obtain ⟨x17, σ15, hc16, h⟩ := cI_t h
        refine F_call (frX10_force o ho σ12 hc16) (by decide) ?_
        refine F_if h (fun h => ?_) (fun h => ?_)
        · skip
          cases h
          exact F_refl
        · skip
          cases h
          exact F_refl
    · skip
      cases h
      exact F_refl
set_option maxRecDepth 100000 in
set_option maxHeartbeats 4000000 in
theorem frX10_moveVane (o : Nat) (a1 : Int32) (ho : KD o = 10) (σ : Mm) {τ : Mm} (h : fX10_moveVane o a1 σ = some τ) : FK [4, 10] σ τ := by
  unfold fX10_moveVane at h
  refine F_rrf h (fun q1 hq1 h => ?_)
  obtain ⟨x4, σ2, hc3, h⟩ := cI_t h
  refine F_call (frX10_toothBehindStep o a1 ho σ hc3) (by decide) ?_
  refine F_sar hq1 (by decide) h (fun σ5 h => ?_)
  refine F_rrf h (fun q6 hq6 h => ?_)
  refine F_gar h (fun x7 h => ?_)
  refine F_sar hq6 (by decide) h (fun σ8 h => ?_)
  refine F_rsc h (fun x9 h => ?_)
  refine F_psc ho (by decide) h (fun σ10 h => ?_)
  refine F_rrf h (fun q11 hq11 h => ?_)
  refine F_gar h (fun x12 h => ?_)
  refine F_ifn h (fun h => ?_) (fun h => ?_)
  · cases h
    exact F_refl
  · skip
    refine F_rrf h (fun q13 hq13 h => ?_)
    refine F_gar h (fun x14 h => ?_)
    refine F_sar hq13 (by decide) h (fun σ15 h => ?_)
    refine F_rsc h (fun x16 h => ?_)
    refine F_rsc h (fun x17 h => ?_)
    refine F_ifn h (fun h => ?_) (fun h => ?_)
    · skip
      refine F_rsc h (fun x18 h => ?_)
      refine F_psc ho (by decide) h (fun σ19 h => ?_)
      cases h
      exact F_refl
    · skip
      refine F_psc ho (by decide) h (fun σ20 h => ?_)
      refine F_rsc h (fun x21 h => ?_)
      refine F_psc ho (by decide) h (fun σ22 h => ?_)
      cases h
      exact F_refl
set_option maxRecDepth 100000 in
set_option maxHeartbeats 4000000 in
theorem ftX10_move_52 {τ : Mm} (o : Nat) (ho : KD o = 10) : ∀ (n : Nat) (v1 : Int32) (σ : Mm), fX10_move_52 o n v1 σ = some τ → FK [4, 10] σ τ := by
  intro n
  induction n with
  | zero => intro v1 σ h; rw [fX10_move_52] at h; cases h
  | succ n ih =>
    intro v1 σ h
    rw [fX10_move_52] at h
    refine F_rrf h (fun q14 hq14 h => ?_)
    refine F_rsc h (fun x15 h => ?_)
    refine F_if h (fun h => ?_) (fun h => ?_)
    · cases h
      exact F_refl
    · skip
      refine F_rsc h (fun x16 h => ?_)
      obtain ⟨x19, σ17, hc18, h⟩ := cI_t h
      refine F_call (frX11_has x16 v1 σ hc18) (by decide) ?_
      refine F_if h (fun h => ?_) (fun h => ?_)
      · skip
        exact ih (v1 + (1 : Int32)) σ17 h
      · skip
        obtain ⟨σ20, hc21, h⟩ := cV_t h
        refine F_call (frX10_moveVane o v1 ho σ17 hc21) (by decide) ?_
        exact ih (v1 + (1 : Int32)) σ20 h
set_option maxRecDepth 100000 in
set_option maxHeartbeats 4000000 in
theorem ftX10_move_2 {τ : Mm} (o : Nat) (ho : KD o = 10) : ∀ (n : Nat) (v1 : Int32) (σ : Mm), fX10_move_2 o n v1 σ = some τ → FK [4, 10] σ τ := by
  intro n
  induction n with
  | zero => intro v1 σ h; rw [fX10_move_2] at h; cases h
  | succ n ih =>
    intro v1 σ h
    rw [fX10_move_2] at h
    refine F_rrf h (fun q1 hq1 h => ?_)
    refine F_rsc h (fun x2 h => ?_)
    refine F_if h (fun h => ?_) (fun h => ?_)
    · skip
      exact ftX10_move_52 o ho FU (0 : Int32) σ h
    · skip
      refine F_rrf h (fun q3 hq3 h => ?_)
      refine F_rsc h (fun x4 h => ?_)
      obtain ⟨x7, σ5, hc6, h⟩ := cI_t h
      refine F_call (frX11_has x4 v1 σ hc6) (by decide) ?_
      refine F_ifn h (fun h => ?_) (fun h => ?_)
      · skip
        exact ih (v1 + (1 : Int32)) σ5 h
      · skip
        refine F_rrf h (fun q8 hq8 h => ?_)
        refine F_gar h (fun x9 h => ?_)
        obtain ⟨x12, σ10, hc11, h⟩ := cI_t h
        refine F_call (frX10_playChange o v1 ho σ5 hc11) (by decide) ?_
        refine F_sar hq8 (by decide) h (fun σ13 h => ?_)
        exact ih (v1 + (1 : Int32)) σ13 h
set_option maxRecDepth 100000 in
set_option maxHeartbeats 4000000 in
theorem frX10_move (o : Nat) (ho : KD o = 10) (σ : Mm) {τ : Mm} (h : fX10_move o σ = some τ) : FK [4, 10] σ τ := by
  unfold fX10_move at h
  exact ftX10_move_2 o ho FU (0 : Int32) σ h
set_option maxRecDepth 100000 in
set_option maxHeartbeats 4000000 in
theorem ftX10_goOn_46 {xr : Int32} {τ : Mm} (o : Nat) (a1 : Int32) (ho : KD o = 10) (k2 : Int32 → Mm → Option (Int32 × Mm)) (hk2 : ∀ (v2 : Int32) (σ : Mm), k2 v2 σ = some (xr, τ) → FK [4, 10] σ τ) (v2 : Int32) (v3 : Int32) (σ : Mm) (h : fX10_goOn_46 o a1 k2 v2 v3 σ = some (xr, τ)) : FK [4, 10] σ τ := by
  unfold fX10_goOn_46 at h
  refine F_rsc h (fun x9 h => ?_)
  refine F_ifn h (fun h => ?_) (fun h => ?_)
  · skip
    exact hk2 (v2 + (1 : Int32)) σ h
  · skip
    cases h
    exact F_refl
set_option maxRecDepth 100000 in
set_option maxHeartbeats 4000000 in
theorem ftX10_goOn_15 {xr : Int32} {τ : Mm} (o : Nat) (a1 : Int32) (ho : KD o = 10) (k2 : Int32 → Mm → Option (Int32 × Mm)) (hk2 : ∀ (v2 : Int32) (σ : Mm), k2 v2 σ = some (xr, τ) → FK [4, 10] σ τ) : ∀ (n : Nat) (v2 : Int32) (v3 : Int32) (v4 : Int32) (σ : Mm), fX10_goOn_15 o a1 k2 n v2 v3 v4 σ = some (xr, τ) → FK [4, 10] σ τ := by
  intro n
  induction n with
  | zero => intro v2 v3 v4 σ h; rw [fX10_goOn_15] at h; cases h
  | succ n ih =>
    intro v2 v3 v4 σ h
    rw [fX10_goOn_15] at h
    refine F_rrf h (fun q2 hq2 h => ?_)
    refine F_rsc h (fun x3 h => ?_)
    refine F_if h (fun h => ?_) (fun h => ?_)
    · skip
      exact ftX10_goOn_46 o a1 ho k2 hk2 v2 v3 σ h
    · skip
      obtain ⟨x6, σ4, hc5, h⟩ := cI_t h
      refine F_call (frX10_isDriven o v4 ho σ hc5) (by decide) ?_
      refine F_if h (fun h => ?_) (fun h => ?_)
      · skip
        exact ih v2 v3 (v4 + (1 : Int32)) σ4 h
      · skip
        obtain ⟨σ7, hc8, h⟩ := cV_t h
        refine F_call (frX10_move o ho σ4 hc8) (by decide) ?_
        exact ih v2 v3 (v4 + (1 : Int32)) σ7 h
set_option maxRecDepth 100000 in
set_option maxHeartbeats 4000000 in
theorem ftX10_goOn_2 {xr : Int32} {τ : Mm} (o : Nat) (a1 : Int32) (ho : KD o = 10) : ∀ (n : Nat) (v2 : Int32) (σ : Mm), fX10_goOn_2 o a1 n v2 σ = some (xr, τ) → FK [4, 10] σ τ := by
  intro n
  induction n with
  | zero => intro v2 σ h; rw [fX10_goOn_2] at h; cases h
  | succ n ih =>
    intro v2 σ h
    rw [fX10_goOn_2] at h
    refine F_if h (fun h => ?_) (fun h => ?_)
    · skip
      cases h
      exact F_refl
    · skip
      refine F_rsc h (fun x1 h => ?_)
      exact ftX10_goOn_15 o a1 ho (fX10_goOn_2 o a1 n) ih FU v2 x1 (0 : Int32) σ h
set_option maxRecDepth 100000 in
set_option maxHeartbeats 4000000 in
theorem frX10_goOn (o : Nat) (a1 : Int32) (ho : KD o = 10) (σ : Mm) {xr : Int32} {τ : Mm} (h : fX10_goOn o a1 σ = some (xr, τ)) : FK [4, 10] σ τ := by
  unfold fX10_goOn at h
  exact ftX10_goOn_2 o a1 ho FU (0 : Int32) σ h
set_option maxRecDepth 100000 in
set_option maxHeartbeats 4000000 in
theorem ftX10_turnByHand_19 {xr : Int32} {τ : Mm} (o : Nat) (a1 : Int32) (a2 : Int32) (ho : KD o = 10) : ∀ (n : Nat) (v3 : Int32) (v4 : Int32) (v5 : Int32) (σ : Mm), fX10_turnByHand_19 o a1 a2 n v3 v4 v5 σ = some (xr, τ) → FK [4, 10] σ τ := by
  intro n
  induction n with
  | zero => intro v3 v4 v5 σ h; rw [fX10_turnByHand_19] at h; cases h
  | succ n ih =>
    intro v3 v4 v5 σ h
    rw [fX10_turnByHand_19] at h
    refine F_if h (fun h => ?_) (fun h => ?_)
    · skip
      cases h
      exact F_refl
    · skip
      obtain ⟨x3, σ1, hc2, h⟩ := cI_t h
      refine F_call (frX10_engage o a1 v3 ho σ hc2) (by decide) ?_
      refine F_ifn h (fun h => ?_) (fun h => ?_)
      · skip
        obtain ⟨σ4, hc5, h⟩ := cV_t h
        refine F_call (frX10_move o ho σ1 hc5) (by decide) ?_
        exact ih v3 v4 (v5 + (1 : Int32)) σ4 h
      · skip
        cases h
        exact F_refl
set_option maxRecDepth 100000 in
set_option maxHeartbeats 4000000 in
theorem frX10_turnByHand (o : Nat) (a1 : Int32) (a2 : Int32) (ho : KD o = 10) (σ : Mm) {xr : Int32} {τ : Mm} (h : fX10_turnByHand o a1 a2 σ = some (xr, τ)) : FK [4, 10] σ τ := by
  unfold fX10_turnByHand at h
  refine F_if h (fun h => ?_) (fun h => ?_)
  · skip
    exact ftX10_turnByHand_19 o a1 a2 ho FU (1 : Int32) (if 0 ≤ a2 then a2 else 0 - a2) (0 : Int32) σ h
  · skip
    exact ftX10_turnByHand_19 o a1 a2 ho FU (-1 : Int32) (if 0 ≤ a2 then a2 else 0 - a2) (0 : Int32) σ h
set_option maxRecDepth 100000 in
set_option maxHeartbeats 4000000 in
theorem frX3_perform (o : Nat) (a1 : Int32) (ho : KD o = 3) (σ : Mm) {τ : Mm} (h : fX3_perform o a1 σ = some τ) : FK [3, 4, 10] σ τ := by
  unfold fX3_perform at h
  refine F_rrf h (fun q1 hq1 h => ?_)
  refine F_gar h (fun x2 h => ?_)
  refine F_rrf h (fun q3 hq3 h => ?_)
  refine F_gar h (fun x4 h => ?_)
  refine F_rrf h (fun q5 hq5 h => ?_)
  refine F_gar h (fun x6 h => ?_)
  by_cases hs7 : x6 = (10 : Int32)
  · rw [if_pos hs7] at h
    refine F_rrf h (fun q8 hq8 h => ?_)
    refine F_rrf h (fun q9 hq9 h => ?_)
    refine F_gar h (fun x10 h => ?_)
    obtain ⟨σ11, hc12, h⟩ := cV_t h
    refine F_call (frX10_blow q8 x2 x10 x4 hq8 σ hc12) (by decide) ?_
    cases h
    exact F_refl
  rw [if_neg hs7] at h
  by_cases hs13 : x6 = (11 : Int32)
  · rw [if_pos hs13] at h
    refine F_rrf h (fun q14 hq14 h => ?_)
    obtain ⟨x17, σ15, hc16, h⟩ := cI_t h
    refine F_call (frX10_goOn q14 x4 hq14 σ hc16) (by decide) ?_
    refine F_rsc h (fun x18 h => ?_)
    refine F_psc ho (by decide) h (fun σ19 h => ?_)
    cases h
    exact F_refl
  rw [if_neg hs13] at h
  by_cases hs20 : x6 = (12 : Int32)
  · rw [if_pos hs20] at h
    refine F_rsc h (fun x21 h => ?_)
    refine F_rrf h (fun q22 hq22 h => ?_)
    refine F_gar h (fun x23 h => ?_)
    refine F_ifn h (fun h => ?_) (fun h => ?_)
    · skip
      obtain ⟨x26, σ24, hc25, h⟩ := cI_t h
      refine F_call (frX11_with x21 x2 (0 : Int32) σ hc25) (by decide) ?_
      refine F_psc (tk3_0 ho) (by decide) h (fun σ27 h => ?_)
      cases h
      exact F_refl
    · skip
      obtain ⟨x30, σ28, hc29, h⟩ := cI_t h
      refine F_call (frX11_with x21 x2 (1 : Int32) σ hc29) (by decide) ?_
      refine F_psc (tk3_0 ho) (by decide) h (fun σ31 h => ?_)
      cases h
      exact F_refl
  rw [if_neg hs20] at h
  by_cases hs32 : x6 = (13 : Int32)
  · rw [if_pos hs32] at h
    refine F_rsc h (fun x33 h => ?_)
    refine F_rrf h (fun q34 hq34 h => ?_)
    refine F_gar h (fun x35 h => ?_)
    refine F_ifn h (fun h => ?_) (fun h => ?_)
    · skip
      obtain ⟨x38, σ36, hc37, h⟩ := cI_t h
      refine F_call (frX11_with x33 x2 (0 : Int32) σ hc37) (by decide) ?_
      refine F_psc (tk3_0 ho) (by decide) h (fun σ39 h => ?_)
      cases h
      exact F_refl
    · skip
      obtain ⟨x42, σ40, hc41, h⟩ := cI_t h
      refine F_call (frX11_with x33 x2 (1 : Int32) σ hc41) (by decide) ?_
      refine F_psc (tk3_0 ho) (by decide) h (fun σ43 h => ?_)
      cases h
      exact F_refl
  rw [if_neg hs32] at h
  by_cases hs44 : x6 = (14 : Int32)
  · rw [if_pos hs44] at h
    refine F_rsc h (fun x45 h => ?_)
    refine F_rrf h (fun q46 hq46 h => ?_)
    refine F_gar h (fun x47 h => ?_)
    refine F_ifn h (fun h => ?_) (fun h => ?_)
    · skip
      obtain ⟨x50, σ48, hc49, h⟩ := cI_t h
      refine F_call (frX11_with x45 x2 (0 : Int32) σ hc49) (by decide) ?_
      refine F_psc (tk3_0 ho) (by decide) h (fun σ51 h => ?_)
      cases h
      exact F_refl
    · skip
      obtain ⟨x54, σ52, hc53, h⟩ := cI_t h
      refine F_call (frX11_with x45 x2 (1 : Int32) σ hc53) (by decide) ?_
      refine F_psc (tk3_0 ho) (by decide) h (fun σ55 h => ?_)
      cases h
      exact F_refl
  rw [if_neg hs44] at h
  by_cases hs56 : x6 = (15 : Int32)
  · rw [if_pos hs56] at h
    refine F_rsc h (fun x57 h => ?_)
    refine F_rrf h (fun q58 hq58 h => ?_)
    refine F_gar h (fun x59 h => ?_)
    refine F_ifn h (fun h => ?_) (fun h => ?_)
    · skip
      obtain ⟨x62, σ60, hc61, h⟩ := cI_t h
      refine F_call (frX11_with x57 x2 (0 : Int32) σ hc61) (by decide) ?_
      refine F_psc (tk3_0 ho) (by decide) h (fun σ63 h => ?_)
      cases h
      exact F_refl
    · skip
      obtain ⟨x66, σ64, hc65, h⟩ := cI_t h
      refine F_call (frX11_with x57 x2 (1 : Int32) σ hc65) (by decide) ?_
      refine F_psc (tk3_0 ho) (by decide) h (fun σ67 h => ?_)
      cases h
      exact F_refl
  rw [if_neg hs56] at h
  by_cases hs68 : x6 = (16 : Int32)
  · rw [if_pos hs68] at h
    refine F_rrf h (fun q69 hq69 h => ?_)
    obtain ⟨x72, σ70, hc71, h⟩ := cI_t h
    refine F_call (frX10_turnByHand q69 x2 x4 hq69 σ hc71) (by decide) ?_
    cases h
    exact F_refl
  rw [if_neg hs68] at h
  by_cases hs73 : x6 = (17 : Int32)
  · rw [if_pos hs73] at h
    obtain ⟨σ74, hc75, h⟩ := cV_t h
    refine F_call (frX3_drawWinds o x4 ho σ hc75) (by decide) ?_
    cases h
    exact F_refl
  rw [if_neg hs73] at h
  by_cases hs76 : x6 = (20 : Int32)
  · rw [if_pos hs76] at h
    refine F_sar ho (by decide) h (fun σ77 h => ?_)
    cases h
    exact F_refl
  rw [if_neg hs76] at h
  cases h
  exact F_refl
set_option maxRecDepth 100000 in
set_option maxHeartbeats 4000000 in
theorem frX3_isSo (o : Nat) (a1 : Int32) (ho : KD o = 3) (σ : Mm) {xr : Int32} {τ : Mm} (h : fX3_isSo o a1 σ = some (xr, τ)) : FK [] σ τ := by
  unfold fX3_isSo at h
  refine F_rrf h (fun q1 hq1 h => ?_)
  refine F_gar h (fun x2 h => ?_)
  refine F_gar h (fun x3 h => ?_)
  refine F_rrf h (fun q4 hq4 h => ?_)
  refine F_gar h (fun x5 h => ?_)
  by_cases hs6 : x5 = (60 : Int32)
  · rw [if_pos hs6] at h
    refine F_rrf h (fun q7 hq7 h => ?_)
    refine F_gar h (fun x8 h => ?_)
    refine F_if h (fun h => ?_) (fun h => ?_)
    · skip
      cases h
      exact F_refl
    · skip
      cases h
      exact F_refl
  rw [if_neg hs6] at h
  by_cases hs9 : x5 = (61 : Int32)
  · rw [if_pos hs9] at h
    refine F_rrf h (fun q10 hq10 h => ?_)
    refine F_gar h (fun x11 h => ?_)
    refine F_ifn h (fun h => ?_) (fun h => ?_)
    · skip
      cases h
      exact F_refl
    · skip
      cases h
      exact F_refl
  rw [if_neg hs9] at h
  by_cases hs12 : x5 = (62 : Int32)
  · rw [if_pos hs12] at h
    refine F_rrf h (fun q13 hq13 h => ?_)
    refine F_gar h (fun x14 h => ?_)
    refine F_if h (fun h => ?_) (fun h => ?_)
    · skip
      cases h
      exact F_refl
    · skip
      cases h
      exact F_refl
  rw [if_neg hs12] at h
  refine F_rrf h (fun q15 hq15 h => ?_)
  obtain ⟨x18, σ16, hc17, h⟩ := cI_t h
  refine F_call (frX10_isRight q15 x2 hq15 σ hc17) (by decide) ?_
  obtain ⟨hz19, h⟩ := bz_t h
  cases h
  exact F_refl
set_option maxRecDepth 100000 in
set_option maxHeartbeats 4000000 in
theorem frX3_rowBehindStep (o : Nat) (a1 : Int32) (ho : KD o = 3) (σ : Mm) {xr : Int32} {τ : Mm} (h : fX3_rowBehindStep o a1 σ = some (xr, τ)) : FK [] σ τ := by
  unfold fX3_rowBehindStep at h
  refine F_rrf h (fun q1 hq1 h => ?_)
  refine F_gar h (fun x2 h => ?_)
  refine F_ifn h (fun h => ?_) (fun h => ?_)
  · skip
    refine F_rrf h (fun q3 hq3 h => ?_)
    refine F_gar h (fun x4 h => ?_)
    refine F_ifn h (fun h => ?_) (fun h => ?_)
    · skip
      cases h
      exact F_refl
    · skip
      obtain ⟨x7, σ5, hc6, h⟩ := cI_t h
      refine F_call (frX3_isSo o a1 ho σ hc6) (by decide) ?_
      refine F_ifn h (fun h => ?_) (fun h => ?_)
      · skip
        cases h
        exact F_refl
      · skip
        refine F_rrf h (fun q8 hq8 h => ?_)
        refine F_gar h (fun x9 h => ?_)
        cases h
        exact F_refl
  · skip
    refine F_rrf h (fun q10 hq10 h => ?_)
    refine F_rsc h (fun x11 h => ?_)
    cases h
    exact F_refl
set_option maxRecDepth 100000 in
set_option maxHeartbeats 4000000 in
theorem ftX3_carryOut_73 {τ : Mm} (o : Nat) (a1 : Nat) (a2 : Int32) (a3 : Nat) (ho : KD o = 3) (ha1 : KD a1 = 7) (ha3 : KD a3 = 10) : ∀ (n : Nat) (v4 : Int32) (v5 : Int32) (σ : Mm), fX3_carryOut_73 o a1 a2 a3 n v4 v5 σ = some τ → FK [3, 4, 10] σ τ := by
  intro n
  induction n with
  | zero => intro v4 v5 σ h; rw [fX3_carryOut_73] at h; cases h
  | succ n ih =>
    intro v4 v5 σ h
    rw [fX3_carryOut_73] at h
    refine F_if h (fun h => ?_) (fun h => ?_)
    · cases h
      exact F_refl
    · skip
      refine F_rrf h (fun q16 hq16 h => ?_)
      refine F_rsc h (fun x17 h => ?_)
      refine F_if h (fun h => ?_) (fun h => ?_)
      · cases h
        exact F_refl
      · skip
        refine F_rrf h (fun q18 hq18 h => ?_)
        refine F_gar h (fun x19 h => ?_)
        refine F_ifn h (fun h => ?_) (fun h => ?_)
        · skip
          refine F_rsc h (fun x20 h => ?_)
          refine F_if h (fun h => ?_) (fun h => ?_)
          · skip
            refine F_pbz ho (by decide) h (fun σ21 h => ?_)
            refine F_rrf h (fun q22 hq22 h => ?_)
            refine F_rsc h (fun x23 h => ?_)
            exact ih x23 (v5 + (1 : Int32)) σ21 h
          · skip
            refine F_rsc h (fun x24 h => ?_)
            refine F_psc ho (by decide) h (fun σ25 h => ?_)
            obtain ⟨σ26, hc27, h⟩ := cV_t h
            refine F_call (frX3_perform o v4 ho σ25 hc27) (by decide) ?_
            obtain ⟨x30, σ28, hc29, h⟩ := cI_t h
            refine F_call (frX3_rowBehindStep o v4 ho σ26 hc29) (by decide) ?_
            exact ih x30 (v5 + (1 : Int32)) σ28 h
        · skip
          obtain ⟨x33, σ31, hc32, h⟩ := cI_t h
          refine F_call (frX3_rowBehindEnd o v4 ho σ hc32) (by decide) ?_
          exact ih x33 (v5 + (1 : Int32)) σ31 h
set_option maxRecDepth 100000 in
set_option maxHeartbeats 4000000 in
theorem frX3_carryOut (o : Nat) (a1 : Nat) (a2 : Int32) (a3 : Nat) (ho : KD o = 3) (ha1 : KD a1 = 7) (ha3 : KD a3 = 10) (σ : Mm) {τ : Mm} (h : fX3_carryOut o a1 a2 a3 σ = some τ) : FK [3, 4, 10] σ τ := by
  unfold fX3_carryOut at h
  obtain ⟨σ1, hc2, h⟩ := cV_t h
  refine F_call (frX4_copyFrom (tg o 0) (tg a1 1) (tk3_0 ho) (tk7_1 ha1) σ hc2) (by decide) ?_
  refine F_rrf h (fun q3 hq3 h => ?_)
  refine F_prf ho (by decide) h (fun σ4 h => ?_)
  refine F_rrf h (fun q5 hq5 h => ?_)
  refine F_prf ho (by decide) h (fun σ6 h => ?_)
  refine F_prf ho (by decide) h (fun σ7 h => ?_)
  refine F_rrf h (fun q8 hq8 h => ?_)
  refine F_rrf h (fun q9 hq9 h => ?_)
  obtain ⟨σ10, hc11, h⟩ := cV_t h
  refine F_call (frX10_use q8 q9 (tg o 0) hq8 hq9 (tk3_0 ho) σ7 hc11) (by decide) ?_
  refine F_psc ho (by decide) h (fun σ12 h => ?_)
  refine F_psc ho (by decide) h (fun σ13 h => ?_)
  refine F_psc ho (by decide) h (fun σ14 h => ?_)
  refine F_pbz ho (by decide) h (fun σ15 h => ?_)
  exact ftX3_carryOut_73 o a1 a2 a3 ho ha1 ha3 FU (0 : Int32) (0 : Int32) σ15 h
set_option maxRecDepth 100000 in
set_option maxHeartbeats 4000000 in
theorem ftX10_rightSet_4 {xr : Int32} {τ : Mm} (o : Nat) (ho : KD o = 10) : ∀ (n : Nat) (v1 : Int32) (v2 : Int32) (σ : Mm), fX10_rightSet_4 o n v1 v2 σ = some (xr, τ) → FK [] σ τ := by
  intro n
  induction n with
  | zero => intro v1 v2 σ h; rw [fX10_rightSet_4] at h; cases h
  | succ n ih =>
    intro v1 v2 σ h
    rw [fX10_rightSet_4] at h
    refine F_rrf h (fun q1 hq1 h => ?_)
    refine F_rsc h (fun x2 h => ?_)
    refine F_if h (fun h => ?_) (fun h => ?_)
    · skip
      cases h
      exact F_refl
    · skip
      obtain ⟨x5, σ3, hc4, h⟩ := cI_t h
      refine F_call (frX10_isRight o v2 ho σ hc4) (by decide) ?_
      obtain ⟨x8, σ6, hc7, h⟩ := cI_t h
      refine F_call (frX11_with v1 v2 x5 σ3 hc7) (by decide) ?_
      exact ih x8 (v2 + (1 : Int32)) σ6 h
set_option maxRecDepth 100000 in
set_option maxHeartbeats 4000000 in
theorem frX10_rightSet (o : Nat) (ho : KD o = 10) (σ : Mm) {xr : Int32} {τ : Mm} (h : fX10_rightSet o σ = some (xr, τ)) : FK [] σ τ := by
  unfold fX10_rightSet at h
  exact ftX10_rightSet_4 o ho FU (0 : Int32) (0 : Int32) σ h
set_option maxRecDepth 100000 in
set_option maxHeartbeats 4000000 in
theorem frX3_report (o : Nat) (a1 : Nat) (ho : KD o = 3) (ha1 : KD a1 = 10) (σ : Mm) {τ : Mm} (h : fX3_report o a1 σ = some τ) : FK [3] σ τ := by
  unfold fX3_report at h
  refine F_pbz ho (by decide) h (fun σ1 h => ?_)
  refine F_rsc h (fun x2 h => ?_)
  refine F_sar ho (by decide) h (fun σ3 h => ?_)
  refine F_rsc h (fun x4 h => ?_)
  refine F_sar ho (by decide) h (fun σ5 h => ?_)
  refine F_rsc h (fun x6 h => ?_)
  refine F_sar ho (by decide) h (fun σ7 h => ?_)
  obtain ⟨x10, σ8, hc9, h⟩ := cI_t h
  refine F_call (frX10_rightSet a1 ha1 σ7 hc9) (by decide) ?_
  refine F_sar ho (by decide) h (fun σ11 h => ?_)
  refine F_rsc h (fun x12 h => ?_)
  refine F_if h (fun h => ?_) (fun h => ?_)
  · skip
    refine F_sar ho (by decide) h (fun σ13 h => ?_)
    refine F_rrf h (fun q14 hq14 h => ?_)
    refine F_rsc h (fun x15 h => ?_)
    refine F_psc ho (by decide) h (fun σ16 h => ?_)
    refine F_aci ho (by decide) h (fun σ17 h => ?_)
    cases h
    exact F_refl
  · skip
    refine F_sar ho (by decide) h (fun σ18 h => ?_)
    refine F_rrf h (fun q19 hq19 h => ?_)
    refine F_rsc h (fun x20 h => ?_)
    refine F_psc ho (by decide) h (fun σ21 h => ?_)
    refine F_aci ho (by decide) h (fun σ22 h => ?_)
    cases h
    exact F_refl
set_option maxRecDepth 100000 in
set_option maxHeartbeats 4000000 in
theorem ftX4_blowEverywhere_2 {τ : Mm} (o : Nat) (a1 : Int32) (a2 : Int32) (ho : KD o = 4) : ∀ (n : Nat) (v3 : Int32) (σ : Mm), fX4_blowEverywhere_2 o a1 a2 n v3 σ = some τ → FK [4] σ τ := by
  intro n
  induction n with
  | zero => intro v3 σ h; rw [fX4_blowEverywhere_2] at h; cases h
  | succ n ih =>
    intro v3 σ h
    rw [fX4_blowEverywhere_2] at h
    refine F_if h (fun h => ?_) (fun h => ?_)
    · cases h
      exact F_refl
    · skip
      refine F_sar ho (by decide) h (fun σ1 h => ?_)
      refine F_sar ho (by decide) h (fun σ2 h => ?_)
      exact ih (v3 + (1 : Int32)) σ2 h
set_option maxRecDepth 100000 in
set_option maxHeartbeats 4000000 in
theorem frX4_blowEverywhere (o : Nat) (a1 : Int32) (a2 : Int32) (ho : KD o = 4) (σ : Mm) {τ : Mm} (h : fX4_blowEverywhere o a1 a2 σ = some τ) : FK [4] σ τ := by
  unfold fX4_blowEverywhere at h
  exact ftX4_blowEverywhere_2 o a1 a2 ho FU (0 : Int32) σ h
set_option maxRecDepth 100000 in
set_option maxHeartbeats 4000000 in
theorem ftX4_begin_79 {τ : Mm} (o : Nat) (a1 : Nat) (ho : KD o = 4) (ha1 : KD a1 = 2) (σ : Mm) (h : fX4_begin_79 o a1 σ = some τ) : FK [4] σ τ := by
  unfold fX4_begin_79 at h
  refine F_psc ho (by decide) h (fun σ12 h => ?_)
  refine F_psc ho (by decide) h (fun σ13 h => ?_)
  refine F_psc ho (by decide) h (fun σ14 h => ?_)
  cases h
  exact F_refl
set_option maxRecDepth 100000 in
set_option maxHeartbeats 4000000 in
theorem ftX4_begin_60 {τ : Mm} (o : Nat) (a1 : Nat) (ho : KD o = 4) (ha1 : KD a1 = 2) : ∀ (n : Nat) (v2 : Int32) (σ : Mm), fX4_begin_60 o a1 n v2 σ = some τ → FK [4] σ τ := by
  intro n
  induction n with
  | zero => intro v2 σ h; rw [fX4_begin_60] at h; cases h
  | succ n ih =>
    intro v2 σ h
    rw [fX4_begin_60] at h
    refine F_if h (fun h => ?_) (fun h => ?_)
    · skip
      exact ftX4_begin_79 o a1 ho ha1 σ h
    · skip
      refine F_sar ho (by decide) h (fun σ11 h => ?_)
      exact ih (v2 + (1 : Int32)) σ11 h
set_option maxRecDepth 100000 in
set_option maxHeartbeats 4000000 in
theorem ftX4_begin_8 {τ : Mm} (o : Nat) (a1 : Nat) (ho : KD o = 4) (ha1 : KD a1 = 2) : ∀ (n : Nat) (v2 : Int32) (σ : Mm), fX4_begin_8 o a1 n v2 σ = some τ → FK [4] σ τ := by
  intro n
  induction n with
  | zero => intro v2 σ h; rw [fX4_begin_8] at h; cases h
  | succ n ih =>
    intro v2 σ h
    rw [fX4_begin_8] at h
    refine F_if h (fun h => ?_) (fun h => ?_)
    · skip
      exact ftX4_begin_60 o a1 ho ha1 FU (0 : Int32) σ h
    · skip
      refine F_rsc h (fun x3 h => ?_)
      refine F_if h (fun h => ?_) (fun h => ?_)
      · skip
        refine F_sar ho (by decide) h (fun σ4 h => ?_)
        refine F_sar ho (by decide) h (fun σ5 h => ?_)
        refine F_sar ho (by decide) h (fun σ6 h => ?_)
        exact ih (v2 + (1 : Int32)) σ6 h
      · skip
        refine F_gar h (fun x7 h => ?_)
        refine F_sar ho (by decide) h (fun σ8 h => ?_)
        refine F_sar ho (by decide) h (fun σ9 h => ?_)
        refine F_sar ho (by decide) h (fun σ10 h => ?_)
        exact ih (v2 + (1 : Int32)) σ10 h
set_option maxRecDepth 100000 in
set_option maxHeartbeats 4000000 in
theorem frX4_begin (o : Nat) (a1 : Nat) (ho : KD o = 4) (ha1 : KD a1 = 2) (σ : Mm) {τ : Mm} (h : fX4_begin o a1 σ = some τ) : FK [4] σ τ := by
  unfold fX4_begin at h
  obtain ⟨σ1, hc2, h⟩ := cV_t h
  refine F_call (frX4_blowEverywhere o (0 : Int32) (0 : Int32) ho σ hc2) (by decide) ?_
  exact ftX4_begin_8 o a1 ho ha1 FU (0 : Int32) σ1 h
set_option maxRecDepth 100000 in
set_option maxHeartbeats 4000000 in
theorem frX5_copyFrom (o : Nat) (a1 : Nat) (ho : KD o = 5) (ha1 : KD a1 = 5) (σ : Mm) {τ : Mm} (h : fX5_copyFrom o a1 σ = some τ) : FK [5] σ τ := by
  unfold fX5_copyFrom at h
  refine F_rsc h (fun x1 h => ?_)
  refine F_pbz ho (by decide) h (fun σ2 h => ?_)
  refine F_rsc h (fun x3 h => ?_)
  refine F_psc ho (by decide) h (fun σ4 h => ?_)
  refine F_rsc h (fun x5 h => ?_)
  refine F_psc ho (by decide) h (fun σ6 h => ?_)
  refine F_aci ho (by decide) h (fun σ7 h => ?_)
  refine F_aci ho (by decide) h (fun σ8 h => ?_)
  refine F_aci ho (by decide) h (fun σ9 h => ?_)
  refine F_aci ho (by decide) h (fun σ10 h => ?_)
  refine F_aci ho (by decide) h (fun σ11 h => ?_)
  cases h
  exact F_refl
set_option maxRecDepth 100000 in
set_option maxHeartbeats 4000000 in
theorem frX6_hasRoomFor (o : Nat) (a1 : Int32) (ho : KD o = 6) (σ : Mm) {xr : Int32} {τ : Mm} (h : fX6_hasRoomFor o a1 σ = some (xr, τ)) : FK [] σ τ := by
  unfold fX6_hasRoomFor at h
  refine F_rsc h (fun x1 h => ?_)
  refine F_if h (fun h => ?_) (fun h => ?_)
  · skip
    cases h
    exact F_refl
  · skip
    cases h
    exact F_refl
set_option maxRecDepth 100000 in
set_option maxHeartbeats 4000000 in
theorem ftX6_append_3 {τ : Mm} (o : Nat) (a1 : Int32) (ho : KD o = 6) : ∀ (n : Nat) (v2 : Int32) (σ : Mm), fX6_append_3 o a1 n v2 σ = some τ → FK [6] σ τ := by
  intro n
  induction n with
  | zero => intro v2 σ h; rw [fX6_append_3] at h; cases h
  | succ n ih =>
    intro v2 σ h
    rw [fX6_append_3] at h
    refine F_if h (fun h => ?_) (fun h => ?_)
    · cases h
      exact F_refl
    · skip
      refine F_rsc h (fun x1 h => ?_)
      refine F_if h (fun h => ?_) (fun h => ?_)
      · cases h
        exact F_refl
      · skip
        refine F_rsc h (fun x2 h => ?_)
        refine F_sar ho (by decide) h (fun σ3 h => ?_)
        refine F_rsc h (fun x4 h => ?_)
        refine F_psc ho (by decide) h (fun σ5 h => ?_)
        exact ih (v2 + (-8 : Int32)) σ5 h
set_option maxRecDepth 100000 in
set_option maxHeartbeats 4000000 in
theorem frX6_append (o : Nat) (a1 : Int32) (ho : KD o = 6) (σ : Mm) {τ : Mm} (h : fX6_append o a1 σ = some τ) : FK [6] σ τ := by
  unfold fX6_append at h
  exact ftX6_append_3 o a1 ho FU (24 : Int32) σ h
set_option maxRecDepth 100000 in
set_option maxHeartbeats 4000000 in
theorem frX6_open (o : Nat) (a1 : Int32) (ho : KD o = 6) (σ : Mm) {τ : Mm} (h : fX6_open o a1 σ = some τ) : FK [6] σ τ := by
  unfold fX6_open at h
  refine F_psc ho (by decide) h (fun σ1 h => ?_)
  refine F_psc ho (by decide) h (fun σ2 h => ?_)
  refine F_psc ho (by decide) h (fun σ3 h => ?_)
  refine F_psc ho (by decide) h (fun σ4 h => ?_)
  obtain ⟨σ5, hc6, h⟩ := cV_t h
  refine F_call (frX6_advance o ho σ4 hc6) (by decide) ?_
  cases h
  exact F_refl
set_option maxRecDepth 100000 in
set_option maxHeartbeats 4000000 in
theorem frX6_takeOption (o : Nat) (a1 : Int32) (a2 : Int32) (ho : KD o = 6) (σ : Mm) {xr : Int32} {τ : Mm} (h : fX6_takeOption o a1 a2 σ = some (xr, τ)) : FK [6] σ τ := by
  unfold fX6_takeOption at h
  refine F_psc ho (by decide) h (fun σ1 h => ?_)
  refine F_rsc h (fun x2 h => ?_)
  refine F_if h (fun h => ?_) (fun h => ?_)
  · skip
    obtain ⟨σ3, hc4, h⟩ := cV_t h
    refine F_call (frX6_advance o ho σ1 hc4) (by decide) ?_
    obtain ⟨x7, σ5, hc6, h⟩ := cI_t h
    refine F_call (frX6_takeNumber o (0 : Int32) a2 ho σ3 hc6) (by decide) ?_
    obtain ⟨hz8, h⟩ := bz_t h
    cases h
    exact F_refl
  · skip
    cases h
    exact F_refl
set_option maxRecDepth 100000 in
set_option maxHeartbeats 4000000 in
theorem frX6_takeNewName (o : Nat) (a1 : Nat) (ho : KD o = 6) (ha1 : KD a1 = 2) (σ : Mm) {xr : Int32} {τ : Mm} (h : fX6_takeNewName o a1 σ = some (xr, τ)) : FK [6] σ τ := by
  unfold fX6_takeNewName at h
  obtain ⟨x3, σ1, hc2, h⟩ := cI_t h
  refine F_call (frX6_seesName o ho σ hc2) (by decide) ?_
  refine F_ifn h (fun h => ?_) (fun h => ?_)
  · skip
    refine F_rlg h (fun x4 h => ?_)
    obtain ⟨x7, σ5, hc6, h⟩ := cI_t h
    refine F_call (frX2_isTaken a1 x4 ha1 σ1 hc6) (by decide) ?_
    refine F_if h (fun h => ?_) (fun h => ?_)
    · skip
      obtain ⟨σ8, hc9, h⟩ := cV_t h
      refine F_call (frX6_advance o ho σ5 hc9) (by decide) ?_
      cases h
      exact F_refl
    · skip
      obtain ⟨x12, σ10, hc11, h⟩ := cI_t h
      refine F_call (frX6_refuse o (3 : Int32) ho σ5 hc11) (by decide) ?_
      obtain ⟨hz13, h⟩ := bz_t h
      cases h
      exact F_refl
  · skip
    cases h
    exact F_refl
set_option maxRecDepth 100000 in
set_option maxHeartbeats 4000000 in
theorem frX7_copyFrom (o : Nat) (a1 : Nat) (ho : KD o = 7) (ha1 : KD a1 = 7) (σ : Mm) {τ : Mm} (h : fX7_copyFrom o a1 σ = some τ) : FK [2, 4, 5] σ τ := by
  unfold fX7_copyFrom at h
  refine F_rrf h (fun q1 hq1 h => ?_)
  refine F_rrf h (fun q2 hq2 h => ?_)
  obtain ⟨σ3, hc4, h⟩ := cV_t h
  refine F_call (frX2_copyFrom q1 q2 hq1 hq2 σ hc4) (by decide) ?_
  obtain ⟨σ5, hc6, h⟩ := cV_t h
  refine F_call (frX4_copyFrom (tg o 1) (tg a1 1) (tk7_1 ho) (tk7_1 ha1) σ3 hc6) (by decide) ?_
  refine F_rrf h (fun q7 hq7 h => ?_)
  refine F_rrf h (fun q8 hq8 h => ?_)
  obtain ⟨σ9, hc10, h⟩ := cV_t h
  refine F_call (frX5_copyFrom q7 q8 hq7 hq8 σ5 hc10) (by decide) ?_
  cases h
  exact F_refl
set_option maxRecDepth 100000 in
set_option maxHeartbeats 4000000 in
theorem frX8_isMissing (o : Nat) (ho : KD o = 8) (σ : Mm) {xr : Int32} {τ : Mm} (h : fX8_isMissing o σ = some (xr, τ)) : FK [] σ τ := by
  unfold fX8_isMissing at h
  refine F_rsc h (fun x1 h => ?_)
  refine F_ifn h (fun h => ?_) (fun h => ?_)
  · skip
    cases h
    exact F_refl
  · skip
    cases h
    exact F_refl
set_option maxRecDepth 100000 in
set_option maxHeartbeats 4000000 in
theorem ftX8_lay_12 {τ : Mm} (o : Nat) (a1 : Int32) (a2 : Int32) (ho : KD o = 8) : ∀ (n : Nat) (v3 : Int32) (σ : Mm), fX8_lay_12 o a1 a2 n v3 σ = some τ → FK [8] σ τ := by
  intro n
  induction n with
  | zero => intro v3 σ h; rw [fX8_lay_12] at h; cases h
  | succ n ih =>
    intro v3 σ h
    rw [fX8_lay_12] at h
    refine F_if h (fun h => ?_) (fun h => ?_)
    · cases h
      exact F_refl
    · skip
      refine F_sla ho (by decide) h (fun σ3 h => ?_)
      exact ih (v3 + (1 : Int32)) σ3 h
set_option maxRecDepth 100000 in
set_option maxHeartbeats 4000000 in
theorem frX8_lay (o : Nat) (a1 : Int32) (a2 : Int32) (ho : KD o = 8) (σ : Mm) {τ : Mm} (h : fX8_lay o a1 a2 σ = some τ) : FK [8] σ τ := by
  unfold fX8_lay at h
  refine F_psc ho (by decide) h (fun σ1 h => ?_)
  refine F_psc ho (by decide) h (fun σ2 h => ?_)
  exact ftX8_lay_12 o a1 a2 ho FU (0 : Int32) σ2 h
set_option maxRecDepth 100000 in
set_option maxHeartbeats 4000000 in
theorem frX8_put (o : Nat) (a1 : Int32) (a2 : Int64) (ho : KD o = 8) (σ : Mm) {τ : Mm} (h : fX8_put o a1 a2 σ = some τ) : FK [8] σ τ := by
  unfold fX8_put at h
  refine F_rsc h (fun x1 h => ?_)
  by_cases hs2 : x1 = (0 : Int32)
  · rw [if_pos hs2] at h
    refine F_sla ho (by decide) h (fun σ3 h => ?_)
    cases h
    exact F_refl
  rw [if_neg hs2] at h
  by_cases hs4 : x1 = (1 : Int32)
  · rw [if_pos hs4] at h
    refine F_sla ho (by decide) h (fun σ5 h => ?_)
    cases h
    exact F_refl
  rw [if_neg hs4] at h
  by_cases hs6 : x1 = (2 : Int32)
  · rw [if_pos hs6] at h
    refine F_sla ho (by decide) h (fun σ7 h => ?_)
    cases h
    exact F_refl
  rw [if_neg hs6] at h
  refine F_sla ho (by decide) h (fun σ8 h => ?_)
  cases h
  exact F_refl
set_option maxRecDepth 100000 in
set_option maxHeartbeats 4000000 in
theorem frX8_hasFrom (o : Nat) (a1 : Int32) (a2 : Int32) (ho : KD o = 8) (σ : Mm) {xr : Int32} {τ : Mm} (h : fX8_hasFrom o a1 a2 σ = some (xr, τ)) : FK [] σ τ := by
  unfold fX8_hasFrom at h
  refine F_rsc h (fun x1 h => ?_)
  refine F_if h (fun h => ?_) (fun h => ?_)
  · skip
    cases h
    exact F_refl
  · skip
    cases h
    exact F_refl
set_option maxRecDepth 100000 in
set_option maxHeartbeats 4000000 in
theorem frX9_readPlace (o : Nat) (ho : KD o = 9) (σ : Mm) {xr : Int32} {τ : Mm} (h : fX9_readPlace o σ = some (xr, τ)) : FK [2, 6] σ τ := by
  unfold fX9_readPlace at h
  refine F_rrf h (fun q1 hq1 h => ?_)
  obtain ⟨σ2, hc3, h⟩ := cV_t h
  refine F_call (frX6_advance q1 hq1 σ hc3) (by decide) ?_
  refine F_rrf h (fun q4 hq4 h => ?_)
  refine F_rlg h (fun x5 h => ?_)
  refine F_rrf h (fun q6 hq6 h => ?_)
  refine F_rrf h (fun q7 hq7 h => ?_)
  obtain ⟨x10, σ8, hc9, h⟩ := cI_t h
  refine F_call (frX6_takeNewName q6 q7 hq6 hq7 σ2 hc9) (by decide) ?_
  refine F_if h (fun h => ?_) (fun h => ?_)
  · skip
    cases h
    exact F_refl
  · skip
    refine F_rrf h (fun q11 hq11 h => ?_)
    obtain ⟨x14, σ12, hc13, h⟩ := cI_t h
    refine F_call (frX6_takeSemicolon q11 hq11 σ8 hc13) (by decide) ?_
    refine F_ifn h (fun h => ?_) (fun h => ?_)
    · skip
      refine F_rrf h (fun q15 hq15 h => ?_)
      refine F_rrf h (fun q16 hq16 h => ?_)
      refine F_rsc h (fun x17 h => ?_)
      refine F_sla hq15 (by decide) h (fun σ18 h => ?_)
      refine F_rrf h (fun q19 hq19 h => ?_)
      refine F_rsc h (fun x20 h => ?_)
      refine F_psc hq19 (by decide) h (fun σ21 h => ?_)
      cases h
      exact F_refl
    · skip
      cases h
      exact F_refl
set_option maxRecDepth 100000 in
set_option maxHeartbeats 4000000 in
theorem frX9_readVane (o : Nat) (ho : KD o = 9) (σ : Mm) {xr : Int32} {τ : Mm} (h : fX9_readVane o σ = some (xr, τ)) : FK [2, 6] σ τ := by
  unfold fX9_readVane at h
  refine F_rrf h (fun q1 hq1 h => ?_)
  refine F_rsc h (fun x2 h => ?_)
  refine F_rrf h (fun q3 hq3 h => ?_)
  obtain ⟨σ4, hc5, h⟩ := cV_t h
  refine F_call (frX6_advance q3 hq3 σ hc5) (by decide) ?_
  refine F_rrf h (fun q6 hq6 h => ?_)
  refine F_rrf h (fun q7 hq7 h => ?_)
  refine F_rlg h (fun x8 h => ?_)
  refine F_sla hq6 (by decide) h (fun σ9 h => ?_)
  refine F_rrf h (fun q10 hq10 h => ?_)
  refine F_rrf h (fun q11 hq11 h => ?_)
  obtain ⟨x14, σ12, hc13, h⟩ := cI_t h
  refine F_call (frX6_takeNewName q10 q11 hq10 hq11 σ9 hc13) (by decide) ?_
  refine F_if h (fun h => ?_) (fun h => ?_)
  · skip
    cases h
    exact F_refl
  · skip
    refine F_rrf h (fun q15 hq15 h => ?_)
    obtain ⟨x18, σ16, hc17, h⟩ := cI_t h
    refine F_call (frX6_takeKeyword q15 (2 : Int32) hq15 σ12 hc17) (by decide) ?_
    refine F_if h (fun h => ?_) (fun h => ?_)
    · skip
      cases h
      exact F_refl
    · skip
      refine F_rrf h (fun q19 hq19 h => ?_)
      obtain ⟨x22, σ20, hc21, h⟩ := cI_t h
      refine F_call (frX6_takeNumber q19 (4 : Int32) (60 : Int32) hq19 σ16 hc21) (by decide) ?_
      refine F_ifn h (fun h => ?_) (fun h => ?_)
      · skip
        refine F_rrf h (fun q23 hq23 h => ?_)
        refine F_rrf h (fun q24 hq24 h => ?_)
        refine F_rsc h (fun x25 h => ?_)
        refine F_sar hq23 (by decide) h (fun σ26 h => ?_)
        refine F_rrf h (fun q27 hq27 h => ?_)
        obtain ⟨x30, σ28, hc29, h⟩ := cI_t h
        refine F_call (frX6_takeKeyword q27 (3 : Int32) hq27 σ26 hc29) (by decide) ?_
        refine F_if h (fun h => ?_) (fun h => ?_)
        · skip
          cases h
          exact F_refl
        · skip
          refine F_rrf h (fun q31 hq31 h => ?_)
          refine F_rrf h (fun q32 hq32 h => ?_)
          obtain ⟨x35, σ33, hc34, h⟩ := cI_t h
          refine F_call (frX6_takePlace q31 q32 hq31 hq32 σ28 hc34) (by decide) ?_
          refine F_ifn h (fun h => ?_) (fun h => ?_)
          · skip
            refine F_rrf h (fun q36 hq36 h => ?_)
            refine F_rrf h (fun q37 hq37 h => ?_)
            refine F_rsc h (fun x38 h => ?_)
            refine F_sar hq36 (by decide) h (fun σ39 h => ?_)
            refine F_rrf h (fun q40 hq40 h => ?_)
            obtain ⟨x43, σ41, hc42, h⟩ := cI_t h
            refine F_call (frX6_takeOption q40 (4 : Int32) (99 : Int32) hq40 σ39 hc42) (by decide) ?_
            refine F_ifn h (fun h => ?_) (fun h => ?_)
            · skip
              refine F_rrf h (fun q44 hq44 h => ?_)
              refine F_rrf h (fun q45 hq45 h => ?_)
              refine F_rsc h (fun x46 h => ?_)
              refine F_sar hq44 (by decide) h (fun σ47 h => ?_)
              refine F_rrf h (fun q48 hq48 h => ?_)
              refine F_rrf h (fun q49 hq49 h => ?_)
              refine F_gar h (fun x50 h => ?_)
              obtain ⟨x53, σ51, hc52, h⟩ := cI_t h
              refine F_call (frX6_takeOption q48 (5 : Int32) (x50 - (1 : Int32)) hq48 σ47 hc52) (by decide) ?_
              refine F_ifn h (fun h => ?_) (fun h => ?_)
              · skip
                refine F_rrf h (fun q54 hq54 h => ?_)
                refine F_rrf h (fun q55 hq55 h => ?_)
                refine F_rsc h (fun x56 h => ?_)
                refine F_sar hq54 (by decide) h (fun σ57 h => ?_)
                refine F_rrf h (fun q58 hq58 h => ?_)
                refine F_rsc h (fun x59 h => ?_)
                refine F_psc hq58 (by decide) h (fun σ60 h => ?_)
                refine F_rrf h (fun q61 hq61 h => ?_)
                obtain ⟨x64, σ62, hc63, h⟩ := cI_t h
                refine F_call (frX6_takeSemicolon q61 hq61 σ60 hc63) (by decide) ?_
                obtain ⟨hz65, h⟩ := bz_t h
                cases h
                exact F_refl
              · skip
                cases h
                exact F_refl
            · skip
              cases h
              exact F_refl
          · skip
            cases h
            exact F_refl
      · skip
        cases h
        exact F_refl
set_option maxRecDepth 100000 in
set_option maxHeartbeats 4000000 in
theorem ftX9_readShaft_160 {xr : Int32} {τ : Mm} (o : Nat) (ho : KD o = 9) (v1 : Int32) (σ : Mm) (h : fX9_readShaft_160 o v1 σ = some (xr, τ)) : FK [2, 6] σ τ := by
  unfold fX9_readShaft_160 at h
  refine F_rrf h (fun q49 hq49 h => ?_)
  refine F_rrf h (fun q50 hq50 h => ?_)
  obtain ⟨x53, σ51, hc52, h⟩ := cI_t h
  refine F_call (frX6_takeVane q49 q50 hq49 hq50 σ hc52) (by decide) ?_
  refine F_ifn h (fun h => ?_) (fun h => ?_)
  · skip
    refine F_rrf h (fun q54 hq54 h => ?_)
    refine F_rrf h (fun q55 hq55 h => ?_)
    refine F_rsc h (fun x56 h => ?_)
    refine F_sar hq54 (by decide) h (fun σ57 h => ?_)
    refine F_rrf h (fun q58 hq58 h => ?_)
    obtain ⟨x61, σ59, hc60, h⟩ := cI_t h
    refine F_call (frX6_takeOption q58 (9 : Int32) (9 : Int32) hq58 σ57 hc60) (by decide) ?_
    refine F_ifn h (fun h => ?_) (fun h => ?_)
    · skip
      refine F_rrf h (fun q62 hq62 h => ?_)
      refine F_rrf h (fun q63 hq63 h => ?_)
      refine F_rsc h (fun x64 h => ?_)
      refine F_sar hq62 (by decide) h (fun σ65 h => ?_)
      refine F_rrf h (fun q66 hq66 h => ?_)
      refine F_rsc h (fun x67 h => ?_)
      refine F_psc hq66 (by decide) h (fun σ68 h => ?_)
      refine F_rrf h (fun q69 hq69 h => ?_)
      obtain ⟨x72, σ70, hc71, h⟩ := cI_t h
      refine F_call (frX6_takeSemicolon q69 hq69 σ68 hc71) (by decide) ?_
      obtain ⟨hz73, h⟩ := bz_t h
      cases h
      exact F_refl
    · skip
      cases h
      exact F_refl
  · skip
    cases h
    exact F_refl
set_option maxRecDepth 100000 in
set_option maxHeartbeats 4000000 in
theorem ftX9_readShaft_33 {xr : Int32} {τ : Mm} (o : Nat) (ho : KD o = 9) (v1 : Int32) (s0 : Int32) (s1 : Int32) (s2 : Nat) (hs2 : KD s2 = 2) (σ : Mm) (h : fX9_readShaft_33 o v1 s0 s1 s2 σ = some (xr, τ)) : FK [2, 6] σ τ := by
  unfold fX9_readShaft_33 at h
  refine F_sar hs2 (by decide) h (fun σ6 h => ?_)
  refine F_rrf h (fun q7 hq7 h => ?_)
  obtain ⟨σ8, hc9, h⟩ := cV_t h
  refine F_call (frX6_advance q7 hq7 σ6 hc9) (by decide) ?_
  refine F_rrf h (fun q10 hq10 h => ?_)
  refine F_rrf h (fun q11 hq11 h => ?_)
  refine F_rlg h (fun x12 h => ?_)
  refine F_sla hq10 (by decide) h (fun σ13 h => ?_)
  refine F_rrf h (fun q14 hq14 h => ?_)
  refine F_rrf h (fun q15 hq15 h => ?_)
  obtain ⟨x18, σ16, hc17, h⟩ := cI_t h
  refine F_call (frX6_takeNewName q14 q15 hq14 hq15 σ13 hc17) (by decide) ?_
  refine F_if h (fun h => ?_) (fun h => ?_)
  · skip
    cases h
    exact F_refl
  · skip
    refine F_rrf h (fun q19 hq19 h => ?_)
    obtain ⟨x22, σ20, hc21, h⟩ := cI_t h
    refine F_call (frX6_takeKeyword q19 (8 : Int32) hq19 σ16 hc21) (by decide) ?_
    refine F_if h (fun h => ?_) (fun h => ?_)
    · skip
      cases h
      exact F_refl
    · skip
      refine F_rrf h (fun q23 hq23 h => ?_)
      refine F_rrf h (fun q24 hq24 h => ?_)
      obtain ⟨x27, σ25, hc26, h⟩ := cI_t h
      refine F_call (frX6_takeVane q23 q24 hq23 hq24 σ20 hc26) (by decide) ?_
      refine F_ifn h (fun h => ?_) (fun h => ?_)
      · skip
        refine F_rrf h (fun q28 hq28 h => ?_)
        refine F_rrf h (fun q29 hq29 h => ?_)
        refine F_rsc h (fun x30 h => ?_)
        refine F_sar hq28 (by decide) h (fun σ31 h => ?_)
        refine F_rrf h (fun q32 hq32 h => ?_)
        obtain ⟨x35, σ33, hc34, h⟩ := cI_t h
        refine F_call (frX6_seesName q32 hq32 σ31 hc34) (by decide) ?_
        refine F_if h (fun h => ?_) (fun h => ?_)
        · skip
          exact ftX9_readShaft_160 o ho v1 σ33 h
        · skip
          refine F_rrf h (fun q36 hq36 h => ?_)
          refine F_rrf h (fun q37 hq37 h => ?_)
          refine F_rlg h (fun x38 h => ?_)
          obtain ⟨x41, σ39, hc40, h⟩ := cI_t h
          refine F_call (frX2_vaneNamed q36 x38 hq36 σ33 hc40) (by decide) ?_
          refine F_rrf h (fun q42 hq42 h => ?_)
          refine F_gar h (fun x43 h => ?_)
          refine F_ifn h (fun h => ?_) (fun h => ?_)
          · skip
            exact ftX9_readShaft_160 o ho v1 σ39 h
          · skip
            refine F_rrf h (fun q44 hq44 h => ?_)
            obtain ⟨x47, σ45, hc46, h⟩ := cI_t h
            refine F_call (frX6_refuse q44 (5 : Int32) hq44 σ39 hc46) (by decide) ?_
            obtain ⟨hz48, h⟩ := bz_t h
            cases h
            exact F_refl
      · skip
        cases h
        exact F_refl
set_option maxRecDepth 100000 in
set_option maxHeartbeats 4000000 in
theorem frX9_readShaft (o : Nat) (ho : KD o = 9) (σ : Mm) {xr : Int32} {τ : Mm} (h : fX9_readShaft o σ = some (xr, τ)) : FK [2, 6] σ τ := by
  unfold fX9_readShaft at h
  refine F_rrf h (fun q1 hq1 h => ?_)
  refine F_rsc h (fun x2 h => ?_)
  refine F_rrf h (fun q3 hq3 h => ?_)
  refine F_rrf h (fun q4 hq4 h => ?_)
  refine F_rsc h (fun x5 h => ?_)
  refine F_ifn h (fun h => ?_) (fun h => ?_)
  · skip
    exact ftX9_readShaft_33 o ho x2 (-1 : Int32) x2 q3 hq3 σ h
  · skip
    exact ftX9_readShaft_33 o ho x2 (1 : Int32) x2 q3 hq3 σ h
set_option maxRecDepth 100000 in
set_option maxHeartbeats 4000000 in
theorem frX9_readPart (o : Nat) (ho : KD o = 9) (σ : Mm) {xr : Int32} {τ : Mm} (h : fX9_readPart o σ = some (xr, τ)) : FK [2, 6] σ τ := by
  unfold fX9_readPart at h
  refine F_rrf h (fun q1 hq1 h => ?_)
  refine F_rsc h (fun x2 h => ?_)
  by_cases hs3 : x2 = (0 : Int32)
  · rw [if_pos hs3] at h
    refine F_rrf h (fun q4 hq4 h => ?_)
    refine F_rsc h (fun x5 h => ?_)
    refine F_if h (fun h => ?_) (fun h => ?_)
    · skip
      refine F_rrf h (fun q6 hq6 h => ?_)
      obtain ⟨x9, σ7, hc8, h⟩ := cI_t h
      refine F_call (frX6_refuse q6 (6 : Int32) hq6 σ hc8) (by decide) ?_
      obtain ⟨hz10, h⟩ := bz_t h
      cases h
      exact F_refl
    · skip
      obtain ⟨x13, σ11, hc12, h⟩ := cI_t h
      refine F_call (frX9_readPlace o ho σ hc12) (by decide) ?_
      obtain ⟨hz14, h⟩ := bz_t h
      cases h
      exact F_refl
  rw [if_neg hs3] at h
  by_cases hs15 : x2 = (1 : Int32)
  · rw [if_pos hs15] at h
    refine F_rrf h (fun q16 hq16 h => ?_)
    refine F_rsc h (fun x17 h => ?_)
    refine F_if h (fun h => ?_) (fun h => ?_)
    · skip
      refine F_rrf h (fun q18 hq18 h => ?_)
      obtain ⟨x21, σ19, hc20, h⟩ := cI_t h
      refine F_call (frX6_refuse q18 (6 : Int32) hq18 σ hc20) (by decide) ?_
      obtain ⟨hz22, h⟩ := bz_t h
      cases h
      exact F_refl
    · skip
      obtain ⟨x25, σ23, hc24, h⟩ := cI_t h
      refine F_call (frX9_readVane o ho σ hc24) (by decide) ?_
      obtain ⟨hz26, h⟩ := bz_t h
      cases h
      exact F_refl
  rw [if_neg hs15] at h
  by_cases hs27 : x2 = (6 : Int32)
  · rw [if_pos hs27] at h
    refine F_rrf h (fun q28 hq28 h => ?_)
    refine F_rsc h (fun x29 h => ?_)
    refine F_if h (fun h => ?_) (fun h => ?_)
    · skip
      refine F_rrf h (fun q30 hq30 h => ?_)
      obtain ⟨x33, σ31, hc32, h⟩ := cI_t h
      refine F_call (frX6_refuse q30 (6 : Int32) hq30 σ hc32) (by decide) ?_
      obtain ⟨hz34, h⟩ := bz_t h
      cases h
      exact F_refl
    · skip
      obtain ⟨x37, σ35, hc36, h⟩ := cI_t h
      refine F_call (frX9_readShaft o ho σ hc36) (by decide) ?_
      obtain ⟨hz38, h⟩ := bz_t h
      cases h
      exact F_refl
  rw [if_neg hs27] at h
  by_cases hs39 : x2 = (7 : Int32)
  · rw [if_pos hs39] at h
    refine F_rrf h (fun q40 hq40 h => ?_)
    refine F_rsc h (fun x41 h => ?_)
    refine F_if h (fun h => ?_) (fun h => ?_)
    · skip
      refine F_rrf h (fun q42 hq42 h => ?_)
      obtain ⟨x45, σ43, hc44, h⟩ := cI_t h
      refine F_call (frX6_refuse q42 (6 : Int32) hq42 σ hc44) (by decide) ?_
      obtain ⟨hz46, h⟩ := bz_t h
      cases h
      exact F_refl
    · skip
      obtain ⟨x49, σ47, hc48, h⟩ := cI_t h
      refine F_call (frX9_readShaft o ho σ hc48) (by decide) ?_
      obtain ⟨hz50, h⟩ := bz_t h
      cases h
      exact F_refl
  rw [if_neg hs39] at h
  refine F_rrf h (fun q51 hq51 h => ?_)
  obtain ⟨x54, σ52, hc53, h⟩ := cI_t h
  refine F_call (frX6_refuseToken q51 hq51 σ hc53) (by decide) ?_
  obtain ⟨hz55, h⟩ := bz_t h
  cases h
  exact F_refl
set_option maxRecDepth 100000 in
set_option maxHeartbeats 4000000 in
theorem ftX9_readAll_19 {xr : Int32} {τ : Mm} (o : Nat) (a1 : Nat) (a2 : Nat) (ho : KD o = 9) (ha1 : KD a1 = 6) (ha2 : KD a2 = 2) : ∀ (n : Nat) (v3 : Int32) (σ : Mm), fX9_readAll_19 o a1 a2 n v3 σ = some (xr, τ) → FK [2, 6, 9] σ τ := by
  intro n
  induction n with
  | zero => intro v3 σ h; rw [fX9_readAll_19] at h; cases h
  | succ n ih =>
    intro v3 σ h
    rw [fX9_readAll_19] at h
    refine F_if h (fun h => ?_) (fun h => ?_)
    · skip
      cases h
      exact F_refl
    · skip
      refine F_rrf h (fun q6 hq6 h => ?_)
      refine F_rsc h (fun x7 h => ?_)
      refine F_if h (fun h => ?_) (fun h => ?_)
      · skip
        cases h
        exact F_refl
      · skip
        obtain ⟨x10, σ8, hc9, h⟩ := cI_t h
        refine F_call (frX9_readPart o ho σ hc9) (by decide) ?_
        refine F_ifn h (fun h => ?_) (fun h => ?_)
        · skip
          exact ih (v3 + (1 : Int32)) σ8 h
        · skip
          cases h
          exact F_refl
set_option maxRecDepth 100000 in
set_option maxHeartbeats 4000000 in
theorem frX9_readAll (o : Nat) (a1 : Nat) (a2 : Nat) (ho : KD o = 9) (ha1 : KD a1 = 6) (ha2 : KD a2 = 2) (σ : Mm) {xr : Int32} {τ : Mm} (h : fX9_readAll o a1 a2 σ = some (xr, τ)) : FK [2, 6, 9] σ τ := by
  unfold fX9_readAll at h
  refine F_prf ho (by decide) h (fun σ1 h => ?_)
  refine F_prf ho (by decide) h (fun σ2 h => ?_)
  refine F_rrf h (fun q3 hq3 h => ?_)
  obtain ⟨σ4, hc5, h⟩ := cV_t h
  refine F_call (frX2_clear q3 hq3 σ2 hc5) (by decide) ?_
  exact ftX9_readAll_19 o a1 a2 ho ha1 ha2 FU (0 : Int32) σ4 h
set_option maxRecDepth 100000 in
set_option maxHeartbeats 4000000 in
theorem frX10_blowEverywhere (o : Nat) (a1 : Int32) (a2 : Int32) (ho : KD o = 10) (σ : Mm) {τ : Mm} (h : fX10_blowEverywhere o a1 a2 σ = some τ) : FK [4, 10] σ τ := by
  unfold fX10_blowEverywhere at h
  refine F_rrf h (fun q1 hq1 h => ?_)
  obtain ⟨σ2, hc3, h⟩ := cV_t h
  refine F_call (frX4_blowEverywhere q1 a1 a2 hq1 σ hc3) (by decide) ?_
  obtain ⟨σ4, hc5, h⟩ := cV_t h
  refine F_call (frX10_aim o ho σ2 hc5) (by decide) ?_
  cases h
  exact F_refl
set_option maxRecDepth 100000 in
set_option maxHeartbeats 4000000 in
theorem frX10_gapNow (o : Nat) (a1 : Int32) (ho : KD o = 10) (σ : Mm) {xr : Int32} {τ : Mm} (h : fX10_gapNow o a1 σ = some (xr, τ)) : FK [] σ τ := by
  unfold fX10_gapNow at h
  refine F_gar h (fun x1 h => ?_)
  refine F_ifn h (fun h => ?_) (fun h => ?_)
  · skip
    refine F_rrf h (fun q2 hq2 h => ?_)
    refine F_gar h (fun x3 h => ?_)
    obtain ⟨x6, σ4, hc5, h⟩ := cI_t h
    refine F_call (frX10_gap o a1 x3 ho σ hc5) (by decide) ?_
    cases h
    exact F_refl
  · skip
    cases h
    exact F_refl
set_option maxRecDepth 100000 in
set_option maxHeartbeats 4000000 in
theorem ftX10_comingNearer_4 {xr : Int32} {τ : Mm} (o : Nat) (a1 : Int32) (ho : KD o = 10) : ∀ (n : Nat) (v2 : Int32) (v3 : Int32) (σ : Mm), fX10_comingNearer_4 o a1 n v2 v3 σ = some (xr, τ) → FK [] σ τ := by
  intro n
  induction n with
  | zero => intro v2 v3 σ h; rw [fX10_comingNearer_4] at h; cases h
  | succ n ih =>
    intro v2 v3 σ h
    rw [fX10_comingNearer_4] at h
    refine F_rrf h (fun q1 hq1 h => ?_)
    refine F_rsc h (fun x2 h => ?_)
    refine F_if h (fun h => ?_) (fun h => ?_)
    · skip
      cases h
      exact F_refl
    · skip
      refine F_if h (fun h => ?_) (fun h => ?_)
      · skip
        exact ih v2 (v3 + (1 : Int32)) σ h
      · skip
        refine F_rsc h (fun x3 h => ?_)
        obtain ⟨x6, σ4, hc5, h⟩ := cI_t h
        refine F_call (frX11_has x3 v3 σ hc5) (by decide) ?_
        refine F_if h (fun h => ?_) (fun h => ?_)
        · skip
          exact ih v2 (v3 + (1 : Int32)) σ4 h
        · skip
          obtain ⟨x9, σ7, hc8, h⟩ := cI_t h
          refine F_call (frX10_gain o v3 ho σ4 hc8) (by decide) ?_
          refine F_if h (fun h => ?_) (fun h => ?_)
          · skip
            exact ih v2 (v3 + (1 : Int32)) σ7 h
          · skip
            obtain ⟨x12, σ10, hc11, h⟩ := cI_t h
            refine F_call (frX11_with v2 v3 (1 : Int32) σ7 hc11) (by decide) ?_
            exact ih x12 (v3 + (1 : Int32)) σ10 h
set_option maxRecDepth 100000 in
set_option maxHeartbeats 4000000 in
theorem frX10_comingNearer (o : Nat) (a1 : Int32) (ho : KD o = 10) (σ : Mm) {xr : Int32} {τ : Mm} (h : fX10_comingNearer o a1 σ = some (xr, τ)) : FK [] σ τ := by
  unfold fX10_comingNearer at h
  exact ftX10_comingNearer_4 o a1 ho FU (0 : Int32) (0 : Int32) σ h
set_option maxRecDepth 100000 in
set_option maxHeartbeats 4000000 in
theorem frJ6_bitCount_0f7a4 (a1 : Int32) (σ : Mm) {xr : Int32} {τ : Mm} (h : fJ6_bitCount_0f7a4 a1 σ = some (xr, τ)) : FK [] σ τ := by
  unfold fJ6_bitCount_0f7a4 at h
  cases h
  exact F_refl
set_option maxRecDepth 100000 in
set_option maxHeartbeats 4000000 in
theorem frX10_loadOf (o : Nat) (a1 : Int32) (a2 : Int32) (ho : KD o = 10) (σ : Mm) {xr : Int32} {τ : Mm} (h : fX10_loadOf o a1 a2 σ = some (xr, τ)) : FK [10] σ τ := by
  unfold fX10_loadOf at h
  obtain ⟨x3, σ1, hc2, h⟩ := cI_t h
  refine F_call (frX10_engage o a1 a2 ho σ hc2) (by decide) ?_
  refine F_if h (fun h => ?_) (fun h => ?_)
  · skip
    cases h
    exact F_refl
  · skip
    refine F_rsc h (fun x4 h => ?_)
    obtain ⟨x7, σ5, hc6, h⟩ := cI_t h
    refine F_call (frJ6_bitCount_0f7a4 x4 σ1 hc6) (by decide) ?_
    cases h
    exact F_refl
set_option maxRecDepth 100000 in
set_option maxHeartbeats 4000000 in
theorem ftX10_firstDriven_2 {xr : Int32} {τ : Mm} (o : Nat) (ho : KD o = 10) : ∀ (n : Nat) (v1 : Int32) (σ : Mm), fX10_firstDriven_2 o n v1 σ = some (xr, τ) → FK [10] σ τ := by
  intro n
  induction n with
  | zero => intro v1 σ h; rw [fX10_firstDriven_2] at h; cases h
  | succ n ih =>
    intro v1 σ h
    rw [fX10_firstDriven_2] at h
    refine F_rrf h (fun q1 hq1 h => ?_)
    refine F_rsc h (fun x2 h => ?_)
    refine F_if h (fun h => ?_) (fun h => ?_)
    · skip
      cases h
      exact F_refl
    · skip
      obtain ⟨x5, σ3, hc4, h⟩ := cI_t h
      refine F_call (frX10_isDriven o v1 ho σ hc4) (by decide) ?_
      refine F_if h (fun h => ?_) (fun h => ?_)
      · skip
        exact ih (v1 + (1 : Int32)) σ3 h
      · skip
        cases h
        exact F_refl
set_option maxRecDepth 100000 in
set_option maxHeartbeats 4000000 in
theorem frX10_firstDriven (o : Nat) (ho : KD o = 10) (σ : Mm) {xr : Int32} {τ : Mm} (h : fX10_firstDriven o σ = some (xr, τ)) : FK [10] σ τ := by
  unfold fX10_firstDriven at h
  exact ftX10_firstDriven_2 o ho FU (0 : Int32) σ h
set_option maxRecDepth 100000 in
set_option maxHeartbeats 4000000 in
theorem ftX10_wrongQuarters_24 {xr : Int32} {τ : Mm} (o : Nat) (a1 : Int32) (a2 : Int32) (ho : KD o = 10) (k5 : Int32 → Int32 → Mm → Option (Int32 × Mm)) (hk5 : ∀ (v3 : Int32) (v4 : Int32) (σ : Mm), k5 v3 v4 σ = some (xr, τ) → FK [4, 10] σ τ) (v3 : Int32) (v4 : Int32) (s0 : Int32) (σ : Mm) (h : fX10_wrongQuarters_24 o a1 a2 k5 v3 v4 s0 σ = some (xr, τ)) : FK [4, 10] σ τ := by
  unfold fX10_wrongQuarters_24 at h
  obtain ⟨x6, σ4, hc5, h⟩ := cI_t h
  refine F_call (frX10_rightSet o ho σ hc5) (by decide) ?_
  obtain ⟨x9, σ7, hc8, h⟩ := cI_t h
  refine F_call (frJ6_bitCount_0f7a4 (a1 &&& (x6 ^^^ (-1 : Int32))) σ4 hc8) (by decide) ?_
  refine F_if h (fun h => ?_) (fun h => ?_)
  · skip
    exact hk5 (v3 + x9) (v4 + (1 : Int32)) σ7 h
  · skip
    cases h
    exact F_refl
set_option maxRecDepth 100000 in
set_option maxHeartbeats 4000000 in
theorem ftX10_wrongQuarters_5 {xr : Int32} {τ : Mm} (o : Nat) (a1 : Int32) (a2 : Int32) (ho : KD o = 10) : ∀ (n : Nat) (v3 : Int32) (v4 : Int32) (σ : Mm), fX10_wrongQuarters_5 o a1 a2 n v3 v4 σ = some (xr, τ) → FK [4, 10] σ τ := by
  intro n
  induction n with
  | zero => intro v3 v4 σ h; rw [fX10_wrongQuarters_5] at h; cases h
  | succ n ih =>
    intro v3 v4 σ h
    rw [fX10_wrongQuarters_5] at h
    refine F_if h (fun h => ?_) (fun h => ?_)
    · skip
      cases h
      exact F_refl
    · skip
      obtain ⟨x3, σ1, hc2, h⟩ := cI_t h
      refine F_call (frX10_goOn o (1 : Int32) ho σ hc2) (by decide) ?_
      refine F_ifn h (fun h => ?_) (fun h => ?_)
      · skip
        exact ftX10_wrongQuarters_24 o a1 a2 ho (fX10_wrongQuarters_5 o a1 a2 n) ih v3 v4 (0 : Int32) σ1 h
      · skip
        exact ftX10_wrongQuarters_24 o a1 a2 ho (fX10_wrongQuarters_5 o a1 a2 n) ih v3 v4 (1 : Int32) σ1 h
set_option maxRecDepth 100000 in
set_option maxHeartbeats 4000000 in
theorem frX10_wrongQuarters (o : Nat) (a1 : Int32) (a2 : Int32) (ho : KD o = 10) (σ : Mm) {xr : Int32} {τ : Mm} (h : fX10_wrongQuarters o a1 a2 σ = some (xr, τ)) : FK [4, 10] σ τ := by
  unfold fX10_wrongQuarters at h
  exact ftX10_wrongQuarters_5 o a1 a2 ho FU (0 : Int32) (0 : Int32) σ h
set_option maxRecDepth 100000 in
set_option maxHeartbeats 4000000 in
theorem frX11_status (o : Nat) (ho : KD o = 11) (σ : Mm) {xr : Int32} {τ : Mm} (h : fX11_status o σ = some (xr, τ)) : FK [] σ τ := by
  unfold fX11_status at h
  refine F_rsc h (fun x1 h => ?_)
  cases h
  exact F_refl
set_option maxRecDepth 100000 in
set_option maxHeartbeats 4000000 in
theorem frX11_top (o : Nat) (ho : KD o = 11) (σ : Mm) {xr : Int64} {τ : Mm} (h : fX11_top o σ = some (xr, τ)) : FK [] σ τ := by
  unfold fX11_top at h
  refine F_rlg h (fun x1 h => ?_)
  cases h
  exact F_refl
set_option maxRecDepth 100000 in
set_option maxHeartbeats 4000000 in
theorem frX11_bottom (o : Nat) (ho : KD o = 11) (σ : Mm) {xr : Int64} {τ : Mm} (h : fX11_bottom o σ = some (xr, τ)) : FK [] σ τ := by
  unfold fX11_bottom at h
  refine F_rlg h (fun x1 h => ?_)
  cases h
  exact F_refl
set_option maxRecDepth 100000 in
set_option maxHeartbeats 4000000 in
theorem frX11_isTray (o : Nat) (a1 : Int32) (ho : KD o = 11) (σ : Mm) {xr : Int32} {τ : Mm} (h : fX11_isTray o a1 σ = some (xr, τ)) : FK [] σ τ := by
  unfold fX11_isTray at h
  refine F_if h (fun h => ?_) (fun h => ?_)
  · skip
    cases h
    exact F_refl
  · skip
    refine F_if h (fun h => ?_) (fun h => ?_)
    · skip
      cases h
      exact F_refl
    · skip
      cases h
      exact F_refl
set_option maxRecDepth 100000 in
set_option maxHeartbeats 4000000 in
theorem frX11_refuse (o : Nat) (a1 : Int32) (ho : KD o = 11) (σ : Mm) {xr : Int32} {τ : Mm} (h : fX11_refuse o a1 σ = some (xr, τ)) : FK [11] σ τ := by
  unfold fX11_refuse at h
  refine F_psc ho (by decide) h (fun σ1 h => ?_)
  cases h
  exact F_refl
set_option maxRecDepth 100000 in
set_option maxHeartbeats 4000000 in
theorem frX11_agree (o : Nat) (ho : KD o = 11) (σ : Mm) {xr : Int32} {τ : Mm} (h : fX11_agree o σ = some (xr, τ)) : FK [11] σ τ := by
  unfold fX11_agree at h
  refine F_psc ho (by decide) h (fun σ1 h => ?_)
  cases h
  exact F_refl
set_option maxRecDepth 100000 in
set_option maxHeartbeats 4000000 in
theorem frX11_tray (o : Nat) (a1 : Int32) (a2 : Int32) (a3 : Int32) (ho : KD o = 11) (σ : Mm) {xr : Int32} {τ : Mm} (h : fX11_tray o a1 a2 a3 σ = some (xr, τ)) : FK [8, 11] σ τ := by
  unfold fX11_tray at h
  obtain ⟨x3, σ1, hc2, h⟩ := cI_t h
  refine F_call (frX11_isTray o a1 ho σ hc2) (by decide) ?_
  refine F_if h (fun h => ?_) (fun h => ?_)
  · skip
    obtain ⟨x6, σ4, hc5, h⟩ := cI_t h
    refine F_call (frX11_refuse o (1 : Int32) ho σ1 hc5) (by decide) ?_
    obtain ⟨hz7, h⟩ := bz_t h
    cases h
    exact F_refl
  · skip
    refine F_if h (fun h => ?_) (fun h => ?_)
    · skip
      obtain ⟨x10, σ8, hc9, h⟩ := cI_t h
      refine F_call (frX11_refuse o (1 : Int32) ho σ1 hc9) (by decide) ?_
      obtain ⟨hz11, h⟩ := bz_t h
      cases h
      exact F_refl
    · skip
      refine F_if h (fun h => ?_) (fun h => ?_)
      · skip
        obtain ⟨x14, σ12, hc13, h⟩ := cI_t h
        refine F_call (frX11_refuse o (1 : Int32) ho σ1 hc13) (by decide) ?_
        obtain ⟨hz15, h⟩ := bz_t h
        cases h
        exact F_refl
      · skip
        refine F_if h (fun h => ?_) (fun h => ?_)
        · skip
          obtain ⟨x18, σ16, hc17, h⟩ := cI_t h
          refine F_call (frX11_refuse o (1 : Int32) ho σ1 hc17) (by decide) ?_
          obtain ⟨hz19, h⟩ := bz_t h
          cases h
          exact F_refl
        · skip
          refine F_if h (fun h => ?_) (fun h => ?_)
          · skip
            refine F_gbl (fun _ q => kr0 q) h (fun q20 hq20 h => ?_)
            obtain ⟨σ21, hc22, h⟩ := cV_t h
            refine F_call (frX8_lay q20 a2 a3 hq20 σ1 hc22) (by decide) ?_
            obtain ⟨x25, σ23, hc24, h⟩ := cI_t h
            refine F_call (frX11_agree o ho σ21 hc24) (by decide) ?_
            obtain ⟨hz26, h⟩ := bz_t h
            cases h
            exact F_refl
          · skip
            obtain ⟨x29, σ27, hc28, h⟩ := cI_t h
            refine F_call (frX11_refuse o (1 : Int32) ho σ1 hc28) (by decide) ?_
            obtain ⟨hz30, h⟩ := bz_t h
            cases h
            exact F_refl
set_option maxRecDepth 100000 in
set_option maxHeartbeats 4000000 in
theorem frX11_trayPlaceStatus (o : Nat) (a1 : Int32) (a2 : Int32) (ho : KD o = 11) (σ : Mm) {xr : Int32} {τ : Mm} (h : fX11_trayPlaceStatus o a1 a2 σ = some (xr, τ)) : FK [] σ τ := by
  unfold fX11_trayPlaceStatus at h
  obtain ⟨x3, σ1, hc2, h⟩ := cI_t h
  refine F_call (frX11_isTray o a1 ho σ hc2) (by decide) ?_
  refine F_ifn h (fun h => ?_) (fun h => ?_)
  · skip
    refine F_gbl (fun _ q => kr0 q) h (fun q4 hq4 h => ?_)
    obtain ⟨x7, σ5, hc6, h⟩ := cI_t h
    refine F_call (frX8_isMissing q4 hq4 σ1 hc6) (by decide) ?_
    refine F_if h (fun h => ?_) (fun h => ?_)
    · skip
      refine F_if h (fun h => ?_) (fun h => ?_)
      · skip
        cases h
        exact F_refl
      · skip
        refine F_gbl (fun _ q => kr0 q) h (fun q8 hq8 h => ?_)
        refine F_rsc h (fun x9 h => ?_)
        refine F_if h (fun h => ?_) (fun h => ?_)
        · skip
          cases h
          exact F_refl
        · skip
          cases h
          exact F_refl
    · skip
      cases h
      exact F_refl
  · skip
    cases h
    exact F_refl
set_option maxRecDepth 100000 in
set_option maxHeartbeats 4000000 in
theorem frX11_write (o : Nat) (a1 : Int32) (a2 : Int32) (a3 : Int64) (ho : KD o = 11) (σ : Mm) {xr : Int32} {τ : Mm} (h : fX11_write o a1 a2 a3 σ = some (xr, τ)) : FK [8, 11] σ τ := by
  unfold fX11_write at h
  obtain ⟨x3, σ1, hc2, h⟩ := cI_t h
  refine F_call (frX11_trayPlaceStatus o a1 a2 ho σ hc2) (by decide) ?_
  refine F_if h (fun h => ?_) (fun h => ?_)
  · skip
    refine F_gbl (fun _ q => kr0 q) h (fun q4 hq4 h => ?_)
    obtain ⟨σ5, hc6, h⟩ := cV_t h
    refine F_call (frX8_put q4 a2 a3 hq4 σ1 hc6) (by decide) ?_
    obtain ⟨x9, σ7, hc8, h⟩ := cI_t h
    refine F_call (frX11_agree o ho σ5 hc8) (by decide) ?_
    obtain ⟨hz10, h⟩ := bz_t h
    cases h
    exact F_refl
  · skip
    obtain ⟨x13, σ11, hc12, h⟩ := cI_t h
    refine F_call (frX11_refuse o x3 ho σ1 hc12) (by decide) ?_
    obtain ⟨hz14, h⟩ := bz_t h
    cases h
    exact F_refl
set_option maxRecDepth 100000 in
set_option maxHeartbeats 4000000 in
theorem frX11_none (o : Nat) (a1 : Int32) (ho : KD o = 11) (σ : Mm) {xr : Int32} {τ : Mm} (h : fX11_none o a1 σ = some (xr, τ)) : FK [11] σ τ := by
  unfold fX11_none at h
  refine F_psc ho (by decide) h (fun σ1 h => ?_)
  cases h
  exact F_refl
set_option maxRecDepth 100000 in
set_option maxHeartbeats 4000000 in
theorem frX11_read (o : Nat) (a1 : Int32) (a2 : Int32) (ho : KD o = 11) (σ : Mm) {xr : Int64} {τ : Mm} (h : fX11_read o a1 a2 σ = some (xr, τ)) : FK [11] σ τ := by
  unfold fX11_read at h
  obtain ⟨x3, σ1, hc2, h⟩ := cI_t h
  refine F_call (frX11_trayPlaceStatus o a1 a2 ho σ hc2) (by decide) ?_
  refine F_if h (fun h => ?_) (fun h => ?_)
  · skip
    refine F_psc ho (by decide) h (fun σ4 h => ?_)
    refine F_gbl (fun _ q => kr0 q) h (fun q5 hq5 h => ?_)
    refine F_gla h (fun x6 h => ?_)
    cases h
    exact F_refl
  · skip
    obtain ⟨x9, σ7, hc8, h⟩ := cI_t h
    refine F_call (frX11_none o x3 ho σ1 hc8) (by decide) ?_
    cases h
    exact F_refl
set_option maxRecDepth 100000 in
set_option maxHeartbeats 4000000 in
theorem frX11_pour (o : Nat) (a1 : Int32) (a2 : Int32) (a3 : Int32) (a4 : Int32) (a5 : Int32) (ho : KD o = 11) (σ : Mm) {xr : Int32} {τ : Mm} (h : fX11_pour o a1 a2 a3 a4 a5 σ = some (xr, τ)) : FK [8, 11] σ τ := by
  unfold fX11_pour at h
  obtain ⟨x3, σ1, hc2, h⟩ := cI_t h
  refine F_call (frX11_isTray o a1 ho σ hc2) (by decide) ?_
  refine F_if h (fun h => ?_) (fun h => ?_)
  · skip
    obtain ⟨x6, σ4, hc5, h⟩ := cI_t h
    refine F_call (frX11_refuse o (1 : Int32) ho σ1 hc5) (by decide) ?_
    obtain ⟨hz7, h⟩ := bz_t h
    cases h
    exact F_refl
  · skip
    obtain ⟨x10, σ8, hc9, h⟩ := cI_t h
    refine F_call (frX11_isTray o a3 ho σ1 hc9) (by decide) ?_
    refine F_if h (fun h => ?_) (fun h => ?_)
    · skip
      obtain ⟨x13, σ11, hc12, h⟩ := cI_t h
      refine F_call (frX11_refuse o (1 : Int32) ho σ8 hc12) (by decide) ?_
      obtain ⟨hz14, h⟩ := bz_t h
      cases h
      exact F_refl
    · skip
      refine F_if h (fun h => ?_) (fun h => ?_)
      · skip
        obtain ⟨x17, σ15, hc16, h⟩ := cI_t h
        refine F_call (frX11_refuse o (1 : Int32) ho σ8 hc16) (by decide) ?_
        obtain ⟨hz18, h⟩ := bz_t h
        cases h
        exact F_refl
      · skip
        refine F_if h (fun h => ?_) (fun h => ?_)
        · skip
          obtain ⟨x21, σ19, hc20, h⟩ := cI_t h
          refine F_call (frX11_refuse o (1 : Int32) ho σ8 hc20) (by decide) ?_
          obtain ⟨hz22, h⟩ := bz_t h
          cases h
          exact F_refl
        · skip
          refine F_if h (fun h => ?_) (fun h => ?_)
          · skip
            refine F_gbl (fun _ q => kr0 q) h (fun q23 hq23 h => ?_)
            refine F_gbl (fun _ q => kr0 q) h (fun q24 hq24 h => ?_)
            obtain ⟨x27, σ25, hc26, h⟩ := cI_t h
            refine F_call (frX8_isMissing q23 hq23 σ8 hc26) (by decide) ?_
            refine F_ifn h (fun h => ?_) (fun h => ?_)
            · skip
              obtain ⟨x30, σ28, hc29, h⟩ := cI_t h
              refine F_call (frX11_refuse o (2 : Int32) ho σ25 hc29) (by decide) ?_
              obtain ⟨hz31, h⟩ := bz_t h
              cases h
              exact F_refl
            · skip
              obtain ⟨x34, σ32, hc33, h⟩ := cI_t h
              refine F_call (frX8_isMissing q24 hq24 σ25 hc33) (by decide) ?_
              refine F_if h (fun h => ?_) (fun h => ?_)
              · skip
                refine F_rsc h (fun x35 h => ?_)
                refine F_rsc h (fun x36 h => ?_)
                refine F_if h (fun h => ?_) (fun h => ?_)
                · skip
                  obtain ⟨x39, σ37, hc38, h⟩ := cI_t h
                  refine F_call (frX8_hasFrom q23 a2 a5 hq23 σ32 hc38) (by decide) ?_
                  refine F_if h (fun h => ?_) (fun h => ?_)
                  · skip
                    obtain ⟨x42, σ40, hc41, h⟩ := cI_t h
                    refine F_call (frX11_refuse o (3 : Int32) ho σ37 hc41) (by decide) ?_
                    obtain ⟨hz43, h⟩ := bz_t h
                    cases h
                    exact F_refl
                  · skip
                    obtain ⟨x46, σ44, hc45, h⟩ := cI_t h
                    refine F_call (frX8_hasFrom q24 a4 a5 hq24 σ37 hc45) (by decide) ?_
                    refine F_ifn h (fun h => ?_) (fun h => ?_)
                    · skip
                      refine F_acl hq24 (by decide) h (fun σ47 h => ?_)
                      obtain ⟨x50, σ48, hc49, h⟩ := cI_t h
                      refine F_call (frX11_agree o ho σ47 hc49) (by decide) ?_
                      obtain ⟨hz51, h⟩ := bz_t h
                      cases h
                      exact F_refl
                    · skip
                      obtain ⟨x54, σ52, hc53, h⟩ := cI_t h
                      refine F_call (frX11_refuse o (3 : Int32) ho σ44 hc53) (by decide) ?_
                      obtain ⟨hz55, h⟩ := bz_t h
                      cases h
                      exact F_refl
                · skip
                  obtain ⟨x58, σ56, hc57, h⟩ := cI_t h
                  refine F_call (frX11_refuse o (8 : Int32) ho σ32 hc57) (by decide) ?_
                  obtain ⟨hz59, h⟩ := bz_t h
                  cases h
                  exact F_refl
              · skip
                obtain ⟨x62, σ60, hc61, h⟩ := cI_t h
                refine F_call (frX11_refuse o (2 : Int32) ho σ32 hc61) (by decide) ?_
                obtain ⟨hz63, h⟩ := bz_t h
                cases h
                exact F_refl
          · skip
            obtain ⟨x66, σ64, hc65, h⟩ := cI_t h
            refine F_call (frX11_refuse o (1 : Int32) ho σ8 hc65) (by decide) ?_
            obtain ⟨hz67, h⟩ := bz_t h
            cases h
            exact F_refl
set_option maxRecDepth 100000 in
set_option maxHeartbeats 4000000 in
theorem frX11_feed (o : Nat) (a1 : Int32) (a2 : Int32) (a3 : Int32) (a4 : Int32) (a5 : Int32) (ho : KD o = 11) (σ : Mm) {xr : Int32} {τ : Mm} (h : fX11_feed o a1 a2 a3 a4 a5 σ = some (xr, τ)) : FK [6] σ τ := by
  unfold fX11_feed at h
  obtain ⟨x3, σ1, hc2, h⟩ := cI_t h
  refine F_call (frX6_hasRoomFor (tg o 4) (20 : Int32) (tk11_4 ho) σ hc2) (by decide) ?_
  refine F_ifn h (fun h => ?_) (fun h => ?_)
  · skip
    obtain ⟨σ4, hc5, h⟩ := cV_t h
    refine F_call (frX6_append (tg o 4) a1 (tk11_4 ho) σ1 hc5) (by decide) ?_
    obtain ⟨σ6, hc7, h⟩ := cV_t h
    refine F_call (frX6_append (tg o 4) a2 (tk11_4 ho) σ4 hc7) (by decide) ?_
    obtain ⟨σ8, hc9, h⟩ := cV_t h
    refine F_call (frX6_append (tg o 4) a3 (tk11_4 ho) σ6 hc9) (by decide) ?_
    obtain ⟨σ10, hc11, h⟩ := cV_t h
    refine F_call (frX6_append (tg o 4) a4 (tk11_4 ho) σ8 hc11) (by decide) ?_
    obtain ⟨σ12, hc13, h⟩ := cV_t h
    refine F_call (frX6_append (tg o 4) a5 (tk11_4 ho) σ10 hc13) (by decide) ?_
    refine F_rsc h (fun x14 h => ?_)
    cases h
    exact F_refl
  · skip
    cases h
    exact F_refl
set_option maxRecDepth 100000 in
set_option maxHeartbeats 4000000 in
theorem frX11_closeText (o : Nat) (ho : KD o = 11) (σ : Mm) {τ : Mm} (h : fX11_closeText o σ = some τ) : FK [6, 11] σ τ := by
  unfold fX11_closeText at h
  refine F_psc (tk11_4 ho) (by decide) h (fun σ1 h => ?_)
  refine F_rsc h (fun x2 h => ?_)
  refine F_psc ho (by decide) h (fun σ3 h => ?_)
  refine F_rsc h (fun x4 h => ?_)
  refine F_psc ho (by decide) h (fun σ5 h => ?_)
  cases h
  exact F_refl
set_option maxRecDepth 100000 in
set_option maxHeartbeats 4000000 in
theorem frX11_answer (o : Nat) (a1 : Int32) (ho : KD o = 11) (σ : Mm) {xr : Int32} {τ : Mm} (h : fX11_answer o a1 σ = some (xr, τ)) : FK [11] σ τ := by
  unfold fX11_answer at h
  refine F_psc ho (by decide) h (fun σ1 h => ?_)
  cases h
  exact F_refl
set_option maxRecDepth 100000 in
set_option maxHeartbeats 4000000 in
theorem frX11_village (o : Nat) (a1 : Int32) (ho : KD o = 11) (σ : Mm) {xr : Int32} {τ : Mm} (h : fX11_village o a1 σ = some (xr, τ)) : FK [2, 4, 5, 6, 7, 9, 11] σ τ := by
  unfold fX11_village at h
  refine F_if h (fun h => ?_) (fun h => ?_)
  · skip
    obtain ⟨x3, σ1, hc2, h⟩ := cI_t h
    refine F_call (frX11_none o (1 : Int32) ho σ hc2) (by decide) ?_
    cases h
    exact F_refl
  · skip
    refine F_rsc h (fun x4 h => ?_)
    refine F_if h (fun h => ?_) (fun h => ?_)
    · skip
      obtain ⟨σ5, hc6, h⟩ := cV_t h
      refine F_call (frX6_open (tg o 4) a1 (tk11_4 ho) σ hc6) (by decide) ?_
      refine F_rrf h (fun q7 hq7 h => ?_)
      obtain ⟨x10, σ8, hc9, h⟩ := cI_t h
      refine F_call (frX9_readAll (tg o 5) (tg o 4) q7 (tk11_5 ho) (tk11_4 ho) hq7 σ5 hc9) (by decide) ?_
      obtain ⟨σ11, hc12, h⟩ := cV_t h
      refine F_call (frX11_closeText o ho σ8 hc12) (by decide) ?_
      refine F_ifn h (fun h => ?_) (fun h => ?_)
      · skip
        refine F_rrf h (fun q13 hq13 h => ?_)
        refine F_rrf h (fun q14 hq14 h => ?_)
        refine F_prf ho (by decide) h (fun σ15 h => ?_)
        refine F_prf (tk11_9 ho) (by decide) h (fun σ16 h => ?_)
        obtain ⟨σ17, hc18, h⟩ := cV_t h
        refine F_call (frX4_begin (tg (tg o 9) 1) q13 (tk7_1 (tk11_9 ho)) hq13 σ16 hc18) (by decide) ?_
        refine F_rrf h (fun q19 hq19 h => ?_)
        obtain ⟨σ20, hc21, h⟩ := cV_t h
        refine F_call (frX5_clear q19 hq19 σ17 hc21) (by decide) ?_
        refine F_rsc h (fun x22 h => ?_)
        obtain ⟨x25, σ23, hc24, h⟩ := cI_t h
        refine F_call (frX11_answer o x22 ho σ20 hc24) (by decide) ?_
        cases h
        exact F_refl
      · skip
        obtain ⟨x28, σ26, hc27, h⟩ := cI_t h
        refine F_call (frX11_none o (9 : Int32) ho σ11 hc27) (by decide) ?_
        cases h
        exact F_refl
    · skip
      obtain ⟨x31, σ29, hc30, h⟩ := cI_t h
      refine F_call (frX11_none o (1 : Int32) ho σ hc30) (by decide) ?_
      cases h
      exact F_refl
set_option maxRecDepth 100000 in
set_option maxHeartbeats 4000000 in
theorem frX11_orders (o : Nat) (a1 : Int32) (ho : KD o = 11) (σ : Mm) {xr : Int32} {τ : Mm} (h : fX11_orders o a1 σ = some (xr, τ)) : FK [1, 5, 6, 7, 11] σ τ := by
  unfold fX11_orders at h
  refine F_if h (fun h => ?_) (fun h => ?_)
  · skip
    obtain ⟨x3, σ1, hc2, h⟩ := cI_t h
    refine F_call (frX11_none o (1 : Int32) ho σ hc2) (by decide) ?_
    cases h
    exact F_refl
  · skip
    refine F_rsc h (fun x4 h => ?_)
    refine F_if h (fun h => ?_) (fun h => ?_)
    · skip
      obtain ⟨x7, σ5, hc6, h⟩ := cI_t h
      refine F_call (frX11_none o (1 : Int32) ho σ hc6) (by decide) ?_
      cases h
      exact F_refl
    · skip
      refine F_if h (fun h => ?_) (fun h => ?_)
      · skip
        obtain ⟨σ8, hc9, h⟩ := cV_t h
        refine F_call (frX6_open (tg o 4) a1 (tk11_4 ho) σ hc9) (by decide) ?_
        refine F_rrf h (fun q10 hq10 h => ?_)
        refine F_rrf h (fun q11 hq11 h => ?_)
        obtain ⟨x14, σ12, hc13, h⟩ := cI_t h
        refine F_call (frX1_readAll (tg o 6) (tg o 4) q10 q11 (tk11_6 ho) (tk11_4 ho) hq10 hq11 σ8 hc13) (by decide) ?_
        obtain ⟨σ15, hc16, h⟩ := cV_t h
        refine F_call (frX11_closeText o ho σ12 hc16) (by decide) ?_
        refine F_ifn h (fun h => ?_) (fun h => ?_)
        · skip
          refine F_rrf h (fun q17 hq17 h => ?_)
          refine F_rrf h (fun q18 hq18 h => ?_)
          refine F_prf ho (by decide) h (fun σ19 h => ?_)
          refine F_prf (tk11_9 ho) (by decide) h (fun σ20 h => ?_)
          refine F_rsc h (fun x21 h => ?_)
          obtain ⟨x24, σ22, hc23, h⟩ := cI_t h
          refine F_call (frX11_answer o x21 ho σ20 hc23) (by decide) ?_
          cases h
          exact F_refl
        · skip
          obtain ⟨x27, σ25, hc26, h⟩ := cI_t h
          refine F_call (frX11_none o (9 : Int32) ho σ15 hc26) (by decide) ?_
          cases h
          exact F_refl
      · skip
        obtain ⟨x30, σ28, hc29, h⟩ := cI_t h
        refine F_call (frX11_none o (1 : Int32) ho σ hc29) (by decide) ?_
        cases h
        exact F_refl
set_option maxRecDepth 100000 in
set_option maxHeartbeats 4000000 in
theorem frX11_fault (o : Nat) (a1 : Int32) (ho : KD o = 11) (σ : Mm) {xr : Int32} {τ : Mm} (h : fX11_fault o a1 σ = some (xr, τ)) : FK [] σ τ := by
  unfold fX11_fault at h
  refine F_ifn h (fun h => ?_) (fun h => ?_)
  · skip
    refine F_ifn h (fun h => ?_) (fun h => ?_)
    · skip
      cases h
      exact F_refl
    · skip
      refine F_rsc h (fun x1 h => ?_)
      cases h
      exact F_refl
  · skip
    refine F_rsc h (fun x2 h => ?_)
    cases h
    exact F_refl
set_option maxRecDepth 100000 in
set_option maxHeartbeats 4000000 in
theorem frX11_told (o : Nat) (a1 : Int32) (ho : KD o = 11) (σ : Mm) {xr : Int32} {τ : Mm} (h : fX11_told o a1 σ = some (xr, τ)) : FK [11] σ τ := by
  unfold fX11_told at h
  by_cases hs1 : a1 = (0 : Int32)
  · rw [if_pos hs1] at h
    refine F_rrf h (fun q2 hq2 h => ?_)
    refine F_rsc h (fun x3 h => ?_)
    obtain ⟨x6, σ4, hc5, h⟩ := cI_t h
    refine F_call (frX11_answer o x3 ho σ hc5) (by decide) ?_
    cases h
    exact F_refl
  rw [if_neg hs1] at h
  by_cases hs7 : a1 = (1 : Int32)
  · rw [if_pos hs7] at h
    refine F_rrf h (fun q8 hq8 h => ?_)
    refine F_rsc h (fun x9 h => ?_)
    obtain ⟨x12, σ10, hc11, h⟩ := cI_t h
    refine F_call (frX11_answer o x9 ho σ hc11) (by decide) ?_
    cases h
    exact F_refl
  rw [if_neg hs7] at h
  by_cases hs13 : a1 = (2 : Int32)
  · rw [if_pos hs13] at h
    refine F_rrf h (fun q14 hq14 h => ?_)
    refine F_rsc h (fun x15 h => ?_)
    obtain ⟨x18, σ16, hc17, h⟩ := cI_t h
    refine F_call (frX11_answer o x15 ho σ hc17) (by decide) ?_
    cases h
    exact F_refl
  rw [if_neg hs13] at h
  by_cases hs19 : a1 = (3 : Int32)
  · rw [if_pos hs19] at h
    refine F_rsc h (fun x20 h => ?_)
    obtain ⟨x23, σ21, hc22, h⟩ := cI_t h
    refine F_call (frX11_answer o x20 ho σ hc22) (by decide) ?_
    cases h
    exact F_refl
  rw [if_neg hs19] at h
  by_cases hs24 : a1 = (4 : Int32)
  · rw [if_pos hs24] at h
    refine F_rsc h (fun x25 h => ?_)
    obtain ⟨x28, σ26, hc27, h⟩ := cI_t h
    refine F_call (frX11_answer o x25 ho σ hc27) (by decide) ?_
    cases h
    exact F_refl
  rw [if_neg hs24] at h
  by_cases hs29 : a1 = (5 : Int32)
  · rw [if_pos hs29] at h
    refine F_rsc h (fun x30 h => ?_)
    obtain ⟨x33, σ31, hc32, h⟩ := cI_t h
    refine F_call (frX11_answer o x30 ho σ hc32) (by decide) ?_
    cases h
    exact F_refl
  rw [if_neg hs29] at h
  obtain ⟨x36, σ34, hc35, h⟩ := cI_t h
  refine F_call (frX11_none o (1 : Int32) ho σ hc35) (by decide) ?_
  cases h
  exact F_refl
set_option maxRecDepth 100000 in
set_option maxHeartbeats 4000000 in
theorem frX11_isVane (o : Nat) (a1 : Int32) (ho : KD o = 11) (σ : Mm) {xr : Int32} {τ : Mm} (h : fX11_isVane o a1 σ = some (xr, τ)) : FK [] σ τ := by
  unfold fX11_isVane at h
  refine F_if h (fun h => ?_) (fun h => ?_)
  · skip
    cases h
    exact F_refl
  · skip
    refine F_rrf h (fun q1 hq1 h => ?_)
    refine F_rsc h (fun x2 h => ?_)
    refine F_if h (fun h => ?_) (fun h => ?_)
    · skip
      cases h
      exact F_refl
    · skip
      cases h
      exact F_refl
set_option maxRecDepth 100000 in
set_option maxHeartbeats 4000000 in
theorem frX11_vane (o : Nat) (a1 : Int32) (a2 : Int32) (ho : KD o = 11) (σ : Mm) {xr : Int32} {τ : Mm} (h : fX11_vane o a1 a2 σ = some (xr, τ)) : FK [11] σ τ := by
  unfold fX11_vane at h
  obtain ⟨x3, σ1, hc2, h⟩ := cI_t h
  refine F_call (frX11_isVane o a1 ho σ hc2) (by decide) ?_
  refine F_ifn h (fun h => ?_) (fun h => ?_)
  · skip
    by_cases hs4 : a2 = (0 : Int32)
    · rw [if_pos hs4] at h
      refine F_rrf h (fun q5 hq5 h => ?_)
      refine F_gar h (fun x6 h => ?_)
      obtain ⟨x9, σ7, hc8, h⟩ := cI_t h
      refine F_call (frX11_answer o x6 ho σ1 hc8) (by decide) ?_
      cases h
      exact F_refl
    rw [if_neg hs4] at h
    by_cases hs10 : a2 = (1 : Int32)
    · rw [if_pos hs10] at h
      refine F_rrf h (fun q11 hq11 h => ?_)
      refine F_gar h (fun x12 h => ?_)
      obtain ⟨x15, σ13, hc14, h⟩ := cI_t h
      refine F_call (frX11_answer o x12 ho σ1 hc14) (by decide) ?_
      cases h
      exact F_refl
    rw [if_neg hs10] at h
    by_cases hs16 : a2 = (2 : Int32)
    · rw [if_pos hs16] at h
      refine F_rrf h (fun q17 hq17 h => ?_)
      refine F_gar h (fun x18 h => ?_)
      obtain ⟨x21, σ19, hc20, h⟩ := cI_t h
      refine F_call (frX11_answer o x18 ho σ1 hc20) (by decide) ?_
      cases h
      exact F_refl
    rw [if_neg hs16] at h
    by_cases hs22 : a2 = (3 : Int32)
    · rw [if_pos hs22] at h
      refine F_gar h (fun x23 h => ?_)
      obtain ⟨x26, σ24, hc25, h⟩ := cI_t h
      refine F_call (frX11_answer o x23 ho σ1 hc25) (by decide) ?_
      cases h
      exact F_refl
    rw [if_neg hs22] at h
    by_cases hs27 : a2 = (4 : Int32)
    · rw [if_pos hs27] at h
      refine F_gar h (fun x28 h => ?_)
      obtain ⟨x31, σ29, hc30, h⟩ := cI_t h
      refine F_call (frX11_answer o x28 ho σ1 hc30) (by decide) ?_
      cases h
      exact F_refl
    rw [if_neg hs27] at h
    by_cases hs32 : a2 = (5 : Int32)
    · rw [if_pos hs32] at h
      refine F_gar h (fun x33 h => ?_)
      obtain ⟨x36, σ34, hc35, h⟩ := cI_t h
      refine F_call (frX11_answer o x33 ho σ1 hc35) (by decide) ?_
      cases h
      exact F_refl
    rw [if_neg hs32] at h
    obtain ⟨x39, σ37, hc38, h⟩ := cI_t h
    refine F_call (frX11_none o (1 : Int32) ho σ1 hc38) (by decide) ?_
    cases h
    exact F_refl
  · skip
    obtain ⟨x42, σ40, hc41, h⟩ := cI_t h
    refine F_call (frX11_none o (1 : Int32) ho σ1 hc41) (by decide) ?_
    cases h
    exact F_refl
set_option maxRecDepth 100000 in
set_option maxHeartbeats 4000000 in
theorem frX11_isShaft (o : Nat) (a1 : Int32) (ho : KD o = 11) (σ : Mm) {xr : Int32} {τ : Mm} (h : fX11_isShaft o a1 σ = some (xr, τ)) : FK [] σ τ := by
  unfold fX11_isShaft at h
  refine F_if h (fun h => ?_) (fun h => ?_)
  · skip
    cases h
    exact F_refl
  · skip
    refine F_rrf h (fun q1 hq1 h => ?_)
    refine F_rsc h (fun x2 h => ?_)
    refine F_if h (fun h => ?_) (fun h => ?_)
    · skip
      cases h
      exact F_refl
    · skip
      cases h
      exact F_refl
set_option maxRecDepth 100000 in
set_option maxHeartbeats 4000000 in
theorem frX11_shaft (o : Nat) (a1 : Int32) (a2 : Int32) (ho : KD o = 11) (σ : Mm) {xr : Int32} {τ : Mm} (h : fX11_shaft o a1 a2 σ = some (xr, τ)) : FK [11] σ τ := by
  unfold fX11_shaft at h
  obtain ⟨x3, σ1, hc2, h⟩ := cI_t h
  refine F_call (frX11_isShaft o a1 ho σ hc2) (by decide) ?_
  refine F_ifn h (fun h => ?_) (fun h => ?_)
  · skip
    by_cases hs4 : a2 = (0 : Int32)
    · rw [if_pos hs4] at h
      refine F_rrf h (fun q5 hq5 h => ?_)
      refine F_gar h (fun x6 h => ?_)
      obtain ⟨x9, σ7, hc8, h⟩ := cI_t h
      refine F_call (frX11_answer o x6 ho σ1 hc8) (by decide) ?_
      cases h
      exact F_refl
    rw [if_neg hs4] at h
    by_cases hs10 : a2 = (1 : Int32)
    · rw [if_pos hs10] at h
      refine F_rrf h (fun q11 hq11 h => ?_)
      refine F_gar h (fun x12 h => ?_)
      obtain ⟨x15, σ13, hc14, h⟩ := cI_t h
      refine F_call (frX11_answer o x12 ho σ1 hc14) (by decide) ?_
      cases h
      exact F_refl
    rw [if_neg hs10] at h
    by_cases hs16 : a2 = (2 : Int32)
    · rw [if_pos hs16] at h
      refine F_rrf h (fun q17 hq17 h => ?_)
      refine F_gar h (fun x18 h => ?_)
      refine F_ifn h (fun h => ?_) (fun h => ?_)
      · skip
        obtain ⟨x21, σ19, hc20, h⟩ := cI_t h
        refine F_call (frX11_answer o (0 : Int32) ho σ1 hc20) (by decide) ?_
        cases h
        exact F_refl
      · skip
        obtain ⟨x24, σ22, hc23, h⟩ := cI_t h
        refine F_call (frX11_answer o (1 : Int32) ho σ1 hc23) (by decide) ?_
        cases h
        exact F_refl
    rw [if_neg hs16] at h
    by_cases hs25 : a2 = (3 : Int32)
    · rw [if_pos hs25] at h
      refine F_rrf h (fun q26 hq26 h => ?_)
      refine F_gar h (fun x27 h => ?_)
      obtain ⟨x30, σ28, hc29, h⟩ := cI_t h
      refine F_call (frX11_answer o x27 ho σ1 hc29) (by decide) ?_
      cases h
      exact F_refl
    rw [if_neg hs25] at h
    by_cases hs31 : a2 = (4 : Int32)
    · rw [if_pos hs31] at h
      refine F_gar h (fun x32 h => ?_)
      obtain ⟨x35, σ33, hc34, h⟩ := cI_t h
      refine F_call (frX11_answer o x32 ho σ1 hc34) (by decide) ?_
      cases h
      exact F_refl
    rw [if_neg hs31] at h
    obtain ⟨x38, σ36, hc37, h⟩ := cI_t h
    refine F_call (frX11_none o (1 : Int32) ho σ1 hc37) (by decide) ?_
    cases h
    exact F_refl
  · skip
    obtain ⟨x41, σ39, hc40, h⟩ := cI_t h
    refine F_call (frX11_none o (1 : Int32) ho σ1 hc40) (by decide) ?_
    cases h
    exact F_refl
set_option maxRecDepth 100000 in
set_option maxHeartbeats 4000000 in
theorem frX11_workOnNow (o : Nat) (ho : KD o = 11) (σ : Mm) {τ : Mm} (h : fX11_workOnNow o σ = some τ) : FK [10] σ τ := by
  unfold fX11_workOnNow at h
  refine F_rrf h (fun q1 hq1 h => ?_)
  obtain ⟨σ2, hc3, h⟩ := cV_t h
  refine F_call (frX10_use (tg o 14) q1 (tg (tg o 9) 1) (tk11_14 ho) hq1 (tk7_1 (tk11_9 ho)) σ hc3) (by decide) ?_
  cases h
  exact F_refl
set_option maxRecDepth 100000 in
set_option maxHeartbeats 4000000 in
theorem frX11_wants (o : Nat) (a1 : Int32) (ho : KD o = 11) (σ : Mm) {xr : Int32} {τ : Mm} (h : fX11_wants o a1 σ = some (xr, τ)) : FK [10, 11] σ τ := by
  unfold fX11_wants at h
  obtain ⟨x3, σ1, hc2, h⟩ := cI_t h
  refine F_call (frX11_isVane o a1 ho σ hc2) (by decide) ?_
  refine F_ifn h (fun h => ?_) (fun h => ?_)
  · skip
    obtain ⟨σ4, hc5, h⟩ := cV_t h
    refine F_call (frX11_workOnNow o ho σ1 hc5) (by decide) ?_
    refine F_gar h (fun x6 h => ?_)
    refine F_ifn h (fun h => ?_) (fun h => ?_)
    · skip
      obtain ⟨x9, σ7, hc8, h⟩ := cI_t h
      refine F_call (frX11_answer o x6 ho σ4 hc8) (by decide) ?_
      cases h
      exact F_refl
    · skip
      obtain ⟨x12, σ10, hc11, h⟩ := cI_t h
      refine F_call (frX11_none o (6 : Int32) ho σ4 hc11) (by decide) ?_
      cases h
      exact F_refl
  · skip
    obtain ⟨x15, σ13, hc14, h⟩ := cI_t h
    refine F_call (frX11_none o (1 : Int32) ho σ1 hc14) (by decide) ?_
    cases h
    exact F_refl
set_option maxRecDepth 100000 in
set_option maxHeartbeats 4000000 in
theorem frX11_right (o : Nat) (a1 : Int32) (ho : KD o = 11) (σ : Mm) {xr : Int32} {τ : Mm} (h : fX11_right o a1 σ = some (xr, τ)) : FK [10, 11] σ τ := by
  unfold fX11_right at h
  obtain ⟨x3, σ1, hc2, h⟩ := cI_t h
  refine F_call (frX11_isVane o a1 ho σ hc2) (by decide) ?_
  refine F_ifn h (fun h => ?_) (fun h => ?_)
  · skip
    obtain ⟨σ4, hc5, h⟩ := cV_t h
    refine F_call (frX11_workOnNow o ho σ1 hc5) (by decide) ?_
    obtain ⟨x8, σ6, hc7, h⟩ := cI_t h
    refine F_call (frX10_isRight (tg o 14) a1 (tk11_14 ho) σ4 hc7) (by decide) ?_
    refine F_if h (fun h => ?_) (fun h => ?_)
    · skip
      obtain ⟨x11, σ9, hc10, h⟩ := cI_t h
      refine F_call (frX11_answer o (0 : Int32) ho σ6 hc10) (by decide) ?_
      cases h
      exact F_refl
    · skip
      obtain ⟨x14, σ12, hc13, h⟩ := cI_t h
      refine F_call (frX11_answer o (1 : Int32) ho σ6 hc13) (by decide) ?_
      cases h
      exact F_refl
  · skip
    obtain ⟨x17, σ15, hc16, h⟩ := cI_t h
    refine F_call (frX11_none o (1 : Int32) ho σ1 hc16) (by decide) ?_
    cases h
    exact F_refl
set_option maxRecDepth 100000 in
set_option maxHeartbeats 4000000 in
theorem frX11_isPlace (o : Nat) (a1 : Int32) (ho : KD o = 11) (σ : Mm) {xr : Int32} {τ : Mm} (h : fX11_isPlace o a1 σ = some (xr, τ)) : FK [] σ τ := by
  unfold fX11_isPlace at h
  refine F_if h (fun h => ?_) (fun h => ?_)
  · skip
    cases h
    exact F_refl
  · skip
    refine F_rrf h (fun q1 hq1 h => ?_)
    refine F_rsc h (fun x2 h => ?_)
    refine F_if h (fun h => ?_) (fun h => ?_)
    · skip
      cases h
      exact F_refl
    · skip
      cases h
      exact F_refl
set_option maxRecDepth 100000 in
set_option maxHeartbeats 4000000 in
theorem frX11_wind (o : Nat) (a1 : Int32) (a2 : Int32) (a3 : Int32) (ho : KD o = 11) (σ : Mm) {xr : Int32} {τ : Mm} (h : fX11_wind o a1 a2 a3 σ = some (xr, τ)) : FK [4, 11] σ τ := by
  unfold fX11_wind at h
  obtain ⟨x3, σ1, hc2, h⟩ := cI_t h
  refine F_call (frX11_isPlace o a1 ho σ hc2) (by decide) ?_
  refine F_if h (fun h => ?_) (fun h => ?_)
  · skip
    obtain ⟨x6, σ4, hc5, h⟩ := cI_t h
    refine F_call (frX11_refuse o (1 : Int32) ho σ1 hc5) (by decide) ?_
    obtain ⟨hz7, h⟩ := bz_t h
    cases h
    exact F_refl
  · skip
    refine F_if h (fun h => ?_) (fun h => ?_)
    · skip
      obtain ⟨x10, σ8, hc9, h⟩ := cI_t h
      refine F_call (frX11_refuse o (1 : Int32) ho σ1 hc9) (by decide) ?_
      obtain ⟨hz11, h⟩ := bz_t h
      cases h
      exact F_refl
    · skip
      refine F_if h (fun h => ?_) (fun h => ?_)
      · skip
        refine F_if h (fun h => ?_) (fun h => ?_)
        · skip
          obtain ⟨x14, σ12, hc13, h⟩ := cI_t h
          refine F_call (frX11_refuse o (1 : Int32) ho σ1 hc13) (by decide) ?_
          obtain ⟨hz15, h⟩ := bz_t h
          cases h
          exact F_refl
        · skip
          refine F_if h (fun h => ?_) (fun h => ?_)
          · skip
            refine F_sar (tk7_1 (tk11_9 ho)) (by decide) h (fun σ16 h => ?_)
            refine F_sar (tk7_1 (tk11_9 ho)) (by decide) h (fun σ17 h => ?_)
            obtain ⟨x20, σ18, hc19, h⟩ := cI_t h
            refine F_call (frX11_agree o ho σ17 hc19) (by decide) ?_
            obtain ⟨hz21, h⟩ := bz_t h
            cases h
            exact F_refl
          · skip
            obtain ⟨x24, σ22, hc23, h⟩ := cI_t h
            refine F_call (frX11_refuse o (1 : Int32) ho σ1 hc23) (by decide) ?_
            obtain ⟨hz25, h⟩ := bz_t h
            cases h
            exact F_refl
      · skip
        obtain ⟨x28, σ26, hc27, h⟩ := cI_t h
        refine F_call (frX11_refuse o (1 : Int32) ho σ1 hc27) (by decide) ?_
        obtain ⟨hz29, h⟩ := bz_t h
        cases h
        exact F_refl
set_option maxRecDepth 100000 in
set_option maxHeartbeats 4000000 in
theorem frX11_windAt (o : Nat) (a1 : Int32) (a2 : Int32) (ho : KD o = 11) (σ : Mm) {xr : Int32} {τ : Mm} (h : fX11_windAt o a1 a2 σ = some (xr, τ)) : FK [11] σ τ := by
  unfold fX11_windAt at h
  obtain ⟨x3, σ1, hc2, h⟩ := cI_t h
  refine F_call (frX11_isPlace o a1 ho σ hc2) (by decide) ?_
  refine F_if h (fun h => ?_) (fun h => ?_)
  · skip
    obtain ⟨x6, σ4, hc5, h⟩ := cI_t h
    refine F_call (frX11_none o (1 : Int32) ho σ1 hc5) (by decide) ?_
    cases h
    exact F_refl
  · skip
    refine F_if h (fun h => ?_) (fun h => ?_)
    · skip
      obtain ⟨x9, σ7, hc8, h⟩ := cI_t h
      refine F_call (frX11_none o (1 : Int32) ho σ1 hc8) (by decide) ?_
      cases h
      exact F_refl
    · skip
      refine F_if h (fun h => ?_) (fun h => ?_)
      · skip
        refine F_ifn h (fun h => ?_) (fun h => ?_)
        · skip
          refine F_gar h (fun x10 h => ?_)
          obtain ⟨x13, σ11, hc12, h⟩ := cI_t h
          refine F_call (frX11_answer o x10 ho σ1 hc12) (by decide) ?_
          cases h
          exact F_refl
        · skip
          refine F_gar h (fun x14 h => ?_)
          obtain ⟨x17, σ15, hc16, h⟩ := cI_t h
          refine F_call (frX11_answer o x14 ho σ1 hc16) (by decide) ?_
          cases h
          exact F_refl
      · skip
        obtain ⟨x20, σ18, hc19, h⟩ := cI_t h
        refine F_call (frX11_none o (1 : Int32) ho σ1 hc19) (by decide) ?_
        cases h
        exact F_refl
set_option maxRecDepth 100000 in
set_option maxHeartbeats 4000000 in
theorem frX11_lift (o : Nat) (a1 : Int32) (a2 : Int32) (ho : KD o = 11) (σ : Mm) {xr : Int32} {τ : Mm} (h : fX11_lift o a1 a2 σ = some (xr, τ)) : FK [4, 11] σ τ := by
  unfold fX11_lift at h
  obtain ⟨x3, σ1, hc2, h⟩ := cI_t h
  refine F_call (frX11_isShaft o a1 ho σ hc2) (by decide) ?_
  refine F_ifn h (fun h => ?_) (fun h => ?_)
  · skip
    refine F_rsc h (fun x4 h => ?_)
    obtain ⟨x7, σ5, hc6, h⟩ := cI_t h
    refine F_call (frX11_with x4 a1 a2 σ1 hc6) (by decide) ?_
    refine F_psc (tk7_1 (tk11_9 ho)) (by decide) h (fun σ8 h => ?_)
    obtain ⟨x11, σ9, hc10, h⟩ := cI_t h
    refine F_call (frX11_agree o ho σ8 hc10) (by decide) ?_
    obtain ⟨hz12, h⟩ := bz_t h
    cases h
    exact F_refl
  · skip
    obtain ⟨x15, σ13, hc14, h⟩ := cI_t h
    refine F_call (frX11_refuse o (1 : Int32) ho σ1 hc14) (by decide) ?_
    obtain ⟨hz16, h⟩ := bz_t h
    cases h
    exact F_refl
set_option maxRecDepth 100000 in
set_option maxHeartbeats 4000000 in
theorem frX11_hold (o : Nat) (a1 : Int32) (a2 : Int32) (ho : KD o = 11) (σ : Mm) {xr : Int32} {τ : Mm} (h : fX11_hold o a1 a2 σ = some (xr, τ)) : FK [4, 11] σ τ := by
  unfold fX11_hold at h
  obtain ⟨x3, σ1, hc2, h⟩ := cI_t h
  refine F_call (frX11_isVane o a1 ho σ hc2) (by decide) ?_
  refine F_ifn h (fun h => ?_) (fun h => ?_)
  · skip
    refine F_rsc h (fun x4 h => ?_)
    obtain ⟨x7, σ5, hc6, h⟩ := cI_t h
    refine F_call (frX11_with x4 a1 a2 σ1 hc6) (by decide) ?_
    refine F_psc (tk7_1 (tk11_9 ho)) (by decide) h (fun σ8 h => ?_)
    obtain ⟨x11, σ9, hc10, h⟩ := cI_t h
    refine F_call (frX11_agree o ho σ8 hc10) (by decide) ?_
    obtain ⟨hz12, h⟩ := bz_t h
    cases h
    exact F_refl
  · skip
    obtain ⟨x15, σ13, hc14, h⟩ := cI_t h
    refine F_call (frX11_refuse o (1 : Int32) ho σ1 hc14) (by decide) ?_
    obtain ⟨hz16, h⟩ := bz_t h
    cases h
    exact F_refl
set_option maxRecDepth 100000 in
set_option maxHeartbeats 4000000 in
theorem frX11_pass (o : Nat) (a1 : Int32) (ho : KD o = 11) (σ : Mm) {xr : Int32} {τ : Mm} (h : fX11_pass o a1 σ = some (xr, τ)) : FK [4, 10, 11] σ τ := by
  unfold fX11_pass at h
  refine F_if h (fun h => ?_) (fun h => ?_)
  · skip
    obtain ⟨x3, σ1, hc2, h⟩ := cI_t h
    refine F_call (frX11_none o (1 : Int32) ho σ hc2) (by decide) ?_
    cases h
    exact F_refl
  · skip
    refine F_if h (fun h => ?_) (fun h => ?_)
    · skip
      refine F_rsc h (fun x4 h => ?_)
      refine F_if h (fun h => ?_) (fun h => ?_)
      · skip
        obtain ⟨σ5, hc6, h⟩ := cV_t h
        refine F_call (frX11_workOnNow o ho σ hc6) (by decide) ?_
        obtain ⟨x9, σ7, hc8, h⟩ := cI_t h
        refine F_call (frX10_goOn (tg o 14) a1 (tk11_14 ho) σ5 hc8) (by decide) ?_
        refine F_rsc h (fun x10 h => ?_)
        refine F_psc (tk7_1 (tk11_9 ho)) (by decide) h (fun σ11 h => ?_)
        refine F_rsc h (fun x12 h => ?_)
        obtain ⟨x15, σ13, hc14, h⟩ := cI_t h
        refine F_call (frX11_answer o x12 ho σ11 hc14) (by decide) ?_
        cases h
        exact F_refl
      · skip
        obtain ⟨x18, σ16, hc17, h⟩ := cI_t h
        refine F_call (frX11_none o (4 : Int32) ho σ hc17) (by decide) ?_
        cases h
        exact F_refl
    · skip
      obtain ⟨x21, σ19, hc20, h⟩ := cI_t h
      refine F_call (frX11_none o (1 : Int32) ho σ hc20) (by decide) ?_
      cases h
      exact F_refl
set_option maxRecDepth 100000 in
set_option maxHeartbeats 4000000 in
theorem frX11_turn (o : Nat) (a1 : Int32) (a2 : Int32) (ho : KD o = 11) (σ : Mm) {xr : Int32} {τ : Mm} (h : fX11_turn o a1 a2 σ = some (xr, τ)) : FK [4, 10, 11] σ τ := by
  unfold fX11_turn at h
  obtain ⟨x3, σ1, hc2, h⟩ := cI_t h
  refine F_call (frX11_isVane o a1 ho σ hc2) (by decide) ?_
  refine F_if h (fun h => ?_) (fun h => ?_)
  · skip
    obtain ⟨x6, σ4, hc5, h⟩ := cI_t h
    refine F_call (frX11_none o (1 : Int32) ho σ1 hc5) (by decide) ?_
    cases h
    exact F_refl
  · skip
    refine F_if h (fun h => ?_) (fun h => ?_)
    · skip
      obtain ⟨x9, σ7, hc8, h⟩ := cI_t h
      refine F_call (frX11_none o (1 : Int32) ho σ1 hc8) (by decide) ?_
      cases h
      exact F_refl
    · skip
      refine F_if h (fun h => ?_) (fun h => ?_)
      · skip
        obtain ⟨x12, σ10, hc11, h⟩ := cI_t h
        refine F_call (frX11_none o (1 : Int32) ho σ1 hc11) (by decide) ?_
        cases h
        exact F_refl
      · skip
        refine F_ifn h (fun h => ?_) (fun h => ?_)
        · skip
          obtain ⟨σ13, hc14, h⟩ := cV_t h
          refine F_call (frX11_workOnNow o ho σ1 hc14) (by decide) ?_
          obtain ⟨x17, σ15, hc16, h⟩ := cI_t h
          refine F_call (frX10_turnByHand (tg o 14) a1 a2 (tk11_14 ho) σ13 hc16) (by decide) ?_
          obtain ⟨x20, σ18, hc19, h⟩ := cI_t h
          refine F_call (frX11_answer o x17 ho σ15 hc19) (by decide) ?_
          cases h
          exact F_refl
        · skip
          obtain ⟨x23, σ21, hc22, h⟩ := cI_t h
          refine F_call (frX11_none o (1 : Int32) ho σ1 hc22) (by decide) ?_
          cases h
          exact F_refl
set_option maxRecDepth 100000 in
set_option maxHeartbeats 4000000 in
theorem frX11_drags (o : Nat) (a1 : Int32) (a2 : Int32) (ho : KD o = 11) (σ : Mm) {xr : Int32} {τ : Mm} (h : fX11_drags o a1 a2 σ = some (xr, τ)) : FK [10, 11] σ τ := by
  unfold fX11_drags at h
  obtain ⟨x3, σ1, hc2, h⟩ := cI_t h
  refine F_call (frX11_isVane o a1 ho σ hc2) (by decide) ?_
  refine F_if h (fun h => ?_) (fun h => ?_)
  · skip
    obtain ⟨x6, σ4, hc5, h⟩ := cI_t h
    refine F_call (frX11_none o (1 : Int32) ho σ1 hc5) (by decide) ?_
    cases h
    exact F_refl
  · skip
    refine F_if h (fun h => ?_) (fun h => ?_)
    · skip
      obtain ⟨σ7, hc8, h⟩ := cV_t h
      refine F_call (frX11_workOnNow o ho σ1 hc8) (by decide) ?_
      obtain ⟨x11, σ9, hc10, h⟩ := cI_t h
      refine F_call (frX10_engage (tg o 14) a1 a2 (tk11_14 ho) σ7 hc10) (by decide) ?_
      refine F_if h (fun h => ?_) (fun h => ?_)
      · skip
        obtain ⟨x14, σ12, hc13, h⟩ := cI_t h
        refine F_call (frX11_none o (7 : Int32) ho σ9 hc13) (by decide) ?_
        cases h
        exact F_refl
      · skip
        refine F_rsc h (fun x15 h => ?_)
        obtain ⟨x18, σ16, hc17, h⟩ := cI_t h
        refine F_call (frX11_answer o x15 ho σ9 hc17) (by decide) ?_
        cases h
        exact F_refl
    · skip
      refine F_if h (fun h => ?_) (fun h => ?_)
      · skip
        obtain ⟨σ19, hc20, h⟩ := cV_t h
        refine F_call (frX11_workOnNow o ho σ1 hc20) (by decide) ?_
        obtain ⟨x23, σ21, hc22, h⟩ := cI_t h
        refine F_call (frX10_engage (tg o 14) a1 a2 (tk11_14 ho) σ19 hc22) (by decide) ?_
        refine F_if h (fun h => ?_) (fun h => ?_)
        · skip
          obtain ⟨x26, σ24, hc25, h⟩ := cI_t h
          refine F_call (frX11_none o (7 : Int32) ho σ21 hc25) (by decide) ?_
          cases h
          exact F_refl
        · skip
          refine F_rsc h (fun x27 h => ?_)
          obtain ⟨x30, σ28, hc29, h⟩ := cI_t h
          refine F_call (frX11_answer o x27 ho σ21 hc29) (by decide) ?_
          cases h
          exact F_refl
      · skip
        obtain ⟨x33, σ31, hc32, h⟩ := cI_t h
        refine F_call (frX11_none o (1 : Int32) ho σ1 hc32) (by decide) ?_
        cases h
        exact F_refl
set_option maxRecDepth 100000 in
set_option maxHeartbeats 4000000 in
theorem frX11_joined (o : Nat) (a1 : Int32) (ho : KD o = 11) (σ : Mm) {xr : Int32} {τ : Mm} (h : fX11_joined o a1 σ = some (xr, τ)) : FK [0, 11] σ τ := by
  unfold fX11_joined at h
  obtain ⟨x3, σ1, hc2, h⟩ := cI_t h
  refine F_call (frX11_isVane o a1 ho σ hc2) (by decide) ?_
  refine F_ifn h (fun h => ?_) (fun h => ?_)
  · skip
    refine F_rrf h (fun q4 hq4 h => ?_)
    refine F_rsc h (fun x5 h => ?_)
    obtain ⟨σ6, hc7, h⟩ := cV_t h
    refine F_call (frX0_search (tg o 16) q4 x5 a1 (tk11_16 ho) hq4 σ1 hc7) (by decide) ?_
    refine F_rsc h (fun x8 h => ?_)
    obtain ⟨x11, σ9, hc10, h⟩ := cI_t h
    refine F_call (frX11_answer o x8 ho σ6 hc10) (by decide) ?_
    cases h
    exact F_refl
  · skip
    obtain ⟨x14, σ12, hc13, h⟩ := cI_t h
    refine F_call (frX11_none o (1 : Int32) ho σ1 hc13) (by decide) ?_
    cases h
    exact F_refl
set_option maxRecDepth 100000 in
set_option maxHeartbeats 4000000 in
theorem ftX11_greatestDivisor_9 {xr : Int64} {τ : Mm} (a1 : Int64) (a2 : Int64) : ∀ (n : Nat) (v4 : Int64) (v6 : Int64) (v8 : Int32) (σ : Mm), fX11_greatestDivisor_9 a1 a2 n v4 v6 v8 σ = some (xr, τ) → FK [] σ τ := by
  intro n
  induction n with
  | zero => intro v4 v6 v8 σ h; rw [fX11_greatestDivisor_9] at h; cases h
  | succ n ih =>
    intro v4 v6 v8 σ h
    rw [fX11_greatestDivisor_9] at h
    refine F_if h (fun h => ?_) (fun h => ?_)
    · skip
      cases h
      exact F_refl
    · skip
      refine F_if h (fun h => ?_) (fun h => ?_)
      · skip
        cases h
        exact F_refl
      · skip
        obtain ⟨hz1, h⟩ := nzl_t h
        exact ih v6 (v4 - v4 / v6 * v6) (v8 + (1 : Int32)) σ h
set_option maxRecDepth 100000 in
set_option maxHeartbeats 4000000 in
theorem frX11_greatestDivisor (a1 : Int64) (a2 : Int64) (σ : Mm) {xr : Int64} {τ : Mm} (h : fX11_greatestDivisor a1 a2 σ = some (xr, τ)) : FK [] σ τ := by
  unfold fX11_greatestDivisor at h
  exact ftX11_greatestDivisor_9 a1 a2 FU a1 a2 (0 : Int32) σ h
set_option maxRecDepth 100000 in
set_option maxHeartbeats 4000000 in
theorem frX11_tellFraction (o : Nat) (a1 : Int64) (a2 : Int64) (ho : KD o = 11) (σ : Mm) {τ : Mm} (h : fX11_tellFraction o a1 a2 σ = some τ) : FK [11] σ τ := by
  unfold fX11_tellFraction at h
  obtain ⟨x3, σ1, hc2, h⟩ := cL_t h
  refine F_call (frX11_greatestDivisor (if 0 < a1 then a1 else -a1) a2 σ hc2) (by decide) ?_
  refine F_ifn h (fun h => ?_) (fun h => ?_)
  · skip
    obtain ⟨hz7, h⟩ := nzl_t h
    refine F_plg ho (by decide) h (fun σ4 h => ?_)
    obtain ⟨hz6, h⟩ := nzl_t h
    refine F_plg ho (by decide) h (fun σ5 h => ?_)
    cases h
    exact F_refl
  · cases h
    exact F_refl
set_option maxRecDepth 100000 in
set_option maxHeartbeats 4000000 in
theorem frX11_ratio (o : Nat) (a1 : Int32) (a2 : Int32) (ho : KD o = 11) (σ : Mm) {xr : Int32} {τ : Mm} (h : fX11_ratio o a1 a2 σ = some (xr, τ)) : FK [0, 11] σ τ := by
  unfold fX11_ratio at h
  obtain ⟨x3, σ1, hc2, h⟩ := cI_t h
  refine F_call (frX11_isVane o a1 ho σ hc2) (by decide) ?_
  refine F_if h (fun h => ?_) (fun h => ?_)
  · skip
    obtain ⟨x6, σ4, hc5, h⟩ := cI_t h
    refine F_call (frX11_refuse o (1 : Int32) ho σ1 hc5) (by decide) ?_
    obtain ⟨hz7, h⟩ := bz_t h
    cases h
    exact F_refl
  · skip
    obtain ⟨x10, σ8, hc9, h⟩ := cI_t h
    refine F_call (frX11_isVane o a2 ho σ1 hc9) (by decide) ?_
    refine F_ifn h (fun h => ?_) (fun h => ?_)
    · skip
      refine F_rrf h (fun q11 hq11 h => ?_)
      refine F_rsc h (fun x12 h => ?_)
      obtain ⟨σ13, hc14, h⟩ := cV_t h
      refine F_call (frX0_search (tg o 16) q11 x12 a1 (tk11_16 ho) hq11 σ8 hc14) (by decide) ?_
      refine F_rsc h (fun x15 h => ?_)
      obtain ⟨x18, σ16, hc17, h⟩ := cI_t h
      refine F_call (frX11_has x15 a2 σ13 hc17) (by decide) ?_
      refine F_ifn h (fun h => ?_) (fun h => ?_)
      · skip
        refine F_gar h (fun x19 h => ?_)
        refine F_rrf h (fun q20 hq20 h => ?_)
        refine F_gar h (fun x21 h => ?_)
        refine F_rrf h (fun q22 hq22 h => ?_)
        refine F_gar h (fun x23 h => ?_)
        obtain ⟨σ24, hc25, h⟩ := cV_t h
        refine F_call (frX11_tellFraction o (x19.toInt64 * x21.toInt64) x23.toInt64 ho σ16 hc25) (by decide) ?_
        obtain ⟨x28, σ26, hc27, h⟩ := cI_t h
        refine F_call (frX11_agree o ho σ24 hc27) (by decide) ?_
        obtain ⟨hz29, h⟩ := bz_t h
        cases h
        exact F_refl
      · skip
        obtain ⟨x32, σ30, hc31, h⟩ := cI_t h
        refine F_call (frX11_refuse o (7 : Int32) ho σ16 hc31) (by decide) ?_
        obtain ⟨hz33, h⟩ := bz_t h
        cases h
        exact F_refl
    · skip
      obtain ⟨x36, σ34, hc35, h⟩ := cI_t h
      refine F_call (frX11_refuse o (1 : Int32) ho σ8 hc35) (by decide) ?_
      obtain ⟨hz37, h⟩ := bz_t h
      cases h
      exact F_refl
set_option maxRecDepth 100000 in
set_option maxHeartbeats 4000000 in
theorem frX11_locked (o : Nat) (ho : KD o = 11) (σ : Mm) {xr : Int32} {τ : Mm} (h : fX11_locked o σ = some (xr, τ)) : FK [0, 11] σ τ := by
  unfold fX11_locked at h
  refine F_rrf h (fun q1 hq1 h => ?_)
  refine F_rsc h (fun x2 h => ?_)
  obtain ⟨x5, σ3, hc4, h⟩ := cI_t h
  refine F_call (frX0_lockedVanes (tg o 16) q1 x2 (tk11_16 ho) hq1 σ hc4) (by decide) ?_
  obtain ⟨x8, σ6, hc7, h⟩ := cI_t h
  refine F_call (frX11_answer o x5 ho σ3 hc7) (by decide) ?_
  cases h
  exact F_refl
set_option maxRecDepth 100000 in
set_option maxHeartbeats 4000000 in
theorem frX11_leastMultiple (a1 : Int64) (a2 : Int64) (σ : Mm) {xr : Int64} {τ : Mm} (h : fX11_leastMultiple a1 a2 σ = some (xr, τ)) : FK [] σ τ := by
  unfold fX11_leastMultiple at h
  obtain ⟨x3, σ1, hc2, h⟩ := cL_t h
  refine F_call (frX11_greatestDivisor a1 a2 σ hc2) (by decide) ?_
  refine F_ifn h (fun h => ?_) (fun h => ?_)
  · skip
    obtain ⟨hz4, h⟩ := nzl_t h
    cases h
    exact F_refl
  · skip
    cases h
    exact F_refl
set_option maxRecDepth 100000 in
set_option maxHeartbeats 4000000 in
theorem ftX11_common_32 {xr : Int64} {τ : Mm} (o : Nat) (a1 : Int32) (ho : KD o = 11) : ∀ (n : Nat) (v2 : Int64) (v4 : Int32) (σ : Mm), fX11_common_32 o a1 n v2 v4 σ = some (xr, τ) → FK [11] σ τ := by
  intro n
  induction n with
  | zero => intro v2 v4 σ h; rw [fX11_common_32] at h; cases h
  | succ n ih =>
    intro v2 v4 σ h
    rw [fX11_common_32] at h
    refine F_rrf h (fun q9 hq9 h => ?_)
    refine F_rsc h (fun x10 h => ?_)
    refine F_if h (fun h => ?_) (fun h => ?_)
    · skip
      refine F_psc ho (by decide) h (fun σ11 h => ?_)
      cases h
      exact F_refl
    · skip
      obtain ⟨x14, σ12, hc13, h⟩ := cI_t h
      refine F_call (frX11_has a1 v4 σ hc13) (by decide) ?_
      refine F_if h (fun h => ?_) (fun h => ?_)
      · skip
        exact ih v2 (v4 + (1 : Int32)) σ12 h
      · skip
        refine F_rrf h (fun q15 hq15 h => ?_)
        refine F_gar h (fun x16 h => ?_)
        obtain ⟨x19, σ17, hc18, h⟩ := cL_t h
        refine F_call (frX11_leastMultiple v2 x16.toInt64 σ12 hc18) (by decide) ?_
        exact ih x19 (v4 + (1 : Int32)) σ17 h
set_option maxRecDepth 100000 in
set_option maxHeartbeats 4000000 in
theorem frX11_common (o : Nat) (a1 : Int32) (ho : KD o = 11) (σ : Mm) {xr : Int64} {τ : Mm} (h : fX11_common o a1 σ = some (xr, τ)) : FK [11] σ τ := by
  unfold fX11_common at h
  refine F_if h (fun h => ?_) (fun h => ?_)
  · skip
    obtain ⟨x3, σ1, hc2, h⟩ := cI_t h
    refine F_call (frX11_none o (1 : Int32) ho σ hc2) (by decide) ?_
    cases h
    exact F_refl
  · skip
    refine F_rrf h (fun q4 hq4 h => ?_)
    refine F_rsc h (fun x5 h => ?_)
    refine F_if h (fun h => ?_) (fun h => ?_)
    · skip
      exact ftX11_common_32 o a1 ho FU (1 : Int64) (0 : Int32) σ h
    · skip
      obtain ⟨x8, σ6, hc7, h⟩ := cI_t h
      refine F_call (frX11_none o (1 : Int32) ho σ hc7) (by decide) ?_
      cases h
      exact F_refl
set_option maxRecDepth 100000 in
set_option maxHeartbeats 4000000 in
theorem frX11_sway (o : Nat) (a1 : Int32) (a2 : Int32) (ho : KD o = 11) (σ : Mm) {xr : Int32} {τ : Mm} (h : fX11_sway o a1 a2 σ = some (xr, τ)) : FK [0, 11] σ τ := by
  unfold fX11_sway at h
  obtain ⟨x3, σ1, hc2, h⟩ := cI_t h
  refine F_call (frX11_isVane o a1 ho σ hc2) (by decide) ?_
  refine F_if h (fun h => ?_) (fun h => ?_)
  · skip
    obtain ⟨x6, σ4, hc5, h⟩ := cI_t h
    refine F_call (frX11_none o (1 : Int32) ho σ1 hc5) (by decide) ?_
    cases h
    exact F_refl
  · skip
    obtain ⟨x9, σ7, hc8, h⟩ := cI_t h
    refine F_call (frX11_isVane o a2 ho σ1 hc8) (by decide) ?_
    refine F_ifn h (fun h => ?_) (fun h => ?_)
    · skip
      refine F_rrf h (fun q10 hq10 h => ?_)
      refine F_rsc h (fun x11 h => ?_)
      obtain ⟨x14, σ12, hc13, h⟩ := cI_t h
      refine F_call (frX0_leastSlack (tg o 16) q10 x11 a1 a2 (tk11_16 ho) hq10 σ7 hc13) (by decide) ?_
      refine F_ifn h (fun h => ?_) (fun h => ?_)
      · skip
        obtain ⟨x17, σ15, hc16, h⟩ := cI_t h
        refine F_call (frX11_answer o x14 ho σ12 hc16) (by decide) ?_
        cases h
        exact F_refl
      · skip
        obtain ⟨x20, σ18, hc19, h⟩ := cI_t h
        refine F_call (frX11_none o (7 : Int32) ho σ12 hc19) (by decide) ?_
        cases h
        exact F_refl
    · skip
      obtain ⟨x23, σ21, hc22, h⟩ := cI_t h
      refine F_call (frX11_none o (1 : Int32) ho σ7 hc22) (by decide) ?_
      cases h
      exact F_refl
set_option maxRecDepth 100000 in
set_option maxHeartbeats 4000000 in
theorem frX11_isAhead (o : Nat) (a1 : Int32) (ho : KD o = 11) (σ : Mm) {xr : Int32} {τ : Mm} (h : fX11_isAhead o a1 σ = some (xr, τ)) : FK [] σ τ := by
  unfold fX11_isAhead at h
  refine F_if h (fun h => ?_) (fun h => ?_)
  · skip
    cases h
    exact F_refl
  · skip
    refine F_if h (fun h => ?_) (fun h => ?_)
    · skip
      cases h
      exact F_refl
    · skip
      cases h
      exact F_refl
set_option maxRecDepth 100000 in
set_option maxHeartbeats 4000000 in
theorem frX11_look (o : Nat) (ho : KD o = 11) (σ : Mm) {τ : Mm} (h : fX11_look o σ = some τ) : FK [4, 10] σ τ := by
  unfold fX11_look at h
  obtain ⟨σ1, hc2, h⟩ := cV_t h
  refine F_call (frX4_copyFrom (tg o 15) (tg (tg o 9) 1) (tk11_15 ho) (tk7_1 (tk11_9 ho)) σ hc2) (by decide) ?_
  refine F_rrf h (fun q3 hq3 h => ?_)
  obtain ⟨σ4, hc5, h⟩ := cV_t h
  refine F_call (frX10_use (tg o 14) q3 (tg o 15) (tk11_14 ho) hq3 (tk11_15 ho) σ1 hc5) (by decide) ?_
  cases h
  exact F_refl
set_option maxRecDepth 100000 in
set_option maxHeartbeats 4000000 in
theorem frX11_points (o : Nat) (a1 : Int32) (a2 : Int32) (ho : KD o = 11) (σ : Mm) {xr : Int32} {τ : Mm} (h : fX11_points o a1 a2 σ = some (xr, τ)) : FK [4, 10, 11] σ τ := by
  unfold fX11_points at h
  obtain ⟨x3, σ1, hc2, h⟩ := cI_t h
  refine F_call (frX11_isVane o a1 ho σ hc2) (by decide) ?_
  refine F_if h (fun h => ?_) (fun h => ?_)
  · skip
    obtain ⟨x6, σ4, hc5, h⟩ := cI_t h
    refine F_call (frX11_none o (1 : Int32) ho σ1 hc5) (by decide) ?_
    cases h
    exact F_refl
  · skip
    obtain ⟨x9, σ7, hc8, h⟩ := cI_t h
    refine F_call (frX11_isAhead o a2 ho σ1 hc8) (by decide) ?_
    refine F_ifn h (fun h => ?_) (fun h => ?_)
    · skip
      obtain ⟨σ10, hc11, h⟩ := cV_t h
      refine F_call (frX11_look o ho σ7 hc11) (by decide) ?_
      obtain ⟨x14, σ12, hc13, h⟩ := cI_t h
      refine F_call (frX10_goOn (tg o 14) a2 (tk11_14 ho) σ10 hc13) (by decide) ?_
      refine F_gar h (fun x15 h => ?_)
      obtain ⟨x18, σ16, hc17, h⟩ := cI_t h
      refine F_call (frX11_answer o x15 ho σ12 hc17) (by decide) ?_
      cases h
      exact F_refl
    · skip
      obtain ⟨x21, σ19, hc20, h⟩ := cI_t h
      refine F_call (frX11_none o (1 : Int32) ho σ7 hc20) (by decide) ?_
      cases h
      exact F_refl
set_option maxRecDepth 100000 in
set_option maxHeartbeats 4000000 in
theorem frX11_rights (o : Nat) (a1 : Int32) (ho : KD o = 11) (σ : Mm) {xr : Int32} {τ : Mm} (h : fX11_rights o a1 σ = some (xr, τ)) : FK [4, 10, 11] σ τ := by
  unfold fX11_rights at h
  obtain ⟨x3, σ1, hc2, h⟩ := cI_t h
  refine F_call (frX11_isAhead o a1 ho σ hc2) (by decide) ?_
  refine F_ifn h (fun h => ?_) (fun h => ?_)
  · skip
    obtain ⟨σ4, hc5, h⟩ := cV_t h
    refine F_call (frX11_look o ho σ1 hc5) (by decide) ?_
    obtain ⟨x8, σ6, hc7, h⟩ := cI_t h
    refine F_call (frX10_goOn (tg o 14) a1 (tk11_14 ho) σ4 hc7) (by decide) ?_
    obtain ⟨x11, σ9, hc10, h⟩ := cI_t h
    refine F_call (frX10_rightSet (tg o 14) (tk11_14 ho) σ6 hc10) (by decide) ?_
    obtain ⟨x14, σ12, hc13, h⟩ := cI_t h
    refine F_call (frX11_answer o x11 ho σ9 hc13) (by decide) ?_
    cases h
    exact F_refl
  · skip
    obtain ⟨x17, σ15, hc16, h⟩ := cI_t h
    refine F_call (frX11_none o (1 : Int32) ho σ1 hc16) (by decide) ?_
    cases h
    exact F_refl
set_option maxRecDepth 100000 in
set_option maxHeartbeats 4000000 in
theorem frX11_quartersToCalm (o : Nat) (ho : KD o = 11) (σ : Mm) {xr : Int32} {τ : Mm} (h : fX11_quartersToCalm o σ = some (xr, τ)) : FK [4, 10] σ τ := by
  unfold fX11_quartersToCalm at h
  obtain ⟨σ1, hc2, h⟩ := cV_t h
  refine F_call (frX11_look o ho σ hc2) (by decide) ?_
  obtain ⟨x5, σ3, hc4, h⟩ := cI_t h
  refine F_call (frX10_goOn (tg o 14) (400 : Int32) (tk11_14 ho) σ1 hc4) (by decide) ?_
  refine F_ifn h (fun h => ?_) (fun h => ?_)
  · skip
    cases h
    exact F_refl
  · skip
    cases h
    exact F_refl
set_option maxRecDepth 100000 in
set_option maxHeartbeats 4000000 in
theorem frX11_again (o : Nat) (a1 : Int32) (ho : KD o = 11) (σ : Mm) {xr : Int32} {τ : Mm} (h : fX11_again o a1 σ = some (xr, τ)) : FK [4, 10, 11] σ τ := by
  unfold fX11_again at h
  refine F_if h (fun h => ?_) (fun h => ?_)
  · skip
    obtain ⟨x3, σ1, hc2, h⟩ := cI_t h
    refine F_call (frX11_none o (1 : Int32) ho σ hc2) (by decide) ?_
    cases h
    exact F_refl
  · skip
    refine F_if h (fun h => ?_) (fun h => ?_)
    · skip
      obtain ⟨x6, σ4, hc5, h⟩ := cI_t h
      refine F_call (frX11_quartersToCalm o ho σ hc5) (by decide) ?_
      refine F_ifn h (fun h => ?_) (fun h => ?_)
      · skip
        refine F_ifn h (fun h => ?_) (fun h => ?_)
        · skip
          obtain ⟨x9, σ7, hc8, h⟩ := cI_t h
          refine F_call (frX11_answer o (1 : Int32) ho σ4 hc8) (by decide) ?_
          cases h
          exact F_refl
        · skip
          obtain ⟨x12, σ10, hc11, h⟩ := cI_t h
          refine F_call (frX11_answer o x6 ho σ4 hc11) (by decide) ?_
          cases h
          exact F_refl
      · skip
        obtain ⟨x15, σ13, hc14, h⟩ := cI_t h
        refine F_call (frX11_none o (6 : Int32) ho σ4 hc14) (by decide) ?_
        cases h
        exact F_refl
    · skip
      obtain ⟨x18, σ16, hc17, h⟩ := cI_t h
      refine F_call (frX11_none o (1 : Int32) ho σ hc17) (by decide) ?_
      cases h
      exact F_refl
set_option maxRecDepth 100000 in
set_option maxHeartbeats 4000000 in
theorem frX11_isSpan (o : Nat) (a1 : Int32) (ho : KD o = 11) (σ : Mm) {xr : Int32} {τ : Mm} (h : fX11_isSpan o a1 σ = some (xr, τ)) : FK [] σ τ := by
  unfold fX11_isSpan at h
  refine F_if h (fun h => ?_) (fun h => ?_)
  · skip
    cases h
    exact F_refl
  · skip
    refine F_if h (fun h => ?_) (fun h => ?_)
    · skip
      cases h
      exact F_refl
    · skip
      cases h
      exact F_refl
set_option maxRecDepth 100000 in
set_option maxHeartbeats 4000000 in
theorem frX11_strikes (o : Nat) (a1 : Int32) (a2 : Int32) (ho : KD o = 11) (σ : Mm) {xr : Int32} {τ : Mm} (h : fX11_strikes o a1 a2 σ = some (xr, τ)) : FK [4, 10, 11] σ τ := by
  unfold fX11_strikes at h
  obtain ⟨x3, σ1, hc2, h⟩ := cI_t h
  refine F_call (frX11_isVane o a1 ho σ hc2) (by decide) ?_
  refine F_if h (fun h => ?_) (fun h => ?_)
  · skip
    obtain ⟨x6, σ4, hc5, h⟩ := cI_t h
    refine F_call (frX11_none o (1 : Int32) ho σ1 hc5) (by decide) ?_
    cases h
    exact F_refl
  · skip
    obtain ⟨x9, σ7, hc8, h⟩ := cI_t h
    refine F_call (frX11_isSpan o a2 ho σ1 hc8) (by decide) ?_
    refine F_ifn h (fun h => ?_) (fun h => ?_)
    · skip
      obtain ⟨σ10, hc11, h⟩ := cV_t h
      refine F_call (frX11_look o ho σ7 hc11) (by decide) ?_
      obtain ⟨x14, σ12, hc13, h⟩ := cI_t h
      refine F_call (frX10_goOn (tg o 14) a2 (tk11_14 ho) σ10 hc13) (by decide) ?_
      refine F_gar h (fun x15 h => ?_)
      refine F_gar h (fun x16 h => ?_)
      obtain ⟨x19, σ17, hc18, h⟩ := cI_t h
      refine F_call (frX11_answer o (x15 - x16) ho σ12 hc18) (by decide) ?_
      cases h
      exact F_refl
    · skip
      obtain ⟨x22, σ20, hc21, h⟩ := cI_t h
      refine F_call (frX11_none o (1 : Int32) ho σ7 hc21) (by decide) ?_
      cases h
      exact F_refl
set_option maxRecDepth 100000 in
set_option maxHeartbeats 4000000 in
theorem frX11_bell (o : Nat) (a1 : Int32) (a2 : Int32) (ho : KD o = 11) (σ : Mm) {xr : Int32} {τ : Mm} (h : fX11_bell o a1 a2 σ = some (xr, τ)) : FK [4, 10, 11] σ τ := by
  unfold fX11_bell at h
  refine F_if h (fun h => ?_) (fun h => ?_)
  · skip
    obtain ⟨x3, σ1, hc2, h⟩ := cI_t h
    refine F_call (frX11_none o (1 : Int32) ho σ hc2) (by decide) ?_
    cases h
    exact F_refl
  · skip
    obtain ⟨x6, σ4, hc5, h⟩ := cI_t h
    refine F_call (frX11_isSpan o a2 ho σ hc5) (by decide) ?_
    refine F_ifn h (fun h => ?_) (fun h => ?_)
    · skip
      obtain ⟨σ7, hc8, h⟩ := cV_t h
      refine F_call (frX11_look o ho σ4 hc8) (by decide) ?_
      obtain ⟨σ9, hc10, h⟩ := cV_t h
      refine F_call (frX10_listenFor (tg o 14) a1 (tk11_14 ho) σ7 hc10) (by decide) ?_
      obtain ⟨x13, σ11, hc12, h⟩ := cI_t h
      refine F_call (frX10_goOn (tg o 14) a2 (tk11_14 ho) σ9 hc12) (by decide) ?_
      refine F_rsc h (fun x14 h => ?_)
      refine F_ifn h (fun h => ?_) (fun h => ?_)
      · skip
        refine F_rsc h (fun x15 h => ?_)
        obtain ⟨x18, σ16, hc17, h⟩ := cI_t h
        refine F_call (frX11_answer o x15 ho σ11 hc17) (by decide) ?_
        cases h
        exact F_refl
      · skip
        obtain ⟨x21, σ19, hc20, h⟩ := cI_t h
        refine F_call (frX11_none o (6 : Int32) ho σ11 hc20) (by decide) ?_
        cases h
        exact F_refl
    · skip
      obtain ⟨x24, σ22, hc23, h⟩ := cI_t h
      refine F_call (frX11_none o (1 : Int32) ho σ4 hc23) (by decide) ?_
      cases h
      exact F_refl
set_option maxRecDepth 100000 in
set_option maxHeartbeats 4000000 in
theorem frX11_wrong (o : Nat) (a1 : Int32) (a2 : Int32) (ho : KD o = 11) (σ : Mm) {xr : Int32} {τ : Mm} (h : fX11_wrong o a1 a2 σ = some (xr, τ)) : FK [4, 10, 11] σ τ := by
  unfold fX11_wrong at h
  obtain ⟨x3, σ1, hc2, h⟩ := cI_t h
  refine F_call (frX11_isVane o a1 ho σ hc2) (by decide) ?_
  refine F_if h (fun h => ?_) (fun h => ?_)
  · skip
    obtain ⟨x6, σ4, hc5, h⟩ := cI_t h
    refine F_call (frX11_none o (1 : Int32) ho σ1 hc5) (by decide) ?_
    cases h
    exact F_refl
  · skip
    obtain ⟨x9, σ7, hc8, h⟩ := cI_t h
    refine F_call (frX11_isSpan o a2 ho σ1 hc8) (by decide) ?_
    refine F_ifn h (fun h => ?_) (fun h => ?_)
    · skip
      obtain ⟨σ10, hc11, h⟩ := cV_t h
      refine F_call (frX11_look o ho σ7 hc11) (by decide) ?_
      obtain ⟨x14, σ12, hc13, h⟩ := cI_t h
      refine F_call (frX10_wrongQuarters (tg o 14) ((1 : Int32) <<< (a1 &&& 31)) a2 (tk11_14 ho) σ10 hc13) (by decide) ?_
      obtain ⟨x17, σ15, hc16, h⟩ := cI_t h
      refine F_call (frX11_answer o x14 ho σ12 hc16) (by decide) ?_
      cases h
      exact F_refl
    · skip
      obtain ⟨x20, σ18, hc19, h⟩ := cI_t h
      refine F_call (frX11_none o (1 : Int32) ho σ7 hc19) (by decide) ?_
      cases h
      exact F_refl
set_option maxRecDepth 100000 in
set_option maxHeartbeats 4000000 in
theorem frX11_allVanes (o : Nat) (ho : KD o = 11) (σ : Mm) {xr : Int32} {τ : Mm} (h : fX11_allVanes o σ = some (xr, τ)) : FK [] σ τ := by
  unfold fX11_allVanes at h
  refine F_rrf h (fun q1 hq1 h => ?_)
  refine F_rsc h (fun x2 h => ?_)
  cases h
  exact F_refl
