def fX12_heaviest_23 (o : Nat) (k10 : Int32 → Int32 → Int32 → Mm → Option (Int32 × Mm)) : Nat → Int32 → Int32 → Int32 → Int32 → Mm → Option (Int32 × Mm)
  | 0, _, _, _, _, _ => none
  | n + 1, v1, v2, v3, v4, σ => if (2 : Int32) ≤ v4 then (k10 v1 v2 (v3 + (1 : Int32)) σ) else (c_I (fX12_dragsBy o v3 v4 σ) (fun x9 σ7 => if x9 = 0 then ((fX12_heaviest_23 o k10 n) v1 v2 v3 (v4 + (2 : Int32)) σ7) else (c_I (fX12_turnedSet o σ7) (fun x12 σ10 => c_I (fX12_bits x12 σ10) (fun x15 σ13 => if v2 < x15 then (c_I (fX12_turnedSet o σ13) (fun x18 σ16 => c_I (fX12_bits x18 σ16) (fun x21 σ19 => (fX12_heaviest_23 o k10 n) v3 x21 v3 (v4 + (2 : Int32)) σ19))) else ((fX12_heaviest_23 o k10 n) v1 v2 v3 (v4 + (2 : Int32)) σ13))))))
set_option maxRecDepth 100000 in
set_option maxHeartbeats 4000000 in
theorem tX12_heaviest_23 (l : Launch) (E : EV) {xr : Int32} {τ : Mm} (o : Nat) (ho : KD o = 12) (k10 : Int32 → Int32 → Int32 → Mm → Option (Int32 × Mm)) (hk10 : ∀ (v1 : Int32) (v2 : Int32) (v3 : Int32) (σ : Mm), k10 v1 v2 v3 σ = some (xr, τ) → Jd l E mX12_heaviest 4 (some (.int xr), τ) σ 10 [(0, .ref (e_a E o 0)), (1, .int v1), (2, .int v2), (3, .int v3)] []) : ∀ (n : Nat) (v1 : Int32) (v2 : Int32) (v3 : Int32) (v4 : Int32) (σ : Mm), fX12_heaviest_23 o k10 n v1 v2 v3 v4 σ = some (xr, τ) → Jd l E mX12_heaviest 4 (some (.int xr), τ) σ 23 [(0, .ref (e_a E o 0)), (1, .int v1), (2, .int v2), (3, .int v3), (4, .int v4)] [] := by
  intro n
  induction n with
  | zero => intro v1 v2 v3 v4 σ h; rw [fX12_heaviest_23] at h; cases h
  | succ n ih =>
    intro v1 v2 v3 v4 σ h
    rw [fX12_heaviest_23] at h
    refine J_iload (pc := 23) 4 dX12_heaviest_23 rfl ?_
    refine J_iconst (pc := 25) (2 : Int32) dX12_heaviest_25 (by decide) ?_
    refine J_icmp_ge (pc := 26) 69 dX12_heaviest_26 (by decide) h (fun h => ?_) (fun h => ?_)
    · refine J_iinc (pc := 69) (L' := [(3, .int (v3 + (1 : Int32))), (0, .ref (e_a E o 0)), (1, .int v1), (2, .int v2), (4, .int v4)]) 3 (v3 + (1 : Int32)) dX12_heaviest_69 rfl (by rfl) (by decide) rfl ?_
      refine J_goto (pc := 72) 10 dX12_heaviest_72 (by decide) ?_
      refine J_sub (L' := [(0, .ref (e_a E o 0)), (1, .int v1), (2, .int v2), (3, .int (v3 + (1 : Int32)))]) [1, 2, 3, 0] rfl ?_
      exact hk10 v1 v2 (v3 + (1 : Int32)) σ h
    · refine J_aload_n (pc := 29) 0 dX12_heaviest_29 rfl ?_
      refine J_iload_n (pc := 30) 3 dX12_heaviest_30 rfl ?_
      refine J_iload (pc := 31) 4 dX12_heaviest_31 rfl ?_
      obtain ⟨x9, σ7, hc8, h⟩ := cI_t h
      refine J_cVi (pc := 33) (ctX12_dragsBy l E o v3 v4 ho σ hc8) dX12_heaviest_33 mlX12_297 mvX12_dragsBy ho rfl (by decide) rfl (Nat.le_of_ble_eq_true rfl) ?_
      refine J_if_eq (pc := 36) 63 dX12_heaviest_36 (by decide) h (fun h => ?_) (fun h => ?_)
      · refine J_iinc (pc := 63) (L' := [(4, .int (v4 + (2 : Int32))), (0, .ref (e_a E o 0)), (1, .int v1), (2, .int v2), (3, .int v3)]) 4 (v4 + (2 : Int32)) dX12_heaviest_63 rfl (by rfl) (by decide) rfl ?_
        refine J_goto (pc := 66) 23 dX12_heaviest_66 (by decide) ?_
        refine J_sub (L' := [(0, .ref (e_a E o 0)), (1, .int v1), (2, .int v2), (3, .int v3), (4, .int (v4 + (2 : Int32)))]) [1, 2, 3, 4, 0] rfl ?_
        exact ih v1 v2 v3 (v4 + (2 : Int32)) σ7 h
      · refine J_aload_n (pc := 39) 0 dX12_heaviest_39 rfl ?_
        obtain ⟨x12, σ10, hc11, h⟩ := cI_t h
        refine J_cVi (pc := 40) (ctX12_turnedSet l E o ho σ7 hc11) dX12_heaviest_40 mlX12_339 mvX12_turnedSet ho rfl (by decide) rfl (Nat.le_of_ble_eq_true rfl) ?_
        obtain ⟨x15, σ13, hc14, h⟩ := cI_t h
        refine J_cSi (pc := 43) (ctX12_bits l E x12 σ10 hc14) dX12_heaviest_43 mlX12_373 msX12_bits rfl (by decide) rfl (Nat.le_of_ble_eq_true rfl) ?_
        refine J_iload_n (pc := 46) 2 dX12_heaviest_46 rfl ?_
        refine J_icmp_gt (pc := 47) 53 dX12_heaviest_47 (by decide) h (fun h => ?_) (fun h => ?_)
        · refine J_aload_n (pc := 53) 0 dX12_heaviest_53 rfl ?_
          obtain ⟨x18, σ16, hc17, h⟩ := cI_t h
          refine J_cVi (pc := 54) (ctX12_turnedSet l E o ho σ13 hc17) dX12_heaviest_54 mlX12_339 mvX12_turnedSet ho rfl (by decide) rfl (Nat.le_of_ble_eq_true rfl) ?_
          obtain ⟨x21, σ19, hc20, h⟩ := cI_t h
          refine J_cSi (pc := 57) (ctX12_bits l E x18 σ16 hc20) dX12_heaviest_57 mlX12_373 msX12_bits rfl (by decide) rfl (Nat.le_of_ble_eq_true rfl) ?_
          refine J_istore_n (pc := 60) (L' := [(2, .int x21), (0, .ref (e_a E o 0)), (1, .int v1), (3, .int v3), (4, .int v4)]) dX12_heaviest_60 (by decide) rfl ?_
          refine J_iload_n (pc := 61) 3 dX12_heaviest_61 rfl ?_
          refine J_istore_n (pc := 62) (L' := [(1, .int v3), (2, .int x21), (0, .ref (e_a E o 0)), (3, .int v3), (4, .int v4)]) dX12_heaviest_62 (by decide) rfl ?_
          refine J_iinc (pc := 63) (L' := [(4, .int (v4 + (2 : Int32))), (1, .int v3), (2, .int x21), (0, .ref (e_a E o 0)), (3, .int v3)]) 4 (v4 + (2 : Int32)) dX12_heaviest_63 rfl (by rfl) (by decide) rfl ?_
          refine J_goto (pc := 66) 23 dX12_heaviest_66 (by decide) ?_
          refine J_sub (L' := [(0, .ref (e_a E o 0)), (1, .int v3), (2, .int x21), (3, .int v3), (4, .int (v4 + (2 : Int32)))]) [3, 1, 2, 4, 0] rfl ?_
          exact ih v3 x21 v3 (v4 + (2 : Int32)) σ19 h
        · refine J_goto (pc := 50) 63 dX12_heaviest_50 (by decide) ?_
          refine J_iinc (pc := 63) (L' := [(4, .int (v4 + (2 : Int32))), (0, .ref (e_a E o 0)), (1, .int v1), (2, .int v2), (3, .int v3)]) 4 (v4 + (2 : Int32)) dX12_heaviest_63 rfl (by rfl) (by decide) rfl ?_
          refine J_goto (pc := 66) 23 dX12_heaviest_66 (by decide) ?_
          refine J_sub (L' := [(0, .ref (e_a E o 0)), (1, .int v1), (2, .int v2), (3, .int v3), (4, .int (v4 + (2 : Int32)))]) [1, 2, 3, 4, 0] rfl ?_
          exact ih v1 v2 v3 (v4 + (2 : Int32)) σ13 h
def fX12_heaviest_10 (o : Nat) : Nat → Int32 → Int32 → Int32 → Mm → Option (Int32 × Mm)
  | 0, _, _, _, _ => none
  | n + 1, v1, v2, v3, σ => g_ar σ o 0 2950 (1 : Int32) (fun x3 => if x3 ≤ v3 then (c_I (fX12_orNone o v1 σ) (fun x6 σ4 => some (x6, σ4))) else (fX12_heaviest_23 o (fX12_heaviest_10 o n) FU v1 v2 v3 (-1 : Int32) σ))
set_option maxRecDepth 100000 in
set_option maxHeartbeats 4000000 in
theorem tX12_heaviest_10 (l : Launch) (E : EV) {xr : Int32} {τ : Mm} (o : Nat) (ho : KD o = 12) : ∀ (n : Nat) (v1 : Int32) (v2 : Int32) (v3 : Int32) (σ : Mm), fX12_heaviest_10 o n v1 v2 v3 σ = some (xr, τ) → Jd l E mX12_heaviest 4 (some (.int xr), τ) σ 10 [(0, .ref (e_a E o 0)), (1, .int v1), (2, .int v2), (3, .int v3)] [] := by
  intro n
  induction n with
  | zero => intro v1 v2 v3 σ h; rw [fX12_heaviest_10] at h; cases h
  | succ n ih =>
    intro v1 v2 v3 σ h
    rw [fX12_heaviest_10] at h
    refine J_iload_n (pc := 10) 3 dX12_heaviest_10 rfl ?_
    refine J_aload_n (pc := 11) 0 dX12_heaviest_11 rfl ?_
    refine J_getA (pc := 12) dX12_heaviest_12 ho flX12_7 rfl ?_
    refine J_iconst (pc := 15) (1 : Int32) dX12_heaviest_15 (by decide) ?_
    refine J_iald (pc := 16) dX12_heaviest_16 ho ha12_0 h (fun x3 h => ?_)
    refine J_icmp_ge (pc := 17) 75 dX12_heaviest_17 (by decide) h (fun h => ?_) (fun h => ?_)
    · refine J_aload_n (pc := 75) 0 dX12_heaviest_75 rfl ?_
      refine J_iload_n (pc := 76) 1 dX12_heaviest_76 rfl ?_
      obtain ⟨x6, σ4, hc5, h⟩ := cI_t h
      refine J_cVi (pc := 77) (ctX12_orNone l E o v1 ho σ hc5) dX12_heaviest_77 mlX12_370 mvX12_orNone ho rfl (by decide) rfl (Nat.le_of_ble_eq_true rfl) ?_
      cases h
      exact J_iret (pc := 80) dX12_heaviest_80 rfl rfl
    · refine J_iconst (pc := 20) (-1 : Int32) dX12_heaviest_20 (by decide) ?_
      refine J_istore (pc := 21) (L' := [(4, .int (-1 : Int32)), (0, .ref (e_a E o 0)), (1, .int v1), (2, .int v2), (3, .int v3)]) dX12_heaviest_21 (by decide) rfl ?_
      refine J_sub (L' := [(0, .ref (e_a E o 0)), (1, .int v1), (2, .int v2), (3, .int v3), (4, .int (-1 : Int32))]) [1, 2, 3, 4, 0] rfl ?_
      exact tX12_heaviest_23 l E o ho (fX12_heaviest_10 o n) ih FU v1 v2 v3 (-1 : Int32) σ h
def fX12_heaviest (o : Nat) (σ : Mm) : Option (Int32 × Mm) := c_V (fX12_begins0 o σ) (fun σ1 => fX12_heaviest_10 o FU (-1 : Int32) (0 : Int32) (0 : Int32) σ1)
set_option maxRecDepth 100000 in
set_option maxHeartbeats 4000000 in
theorem ctX12_heaviest (l : Launch) (E : EV) (o : Nat) (ho : KD o = 12) (σ : Mm) {xr : Int32} {τ : Mm} (h : fX12_heaviest o σ = some (xr, τ)) : Ct l E mX12_heaviest 4 [.ref (e_a E o 0)] σ (some (.int xr), τ) := by
  refine Ct.of (by decide +kernel) (Nat.le_of_ble_eq_true rfl) ?_
  show Jd l E mX12_heaviest 4 (some (.int xr), τ) σ 0 [(0, .ref (e_a E o 0))] []
  unfold fX12_heaviest at h
  refine J_aload_n (pc := 0) 0 dX12_heaviest_0 rfl ?_
  obtain ⟨σ1, hc2, h⟩ := cV_t h
  refine J_cVv (pc := 1) (ctX12_begins0 l E o ho σ hc2) dX12_heaviest_1 mlX12_261 mvX12_begins0 ho rfl (by decide) rfl (Nat.le_of_ble_eq_true rfl) ?_
  refine J_iconst (pc := 4) (-1 : Int32) dX12_heaviest_4 (by decide) ?_
  refine J_istore_n (pc := 5) (L' := [(1, .int (-1 : Int32)), (0, .ref (e_a E o 0))]) dX12_heaviest_5 (by decide) rfl ?_
  refine J_iconst (pc := 6) (0 : Int32) dX12_heaviest_6 (by decide) ?_
  refine J_istore_n (pc := 7) (L' := [(2, .int (0 : Int32)), (1, .int (-1 : Int32)), (0, .ref (e_a E o 0))]) dX12_heaviest_7 (by decide) rfl ?_
  refine J_iconst (pc := 8) (0 : Int32) dX12_heaviest_8 (by decide) ?_
  refine J_istore_n (pc := 9) (L' := [(3, .int (0 : Int32)), (2, .int (0 : Int32)), (1, .int (-1 : Int32)), (0, .ref (e_a E o 0))]) dX12_heaviest_9 (by decide) rfl ?_
  refine J_sub (L' := [(0, .ref (e_a E o 0)), (1, .int (-1 : Int32)), (2, .int (0 : Int32)), (3, .int (0 : Int32))]) [3, 2, 1, 0] rfl ?_
  exact tX12_heaviest_10 l E o ho FU (-1 : Int32) (0 : Int32) (0 : Int32) σ1 h
def fX12_farthest_10 (o : Nat) : Nat → Int32 → Int32 → Int32 → Mm → Option (Int32 × Mm)
  | 0, _, _, _, _ => none
  | n + 1, v1, v2, v3, σ => g_ar σ o 0 2950 (1 : Int32) (fun x3 => if x3 ≤ v3 then (c_I (fX12_orNone o v1 σ) (fun x6 σ4 => some (x6, σ4))) else (c_I (fX12_isRight o v3 σ) (fun x9 σ7 => if x9 = 0 then (c_I (fX12_vaneAt o v3 (3 : Int32) σ7) (fun x12 σ10 => c_I (fX12_farFrom o v3 x12 σ10) (fun x15 σ13 => if v2 < x15 then ((fX12_farthest_10 o n) v3 x15 (v3 + (1 : Int32)) σ13) else ((fX12_farthest_10 o n) v1 v2 (v3 + (1 : Int32)) σ13)))) else (if v2 < (0 : Int32) then ((fX12_farthest_10 o n) v3 (0 : Int32) (v3 + (1 : Int32)) σ7) else ((fX12_farthest_10 o n) v1 v2 (v3 + (1 : Int32)) σ7)))))
set_option maxRecDepth 100000 in
set_option maxHeartbeats 4000000 in
theorem tX12_farthest_10 (l : Launch) (E : EV) {xr : Int32} {τ : Mm} (o : Nat) (ho : KD o = 12) : ∀ (n : Nat) (v1 : Int32) (v2 : Int32) (v3 : Int32) (σ : Mm), fX12_farthest_10 o n v1 v2 v3 σ = some (xr, τ) → Jd l E mX12_farthest 4 (some (.int xr), τ) σ 10 [(0, .ref (e_a E o 0)), (1, .int v1), (2, .int v2), (3, .int v3)] [] := by
  intro n
  induction n with
  | zero => intro v1 v2 v3 σ h; rw [fX12_farthest_10] at h; cases h
  | succ n ih =>
    intro v1 v2 v3 σ h
    rw [fX12_farthest_10] at h
    refine J_iload_n (pc := 10) 3 dX12_farthest_10 rfl ?_
    refine J_aload_n (pc := 11) 0 dX12_farthest_11 rfl ?_
    refine J_getA (pc := 12) dX12_farthest_12 ho flX12_7 rfl ?_
    refine J_iconst (pc := 15) (1 : Int32) dX12_farthest_15 (by decide) ?_
    refine J_iald (pc := 16) dX12_farthest_16 ho ha12_0 h (fun x3 h => ?_)
    refine J_icmp_ge (pc := 17) 65 dX12_farthest_17 (by decide) h (fun h => ?_) (fun h => ?_)
    · refine J_aload_n (pc := 65) 0 dX12_farthest_65 rfl ?_
      refine J_iload_n (pc := 66) 1 dX12_farthest_66 rfl ?_
      obtain ⟨x6, σ4, hc5, h⟩ := cI_t h
      refine J_cVi (pc := 67) (ctX12_orNone l E o v1 ho σ hc5) dX12_farthest_67 mlX12_370 mvX12_orNone ho rfl (by decide) rfl (Nat.le_of_ble_eq_true rfl) ?_
      cases h
      exact J_iret (pc := 70) dX12_farthest_70 rfl rfl
    · refine J_aload_n (pc := 20) 0 dX12_farthest_20 rfl ?_
      refine J_iload_n (pc := 21) 3 dX12_farthest_21 rfl ?_
      obtain ⟨x9, σ7, hc8, h⟩ := cI_t h
      refine J_cVi (pc := 22) (ctX12_isRight l E o v3 ho σ hc8) dX12_farthest_22 mlX12_258 mvX12_isRight ho rfl (by decide) rfl (Nat.le_of_ble_eq_true rfl) ?_
      refine J_if_eq (pc := 25) 32 dX12_farthest_25 (by decide) h (fun h => ?_) (fun h => ?_)
      · refine J_aload_n (pc := 32) 0 dX12_farthest_32 rfl ?_
        refine J_iload_n (pc := 33) 3 dX12_farthest_33 rfl ?_
        refine J_aload_n (pc := 34) 0 dX12_farthest_34 rfl ?_
        refine J_iload_n (pc := 35) 3 dX12_farthest_35 rfl ?_
        refine J_iconst (pc := 36) (3 : Int32) dX12_farthest_36 (by decide) ?_
        obtain ⟨x12, σ10, hc11, h⟩ := cI_t h
        refine J_cVi (pc := 37) (ctX12_vaneAt l E o v3 (3 : Int32) ho σ7 hc11) dX12_farthest_37 mlX12_249 mvX12_vaneAt ho rfl (by decide) rfl (Nat.le_of_ble_eq_true rfl) ?_
        obtain ⟨x15, σ13, hc14, h⟩ := cI_t h
        refine J_cVi (pc := 40) (ctX12_farFrom l E o v3 x12 ho σ10 hc14) dX12_farthest_40 mlX12_288 mvX12_farFrom ho rfl (by decide) rfl (Nat.le_of_ble_eq_true rfl) ?_
        refine J_istore (pc := 43) (L' := [(4, .int x15), (0, .ref (e_a E o 0)), (1, .int v1), (2, .int v2), (3, .int v3)]) dX12_farthest_43 (by decide) rfl ?_
        refine J_iload (pc := 45) 0 dX12_farthest_45 rfl ?_
        refine J_iload_n (pc := 47) 3 dX12_farthest_47 rfl ?_
        refine J_icmp_gt (pc := 48) 54 dX12_farthest_48 (by decide) h (fun h => ?_) (fun h => ?_)
        · refine J_iload (pc := 54) 0 dX12_farthest_54 rfl ?_
          refine J_istore_n (pc := 56) (L' := [(2, .int x15), (4, .int x15), (0, .ref (e_a E o 0)), (1, .int v1), (3, .int v3)]) dX12_farthest_56 (by decide) rfl ?_
          refine J_iload_n (pc := 57) 4 dX12_farthest_57 rfl ?_
          refine J_istore_n (pc := 58) (L' := [(1, .int v3), (2, .int x15), (4, .int x15), (0, .ref (e_a E o 0)), (3, .int v3)]) dX12_farthest_58 (by decide) rfl ?_
          refine J_iinc (pc := 59) (L' := [(3, .int (v3 + (1 : Int32))), (1, .int v3), (2, .int x15), (4, .int x15), (0, .ref (e_a E o 0))]) 4 (v3 + (1 : Int32)) dX12_farthest_59 rfl (by rfl) (by decide) rfl ?_
          refine J_goto (pc := 62) 10 dX12_farthest_62 (by decide) ?_
          refine J_sub (L' := [(0, .ref (e_a E o 0)), (1, .int v3), (2, .int x15), (3, .int (v3 + (1 : Int32)))]) [4, 1, 2, 0] rfl ?_
          exact ih v3 x15 (v3 + (1 : Int32)) σ13 h
        · refine J_goto (pc := 51) 59 dX12_farthest_51 (by decide) ?_
          refine J_iinc (pc := 59) (L' := [(3, .int (v3 + (1 : Int32))), (4, .int x15), (0, .ref (e_a E o 0)), (1, .int v1), (2, .int v2)]) 4 (v3 + (1 : Int32)) dX12_farthest_59 rfl (by rfl) (by decide) rfl ?_
          refine J_goto (pc := 62) 10 dX12_farthest_62 (by decide) ?_
          refine J_sub (L' := [(0, .ref (e_a E o 0)), (1, .int v1), (2, .int v2), (3, .int (v3 + (1 : Int32)))]) [2, 3, 4, 0] rfl ?_
          exact ih v1 v2 (v3 + (1 : Int32)) σ13 h
      · refine J_iconst (pc := 28) (0 : Int32) dX12_farthest_28 (by decide) ?_
        refine J_goto (pc := 29) 43 dX12_farthest_29 (by decide) ?_
        refine J_istore (pc := 43) (L' := [(4, .int (0 : Int32)), (0, .ref (e_a E o 0)), (1, .int v1), (2, .int v2), (3, .int v3)]) dX12_farthest_43 (by decide) rfl ?_
        refine J_iload (pc := 45) 0 dX12_farthest_45 rfl ?_
        refine J_iload_n (pc := 47) 3 dX12_farthest_47 rfl ?_
        refine J_icmp_gt (pc := 48) 54 dX12_farthest_48 (by decide) h (fun h => ?_) (fun h => ?_)
        · refine J_iload (pc := 54) 0 dX12_farthest_54 rfl ?_
          refine J_istore_n (pc := 56) (L' := [(2, .int (0 : Int32)), (4, .int (0 : Int32)), (0, .ref (e_a E o 0)), (1, .int v1), (3, .int v3)]) dX12_farthest_56 (by decide) rfl ?_
          refine J_iload_n (pc := 57) 4 dX12_farthest_57 rfl ?_
          refine J_istore_n (pc := 58) (L' := [(1, .int v3), (2, .int (0 : Int32)), (4, .int (0 : Int32)), (0, .ref (e_a E o 0)), (3, .int v3)]) dX12_farthest_58 (by decide) rfl ?_
          refine J_iinc (pc := 59) (L' := [(3, .int (v3 + (1 : Int32))), (1, .int v3), (2, .int (0 : Int32)), (4, .int (0 : Int32)), (0, .ref (e_a E o 0))]) 4 (v3 + (1 : Int32)) dX12_farthest_59 rfl (by rfl) (by decide) rfl ?_
          refine J_goto (pc := 62) 10 dX12_farthest_62 (by decide) ?_
          refine J_sub (L' := [(0, .ref (e_a E o 0)), (1, .int v3), (2, .int (0 : Int32)), (3, .int (v3 + (1 : Int32)))]) [4, 1, 2, 0] rfl ?_
          exact ih v3 (0 : Int32) (v3 + (1 : Int32)) σ7 h
        · refine J_goto (pc := 51) 59 dX12_farthest_51 (by decide) ?_
          refine J_iinc (pc := 59) (L' := [(3, .int (v3 + (1 : Int32))), (4, .int (0 : Int32)), (0, .ref (e_a E o 0)), (1, .int v1), (2, .int v2)]) 4 (v3 + (1 : Int32)) dX12_farthest_59 rfl (by rfl) (by decide) rfl ?_
          refine J_goto (pc := 62) 10 dX12_farthest_62 (by decide) ?_
          refine J_sub (L' := [(0, .ref (e_a E o 0)), (1, .int v1), (2, .int v2), (3, .int (v3 + (1 : Int32)))]) [2, 3, 4, 0] rfl ?_
          exact ih v1 v2 (v3 + (1 : Int32)) σ7 h
def fX12_farthest (o : Nat) (σ : Mm) : Option (Int32 × Mm) := c_V (fX12_begins0 o σ) (fun σ1 => fX12_farthest_10 o FU (-1 : Int32) (0 : Int32) (0 : Int32) σ1)
set_option maxRecDepth 100000 in
set_option maxHeartbeats 4000000 in
theorem ctX12_farthest (l : Launch) (E : EV) (o : Nat) (ho : KD o = 12) (σ : Mm) {xr : Int32} {τ : Mm} (h : fX12_farthest o σ = some (xr, τ)) : Ct l E mX12_farthest 4 [.ref (e_a E o 0)] σ (some (.int xr), τ) := by
  refine Ct.of (by decide +kernel) (Nat.le_of_ble_eq_true rfl) ?_
  show Jd l E mX12_farthest 4 (some (.int xr), τ) σ 0 [(0, .ref (e_a E o 0))] []
  unfold fX12_farthest at h
  refine J_aload_n (pc := 0) 0 dX12_farthest_0 rfl ?_
  obtain ⟨σ1, hc2, h⟩ := cV_t h
  refine J_cVv (pc := 1) (ctX12_begins0 l E o ho σ hc2) dX12_farthest_1 mlX12_261 mvX12_begins0 ho rfl (by decide) rfl (Nat.le_of_ble_eq_true rfl) ?_
  refine J_iconst (pc := 4) (-1 : Int32) dX12_farthest_4 (by decide) ?_
  refine J_istore_n (pc := 5) (L' := [(1, .int (-1 : Int32)), (0, .ref (e_a E o 0))]) dX12_farthest_5 (by decide) rfl ?_
  refine J_iconst (pc := 6) (0 : Int32) dX12_farthest_6 (by decide) ?_
  refine J_istore_n (pc := 7) (L' := [(2, .int (0 : Int32)), (1, .int (-1 : Int32)), (0, .ref (e_a E o 0))]) dX12_farthest_7 (by decide) rfl ?_
  refine J_iconst (pc := 8) (0 : Int32) dX12_farthest_8 (by decide) ?_
  refine J_istore_n (pc := 9) (L' := [(3, .int (0 : Int32)), (2, .int (0 : Int32)), (1, .int (-1 : Int32)), (0, .ref (e_a E o 0))]) dX12_farthest_9 (by decide) rfl ?_
  refine J_sub (L' := [(0, .ref (e_a E o 0)), (1, .int (-1 : Int32)), (2, .int (0 : Int32)), (3, .int (0 : Int32))]) [3, 2, 1, 0] rfl ?_
  exact tX12_farthest_10 l E o ho FU (-1 : Int32) (0 : Int32) (0 : Int32) σ1 h
def fX12_calmed_6 (o : Nat) : Nat → Int32 → Mm → Option (Int32 × Mm)
  | 0, _, _ => none
  | n + 1, v1, σ => if (400 : Int32) ≤ v1 then (c_I (fX12_refuse o (6 : Int32) σ) (fun x5 σ3 => some (x5, σ3))) else (c_I (fX12_quarterGoes o σ) (fun x8 σ6 => if x8 = 0 then (c_I (fX12_gives o v1 σ6) (fun x11 σ9 => some (x11, σ9))) else ((fX12_calmed_6 o n) (v1 + (1 : Int32)) σ6)))
set_option maxRecDepth 100000 in
set_option maxHeartbeats 4000000 in
theorem tX12_calmed_6 (l : Launch) (E : EV) {xr : Int32} {τ : Mm} (o : Nat) (ho : KD o = 12) : ∀ (n : Nat) (v1 : Int32) (σ : Mm), fX12_calmed_6 o n v1 σ = some (xr, τ) → Jd l E mX12_calmed 6 (some (.int xr), τ) σ 6 [(0, .ref (e_a E o 0)), (1, .int v1)] [] := by
  intro n
  induction n with
  | zero => intro v1 σ h; rw [fX12_calmed_6] at h; cases h
  | succ n ih =>
    intro v1 σ h
    rw [fX12_calmed_6] at h
    refine J_iload_n (pc := 6) 1 dX12_calmed_6 rfl ?_
    refine J_sipush (pc := 7) (400 : Int32) dX12_calmed_7 (by decide) ?_
    refine J_icmp_ge (pc := 10) 32 dX12_calmed_10 (by decide) h (fun h => ?_) (fun h => ?_)
    · refine J_aload_n (pc := 32) 0 dX12_calmed_32 rfl ?_
      refine J_bipush (pc := 33) (6 : Int32) dX12_calmed_33 (by decide) ?_
      obtain ⟨x5, σ3, hc4, h⟩ := cI_t h
      refine J_cVi (pc := 35) (ctX12_refuse l E o (6 : Int32) ho σ hc4) dX12_calmed_35 mlX12_83 mvX12_refuse ho rfl (by decide) rfl (Nat.le_of_ble_eq_true rfl) ?_
      cases h
      exact J_iret (pc := 38) dX12_calmed_38 rfl rfl
    · refine J_aload_n (pc := 13) 0 dX12_calmed_13 rfl ?_
      obtain ⟨x8, σ6, hc7, h⟩ := cI_t h
      refine J_cVi (pc := 14) (ctX12_quarterGoes l E o ho σ hc7) dX12_calmed_14 mlX12_306 mvX12_quarterGoes ho rfl (by decide) rfl (Nat.le_of_ble_eq_true rfl) ?_
      refine J_if_ne (pc := 17) 26 dX12_calmed_17 (by decide) h (fun h => ?_) (fun h => ?_)
      · refine J_iinc (pc := 26) (L' := [(1, .int (v1 + (1 : Int32))), (0, .ref (e_a E o 0))]) 1 (v1 + (1 : Int32)) dX12_calmed_26 rfl (by rfl) (by decide) rfl ?_
        refine J_goto (pc := 29) 6 dX12_calmed_29 (by decide) ?_
        refine J_sub (L' := [(0, .ref (e_a E o 0)), (1, .int (v1 + (1 : Int32)))]) [1, 0] rfl ?_
        exact ih (v1 + (1 : Int32)) σ6 h
      · refine J_aload_n (pc := 20) 0 dX12_calmed_20 rfl ?_
        refine J_iload_n (pc := 21) 1 dX12_calmed_21 rfl ?_
        obtain ⟨x11, σ9, hc10, h⟩ := cI_t h
        refine J_cVi (pc := 22) (ctX12_gives l E o v1 ho σ6 hc10) dX12_calmed_22 mlX12_87 mvX12_gives ho rfl (by decide) rfl (Nat.le_of_ble_eq_true rfl) ?_
        cases h
        exact J_iret (pc := 25) dX12_calmed_25 rfl rfl
def fX12_calmed (o : Nat) (σ : Mm) : Option (Int32 × Mm) := c_V (fX12_begins1 o σ) (fun σ1 => fX12_calmed_6 o FU (0 : Int32) σ1)
set_option maxRecDepth 100000 in
set_option maxHeartbeats 4000000 in
theorem ctX12_calmed (l : Launch) (E : EV) (o : Nat) (ho : KD o = 12) (σ : Mm) {xr : Int32} {τ : Mm} (h : fX12_calmed o σ = some (xr, τ)) : Ct l E mX12_calmed 6 [.ref (e_a E o 0)] σ (some (.int xr), τ) := by
  refine Ct.of (by decide +kernel) (Nat.le_of_ble_eq_true rfl) ?_
  show Jd l E mX12_calmed 6 (some (.int xr), τ) σ 0 [(0, .ref (e_a E o 0))] []
  unfold fX12_calmed at h
  refine J_aload_n (pc := 0) 0 dX12_calmed_0 rfl ?_
  obtain ⟨σ1, hc2, h⟩ := cV_t h
  refine J_cVv (pc := 1) (ctX12_begins1 l E o ho σ hc2) dX12_calmed_1 mlX12_325 mvX12_begins1 ho rfl (by decide) rfl (Nat.le_of_ble_eq_true rfl) ?_
  refine J_iconst (pc := 4) (0 : Int32) dX12_calmed_4 (by decide) ?_
  refine J_istore_n (pc := 5) (L' := [(1, .int (0 : Int32)), (0, .ref (e_a E o 0))]) dX12_calmed_5 (by decide) rfl ?_
  refine J_sub (L' := [(0, .ref (e_a E o 0)), (1, .int (0 : Int32))]) [1, 0] rfl ?_
  exact tX12_calmed_6 l E o ho FU (0 : Int32) σ1 h
def fX12_teeth (o : Nat) (a1 : Int32) (σ : Mm) : Option (Int32 × Mm) := c_I (fX12_isSpan a1 σ) (fun x3 σ1 => if x3 = 0 then (c_I (fX12_refuse o (1 : Int32) σ1) (fun x14 σ12 => some (x14, σ12))) else (c_V (fX12_begins1 o σ1) (fun σ4 => c_V (fX12_goesBy o a1 σ4) (fun σ6 => r_sc σ6 o 27 (fun x8 => c_I (fX12_gives o x8 σ6) (fun x11 σ9 => some (x11, σ9)))))))
set_option maxRecDepth 100000 in
set_option maxHeartbeats 4000000 in
theorem ctX12_teeth (l : Launch) (E : EV) (o : Nat) (a1 : Int32) (ho : KD o = 12) (σ : Mm) {xr : Int32} {τ : Mm} (h : fX12_teeth o a1 σ = some (xr, τ)) : Ct l E mX12_teeth 7 [.ref (e_a E o 0), .int a1] σ (some (.int xr), τ) := by
  refine Ct.of (by decide +kernel) (Nat.le_of_ble_eq_true rfl) ?_
  show Jd l E mX12_teeth 7 (some (.int xr), τ) σ 0 [(0, .ref (e_a E o 0)), (1, .int a1)] []
  unfold fX12_teeth at h
  refine J_iload_n (pc := 0) 1 dX12_teeth_0 rfl ?_
  obtain ⟨x3, σ1, hc2, h⟩ := cI_t h
  refine J_cSi (pc := 1) (ctX12_isSpan l E a1 σ hc2) dX12_teeth_1 mlX12_364 msX12_isSpan rfl (by decide) rfl (Nat.le_of_ble_eq_true rfl) ?_
  refine J_if_ne (pc := 4) 13 dX12_teeth_4 (by decide) h (fun h => ?_) (fun h => ?_)
  · refine J_aload_n (pc := 13) 0 dX12_teeth_13 rfl ?_
    obtain ⟨σ4, hc5, h⟩ := cV_t h
    refine J_cVv (pc := 14) (ctX12_begins1 l E o ho σ1 hc5) dX12_teeth_14 mlX12_325 mvX12_begins1 ho rfl (by decide) rfl (Nat.le_of_ble_eq_true rfl) ?_
    refine J_aload_n (pc := 17) 0 dX12_teeth_17 rfl ?_
    refine J_iload_n (pc := 18) 1 dX12_teeth_18 rfl ?_
    obtain ⟨σ6, hc7, h⟩ := cV_t h
    refine J_cVv (pc := 19) (ctX12_goesBy l E o a1 ho σ4 hc7) dX12_teeth_19 mlX12_328 mvX12_goesBy ho rfl (by decide) rfl (Nat.le_of_ble_eq_true rfl) ?_
    refine J_aload_n (pc := 22) 0 dX12_teeth_22 rfl ?_
    refine J_aload_n (pc := 23) 0 dX12_teeth_23 rfl ?_
    refine J_getI (pc := 24) dX12_teeth_24 ho flX12_282 rfl h (fun x8 h => ?_)
    obtain ⟨x11, σ9, hc10, h⟩ := cI_t h
    refine J_cVi (pc := 27) (ctX12_gives l E o x8 ho σ6 hc10) dX12_teeth_27 mlX12_87 mvX12_gives ho rfl (by decide) rfl (Nat.le_of_ble_eq_true rfl) ?_
    cases h
    exact J_iret (pc := 30) dX12_teeth_30 rfl rfl
  · refine J_aload_n (pc := 7) 0 dX12_teeth_7 rfl ?_
    refine J_iconst (pc := 8) (1 : Int32) dX12_teeth_8 (by decide) ?_
    obtain ⟨x14, σ12, hc13, h⟩ := cI_t h
    refine J_cVi (pc := 9) (ctX12_refuse l E o (1 : Int32) ho σ1 hc13) dX12_teeth_9 mlX12_83 mvX12_refuse ho rfl (by decide) rfl (Nat.le_of_ble_eq_true rfl) ?_
    cases h
    exact J_iret (pc := 12) dX12_teeth_12 rfl rfl
def fX12_blows (o : Nat) (a1 : Int32) (a2 : Int32) (a3 : Int32) (σ : Mm) : Option (Mm) := s_ar σ o 0 2950 ((2460 : Int32) + ((2 : Int32) * a1)) a2 (fun σ1 => s_ar σ1 o 0 2950 (((2460 : Int32) + ((2 : Int32) * a1)) + (1 : Int32)) a3 (fun σ2 => some σ2))
set_option maxRecDepth 100000 in
set_option maxHeartbeats 4000000 in
theorem ctX12_blows (l : Launch) (E : EV) (o : Nat) (a1 : Int32) (a2 : Int32) (a3 : Int32) (ho : KD o = 12) (σ : Mm) {τ : Mm} (h : fX12_blows o a1 a2 a3 σ = some τ) : Ct l E mX12_blows 0 [.ref (e_a E o 0), .int a1, .int a2, .int a3] σ (none, τ) := by
  refine Ct.of (by decide +kernel) (Nat.le_of_ble_eq_true rfl) ?_
  show Jd l E mX12_blows 0 (none, τ) σ 0 [(0, .ref (e_a E o 0)), (1, .int a1), (2, .int a2), (3, .int a3)] []
  unfold fX12_blows at h
  refine J_aload_n (pc := 0) 0 dX12_blows_0 rfl ?_
  refine J_getA (pc := 1) dX12_blows_1 ho flX12_7 rfl ?_
  refine J_sipush (pc := 4) (2460 : Int32) dX12_blows_4 (by decide) ?_
  refine J_iconst (pc := 7) (2 : Int32) dX12_blows_7 (by decide) ?_
  refine J_iload_n (pc := 8) 1 dX12_blows_8 rfl ?_
  refine J_imul (pc := 9) dX12_blows_9 ?_
  refine J_iadd (pc := 10) dX12_blows_10 ?_
  refine J_iload_n (pc := 11) 2 dX12_blows_11 rfl ?_
  refine J_iast (pc := 12) dX12_blows_12 ho ha12_0 h (fun σ1 h => ?_)
  refine J_aload_n (pc := 13) 0 dX12_blows_13 rfl ?_
  refine J_getA (pc := 14) dX12_blows_14 ho flX12_7 rfl ?_
  refine J_sipush (pc := 17) (2460 : Int32) dX12_blows_17 (by decide) ?_
  refine J_iconst (pc := 20) (2 : Int32) dX12_blows_20 (by decide) ?_
  refine J_iload_n (pc := 21) 1 dX12_blows_21 rfl ?_
  refine J_imul (pc := 22) dX12_blows_22 ?_
  refine J_iadd (pc := 23) dX12_blows_23 ?_
  refine J_iconst (pc := 24) (1 : Int32) dX12_blows_24 (by decide) ?_
  refine J_iadd (pc := 25) dX12_blows_25 ?_
  refine J_iload_n (pc := 26) 3 dX12_blows_26 rfl ?_
  refine J_iast (pc := 27) dX12_blows_27 ho ha12_0 h (fun σ2 h => ?_)
  cases h
  exact J_vret (pc := 28) dX12_blows_28 rfl
def fX12_blowsAll_2 (o : Nat) (a1 : Int32) (a2 : Int32) : Nat → Int32 → Mm → Option (Mm)
  | 0, _, _ => none
  | n + 1, v3, σ => if (4 : Int32) ≤ v3 then (some σ) else (c_V (fX12_blows o v3 a1 a2 σ) (fun σ1 => (fX12_blowsAll_2 o a1 a2 n) (v3 + (1 : Int32)) σ1))
set_option maxRecDepth 100000 in
set_option maxHeartbeats 4000000 in
theorem tX12_blowsAll_2 (l : Launch) (E : EV) {τ : Mm} (o : Nat) (a1 : Int32) (a2 : Int32) (ho : KD o = 12) : ∀ (n : Nat) (v3 : Int32) (σ : Mm), fX12_blowsAll_2 o a1 a2 n v3 σ = some τ → Jd l E mX12_blowsAll 1 (none, τ) σ 2 [(0, .ref (e_a E o 0)), (1, .int a1), (2, .int a2), (3, .int v3)] [] := by
  intro n
  induction n with
  | zero => intro v3 σ h; rw [fX12_blowsAll_2] at h; cases h
  | succ n ih =>
    intro v3 σ h
    rw [fX12_blowsAll_2] at h
    refine J_iload_n (pc := 2) 3 dX12_blowsAll_2 rfl ?_
    refine J_iconst (pc := 3) (4 : Int32) dX12_blowsAll_3 (by decide) ?_
    refine J_icmp_ge (pc := 4) 20 dX12_blowsAll_4 (by decide) h (fun h => ?_) (fun h => ?_)
    · cases h
      exact J_vret (pc := 20) dX12_blowsAll_20 rfl
    · refine J_aload_n (pc := 7) 0 dX12_blowsAll_7 rfl ?_
      refine J_iload_n (pc := 8) 3 dX12_blowsAll_8 rfl ?_
      refine J_iload_n (pc := 9) 1 dX12_blowsAll_9 rfl ?_
      refine J_iload_n (pc := 10) 2 dX12_blowsAll_10 rfl ?_
      obtain ⟨σ1, hc2, h⟩ := cV_t h
      refine J_cVv (pc := 11) (ctX12_blows l E o v3 a1 a2 ho σ hc2) dX12_blowsAll_11 mlX12_376 mvX12_blows ho rfl (by decide) rfl (Nat.le_of_ble_eq_true rfl) ?_
      refine J_iinc (pc := 14) (L' := [(3, .int (v3 + (1 : Int32))), (0, .ref (e_a E o 0)), (1, .int a1), (2, .int a2)]) 3 (v3 + (1 : Int32)) dX12_blowsAll_14 rfl (by rfl) (by decide) rfl ?_
      refine J_goto (pc := 17) 2 dX12_blowsAll_17 (by decide) ?_
      refine J_sub (L' := [(0, .ref (e_a E o 0)), (1, .int a1), (2, .int a2), (3, .int (v3 + (1 : Int32)))]) [1, 2, 3, 0] rfl ?_
      exact ih (v3 + (1 : Int32)) σ1 h
def fX12_blowsAll (o : Nat) (a1 : Int32) (a2 : Int32) (σ : Mm) : Option (Mm) := fX12_blowsAll_2 o a1 a2 FU (0 : Int32) σ
set_option maxRecDepth 100000 in
set_option maxHeartbeats 4000000 in
theorem ctX12_blowsAll (l : Launch) (E : EV) (o : Nat) (a1 : Int32) (a2 : Int32) (ho : KD o = 12) (σ : Mm) {τ : Mm} (h : fX12_blowsAll o a1 a2 σ = some τ) : Ct l E mX12_blowsAll 1 [.ref (e_a E o 0), .int a1, .int a2] σ (none, τ) := by
  refine Ct.of (by decide +kernel) (Nat.le_of_ble_eq_true rfl) ?_
  show Jd l E mX12_blowsAll 1 (none, τ) σ 0 [(0, .ref (e_a E o 0)), (1, .int a1), (2, .int a2)] []
  unfold fX12_blowsAll at h
  refine J_iconst (pc := 0) (0 : Int32) dX12_blowsAll_0 (by decide) ?_
  refine J_istore_n (pc := 1) (L' := [(3, .int (0 : Int32)), (0, .ref (e_a E o 0)), (1, .int a1), (2, .int a2)]) dX12_blowsAll_1 (by decide) rfl ?_
  refine J_sub (L' := [(0, .ref (e_a E o 0)), (1, .int a1), (2, .int a2), (3, .int (0 : Int32))]) [1, 2, 3, 0] rfl ?_
  exact tX12_blowsAll_2 l E o a1 a2 ho FU (0 : Int32) σ h
def fX12_bestWind_33 (o : Nat) (a1 : Int32) (a2 : Int32) : Nat → Int32 → Int32 → Int32 → Mm → Option (Int32 × Mm)
  | 0, _, _, _, _ => none
  | n + 1, v3, v4, v5, σ => if (16 : Int32) ≤ v5 then (c_I (fX12_gives o v3 σ) (fun x15 σ13 => some (x15, σ13))) else (c_V (fX12_begins1 o σ) (fun σ16 => c_V (fX12_blowsAll o v5 a1 σ16) (fun σ18 => c_V (fX12_goesBy o a2 σ18) (fun σ20 => c_I (fX12_rightSet o σ20) (fun x24 σ22 => c_I (fX12_bits x24 σ22) (fun x27 σ25 => if v4 < x27 then (c_I (fX12_rightSet o σ25) (fun x30 σ28 => c_I (fX12_bits x30 σ28) (fun x33 σ31 => (fX12_bestWind_33 o a1 a2 n) v5 x33 (v5 + (1 : Int32)) σ31))) else ((fX12_bestWind_33 o a1 a2 n) v3 v4 (v5 + (1 : Int32)) σ25)))))))
set_option maxRecDepth 100000 in
set_option maxHeartbeats 4000000 in
theorem tX12_bestWind_33 (l : Launch) (E : EV) {xr : Int32} {τ : Mm} (o : Nat) (a1 : Int32) (a2 : Int32) (ho : KD o = 12) : ∀ (n : Nat) (v3 : Int32) (v4 : Int32) (v5 : Int32) (σ : Mm), fX12_bestWind_33 o a1 a2 n v3 v4 v5 σ = some (xr, τ) → Jd l E mX12_bestWind 7 (some (.int xr), τ) σ 33 [(0, .ref (e_a E o 0)), (1, .int a1), (2, .int a2), (3, .int v3), (4, .int v4), (5, .int v5)] [] := by
  intro n
  induction n with
  | zero => intro v3 v4 v5 σ h; rw [fX12_bestWind_33] at h; cases h
  | succ n ih =>
    intro v3 v4 v5 σ h
    rw [fX12_bestWind_33] at h
    refine J_iload (pc := 33) 5 dX12_bestWind_33 rfl ?_
    refine J_bipush (pc := 35) (16 : Int32) dX12_bestWind_35 (by decide) ?_
    refine J_icmp_ge (pc := 37) 89 dX12_bestWind_37 (by decide) h (fun h => ?_) (fun h => ?_)
    · refine J_aload_n (pc := 89) 0 dX12_bestWind_89 rfl ?_
      refine J_iload_n (pc := 90) 3 dX12_bestWind_90 rfl ?_
      obtain ⟨x15, σ13, hc14, h⟩ := cI_t h
      refine J_cVi (pc := 91) (ctX12_gives l E o v3 ho σ hc14) dX12_bestWind_91 mlX12_87 mvX12_gives ho rfl (by decide) rfl (Nat.le_of_ble_eq_true rfl) ?_
      cases h
      exact J_iret (pc := 94) dX12_bestWind_94 rfl rfl
    · refine J_aload_n (pc := 40) 0 dX12_bestWind_40 rfl ?_
      obtain ⟨σ16, hc17, h⟩ := cV_t h
      refine J_cVv (pc := 41) (ctX12_begins1 l E o ho σ hc17) dX12_bestWind_41 mlX12_325 mvX12_begins1 ho rfl (by decide) rfl (Nat.le_of_ble_eq_true rfl) ?_
      refine J_aload_n (pc := 44) 0 dX12_bestWind_44 rfl ?_
      refine J_iload (pc := 45) 5 dX12_bestWind_45 rfl ?_
      refine J_iload_n (pc := 47) 1 dX12_bestWind_47 rfl ?_
      obtain ⟨σ18, hc19, h⟩ := cV_t h
      refine J_cVv (pc := 48) (ctX12_blowsAll l E o v5 a1 ho σ16 hc19) dX12_bestWind_48 mlX12_380 mvX12_blowsAll ho rfl (by decide) rfl (Nat.le_of_ble_eq_true rfl) ?_
      refine J_aload_n (pc := 51) 0 dX12_bestWind_51 rfl ?_
      refine J_iload_n (pc := 52) 2 dX12_bestWind_52 rfl ?_
      obtain ⟨σ20, hc21, h⟩ := cV_t h
      refine J_cVv (pc := 53) (ctX12_goesBy l E o a2 ho σ18 hc21) dX12_bestWind_53 mlX12_328 mvX12_goesBy ho rfl (by decide) rfl (Nat.le_of_ble_eq_true rfl) ?_
      refine J_aload_n (pc := 56) 0 dX12_bestWind_56 rfl ?_
      obtain ⟨x24, σ22, hc23, h⟩ := cI_t h
      refine J_cVi (pc := 57) (ctX12_rightSet l E o ho σ20 hc23) dX12_bestWind_57 mlX12_358 mvX12_rightSet ho rfl (by decide) rfl (Nat.le_of_ble_eq_true rfl) ?_
      obtain ⟨x27, σ25, hc26, h⟩ := cI_t h
      refine J_cSi (pc := 60) (ctX12_bits l E x24 σ22 hc26) dX12_bestWind_60 mlX12_373 msX12_bits rfl (by decide) rfl (Nat.le_of_ble_eq_true rfl) ?_
      refine J_iload (pc := 63) 4 dX12_bestWind_63 rfl ?_
      refine J_icmp_gt (pc := 65) 71 dX12_bestWind_65 (by decide) h (fun h => ?_) (fun h => ?_)
      · refine J_aload_n (pc := 71) 0 dX12_bestWind_71 rfl ?_
        obtain ⟨x30, σ28, hc29, h⟩ := cI_t h
        refine J_cVi (pc := 72) (ctX12_rightSet l E o ho σ25 hc29) dX12_bestWind_72 mlX12_358 mvX12_rightSet ho rfl (by decide) rfl (Nat.le_of_ble_eq_true rfl) ?_
        obtain ⟨x33, σ31, hc32, h⟩ := cI_t h
        refine J_cSi (pc := 75) (ctX12_bits l E x30 σ28 hc32) dX12_bestWind_75 mlX12_373 msX12_bits rfl (by decide) rfl (Nat.le_of_ble_eq_true rfl) ?_
        refine J_istore (pc := 78) (L' := [(4, .int x33), (0, .ref (e_a E o 0)), (1, .int a1), (2, .int a2), (3, .int v3), (5, .int v5)]) dX12_bestWind_78 (by decide) rfl ?_
        refine J_iload (pc := 80) 5 dX12_bestWind_80 rfl ?_
        refine J_istore_n (pc := 82) (L' := [(3, .int v5), (4, .int x33), (0, .ref (e_a E o 0)), (1, .int a1), (2, .int a2), (5, .int v5)]) dX12_bestWind_82 (by decide) rfl ?_
        refine J_iinc (pc := 83) (L' := [(5, .int (v5 + (1 : Int32))), (3, .int v5), (4, .int x33), (0, .ref (e_a E o 0)), (1, .int a1), (2, .int a2)]) 5 (v5 + (1 : Int32)) dX12_bestWind_83 rfl (by rfl) (by decide) rfl ?_
        refine J_goto (pc := 86) 33 dX12_bestWind_86 (by decide) ?_
        refine J_sub (L' := [(0, .ref (e_a E o 0)), (1, .int a1), (2, .int a2), (3, .int v5), (4, .int x33), (5, .int (v5 + (1 : Int32)))]) [3, 4, 5, 1, 2, 0] rfl ?_
        exact ih v5 x33 (v5 + (1 : Int32)) σ31 h
      · refine J_goto (pc := 68) 83 dX12_bestWind_68 (by decide) ?_
        refine J_iinc (pc := 83) (L' := [(5, .int (v5 + (1 : Int32))), (0, .ref (e_a E o 0)), (1, .int a1), (2, .int a2), (3, .int v3), (4, .int v4)]) 5 (v5 + (1 : Int32)) dX12_bestWind_83 rfl (by rfl) (by decide) rfl ?_
        refine J_goto (pc := 86) 33 dX12_bestWind_86 (by decide) ?_
        refine J_sub (L' := [(0, .ref (e_a E o 0)), (1, .int a1), (2, .int a2), (3, .int v3), (4, .int v4), (5, .int (v5 + (1 : Int32)))]) [1, 2, 3, 4, 5, 0] rfl ?_
        exact ih v3 v4 (v5 + (1 : Int32)) σ25 h
def fX12_bestWind (o : Nat) (a1 : Int32) (a2 : Int32) (σ : Mm) : Option (Int32 × Mm) := c_I (fX12_isFrom a1.toInt64 (1 : Int64) (99 : Int64) σ) (fun x3 σ1 => if x3 = 0 then (c_I (fX12_refuse o (1 : Int32) σ1) (fun x6 σ4 => some (x6, σ4))) else (c_I (fX12_isAhead a2 σ1) (fun x9 σ7 => if x9 = 0 then (c_I (fX12_refuse o (1 : Int32) σ7) (fun x12 σ10 => some (x12, σ10))) else (fX12_bestWind_33 o a1 a2 FU (-1 : Int32) (-1 : Int32) (0 : Int32) σ7))))
set_option maxRecDepth 100000 in
set_option maxHeartbeats 4000000 in
theorem ctX12_bestWind (l : Launch) (E : EV) (o : Nat) (a1 : Int32) (a2 : Int32) (ho : KD o = 12) (σ : Mm) {xr : Int32} {τ : Mm} (h : fX12_bestWind o a1 a2 σ = some (xr, τ)) : Ct l E mX12_bestWind 7 [.ref (e_a E o 0), .int a1, .int a2] σ (some (.int xr), τ) := by
  refine Ct.of (by decide +kernel) (Nat.le_of_ble_eq_true rfl) ?_
  show Jd l E mX12_bestWind 7 (some (.int xr), τ) σ 0 [(0, .ref (e_a E o 0)), (1, .int a1), (2, .int a2)] []
  unfold fX12_bestWind at h
  refine J_iload_n (pc := 0) 1 dX12_bestWind_0 rfl ?_
  refine J_i2l (pc := 1) dX12_bestWind_1 ?_
  refine J_lconst (pc := 2) (1 : Int64) dX12_bestWind_2 (by decide) ?_
  refine J_ldc2 (pc := 3) (99 : Int64) dX12_bestWind_3 klX12_319 ?_
  obtain ⟨x3, σ1, hc2, h⟩ := cI_t h
  refine J_cSi (pc := 6) (ctX12_isFrom l E a1.toInt64 (1 : Int64) (99 : Int64) σ hc2) dX12_bestWind_6 mlX12_321 msX12_isFrom rfl (by decide) rfl (Nat.le_of_ble_eq_true rfl) ?_
  refine J_if_eq (pc := 9) 19 dX12_bestWind_9 (by decide) h (fun h => ?_) (fun h => ?_)
  · refine J_aload_n (pc := 19) 0 dX12_bestWind_19 rfl ?_
    refine J_iconst (pc := 20) (1 : Int32) dX12_bestWind_20 (by decide) ?_
    obtain ⟨x6, σ4, hc5, h⟩ := cI_t h
    refine J_cVi (pc := 21) (ctX12_refuse l E o (1 : Int32) ho σ1 hc5) dX12_bestWind_21 mlX12_83 mvX12_refuse ho rfl (by decide) rfl (Nat.le_of_ble_eq_true rfl) ?_
    cases h
    exact J_iret (pc := 24) dX12_bestWind_24 rfl rfl
  · refine J_iload_n (pc := 12) 2 dX12_bestWind_12 rfl ?_
    obtain ⟨x9, σ7, hc8, h⟩ := cI_t h
    refine J_cSi (pc := 13) (ctX12_isAhead l E a2 σ1 hc8) dX12_bestWind_13 mlX12_355 msX12_isAhead rfl (by decide) rfl (Nat.le_of_ble_eq_true rfl) ?_
    refine J_if_ne (pc := 16) 25 dX12_bestWind_16 (by decide) h (fun h => ?_) (fun h => ?_)
    · refine J_iconst (pc := 25) (-1 : Int32) dX12_bestWind_25 (by decide) ?_
      refine J_istore_n (pc := 26) (L' := [(3, .int (-1 : Int32)), (0, .ref (e_a E o 0)), (1, .int a1), (2, .int a2)]) dX12_bestWind_26 (by decide) rfl ?_
      refine J_iconst (pc := 27) (-1 : Int32) dX12_bestWind_27 (by decide) ?_
      refine J_istore (pc := 28) (L' := [(4, .int (-1 : Int32)), (3, .int (-1 : Int32)), (0, .ref (e_a E o 0)), (1, .int a1), (2, .int a2)]) dX12_bestWind_28 (by decide) rfl ?_
      refine J_iconst (pc := 30) (0 : Int32) dX12_bestWind_30 (by decide) ?_
      refine J_istore (pc := 31) (L' := [(5, .int (0 : Int32)), (4, .int (-1 : Int32)), (3, .int (-1 : Int32)), (0, .ref (e_a E o 0)), (1, .int a1), (2, .int a2)]) dX12_bestWind_31 (by decide) rfl ?_
      refine J_sub (L' := [(0, .ref (e_a E o 0)), (1, .int a1), (2, .int a2), (3, .int (-1 : Int32)), (4, .int (-1 : Int32)), (5, .int (0 : Int32))]) [3, 4, 5, 2, 1, 0] rfl ?_
      exact tX12_bestWind_33 l E o a1 a2 ho FU (-1 : Int32) (-1 : Int32) (0 : Int32) σ7 h
    · refine J_aload_n (pc := 19) 0 dX12_bestWind_19 rfl ?_
      refine J_iconst (pc := 20) (1 : Int32) dX12_bestWind_20 (by decide) ?_
      obtain ⟨x12, σ10, hc11, h⟩ := cI_t h
      refine J_cVi (pc := 21) (ctX12_refuse l E o (1 : Int32) ho σ7 hc11) dX12_bestWind_21 mlX12_83 mvX12_refuse ho rfl (by decide) rfl (Nat.le_of_ble_eq_true rfl) ?_
      cases h
      exact J_iret (pc := 24) dX12_bestWind_24 rfl rfl
def fX12_parting_11 (o : Nat) : Nat → Int32 → Int32 → Int32 → Mm → Option (Int32 × Mm)
  | 0, _, _, _, _ => none
  | n + 1, v1, v2, v3, σ => g_ar σ o 0 2950 (2 : Int32) (fun x2 => if x2 ≤ v3 then (c_I (fX12_gives o v1 σ) (fun x5 σ3 => some (x5, σ3))) else (if ((v2 >>> (v3 &&& 31)) &&& (1 : Int32)) = (1 : Int32) then ((fX12_parting_11 o n) v1 v2 (v3 + (1 : Int32)) σ) else (s_ar σ o 0 2950 (4 : Int32) (v2 ||| ((1 : Int32) <<< (v3 &&& 31))) (fun σ6 => g_ar σ6 o 0 2950 (((70 : Int32) + ((5 : Int32) * v3)) + (0 : Int32)) (fun x7 => c_I (fX12_joinedWith o x7 σ6) (fun x10 σ8 => g_ar σ8 o 0 2950 (((70 : Int32) + ((5 : Int32) * v3)) + (1 : Int32)) (fun x11 => if ((x10 >>> (x11 &&& 31)) &&& (1 : Int32)) = 0 then (s_ar σ8 o 0 2950 (4 : Int32) v2 (fun σ13 => (fX12_parting_11 o n) (v1 ||| ((1 : Int32) <<< (v3 &&& 31))) v2 (v3 + (1 : Int32)) σ13)) else (s_ar σ8 o 0 2950 (4 : Int32) v2 (fun σ12 => (fX12_parting_11 o n) (v1 ||| (0 : Int32)) v2 (v3 + (1 : Int32)) σ12)))))))))
set_option maxRecDepth 100000 in
set_option maxHeartbeats 4000000 in
theorem tX12_parting_11 (l : Launch) (E : EV) {xr : Int32} {τ : Mm} (o : Nat) (ho : KD o = 12) : ∀ (n : Nat) (v1 : Int32) (v2 : Int32) (v3 : Int32) (σ : Mm), fX12_parting_11 o n v1 v2 v3 σ = some (xr, τ) → Jd l E mX12_parting 2 (some (.int xr), τ) σ 11 [(0, .ref (e_a E o 0)), (1, .int v1), (2, .int v2), (3, .int v3)] [] := by
  intro n
  induction n with
  | zero => intro v1 v2 v3 σ h; rw [fX12_parting_11] at h; cases h
  | succ n ih =>
    intro v1 v2 v3 σ h
    rw [fX12_parting_11] at h
    refine J_iload_n (pc := 11) 3 dX12_parting_11 rfl ?_
    refine J_aload_n (pc := 12) 0 dX12_parting_12 rfl ?_
    refine J_getA (pc := 13) dX12_parting_13 ho flX12_7 rfl ?_
    refine J_iconst (pc := 16) (2 : Int32) dX12_parting_16 (by decide) ?_
    refine J_iald (pc := 17) dX12_parting_17 ho ha12_0 h (fun x2 h => ?_)
    refine J_icmp_ge (pc := 18) 103 dX12_parting_18 (by decide) h (fun h => ?_) (fun h => ?_)
    · refine J_aload_n (pc := 103) 0 dX12_parting_103 rfl ?_
      refine J_iload_n (pc := 104) 1 dX12_parting_104 rfl ?_
      obtain ⟨x5, σ3, hc4, h⟩ := cI_t h
      refine J_cVi (pc := 105) (ctX12_gives l E o v1 ho σ hc4) dX12_parting_105 mlX12_87 mvX12_gives ho rfl (by decide) rfl (Nat.le_of_ble_eq_true rfl) ?_
      cases h
      exact J_iret (pc := 108) dX12_parting_108 rfl rfl
    · refine J_iload_n (pc := 21) 2 dX12_parting_21 rfl ?_
      refine J_iload_n (pc := 22) 3 dX12_parting_22 rfl ?_
      refine J_ishr (pc := 23) dX12_parting_23 ?_
      refine J_iconst (pc := 24) (1 : Int32) dX12_parting_24 (by decide) ?_
      refine J_iand (pc := 25) dX12_parting_25 ?_
      refine J_iconst (pc := 26) (1 : Int32) dX12_parting_26 (by decide) ?_
      refine J_icmp_ne (pc := 27) 33 dX12_parting_27 (by decide) h (fun h => ?_) (fun h => ?_)
      · refine J_aload_n (pc := 33) 0 dX12_parting_33 rfl ?_
        refine J_getA (pc := 34) dX12_parting_34 ho flX12_7 rfl ?_
        refine J_iconst (pc := 37) (4 : Int32) dX12_parting_37 (by decide) ?_
        refine J_iload_n (pc := 38) 2 dX12_parting_38 rfl ?_
        refine J_iconst (pc := 39) (1 : Int32) dX12_parting_39 (by decide) ?_
        refine J_iload_n (pc := 40) 3 dX12_parting_40 rfl ?_
        refine J_ishl (pc := 41) dX12_parting_41 ?_
        refine J_ior (pc := 42) dX12_parting_42 ?_
        refine J_iast (pc := 43) dX12_parting_43 ho ha12_0 h (fun σ6 h => ?_)
        refine J_iload_n (pc := 44) 1 dX12_parting_44 rfl ?_
        refine J_aload_n (pc := 45) 0 dX12_parting_45 rfl ?_
        refine J_aload_n (pc := 46) 0 dX12_parting_46 rfl ?_
        refine J_getA (pc := 47) dX12_parting_47 ho flX12_7 rfl ?_
        refine J_bipush (pc := 50) (70 : Int32) dX12_parting_50 (by decide) ?_
        refine J_iconst (pc := 52) (5 : Int32) dX12_parting_52 (by decide) ?_
        refine J_iload_n (pc := 53) 3 dX12_parting_53 rfl ?_
        refine J_imul (pc := 54) dX12_parting_54 ?_
        refine J_iadd (pc := 55) dX12_parting_55 ?_
        refine J_iconst (pc := 56) (0 : Int32) dX12_parting_56 (by decide) ?_
        refine J_iadd (pc := 57) dX12_parting_57 ?_
        refine J_iald (pc := 58) dX12_parting_58 ho ha12_0 h (fun x7 h => ?_)
        obtain ⟨x10, σ8, hc9, h⟩ := cI_t h
        refine J_cVi (pc := 59) (ctX12_joinedWith l E o x7 ho σ6 hc9) dX12_parting_59 mlX12_348 mvX12_joinedWith ho rfl (by decide) rfl (Nat.le_of_ble_eq_true rfl) ?_
        refine J_aload_n (pc := 62) 0 dX12_parting_62 rfl ?_
        refine J_getA (pc := 63) dX12_parting_63 ho flX12_7 rfl ?_
        refine J_bipush (pc := 66) (70 : Int32) dX12_parting_66 (by decide) ?_
        refine J_iconst (pc := 68) (5 : Int32) dX12_parting_68 (by decide) ?_
        refine J_iload_n (pc := 69) 3 dX12_parting_69 rfl ?_
        refine J_imul (pc := 70) dX12_parting_70 ?_
        refine J_iadd (pc := 71) dX12_parting_71 ?_
        refine J_iconst (pc := 72) (1 : Int32) dX12_parting_72 (by decide) ?_
        refine J_iadd (pc := 73) dX12_parting_73 ?_
        refine J_iald (pc := 74) dX12_parting_74 ho ha12_0 h (fun x11 h => ?_)
        refine J_ishr (pc := 75) dX12_parting_75 ?_
        refine J_iconst (pc := 76) (1 : Int32) dX12_parting_76 (by decide) ?_
        refine J_iand (pc := 77) dX12_parting_77 ?_
        refine J_if_ne (pc := 78) 87 dX12_parting_78 (by decide) h (fun h => ?_) (fun h => ?_)
        · refine J_iconst (pc := 87) (0 : Int32) dX12_parting_87 (by decide) ?_
          refine J_ior (pc := 88) dX12_parting_88 ?_
          refine J_istore_n (pc := 89) (L' := [(1, .int (v1 ||| (0 : Int32))), (0, .ref (e_a E o 0)), (2, .int v2), (3, .int v3)]) dX12_parting_89 (by decide) rfl ?_
          refine J_aload_n (pc := 90) 1 dX12_parting_90 rfl ?_
          refine J_getA (pc := 91) dX12_parting_91 ho flX12_7 rfl ?_
          refine J_iconst (pc := 94) (4 : Int32) dX12_parting_94 (by decide) ?_
          refine J_iload_n (pc := 95) 2 dX12_parting_95 rfl ?_
          refine J_iast (pc := 96) dX12_parting_96 ho ha12_0 h (fun σ12 h => ?_)
          refine J_iinc (pc := 97) (L' := [(3, .int (v3 + (1 : Int32))), (1, .int (v1 ||| (0 : Int32))), (0, .ref (e_a E o 0)), (2, .int v2)]) 3 (v3 + (1 : Int32)) dX12_parting_97 rfl (by rfl) (by decide) rfl ?_
          refine J_goto (pc := 100) 11 dX12_parting_100 (by decide) ?_
          refine J_sub (L' := [(0, .ref (e_a E o 0)), (1, .int (v1 ||| (0 : Int32))), (2, .int v2), (3, .int (v3 + (1 : Int32)))]) [2, 1, 3, 0] rfl ?_
          exact ih (v1 ||| (0 : Int32)) v2 (v3 + (1 : Int32)) σ12 h
        · refine J_iconst (pc := 81) (1 : Int32) dX12_parting_81 (by decide) ?_
          refine J_iload_n (pc := 82) 3 dX12_parting_82 rfl ?_
          refine J_ishl (pc := 83) dX12_parting_83 ?_
          refine J_goto (pc := 84) 88 dX12_parting_84 (by decide) ?_
          refine J_ior (pc := 88) dX12_parting_88 ?_
          refine J_istore_n (pc := 89) (L' := [(1, .int (v1 ||| ((1 : Int32) <<< (v3 &&& 31)))), (0, .ref (e_a E o 0)), (2, .int v2), (3, .int v3)]) dX12_parting_89 (by decide) rfl ?_
          refine J_aload_n (pc := 90) 1 dX12_parting_90 rfl ?_
          refine J_getA (pc := 91) dX12_parting_91 ho flX12_7 rfl ?_
          refine J_iconst (pc := 94) (4 : Int32) dX12_parting_94 (by decide) ?_
          refine J_iload_n (pc := 95) 2 dX12_parting_95 rfl ?_
          refine J_iast (pc := 96) dX12_parting_96 ho ha12_0 h (fun σ13 h => ?_)
          refine J_iinc (pc := 97) (L' := [(3, .int (v3 + (1 : Int32))), (1, .int (v1 ||| ((1 : Int32) <<< (v3 &&& 31)))), (0, .ref (e_a E o 0)), (2, .int v2)]) 3 (v3 + (1 : Int32)) dX12_parting_97 rfl (by rfl) (by decide) rfl ?_
          refine J_goto (pc := 100) 11 dX12_parting_100 (by decide) ?_
          refine J_sub (L' := [(0, .ref (e_a E o 0)), (1, .int (v1 ||| ((1 : Int32) <<< (v3 &&& 31)))), (2, .int v2), (3, .int (v3 + (1 : Int32)))]) [2, 1, 3, 0] rfl ?_
          exact ih (v1 ||| ((1 : Int32) <<< (v3 &&& 31))) v2 (v3 + (1 : Int32)) σ13 h
      · refine J_goto (pc := 30) 97 dX12_parting_30 (by decide) ?_
        refine J_iinc (pc := 97) (L' := [(3, .int (v3 + (1 : Int32))), (0, .ref (e_a E o 0)), (1, .int v1), (2, .int v2)]) 3 (v3 + (1 : Int32)) dX12_parting_97 rfl (by rfl) (by decide) rfl ?_
        refine J_goto (pc := 100) 11 dX12_parting_100 (by decide) ?_
        refine J_sub (L' := [(0, .ref (e_a E o 0)), (1, .int v1), (2, .int v2), (3, .int (v3 + (1 : Int32)))]) [1, 2, 3, 0] rfl ?_
        exact ih v1 v2 (v3 + (1 : Int32)) σ h
def fX12_parting (o : Nat) (σ : Mm) : Option (Int32 × Mm) := g_ar σ o 0 2950 (4 : Int32) (fun x1 => fX12_parting_11 o FU (0 : Int32) x1 (0 : Int32) σ)
set_option maxRecDepth 100000 in
set_option maxHeartbeats 4000000 in
theorem ctX12_parting (l : Launch) (E : EV) (o : Nat) (ho : KD o = 12) (σ : Mm) {xr : Int32} {τ : Mm} (h : fX12_parting o σ = some (xr, τ)) : Ct l E mX12_parting 2 [.ref (e_a E o 0)] σ (some (.int xr), τ) := by
  refine Ct.of (by decide +kernel) (Nat.le_of_ble_eq_true rfl) ?_
  show Jd l E mX12_parting 2 (some (.int xr), τ) σ 0 [(0, .ref (e_a E o 0))] []
  unfold fX12_parting at h
  refine J_iconst (pc := 0) (0 : Int32) dX12_parting_0 (by decide) ?_
  refine J_istore_n (pc := 1) (L' := [(1, .int (0 : Int32)), (0, .ref (e_a E o 0))]) dX12_parting_1 (by decide) rfl ?_
  refine J_aload_n (pc := 2) 1 dX12_parting_2 rfl ?_
  refine J_getA (pc := 3) dX12_parting_3 ho flX12_7 rfl ?_
  refine J_iconst (pc := 6) (4 : Int32) dX12_parting_6 (by decide) ?_
  refine J_iald (pc := 7) dX12_parting_7 ho ha12_0 h (fun x1 h => ?_)
  refine J_istore_n (pc := 8) (L' := [(2, .int x1), (1, .int (0 : Int32)), (0, .ref (e_a E o 0))]) dX12_parting_8 (by decide) rfl ?_
  refine J_iconst (pc := 9) (0 : Int32) dX12_parting_9 (by decide) ?_
  refine J_istore_n (pc := 10) (L' := [(3, .int (0 : Int32)), (2, .int x1), (1, .int (0 : Int32)), (0, .ref (e_a E o 0))]) dX12_parting_10 (by decide) rfl ?_
  refine J_sub (L' := [(0, .ref (e_a E o 0)), (1, .int (0 : Int32)), (2, .int x1), (3, .int (0 : Int32))]) [3, 2, 1, 0] rfl ?_
  exact tX12_parting_11 l E o ho FU (0 : Int32) x1 (0 : Int32) σ h
def fX12_rightsBy (o : Nat) (a1 : Int32) (a2 : Int32) (σ : Mm) : Option (Int32 × Mm) := c_V (fX12_begins1 o σ) (fun σ1 => g_ar σ1 o 0 2950 (2454 : Int32) (fun x3 => s_ar σ1 o 0 2950 (2454 : Int32) (x3 ||| a2) (fun σ4 => c_V (fX12_goesBy o a1 σ4) (fun σ5 => c_I (fX12_rightSet o σ5) (fun x9 σ7 => c_I (fX12_bits x9 σ7) (fun x12 σ10 => some (x12, σ10)))))))
set_option maxRecDepth 100000 in
set_option maxHeartbeats 4000000 in
theorem ctX12_rightsBy (l : Launch) (E : EV) (o : Nat) (a1 : Int32) (a2 : Int32) (ho : KD o = 12) (σ : Mm) {xr : Int32} {τ : Mm} (h : fX12_rightsBy o a1 a2 σ = some (xr, τ)) : Ct l E mX12_rightsBy 7 [.ref (e_a E o 0), .int a1, .int a2] σ (some (.int xr), τ) := by
  refine Ct.of (by decide +kernel) (Nat.le_of_ble_eq_true rfl) ?_
  show Jd l E mX12_rightsBy 7 (some (.int xr), τ) σ 0 [(0, .ref (e_a E o 0)), (1, .int a1), (2, .int a2)] []
  unfold fX12_rightsBy at h
  refine J_aload_n (pc := 0) 0 dX12_rightsBy_0 rfl ?_
  obtain ⟨σ1, hc2, h⟩ := cV_t h
  refine J_cVv (pc := 1) (ctX12_begins1 l E o ho σ hc2) dX12_rightsBy_1 mlX12_325 mvX12_begins1 ho rfl (by decide) rfl (Nat.le_of_ble_eq_true rfl) ?_
  refine J_aload_n (pc := 4) 0 dX12_rightsBy_4 rfl ?_
  refine J_getA (pc := 5) dX12_rightsBy_5 ho flX12_7 rfl ?_
  refine J_sipush (pc := 8) (2454 : Int32) dX12_rightsBy_8 (by decide) ?_
  refine J_dup2 (pc := 11) dX12_rightsBy_11 rfl rfl ?_
  refine J_iald (pc := 12) dX12_rightsBy_12 ho ha12_0 h (fun x3 h => ?_)
  refine J_iload_n (pc := 13) 2 dX12_rightsBy_13 rfl ?_
  refine J_ior (pc := 14) dX12_rightsBy_14 ?_
  refine J_iast (pc := 15) dX12_rightsBy_15 ho ha12_0 h (fun σ4 h => ?_)
  refine J_aload_n (pc := 16) 0 dX12_rightsBy_16 rfl ?_
  refine J_iload_n (pc := 17) 1 dX12_rightsBy_17 rfl ?_
  obtain ⟨σ5, hc6, h⟩ := cV_t h
  refine J_cVv (pc := 18) (ctX12_goesBy l E o a1 ho σ4 hc6) dX12_rightsBy_18 mlX12_328 mvX12_goesBy ho rfl (by decide) rfl (Nat.le_of_ble_eq_true rfl) ?_
  refine J_aload_n (pc := 21) 0 dX12_rightsBy_21 rfl ?_
  obtain ⟨x9, σ7, hc8, h⟩ := cI_t h
  refine J_cVi (pc := 22) (ctX12_rightSet l E o ho σ5 hc8) dX12_rightsBy_22 mlX12_358 mvX12_rightSet ho rfl (by decide) rfl (Nat.le_of_ble_eq_true rfl) ?_
  obtain ⟨x12, σ10, hc11, h⟩ := cI_t h
  refine J_cSi (pc := 25) (ctX12_bits l E x9 σ7 hc11) dX12_rightsBy_25 mlX12_373 msX12_bits rfl (by decide) rfl (Nat.le_of_ble_eq_true rfl) ?_
  cases h
  exact J_iret (pc := 28) dX12_rightsBy_28 rfl rfl
def fX12_mending_25 (o : Nat) (a1 : Int32) : Nat → Int32 → Int32 → Int32 → Mm → Option (Int32 × Mm)
  | 0, _, _, _, _ => none
  | n + 1, v2, v3, v4, σ => g_ar σ o 0 2950 (2 : Int32) (fun x10 => if x10 ≤ v4 then (c_I (fX12_orNone o v3 σ) (fun x13 σ11 => some (x13, σ11))) else (g_ar σ o 0 2950 (4 : Int32) (fun x14 => if ((x14 >>> (v4 &&& 31)) &&& (1 : Int32)) = (1 : Int32) then (if v2 < (-1 : Int32) then ((fX12_mending_25 o a1 n) (-1 : Int32) v4 (v4 + (1 : Int32)) σ) else ((fX12_mending_25 o a1 n) v2 v3 (v4 + (1 : Int32)) σ)) else (c_I (fX12_rightsBy o a1 ((1 : Int32) <<< (v4 &&& 31)) σ) (fun x17 σ15 => if v2 < x17 then ((fX12_mending_25 o a1 n) x17 v4 (v4 + (1 : Int32)) σ15) else ((fX12_mending_25 o a1 n) v2 v3 (v4 + (1 : Int32)) σ15))))))
set_option maxRecDepth 100000 in
set_option maxHeartbeats 4000000 in
theorem tX12_mending_25 (l : Launch) (E : EV) {xr : Int32} {τ : Mm} (o : Nat) (a1 : Int32) (ho : KD o = 12) : ∀ (n : Nat) (v2 : Int32) (v3 : Int32) (v4 : Int32) (σ : Mm), fX12_mending_25 o a1 n v2 v3 v4 σ = some (xr, τ) → Jd l E mX12_mending 8 (some (.int xr), τ) σ 25 [(0, .ref (e_a E o 0)), (1, .int a1), (2, .int v2), (3, .int v3), (4, .int v4)] [] := by
  intro n
  induction n with
  | zero => intro v2 v3 v4 σ h; rw [fX12_mending_25] at h; cases h
  | succ n ih =>
    intro v2 v3 v4 σ h
    rw [fX12_mending_25] at h
    refine J_iload (pc := 25) 4 dX12_mending_25 rfl ?_
    refine J_aload_n (pc := 27) 0 dX12_mending_27 rfl ?_
    refine J_getA (pc := 28) dX12_mending_28 ho flX12_7 rfl ?_
    refine J_iconst (pc := 31) (2 : Int32) dX12_mending_31 (by decide) ?_
    refine J_iald (pc := 32) dX12_mending_32 ho ha12_0 h (fun x10 h => ?_)
    refine J_icmp_ge (pc := 33) 87 dX12_mending_33 (by decide) h (fun h => ?_) (fun h => ?_)
    · refine J_aload_n (pc := 87) 0 dX12_mending_87 rfl ?_
      refine J_iload_n (pc := 88) 3 dX12_mending_88 rfl ?_
      obtain ⟨x13, σ11, hc12, h⟩ := cI_t h
      refine J_cVi (pc := 89) (ctX12_orNone l E o v3 ho σ hc12) dX12_mending_89 mlX12_370 mvX12_orNone ho rfl (by decide) rfl (Nat.le_of_ble_eq_true rfl) ?_
      cases h
      exact J_iret (pc := 92) dX12_mending_92 rfl rfl
    · refine J_aload_n (pc := 36) 0 dX12_mending_36 rfl ?_
      refine J_getA (pc := 37) dX12_mending_37 ho flX12_7 rfl ?_
      refine J_iconst (pc := 40) (4 : Int32) dX12_mending_40 (by decide) ?_
      refine J_iald (pc := 41) dX12_mending_41 ho ha12_0 h (fun x14 h => ?_)
      refine J_iload (pc := 42) 4 dX12_mending_42 rfl ?_
      refine J_ishr (pc := 44) dX12_mending_44 ?_
      refine J_iconst (pc := 45) (1 : Int32) dX12_mending_45 (by decide) ?_
      refine J_iand (pc := 46) dX12_mending_46 ?_
      refine J_iconst (pc := 47) (1 : Int32) dX12_mending_47 (by decide) ?_
      refine J_icmp_ne (pc := 48) 55 dX12_mending_48 (by decide) h (fun h => ?_) (fun h => ?_)
      · refine J_aload_n (pc := 55) 0 dX12_mending_55 rfl ?_
        refine J_iload_n (pc := 56) 1 dX12_mending_56 rfl ?_
        refine J_iconst (pc := 57) (1 : Int32) dX12_mending_57 (by decide) ?_
        refine J_iload (pc := 58) 4 dX12_mending_58 rfl ?_
        refine J_ishl (pc := 60) dX12_mending_60 ?_
        obtain ⟨x17, σ15, hc16, h⟩ := cI_t h
        refine J_cVi (pc := 61) (ctX12_rightsBy l E o a1 ((1 : Int32) <<< (v4 &&& 31)) ho σ hc16) dX12_mending_61 mlX12_384 mvX12_rightsBy ho rfl (by decide) rfl (Nat.le_of_ble_eq_true rfl) ?_
        refine J_istore (pc := 64) (L' := [(5, .int x17), (0, .ref (e_a E o 0)), (1, .int a1), (2, .int v2), (3, .int v3), (4, .int v4)]) dX12_mending_64 (by decide) rfl ?_
        refine J_iload (pc := 66) 0 dX12_mending_66 rfl ?_
        refine J_iload_n (pc := 68) 3 dX12_mending_68 rfl ?_
        refine J_icmp_gt (pc := 69) 75 dX12_mending_69 (by decide) h (fun h => ?_) (fun h => ?_)
        · refine J_iload (pc := 75) 0 dX12_mending_75 rfl ?_
          refine J_istore_n (pc := 77) (L' := [(2, .int x17), (5, .int x17), (0, .ref (e_a E o 0)), (1, .int a1), (3, .int v3), (4, .int v4)]) dX12_mending_77 (by decide) rfl ?_
          refine J_iload (pc := 78) 5 dX12_mending_78 rfl ?_
          refine J_istore_n (pc := 80) (L' := [(3, .int v4), (2, .int x17), (5, .int x17), (0, .ref (e_a E o 0)), (1, .int a1), (4, .int v4)]) dX12_mending_80 (by decide) rfl ?_
          refine J_iinc (pc := 81) (L' := [(4, .int (v4 + (1 : Int32))), (3, .int v4), (2, .int x17), (5, .int x17), (0, .ref (e_a E o 0)), (1, .int a1)]) 5 (v4 + (1 : Int32)) dX12_mending_81 rfl (by rfl) (by decide) rfl ?_
          refine J_goto (pc := 84) 25 dX12_mending_84 (by decide) ?_
          refine J_sub (L' := [(0, .ref (e_a E o 0)), (1, .int a1), (2, .int x17), (3, .int v4), (4, .int (v4 + (1 : Int32)))]) [4, 5, 2, 1, 0] rfl ?_
          exact ih x17 v4 (v4 + (1 : Int32)) σ15 h
        · refine J_goto (pc := 72) 81 dX12_mending_72 (by decide) ?_
          refine J_iinc (pc := 81) (L' := [(4, .int (v4 + (1 : Int32))), (5, .int x17), (0, .ref (e_a E o 0)), (1, .int a1), (2, .int v2), (3, .int v3)]) 5 (v4 + (1 : Int32)) dX12_mending_81 rfl (by rfl) (by decide) rfl ?_
          refine J_goto (pc := 84) 25 dX12_mending_84 (by decide) ?_
          refine J_sub (L' := [(0, .ref (e_a E o 0)), (1, .int a1), (2, .int v2), (3, .int v3), (4, .int (v4 + (1 : Int32)))]) [2, 3, 4, 5, 0] rfl ?_
          exact ih v2 v3 (v4 + (1 : Int32)) σ15 h
      · refine J_iconst (pc := 51) (-1 : Int32) dX12_mending_51 (by decide) ?_
        refine J_goto (pc := 52) 64 dX12_mending_52 (by decide) ?_
        refine J_istore (pc := 64) (L' := [(5, .int (-1 : Int32)), (0, .ref (e_a E o 0)), (1, .int a1), (2, .int v2), (3, .int v3), (4, .int v4)]) dX12_mending_64 (by decide) rfl ?_
        refine J_iload (pc := 66) 0 dX12_mending_66 rfl ?_
        refine J_iload_n (pc := 68) 3 dX12_mending_68 rfl ?_
        refine J_icmp_gt (pc := 69) 75 dX12_mending_69 (by decide) h (fun h => ?_) (fun h => ?_)
        · refine J_iload (pc := 75) 0 dX12_mending_75 rfl ?_
          refine J_istore_n (pc := 77) (L' := [(2, .int (-1 : Int32)), (5, .int (-1 : Int32)), (0, .ref (e_a E o 0)), (1, .int a1), (3, .int v3), (4, .int v4)]) dX12_mending_77 (by decide) rfl ?_
          refine J_iload (pc := 78) 5 dX12_mending_78 rfl ?_
          refine J_istore_n (pc := 80) (L' := [(3, .int v4), (2, .int (-1 : Int32)), (5, .int (-1 : Int32)), (0, .ref (e_a E o 0)), (1, .int a1), (4, .int v4)]) dX12_mending_80 (by decide) rfl ?_
          refine J_iinc (pc := 81) (L' := [(4, .int (v4 + (1 : Int32))), (3, .int v4), (2, .int (-1 : Int32)), (5, .int (-1 : Int32)), (0, .ref (e_a E o 0)), (1, .int a1)]) 5 (v4 + (1 : Int32)) dX12_mending_81 rfl (by rfl) (by decide) rfl ?_
          refine J_goto (pc := 84) 25 dX12_mending_84 (by decide) ?_
          refine J_sub (L' := [(0, .ref (e_a E o 0)), (1, .int a1), (2, .int (-1 : Int32)), (3, .int v4), (4, .int (v4 + (1 : Int32)))]) [4, 5, 2, 1, 0] rfl ?_
          exact ih (-1 : Int32) v4 (v4 + (1 : Int32)) σ h
        · refine J_goto (pc := 72) 81 dX12_mending_72 (by decide) ?_
          refine J_iinc (pc := 81) (L' := [(4, .int (v4 + (1 : Int32))), (5, .int (-1 : Int32)), (0, .ref (e_a E o 0)), (1, .int a1), (2, .int v2), (3, .int v3)]) 5 (v4 + (1 : Int32)) dX12_mending_81 rfl (by rfl) (by decide) rfl ?_
          refine J_goto (pc := 84) 25 dX12_mending_84 (by decide) ?_
          refine J_sub (L' := [(0, .ref (e_a E o 0)), (1, .int a1), (2, .int v2), (3, .int v3), (4, .int (v4 + (1 : Int32)))]) [2, 3, 4, 5, 0] rfl ?_
          exact ih v2 v3 (v4 + (1 : Int32)) σ h
def fX12_mending (o : Nat) (a1 : Int32) (σ : Mm) : Option (Int32 × Mm) := c_I (fX12_isAhead a1 σ) (fun x3 σ1 => if x3 = 0 then (c_I (fX12_refuse o (1 : Int32) σ1) (fun x9 σ7 => some (x9, σ7))) else (c_I (fX12_rightsBy o a1 (0 : Int32) σ1) (fun x6 σ4 => fX12_mending_25 o a1 FU x6 (-1 : Int32) (0 : Int32) σ4)))
set_option maxRecDepth 100000 in
set_option maxHeartbeats 4000000 in
theorem ctX12_mending (l : Launch) (E : EV) (o : Nat) (a1 : Int32) (ho : KD o = 12) (σ : Mm) {xr : Int32} {τ : Mm} (h : fX12_mending o a1 σ = some (xr, τ)) : Ct l E mX12_mending 8 [.ref (e_a E o 0), .int a1] σ (some (.int xr), τ) := by
  refine Ct.of (by decide +kernel) (Nat.le_of_ble_eq_true rfl) ?_
  show Jd l E mX12_mending 8 (some (.int xr), τ) σ 0 [(0, .ref (e_a E o 0)), (1, .int a1)] []
  unfold fX12_mending at h
  refine J_iload_n (pc := 0) 1 dX12_mending_0 rfl ?_
  obtain ⟨x3, σ1, hc2, h⟩ := cI_t h
  refine J_cSi (pc := 1) (ctX12_isAhead l E a1 σ hc2) dX12_mending_1 mlX12_355 msX12_isAhead rfl (by decide) rfl (Nat.le_of_ble_eq_true rfl) ?_
  refine J_if_ne (pc := 4) 13 dX12_mending_4 (by decide) h (fun h => ?_) (fun h => ?_)
  · refine J_aload_n (pc := 13) 0 dX12_mending_13 rfl ?_
    refine J_iload_n (pc := 14) 1 dX12_mending_14 rfl ?_
    refine J_iconst (pc := 15) (0 : Int32) dX12_mending_15 (by decide) ?_
    obtain ⟨x6, σ4, hc5, h⟩ := cI_t h
    refine J_cVi (pc := 16) (ctX12_rightsBy l E o a1 (0 : Int32) ho σ1 hc5) dX12_mending_16 mlX12_384 mvX12_rightsBy ho rfl (by decide) rfl (Nat.le_of_ble_eq_true rfl) ?_
    refine J_istore_n (pc := 19) (L' := [(2, .int x6), (0, .ref (e_a E o 0)), (1, .int a1)]) dX12_mending_19 (by decide) rfl ?_
    refine J_iconst (pc := 20) (-1 : Int32) dX12_mending_20 (by decide) ?_
    refine J_istore_n (pc := 21) (L' := [(3, .int (-1 : Int32)), (2, .int x6), (0, .ref (e_a E o 0)), (1, .int a1)]) dX12_mending_21 (by decide) rfl ?_
    refine J_iconst (pc := 22) (0 : Int32) dX12_mending_22 (by decide) ?_
    refine J_istore (pc := 23) (L' := [(4, .int (0 : Int32)), (3, .int (-1 : Int32)), (2, .int x6), (0, .ref (e_a E o 0)), (1, .int a1)]) dX12_mending_23 (by decide) rfl ?_
    refine J_sub (L' := [(0, .ref (e_a E o 0)), (1, .int a1), (2, .int x6), (3, .int (-1 : Int32)), (4, .int (0 : Int32))]) [3, 4, 2, 1, 0] rfl ?_
    exact tX12_mending_25 l E o a1 ho FU x6 (-1 : Int32) (0 : Int32) σ4 h
  · refine J_aload_n (pc := 7) 0 dX12_mending_7 rfl ?_
    refine J_iconst (pc := 8) (1 : Int32) dX12_mending_8 (by decide) ?_
    obtain ⟨x9, σ7, hc8, h⟩ := cI_t h
    refine J_cVi (pc := 9) (ctX12_refuse l E o (1 : Int32) ho σ1 hc8) dX12_mending_9 mlX12_83 mvX12_refuse ho rfl (by decide) rfl (Nat.le_of_ble_eq_true rfl) ?_
    cases h
    exact J_iret (pc := 12) dX12_mending_12 rfl rfl
def fX12_leavingBy_5 (o : Nat) (a1 : Int32) (a2 : Int32) : Nat → Int32 → Int32 → Mm → Option (Int32 × Mm)
  | 0, _, _, _ => none
  | n + 1, v3, v4, σ => if (16 : Int32) ≤ v4 then (some (v3, σ)) else (c_V (fX12_begins1 o σ) (fun σ1 => g_ar σ1 o 0 2950 (2454 : Int32) (fun x3 => s_ar σ1 o 0 2950 (2454 : Int32) (x3 ||| a2) (fun σ4 => c_V (fX12_blowsAll o v4 a1 σ4) (fun σ5 => c_I (fX12_quarterGoes o σ5) (fun x9 σ7 => if x9 = 0 then ((fX12_leavingBy_5 o a1 a2 n) (v3 ||| ((1 : Int32) <<< (v4 &&& 31))) (v4 + (1 : Int32)) σ7) else ((fX12_leavingBy_5 o a1 a2 n) (v3 ||| (0 : Int32)) (v4 + (1 : Int32)) σ7)))))))
set_option maxRecDepth 100000 in
set_option maxHeartbeats 4000000 in
theorem tX12_leavingBy_5 (l : Launch) (E : EV) {xr : Int32} {τ : Mm} (o : Nat) (a1 : Int32) (a2 : Int32) (ho : KD o = 12) : ∀ (n : Nat) (v3 : Int32) (v4 : Int32) (σ : Mm), fX12_leavingBy_5 o a1 a2 n v3 v4 σ = some (xr, τ) → Jd l E mX12_leavingBy 6 (some (.int xr), τ) σ 5 [(0, .ref (e_a E o 0)), (1, .int a1), (2, .int a2), (3, .int v3), (4, .int v4)] [] := by
  intro n
  induction n with
  | zero => intro v3 v4 σ h; rw [fX12_leavingBy_5] at h; cases h
  | succ n ih =>
    intro v3 v4 σ h
    rw [fX12_leavingBy_5] at h
    refine J_iload (pc := 5) 4 dX12_leavingBy_5 rfl ?_
    refine J_bipush (pc := 7) (16 : Int32) dX12_leavingBy_7 (by decide) ?_
    refine J_icmp_ge (pc := 9) 59 dX12_leavingBy_9 (by decide) h (fun h => ?_) (fun h => ?_)
    · refine J_iload_n (pc := 59) 3 dX12_leavingBy_59 rfl ?_
      cases h
      exact J_iret (pc := 60) dX12_leavingBy_60 rfl rfl
    · refine J_aload_n (pc := 12) 0 dX12_leavingBy_12 rfl ?_
      obtain ⟨σ1, hc2, h⟩ := cV_t h
      refine J_cVv (pc := 13) (ctX12_begins1 l E o ho σ hc2) dX12_leavingBy_13 mlX12_325 mvX12_begins1 ho rfl (by decide) rfl (Nat.le_of_ble_eq_true rfl) ?_
      refine J_aload_n (pc := 16) 0 dX12_leavingBy_16 rfl ?_
      refine J_getA (pc := 17) dX12_leavingBy_17 ho flX12_7 rfl ?_
      refine J_sipush (pc := 20) (2454 : Int32) dX12_leavingBy_20 (by decide) ?_
      refine J_dup2 (pc := 23) dX12_leavingBy_23 rfl rfl ?_
      refine J_iald (pc := 24) dX12_leavingBy_24 ho ha12_0 h (fun x3 h => ?_)
      refine J_iload_n (pc := 25) 2 dX12_leavingBy_25 rfl ?_
      refine J_ior (pc := 26) dX12_leavingBy_26 ?_
      refine J_iast (pc := 27) dX12_leavingBy_27 ho ha12_0 h (fun σ4 h => ?_)
      refine J_aload_n (pc := 28) 0 dX12_leavingBy_28 rfl ?_
      refine J_iload (pc := 29) 4 dX12_leavingBy_29 rfl ?_
      refine J_iload_n (pc := 31) 1 dX12_leavingBy_31 rfl ?_
      obtain ⟨σ5, hc6, h⟩ := cV_t h
      refine J_cVv (pc := 32) (ctX12_blowsAll l E o v4 a1 ho σ4 hc6) dX12_leavingBy_32 mlX12_380 mvX12_blowsAll ho rfl (by decide) rfl (Nat.le_of_ble_eq_true rfl) ?_
      refine J_iload_n (pc := 35) 3 dX12_leavingBy_35 rfl ?_
      refine J_aload_n (pc := 36) 0 dX12_leavingBy_36 rfl ?_
      obtain ⟨x9, σ7, hc8, h⟩ := cI_t h
      refine J_cVi (pc := 37) (ctX12_quarterGoes l E o ho σ5 hc8) dX12_leavingBy_37 mlX12_306 mvX12_quarterGoes ho rfl (by decide) rfl (Nat.le_of_ble_eq_true rfl) ?_
      refine J_if_eq (pc := 40) 47 dX12_leavingBy_40 (by decide) h (fun h => ?_) (fun h => ?_)
      · refine J_iconst (pc := 47) (1 : Int32) dX12_leavingBy_47 (by decide) ?_
        refine J_iload (pc := 48) 4 dX12_leavingBy_48 rfl ?_
        refine J_ishl (pc := 50) dX12_leavingBy_50 ?_
        refine J_ior (pc := 51) dX12_leavingBy_51 ?_
        refine J_istore_n (pc := 52) (L' := [(3, .int (v3 ||| ((1 : Int32) <<< (v4 &&& 31)))), (0, .ref (e_a E o 0)), (1, .int a1), (2, .int a2), (4, .int v4)]) dX12_leavingBy_52 (by decide) rfl ?_
        refine J_iinc (pc := 53) (L' := [(4, .int (v4 + (1 : Int32))), (3, .int (v3 ||| ((1 : Int32) <<< (v4 &&& 31)))), (0, .ref (e_a E o 0)), (1, .int a1), (2, .int a2)]) 4 (v4 + (1 : Int32)) dX12_leavingBy_53 rfl (by rfl) (by decide) rfl ?_
        refine J_goto (pc := 56) 5 dX12_leavingBy_56 (by decide) ?_
        refine J_sub (L' := [(0, .ref (e_a E o 0)), (1, .int a1), (2, .int a2), (3, .int (v3 ||| ((1 : Int32) <<< (v4 &&& 31)))), (4, .int (v4 + (1 : Int32)))]) [2, 3, 4, 1, 0] rfl ?_
        exact ih (v3 ||| ((1 : Int32) <<< (v4 &&& 31))) (v4 + (1 : Int32)) σ7 h
      · refine J_iconst (pc := 43) (0 : Int32) dX12_leavingBy_43 (by decide) ?_
        refine J_goto (pc := 44) 51 dX12_leavingBy_44 (by decide) ?_
        refine J_ior (pc := 51) dX12_leavingBy_51 ?_
        refine J_istore_n (pc := 52) (L' := [(3, .int (v3 ||| (0 : Int32))), (0, .ref (e_a E o 0)), (1, .int a1), (2, .int a2), (4, .int v4)]) dX12_leavingBy_52 (by decide) rfl ?_
        refine J_iinc (pc := 53) (L' := [(4, .int (v4 + (1 : Int32))), (3, .int (v3 ||| (0 : Int32))), (0, .ref (e_a E o 0)), (1, .int a1), (2, .int a2)]) 4 (v4 + (1 : Int32)) dX12_leavingBy_53 rfl (by rfl) (by decide) rfl ?_
        refine J_goto (pc := 56) 5 dX12_leavingBy_56 (by decide) ?_
        refine J_sub (L' := [(0, .ref (e_a E o 0)), (1, .int a1), (2, .int a2), (3, .int (v3 ||| (0 : Int32))), (4, .int (v4 + (1 : Int32)))]) [2, 3, 4, 1, 0] rfl ?_
        exact ih (v3 ||| (0 : Int32)) (v4 + (1 : Int32)) σ7 h
def fX12_leavingBy (o : Nat) (a1 : Int32) (a2 : Int32) (σ : Mm) : Option (Int32 × Mm) := fX12_leavingBy_5 o a1 a2 FU (0 : Int32) (0 : Int32) σ
set_option maxRecDepth 100000 in
set_option maxHeartbeats 4000000 in
theorem ctX12_leavingBy (l : Launch) (E : EV) (o : Nat) (a1 : Int32) (a2 : Int32) (ho : KD o = 12) (σ : Mm) {xr : Int32} {τ : Mm} (h : fX12_leavingBy o a1 a2 σ = some (xr, τ)) : Ct l E mX12_leavingBy 6 [.ref (e_a E o 0), .int a1, .int a2] σ (some (.int xr), τ) := by
  refine Ct.of (by decide +kernel) (Nat.le_of_ble_eq_true rfl) ?_
  show Jd l E mX12_leavingBy 6 (some (.int xr), τ) σ 0 [(0, .ref (e_a E o 0)), (1, .int a1), (2, .int a2)] []
  unfold fX12_leavingBy at h
  refine J_iconst (pc := 0) (0 : Int32) dX12_leavingBy_0 (by decide) ?_
  refine J_istore_n (pc := 1) (L' := [(3, .int (0 : Int32)), (0, .ref (e_a E o 0)), (1, .int a1), (2, .int a2)]) dX12_leavingBy_1 (by decide) rfl ?_
  refine J_iconst (pc := 2) (0 : Int32) dX12_leavingBy_2 (by decide) ?_
  refine J_istore (pc := 3) (L' := [(4, .int (0 : Int32)), (3, .int (0 : Int32)), (0, .ref (e_a E o 0)), (1, .int a1), (2, .int a2)]) dX12_leavingBy_3 (by decide) rfl ?_
  refine J_sub (L' := [(0, .ref (e_a E o 0)), (1, .int a1), (2, .int a2), (3, .int (0 : Int32)), (4, .int (0 : Int32))]) [2, 3, 4, 1, 0] rfl ?_
  exact tX12_leavingBy_5 l E o a1 a2 ho FU (0 : Int32) (0 : Int32) σ h
def fX12_leaving (o : Nat) (a1 : Int32) (σ : Mm) : Option (Int32 × Mm) := c_I (fX12_isFrom a1.toInt64 (1 : Int64) (99 : Int64) σ) (fun x3 σ1 => if x3 = 0 then (c_I (fX12_refuse o (1 : Int32) σ1) (fun x6 σ4 => some (x6, σ4))) else (c_I (fX12_leavingBy o a1 (0 : Int32) σ1) (fun x9 σ7 => c_I (fX12_gives o x9 σ7) (fun x12 σ10 => some (x12, σ10)))))
set_option maxRecDepth 100000 in
set_option maxHeartbeats 4000000 in
theorem ctX12_leaving (l : Launch) (E : EV) (o : Nat) (a1 : Int32) (ho : KD o = 12) (σ : Mm) {xr : Int32} {τ : Mm} (h : fX12_leaving o a1 σ = some (xr, τ)) : Ct l E mX12_leaving 7 [.ref (e_a E o 0), .int a1] σ (some (.int xr), τ) := by
  refine Ct.of (by decide +kernel) (Nat.le_of_ble_eq_true rfl) ?_
  show Jd l E mX12_leaving 7 (some (.int xr), τ) σ 0 [(0, .ref (e_a E o 0)), (1, .int a1)] []
  unfold fX12_leaving at h
  refine J_iload_n (pc := 0) 1 dX12_leaving_0 rfl ?_
  refine J_i2l (pc := 1) dX12_leaving_1 ?_
  refine J_lconst (pc := 2) (1 : Int64) dX12_leaving_2 (by decide) ?_
  refine J_ldc2 (pc := 3) (99 : Int64) dX12_leaving_3 klX12_319 ?_
  obtain ⟨x3, σ1, hc2, h⟩ := cI_t h
  refine J_cSi (pc := 6) (ctX12_isFrom l E a1.toInt64 (1 : Int64) (99 : Int64) σ hc2) dX12_leaving_6 mlX12_321 msX12_isFrom rfl (by decide) rfl (Nat.le_of_ble_eq_true rfl) ?_
  refine J_if_eq (pc := 9) 25 dX12_leaving_9 (by decide) h (fun h => ?_) (fun h => ?_)
  · refine J_aload_n (pc := 25) 0 dX12_leaving_25 rfl ?_
    refine J_iconst (pc := 26) (1 : Int32) dX12_leaving_26 (by decide) ?_
    obtain ⟨x6, σ4, hc5, h⟩ := cI_t h
    refine J_cVi (pc := 27) (ctX12_refuse l E o (1 : Int32) ho σ1 hc5) dX12_leaving_27 mlX12_83 mvX12_refuse ho rfl (by decide) rfl (Nat.le_of_ble_eq_true rfl) ?_
    cases h
    exact J_iret (pc := 30) dX12_leaving_30 rfl rfl
  · refine J_aload_n (pc := 12) 0 dX12_leaving_12 rfl ?_
    refine J_aload_n (pc := 13) 0 dX12_leaving_13 rfl ?_
    refine J_iload_n (pc := 14) 1 dX12_leaving_14 rfl ?_
    refine J_iconst (pc := 15) (0 : Int32) dX12_leaving_15 (by decide) ?_
    obtain ⟨x9, σ7, hc8, h⟩ := cI_t h
    refine J_cVi (pc := 16) (ctX12_leavingBy l E o a1 (0 : Int32) ho σ1 hc8) dX12_leaving_16 mlX12_387 mvX12_leavingBy ho rfl (by decide) rfl (Nat.le_of_ble_eq_true rfl) ?_
    obtain ⟨x12, σ10, hc11, h⟩ := cI_t h
    refine J_cVi (pc := 19) (ctX12_gives l E o x9 ho σ7 hc11) dX12_leaving_19 mlX12_87 mvX12_gives ho rfl (by decide) rfl (Nat.le_of_ble_eq_true rfl) ?_
    refine J_goto (pc := 22) 30 dX12_leaving_22 (by decide) ?_
    cases h
    exact J_iret (pc := 30) dX12_leaving_30 rfl rfl
def fX12_knowing_33 (o : Nat) (a1 : Int32) : Nat → Int32 → Int32 → Int32 → Mm → Option (Int32 × Mm)
  | 0, _, _, _, _ => none
  | n + 1, v2, v3, v4, σ => g_ar σ o 0 2950 (2 : Int32) (fun x13 => if x13 ≤ v4 then (c_I (fX12_orNone o v3 σ) (fun x16 σ14 => some (x16, σ14))) else (g_ar σ o 0 2950 (4 : Int32) (fun x17 => if ((x17 >>> (v4 &&& 31)) &&& (1 : Int32)) = (1 : Int32) then ((fX12_knowing_33 o a1 n) v2 v3 (v4 + (1 : Int32)) σ) else (c_I (fX12_leavingBy o a1 ((1 : Int32) <<< (v4 &&& 31)) σ) (fun x20 σ18 => c_I (fX12_bits x20 σ18) (fun x23 σ21 => if x23 < v2 then ((fX12_knowing_33 o a1 n) x23 v4 (v4 + (1 : Int32)) σ21) else ((fX12_knowing_33 o a1 n) v2 v3 (v4 + (1 : Int32)) σ21)))))))
set_option maxRecDepth 100000 in
set_option maxHeartbeats 4000000 in
theorem tX12_knowing_33 (l : Launch) (E : EV) {xr : Int32} {τ : Mm} (o : Nat) (a1 : Int32) (ho : KD o = 12) : ∀ (n : Nat) (v2 : Int32) (v3 : Int32) (v4 : Int32) (σ : Mm), fX12_knowing_33 o a1 n v2 v3 v4 σ = some (xr, τ) → Jd l E mX12_knowing 7 (some (.int xr), τ) σ 33 [(0, .ref (e_a E o 0)), (1, .int a1), (2, .int v2), (3, .int v3), (4, .int v4)] [] := by
  intro n
  induction n with
  | zero => intro v2 v3 v4 σ h; rw [fX12_knowing_33] at h; cases h
  | succ n ih =>
    intro v2 v3 v4 σ h
    rw [fX12_knowing_33] at h
    refine J_iload (pc := 33) 4 dX12_knowing_33 rfl ?_
    refine J_aload_n (pc := 35) 0 dX12_knowing_35 rfl ?_
    refine J_getA (pc := 36) dX12_knowing_36 ho flX12_7 rfl ?_
    refine J_iconst (pc := 39) (2 : Int32) dX12_knowing_39 (by decide) ?_
    refine J_iald (pc := 40) dX12_knowing_40 ho ha12_0 h (fun x13 h => ?_)
    refine J_icmp_ge (pc := 41) 97 dX12_knowing_41 (by decide) h (fun h => ?_) (fun h => ?_)
    · refine J_aload_n (pc := 97) 0 dX12_knowing_97 rfl ?_
      refine J_iload_n (pc := 98) 3 dX12_knowing_98 rfl ?_
      obtain ⟨x16, σ14, hc15, h⟩ := cI_t h
      refine J_cVi (pc := 99) (ctX12_orNone l E o v3 ho σ hc15) dX12_knowing_99 mlX12_370 mvX12_orNone ho rfl (by decide) rfl (Nat.le_of_ble_eq_true rfl) ?_
      cases h
      exact J_iret (pc := 102) dX12_knowing_102 rfl rfl
    · refine J_aload_n (pc := 44) 0 dX12_knowing_44 rfl ?_
      refine J_getA (pc := 45) dX12_knowing_45 ho flX12_7 rfl ?_
      refine J_iconst (pc := 48) (4 : Int32) dX12_knowing_48 (by decide) ?_
      refine J_iald (pc := 49) dX12_knowing_49 ho ha12_0 h (fun x17 h => ?_)
      refine J_iload (pc := 50) 4 dX12_knowing_50 rfl ?_
      refine J_ishr (pc := 52) dX12_knowing_52 ?_
      refine J_iconst (pc := 53) (1 : Int32) dX12_knowing_53 (by decide) ?_
      refine J_iand (pc := 54) dX12_knowing_54 ?_
      refine J_iconst (pc := 55) (1 : Int32) dX12_knowing_55 (by decide) ?_
      refine J_icmp_ne (pc := 56) 62 dX12_knowing_56 (by decide) h (fun h => ?_) (fun h => ?_)
      · refine J_aload_n (pc := 62) 0 dX12_knowing_62 rfl ?_
        refine J_iload_n (pc := 63) 1 dX12_knowing_63 rfl ?_
        refine J_iconst (pc := 64) (1 : Int32) dX12_knowing_64 (by decide) ?_
        refine J_iload (pc := 65) 4 dX12_knowing_65 rfl ?_
        refine J_ishl (pc := 67) dX12_knowing_67 ?_
        obtain ⟨x20, σ18, hc19, h⟩ := cI_t h
        refine J_cVi (pc := 68) (ctX12_leavingBy l E o a1 ((1 : Int32) <<< (v4 &&& 31)) ho σ hc19) dX12_knowing_68 mlX12_387 mvX12_leavingBy ho rfl (by decide) rfl (Nat.le_of_ble_eq_true rfl) ?_
        obtain ⟨x23, σ21, hc22, h⟩ := cI_t h
        refine J_cSi (pc := 71) (ctX12_bits l E x20 σ18 hc22) dX12_knowing_71 mlX12_373 msX12_bits rfl (by decide) rfl (Nat.le_of_ble_eq_true rfl) ?_
        refine J_istore (pc := 74) (L' := [(5, .int x23), (0, .ref (e_a E o 0)), (1, .int a1), (2, .int v2), (3, .int v3), (4, .int v4)]) dX12_knowing_74 (by decide) rfl ?_
        refine J_iload (pc := 76) 0 dX12_knowing_76 rfl ?_
        refine J_iload_n (pc := 78) 3 dX12_knowing_78 rfl ?_
        refine J_icmp_lt (pc := 79) 85 dX12_knowing_79 (by decide) h (fun h => ?_) (fun h => ?_)
        · refine J_iload (pc := 85) 0 dX12_knowing_85 rfl ?_
          refine J_istore_n (pc := 87) (L' := [(2, .int x23), (5, .int x23), (0, .ref (e_a E o 0)), (1, .int a1), (3, .int v3), (4, .int v4)]) dX12_knowing_87 (by decide) rfl ?_
          refine J_iload (pc := 88) 5 dX12_knowing_88 rfl ?_
          refine J_istore_n (pc := 90) (L' := [(3, .int v4), (2, .int x23), (5, .int x23), (0, .ref (e_a E o 0)), (1, .int a1), (4, .int v4)]) dX12_knowing_90 (by decide) rfl ?_
          refine J_iinc (pc := 91) (L' := [(4, .int (v4 + (1 : Int32))), (3, .int v4), (2, .int x23), (5, .int x23), (0, .ref (e_a E o 0)), (1, .int a1)]) 5 (v4 + (1 : Int32)) dX12_knowing_91 rfl (by rfl) (by decide) rfl ?_
          refine J_goto (pc := 94) 33 dX12_knowing_94 (by decide) ?_
          refine J_sub (L' := [(0, .ref (e_a E o 0)), (1, .int a1), (2, .int x23), (3, .int v4), (4, .int (v4 + (1 : Int32)))]) [4, 5, 2, 1, 0] rfl ?_
          exact ih x23 v4 (v4 + (1 : Int32)) σ21 h
        · refine J_goto (pc := 82) 91 dX12_knowing_82 (by decide) ?_
          refine J_iinc (pc := 91) (L' := [(4, .int (v4 + (1 : Int32))), (5, .int x23), (0, .ref (e_a E o 0)), (1, .int a1), (2, .int v2), (3, .int v3)]) 5 (v4 + (1 : Int32)) dX12_knowing_91 rfl (by rfl) (by decide) rfl ?_
          refine J_goto (pc := 94) 33 dX12_knowing_94 (by decide) ?_
          refine J_sub (L' := [(0, .ref (e_a E o 0)), (1, .int a1), (2, .int v2), (3, .int v3), (4, .int (v4 + (1 : Int32)))]) [2, 3, 4, 5, 0] rfl ?_
          exact ih v2 v3 (v4 + (1 : Int32)) σ21 h
      · refine J_goto (pc := 59) 91 dX12_knowing_59 (by decide) ?_
        refine J_iinc (pc := 91) (L' := [(4, .int (v4 + (1 : Int32))), (0, .ref (e_a E o 0)), (1, .int a1), (2, .int v2), (3, .int v3)]) 4 (v4 + (1 : Int32)) dX12_knowing_91 rfl (by rfl) (by decide) rfl ?_
        refine J_goto (pc := 94) 33 dX12_knowing_94 (by decide) ?_
        refine J_sub (L' := [(0, .ref (e_a E o 0)), (1, .int a1), (2, .int v2), (3, .int v3), (4, .int (v4 + (1 : Int32)))]) [1, 2, 3, 4, 0] rfl ?_
        exact ih v2 v3 (v4 + (1 : Int32)) σ h
def fX12_knowing (o : Nat) (a1 : Int32) (σ : Mm) : Option (Int32 × Mm) := c_I (fX12_isFrom a1.toInt64 (1 : Int64) (99 : Int64) σ) (fun x3 σ1 => if x3 = 0 then (c_I (fX12_refuse o (1 : Int32) σ1) (fun x12 σ10 => some (x12, σ10))) else (c_I (fX12_leavingBy o a1 (0 : Int32) σ1) (fun x6 σ4 => c_I (fX12_bits x6 σ4) (fun x9 σ7 => fX12_knowing_33 o a1 FU x9 (-1 : Int32) (0 : Int32) σ7))))
set_option maxRecDepth 100000 in
set_option maxHeartbeats 4000000 in
theorem ctX12_knowing (l : Launch) (E : EV) (o : Nat) (a1 : Int32) (ho : KD o = 12) (σ : Mm) {xr : Int32} {τ : Mm} (h : fX12_knowing o a1 σ = some (xr, τ)) : Ct l E mX12_knowing 7 [.ref (e_a E o 0), .int a1] σ (some (.int xr), τ) := by
  refine Ct.of (by decide +kernel) (Nat.le_of_ble_eq_true rfl) ?_
  show Jd l E mX12_knowing 7 (some (.int xr), τ) σ 0 [(0, .ref (e_a E o 0)), (1, .int a1)] []
  unfold fX12_knowing at h
  refine J_iload_n (pc := 0) 1 dX12_knowing_0 rfl ?_
  refine J_i2l (pc := 1) dX12_knowing_1 ?_
  refine J_lconst (pc := 2) (1 : Int64) dX12_knowing_2 (by decide) ?_
  refine J_ldc2 (pc := 3) (99 : Int64) dX12_knowing_3 klX12_319 ?_
  obtain ⟨x3, σ1, hc2, h⟩ := cI_t h
  refine J_cSi (pc := 6) (ctX12_isFrom l E a1.toInt64 (1 : Int64) (99 : Int64) σ hc2) dX12_knowing_6 mlX12_321 msX12_isFrom rfl (by decide) rfl (Nat.le_of_ble_eq_true rfl) ?_
  refine J_if_ne (pc := 9) 18 dX12_knowing_9 (by decide) h (fun h => ?_) (fun h => ?_)
  · refine J_aload_n (pc := 18) 0 dX12_knowing_18 rfl ?_
    refine J_iload_n (pc := 19) 1 dX12_knowing_19 rfl ?_
    refine J_iconst (pc := 20) (0 : Int32) dX12_knowing_20 (by decide) ?_
    obtain ⟨x6, σ4, hc5, h⟩ := cI_t h
    refine J_cVi (pc := 21) (ctX12_leavingBy l E o a1 (0 : Int32) ho σ1 hc5) dX12_knowing_21 mlX12_387 mvX12_leavingBy ho rfl (by decide) rfl (Nat.le_of_ble_eq_true rfl) ?_
    obtain ⟨x9, σ7, hc8, h⟩ := cI_t h
    refine J_cSi (pc := 24) (ctX12_bits l E x6 σ4 hc8) dX12_knowing_24 mlX12_373 msX12_bits rfl (by decide) rfl (Nat.le_of_ble_eq_true rfl) ?_
    refine J_istore_n (pc := 27) (L' := [(2, .int x9), (0, .ref (e_a E o 0)), (1, .int a1)]) dX12_knowing_27 (by decide) rfl ?_
    refine J_iconst (pc := 28) (-1 : Int32) dX12_knowing_28 (by decide) ?_
    refine J_istore_n (pc := 29) (L' := [(3, .int (-1 : Int32)), (2, .int x9), (0, .ref (e_a E o 0)), (1, .int a1)]) dX12_knowing_29 (by decide) rfl ?_
    refine J_iconst (pc := 30) (0 : Int32) dX12_knowing_30 (by decide) ?_
    refine J_istore (pc := 31) (L' := [(4, .int (0 : Int32)), (3, .int (-1 : Int32)), (2, .int x9), (0, .ref (e_a E o 0)), (1, .int a1)]) dX12_knowing_31 (by decide) rfl ?_
    refine J_sub (L' := [(0, .ref (e_a E o 0)), (1, .int a1), (2, .int x9), (3, .int (-1 : Int32)), (4, .int (0 : Int32))]) [3, 4, 2, 1, 0] rfl ?_
    exact tX12_knowing_33 l E o a1 ho FU x9 (-1 : Int32) (0 : Int32) σ7 h
  · refine J_aload_n (pc := 12) 0 dX12_knowing_12 rfl ?_
    refine J_iconst (pc := 13) (1 : Int32) dX12_knowing_13 (by decide) ?_
    obtain ⟨x12, σ10, hc11, h⟩ := cI_t h
    refine J_cVi (pc := 14) (ctX12_refuse l E o (1 : Int32) ho σ1 hc11) dX12_knowing_14 mlX12_83 mvX12_refuse ho rfl (by decide) rfl (Nat.le_of_ble_eq_true rfl) ?_
    cases h
    exact J_iret (pc := 17) dX12_knowing_17 rfl rfl
def fX12_wrongRows_54 (o : Nat) (a1 : Int32) (a2 : Int32) : Nat → Int32 → Mm → Option (Int32 × Mm)
  | 0, _, _ => none
  | n + 1, v3, σ => g_ar σ o 0 2950 (1 : Int32) (fun x10 => if (a2 * x10) ≤ v3 then (some ((0 : Int32), σ)) else (g_la σ o 4 240 (((60 : Int32) * a1) + v3) (fun x11 => g_ar σ o 0 2950 (1 : Int32) (fun x12 => n_z x12 (g_ar σ o 0 2950 ((20 : Int32) + ((6 : Int32) * (v3 - v3 / x12 * x12))) (fun x13 => c_I (fX12_isFrom x11 (0 : Int64) (x13 - (1 : Int32)).toInt64 σ) (fun x16 σ14 => if x16 = 0 then (some ((5 : Int32), σ14)) else ((fX12_wrongRows_54 o a1 a2 n) (v3 + (1 : Int32)) σ14))))))))
set_option maxRecDepth 100000 in
set_option maxHeartbeats 4000000 in
theorem tX12_wrongRows_54 (l : Launch) (E : EV) {xr : Int32} {τ : Mm} (o : Nat) (a1 : Int32) (a2 : Int32) (ho : KD o = 12) : ∀ (n : Nat) (v3 : Int32) (σ : Mm), fX12_wrongRows_54 o a1 a2 n v3 σ = some (xr, τ) → Jd l E mX12_wrongRows 1 (some (.int xr), τ) σ 54 [(0, .ref (e_a E o 0)), (1, .int a1), (2, .int a2), (3, .int v3)] [] := by
  intro n
  induction n with
  | zero => intro v3 σ h; rw [fX12_wrongRows_54] at h; cases h
  | succ n ih =>
    intro v3 σ h
    rw [fX12_wrongRows_54] at h
    refine J_iload_n (pc := 54) 3 dX12_wrongRows_54 rfl ?_
    refine J_iload_n (pc := 55) 2 dX12_wrongRows_55 rfl ?_
    refine J_aload_n (pc := 56) 0 dX12_wrongRows_56 rfl ?_
    refine J_getA (pc := 57) dX12_wrongRows_57 ho flX12_7 rfl ?_
    refine J_iconst (pc := 60) (1 : Int32) dX12_wrongRows_60 (by decide) ?_
    refine J_iald (pc := 61) dX12_wrongRows_61 ho ha12_0 h (fun x10 h => ?_)
    refine J_imul (pc := 62) dX12_wrongRows_62 ?_
    refine J_icmp_ge (pc := 63) 114 dX12_wrongRows_63 (by decide) h (fun h => ?_) (fun h => ?_)
    · refine J_iconst (pc := 114) (0 : Int32) dX12_wrongRows_114 (by decide) ?_
      cases h
      exact J_iret (pc := 115) dX12_wrongRows_115 rfl rfl
    · refine J_aload_n (pc := 66) 0 dX12_wrongRows_66 rfl ?_
      refine J_getA (pc := 67) dX12_wrongRows_67 ho flX12_27 rfl ?_
      refine J_bipush (pc := 70) (60 : Int32) dX12_wrongRows_70 (by decide) ?_
      refine J_iload_n (pc := 72) 1 dX12_wrongRows_72 rfl ?_
      refine J_imul (pc := 73) dX12_wrongRows_73 ?_
      refine J_iload_n (pc := 74) 3 dX12_wrongRows_74 rfl ?_
      refine J_iadd (pc := 75) dX12_wrongRows_75 ?_
      refine J_lald (pc := 76) dX12_wrongRows_76 ho ha12_4 h (fun x11 h => ?_)
      refine J_lconst (pc := 77) (0 : Int64) dX12_wrongRows_77 (by decide) ?_
      refine J_aload_n (pc := 78) 0 dX12_wrongRows_78 rfl ?_
      refine J_getA (pc := 79) dX12_wrongRows_79 ho flX12_7 rfl ?_
      refine J_bipush (pc := 82) (20 : Int32) dX12_wrongRows_82 (by decide) ?_
      refine J_bipush (pc := 84) (6 : Int32) dX12_wrongRows_84 (by decide) ?_
      refine J_iload_n (pc := 86) 3 dX12_wrongRows_86 rfl ?_
      refine J_aload_n (pc := 87) 0 dX12_wrongRows_87 rfl ?_
      refine J_getA (pc := 88) dX12_wrongRows_88 ho flX12_7 rfl ?_
      refine J_iconst (pc := 91) (1 : Int32) dX12_wrongRows_91 (by decide) ?_
      refine J_iald (pc := 92) dX12_wrongRows_92 ho ha12_0 h (fun x12 h => ?_)
      obtain ⟨hz17, h⟩ := nz_t h
      refine J_irem (pc := 93) dX12_wrongRows_93 hz17 ?_
      refine J_imul (pc := 94) dX12_wrongRows_94 ?_
      refine J_iadd (pc := 95) dX12_wrongRows_95 ?_
      refine J_iald (pc := 96) dX12_wrongRows_96 ho ha12_0 h (fun x13 h => ?_)
      refine J_iconst (pc := 97) (1 : Int32) dX12_wrongRows_97 (by decide) ?_
      refine J_isub (pc := 98) dX12_wrongRows_98 ?_
      refine J_i2l (pc := 99) dX12_wrongRows_99 ?_
      obtain ⟨x16, σ14, hc15, h⟩ := cI_t h
      refine J_cSi (pc := 100) (ctX12_isFrom l E x11 (0 : Int64) (x13 - (1 : Int32)).toInt64 σ hc15) dX12_wrongRows_100 mlX12_321 msX12_isFrom rfl (by decide) rfl (Nat.le_of_ble_eq_true rfl) ?_
      refine J_if_ne (pc := 103) 108 dX12_wrongRows_103 (by decide) h (fun h => ?_) (fun h => ?_)
      · refine J_iinc (pc := 108) (L' := [(3, .int (v3 + (1 : Int32))), (0, .ref (e_a E o 0)), (1, .int a1), (2, .int a2)]) 3 (v3 + (1 : Int32)) dX12_wrongRows_108 rfl (by rfl) (by decide) rfl ?_
        refine J_goto (pc := 111) 54 dX12_wrongRows_111 (by decide) ?_
        refine J_sub (L' := [(0, .ref (e_a E o 0)), (1, .int a1), (2, .int a2), (3, .int (v3 + (1 : Int32)))]) [1, 2, 3, 0] rfl ?_
        exact ih (v3 + (1 : Int32)) σ14 h
      · refine J_iconst (pc := 106) (5 : Int32) dX12_wrongRows_106 (by decide) ?_
        cases h
        exact J_iret (pc := 107) dX12_wrongRows_107 rfl rfl
def fX12_wrongRows (o : Nat) (a1 : Int32) (a2 : Int32) (σ : Mm) : Option (Int32 × Mm) := c_I (fX12_isTray a1 σ) (fun x3 σ1 => if x3 = 0 then (some ((1 : Int32), σ1)) else (c_I (fX12_isFrom a2.toInt64 (1 : Int64) (15 : Int64) σ1) (fun x6 σ4 => if x6 = 0 then (some ((1 : Int32), σ4)) else (g_ar σ4 o 3 4 a1 (fun x7 => if x7 = (-1 : Int32) then (some ((2 : Int32), σ4)) else (g_ar σ4 o 3 4 a1 (fun x8 => g_ar σ4 o 0 2950 (1 : Int32) (fun x9 => if (a2 * x9) ≤ x8 then (fX12_wrongRows_54 o a1 a2 FU (0 : Int32) σ4) else (some ((3 : Int32), σ4))))))))))
set_option maxRecDepth 100000 in
set_option maxHeartbeats 4000000 in
theorem ctX12_wrongRows (l : Launch) (E : EV) (o : Nat) (a1 : Int32) (a2 : Int32) (ho : KD o = 12) (σ : Mm) {xr : Int32} {τ : Mm} (h : fX12_wrongRows o a1 a2 σ = some (xr, τ)) : Ct l E mX12_wrongRows 1 [.ref (e_a E o 0), .int a1, .int a2] σ (some (.int xr), τ) := by
  refine Ct.of (by decide +kernel) (Nat.le_of_ble_eq_true rfl) ?_
  show Jd l E mX12_wrongRows 1 (some (.int xr), τ) σ 0 [(0, .ref (e_a E o 0)), (1, .int a1), (2, .int a2)] []
  unfold fX12_wrongRows at h
  refine J_iload_n (pc := 0) 1 dX12_wrongRows_0 rfl ?_
  obtain ⟨x3, σ1, hc2, h⟩ := cI_t h
  refine J_cSi (pc := 1) (ctX12_isTray l E a1 σ hc2) dX12_wrongRows_1 mlX12_94 msX12_isTray rfl (by decide) rfl (Nat.le_of_ble_eq_true rfl) ?_
  refine J_if_eq (pc := 4) 19 dX12_wrongRows_4 (by decide) h (fun h => ?_) (fun h => ?_)
  · refine J_iconst (pc := 19) (1 : Int32) dX12_wrongRows_19 (by decide) ?_
    cases h
    exact J_iret (pc := 20) dX12_wrongRows_20 rfl rfl
  · refine J_iload_n (pc := 7) 2 dX12_wrongRows_7 rfl ?_
    refine J_i2l (pc := 8) dX12_wrongRows_8 ?_
    refine J_lconst (pc := 9) (1 : Int64) dX12_wrongRows_9 (by decide) ?_
    refine J_ldc2 (pc := 10) (15 : Int64) dX12_wrongRows_10 klX12_390 ?_
    obtain ⟨x6, σ4, hc5, h⟩ := cI_t h
    refine J_cSi (pc := 13) (ctX12_isFrom l E a2.toInt64 (1 : Int64) (15 : Int64) σ1 hc5) dX12_wrongRows_13 mlX12_321 msX12_isFrom rfl (by decide) rfl (Nat.le_of_ble_eq_true rfl) ?_
    refine J_if_ne (pc := 16) 21 dX12_wrongRows_16 (by decide) h (fun h => ?_) (fun h => ?_)
    · refine J_aload_n (pc := 21) 0 dX12_wrongRows_21 rfl ?_
      refine J_getA (pc := 22) dX12_wrongRows_22 ho flX12_24 rfl ?_
      refine J_iload_n (pc := 25) 1 dX12_wrongRows_25 rfl ?_
      refine J_iald (pc := 26) dX12_wrongRows_26 ho ha12_3 h (fun x7 h => ?_)
      refine J_iconst (pc := 27) (-1 : Int32) dX12_wrongRows_27 (by decide) ?_
      refine J_icmp_ne (pc := 28) 33 dX12_wrongRows_28 (by decide) h (fun h => ?_) (fun h => ?_)
      · refine J_aload_n (pc := 33) 0 dX12_wrongRows_33 rfl ?_
        refine J_getA (pc := 34) dX12_wrongRows_34 ho flX12_24 rfl ?_
        refine J_iload_n (pc := 37) 1 dX12_wrongRows_37 rfl ?_
        refine J_iald (pc := 38) dX12_wrongRows_38 ho ha12_3 h (fun x8 h => ?_)
        refine J_iload_n (pc := 39) 2 dX12_wrongRows_39 rfl ?_
        refine J_aload_n (pc := 40) 0 dX12_wrongRows_40 rfl ?_
        refine J_getA (pc := 41) dX12_wrongRows_41 ho flX12_7 rfl ?_
        refine J_iconst (pc := 44) (1 : Int32) dX12_wrongRows_44 (by decide) ?_
        refine J_iald (pc := 45) dX12_wrongRows_45 ho ha12_0 h (fun x9 h => ?_)
        refine J_imul (pc := 46) dX12_wrongRows_46 ?_
        refine J_icmp_ge (pc := 47) 52 dX12_wrongRows_47 (by decide) h (fun h => ?_) (fun h => ?_)
        · refine J_iconst (pc := 52) (0 : Int32) dX12_wrongRows_52 (by decide) ?_
          refine J_istore_n (pc := 53) (L' := [(3, .int (0 : Int32)), (0, .ref (e_a E o 0)), (1, .int a1), (2, .int a2)]) dX12_wrongRows_53 (by decide) rfl ?_
          refine J_sub (L' := [(0, .ref (e_a E o 0)), (1, .int a1), (2, .int a2), (3, .int (0 : Int32))]) [1, 2, 3, 0] rfl ?_
          exact tX12_wrongRows_54 l E o a1 a2 ho FU (0 : Int32) σ4 h
        · refine J_iconst (pc := 50) (3 : Int32) dX12_wrongRows_50 (by decide) ?_
          cases h
          exact J_iret (pc := 51) dX12_wrongRows_51 rfl rfl
      · refine J_iconst (pc := 31) (2 : Int32) dX12_wrongRows_31 (by decide) ?_
        cases h
        exact J_iret (pc := 32) dX12_wrongRows_32 rfl rfl
    · refine J_iconst (pc := 19) (1 : Int32) dX12_wrongRows_19 (by decide) ?_
      cases h
      exact J_iret (pc := 20) dX12_wrongRows_20 rfl rfl
def fX12_isSeen_36 (o : Nat) (a1 : Int32) (a2 : Int32) (a3 : Int32) (k19 : Int32 → Mm → Option (Int32 × Mm)) : Nat → Int32 → Int32 → Mm → Option (Int32 × Mm)
  | 0, _, _, _ => none
  | n + 1, v4, v5, σ => g_ar σ o 0 2950 (1 : Int32) (fun x9 => if x9 ≤ v5 then (k19 (v4 + (1 : Int32)) σ) else (g_ar σ o 0 2950 (1 : Int32) (fun x10 => g_la σ o 4 240 ((((60 : Int32) * a1) + (v4 * x10)) + v5) (fun x11 => c_I (fX12_vaneAt o v5 (3 : Int32) σ) (fun x14 σ12 => if (lg_cmp x11 x14.toInt64) = 0 then ((fX12_isSeen_36 o a1 a2 a3 k19 n) v4 (v5 + (1 : Int32)) σ12) else (some ((0 : Int32), σ12)))))))
set_option maxRecDepth 100000 in
set_option maxHeartbeats 4000000 in
theorem tX12_isSeen_36 (l : Launch) (E : EV) {xr : Int32} {τ : Mm} (o : Nat) (a1 : Int32) (a2 : Int32) (a3 : Int32) (ho : KD o = 12) (k19 : Int32 → Mm → Option (Int32 × Mm)) (hk19 : ∀ (v4 : Int32) (σ : Mm), k19 v4 σ = some (xr, τ) → Jd l E mX12_isSeen 6 (some (.int xr), τ) σ 19 [(0, .ref (e_a E o 0)), (1, .int a1), (2, .int a2), (4, .int v4)] []) : ∀ (n : Nat) (v4 : Int32) (v5 : Int32) (σ : Mm), fX12_isSeen_36 o a1 a2 a3 k19 n v4 v5 σ = some (xr, τ) → Jd l E mX12_isSeen 6 (some (.int xr), τ) σ 36 [(0, .ref (e_a E o 0)), (1, .int a1), (2, .int a2), (4, .int v4), (5, .int v5)] [] := by
  intro n
  induction n with
  | zero => intro v4 v5 σ h; rw [fX12_isSeen_36] at h; cases h
  | succ n ih =>
    intro v4 v5 σ h
    rw [fX12_isSeen_36] at h
    refine J_iload (pc := 36) 4 dX12_isSeen_36 rfl ?_
    refine J_aload_n (pc := 38) 0 dX12_isSeen_38 rfl ?_
    refine J_getA (pc := 39) dX12_isSeen_39 ho flX12_7 rfl ?_
    refine J_iconst (pc := 42) (1 : Int32) dX12_isSeen_42 (by decide) ?_
    refine J_iald (pc := 43) dX12_isSeen_43 ho ha12_0 h (fun x9 h => ?_)
    refine J_icmp_ge (pc := 44) 89 dX12_isSeen_44 (by decide) h (fun h => ?_) (fun h => ?_)
    · refine J_iinc (pc := 89) (L' := [(4, .int (v4 + (1 : Int32))), (0, .ref (e_a E o 0)), (1, .int a1), (2, .int a2), (5, .int v5)]) 3 (v4 + (1 : Int32)) dX12_isSeen_89 rfl (by rfl) (by decide) rfl ?_
      refine J_goto (pc := 92) 19 dX12_isSeen_92 (by decide) ?_
      refine J_sub (L' := [(0, .ref (e_a E o 0)), (1, .int a1), (2, .int a2), (4, .int (v4 + (1 : Int32)))]) [1, 2, 3, 0] rfl ?_
      exact hk19 (v4 + (1 : Int32)) σ h
    · refine J_aload_n (pc := 47) 0 dX12_isSeen_47 rfl ?_
      refine J_getA (pc := 48) dX12_isSeen_48 ho flX12_27 rfl ?_
      refine J_bipush (pc := 51) (60 : Int32) dX12_isSeen_51 (by decide) ?_
      refine J_iload_n (pc := 53) 1 dX12_isSeen_53 rfl ?_
      refine J_imul (pc := 54) dX12_isSeen_54 ?_
      refine J_iload (pc := 55) 3 dX12_isSeen_55 rfl ?_
      refine J_aload_n (pc := 57) 0 dX12_isSeen_57 rfl ?_
      refine J_getA (pc := 58) dX12_isSeen_58 ho flX12_7 rfl ?_
      refine J_iconst (pc := 61) (1 : Int32) dX12_isSeen_61 (by decide) ?_
      refine J_iald (pc := 62) dX12_isSeen_62 ho ha12_0 h (fun x10 h => ?_)
      refine J_imul (pc := 63) dX12_isSeen_63 ?_
      refine J_iadd (pc := 64) dX12_isSeen_64 ?_
      refine J_iload (pc := 65) 4 dX12_isSeen_65 rfl ?_
      refine J_iadd (pc := 67) dX12_isSeen_67 ?_
      refine J_lald (pc := 68) dX12_isSeen_68 ho ha12_4 h (fun x11 h => ?_)
      refine J_aload_n (pc := 69) 0 dX12_isSeen_69 rfl ?_
      refine J_iload (pc := 70) 4 dX12_isSeen_70 rfl ?_
      refine J_iconst (pc := 72) (3 : Int32) dX12_isSeen_72 (by decide) ?_
      obtain ⟨x14, σ12, hc13, h⟩ := cI_t h
      refine J_cVi (pc := 73) (ctX12_vaneAt l E o v5 (3 : Int32) ho σ hc13) dX12_isSeen_73 mlX12_249 mvX12_vaneAt ho rfl (by decide) rfl (Nat.le_of_ble_eq_true rfl) ?_
      refine J_i2l (pc := 76) dX12_isSeen_76 ?_
      refine J_lcmp (pc := 77) dX12_isSeen_77 ?_
      refine J_if_eq (pc := 78) 83 dX12_isSeen_78 (by decide) h (fun h => ?_) (fun h => ?_)
      · refine J_iinc (pc := 83) (L' := [(5, .int (v5 + (1 : Int32))), (0, .ref (e_a E o 0)), (1, .int a1), (2, .int a2), (4, .int v4)]) 4 (v5 + (1 : Int32)) dX12_isSeen_83 rfl (by rfl) (by decide) rfl ?_
        refine J_goto (pc := 86) 36 dX12_isSeen_86 (by decide) ?_
        refine J_sub (L' := [(0, .ref (e_a E o 0)), (1, .int a1), (2, .int a2), (4, .int v4), (5, .int (v5 + (1 : Int32)))]) [1, 2, 3, 4, 0] rfl ?_
        exact ih v4 (v5 + (1 : Int32)) σ12 h
      · refine J_iconst (pc := 81) (0 : Int32) dX12_isSeen_81 (by decide) ?_
        cases h
        exact J_iret (pc := 82) dX12_isSeen_82 rfl rfl
def fX12_isSeen_19 (o : Nat) (a1 : Int32) (a2 : Int32) (a3 : Int32) : Nat → Int32 → Mm → Option (Int32 × Mm)
  | 0, _, _ => none
  | n + 1, v4, σ => if a2 ≤ v4 then (some ((1 : Int32), σ)) else (c_I (fX12_quarterGoes o σ) (fun x7 σ5 => p_bz σ5 o 29 x7 (fun σ8 => fX12_isSeen_36 o a1 a2 a3 (fX12_isSeen_19 o a1 a2 a3 n) FU v4 (0 : Int32) σ8)))
set_option maxRecDepth 100000 in
set_option maxHeartbeats 4000000 in
theorem tX12_isSeen_19 (l : Launch) (E : EV) {xr : Int32} {τ : Mm} (o : Nat) (a1 : Int32) (a2 : Int32) (a3 : Int32) (ho : KD o = 12) : ∀ (n : Nat) (v4 : Int32) (σ : Mm), fX12_isSeen_19 o a1 a2 a3 n v4 σ = some (xr, τ) → Jd l E mX12_isSeen 6 (some (.int xr), τ) σ 19 [(0, .ref (e_a E o 0)), (1, .int a1), (2, .int a2), (4, .int v4)] [] := by
  intro n
  induction n with
  | zero => intro v4 σ h; rw [fX12_isSeen_19] at h; cases h
  | succ n ih =>
    intro v4 σ h
    rw [fX12_isSeen_19] at h
    refine J_iload (pc := 19) 3 dX12_isSeen_19 rfl ?_
    refine J_iload_n (pc := 21) 2 dX12_isSeen_21 rfl ?_
    refine J_icmp_ge (pc := 22) 95 dX12_isSeen_22 (by decide) h (fun h => ?_) (fun h => ?_)
    · refine J_iconst (pc := 95) (1 : Int32) dX12_isSeen_95 (by decide) ?_
      cases h
      exact J_iret (pc := 96) dX12_isSeen_96 rfl rfl
    · refine J_aload_n (pc := 25) 0 dX12_isSeen_25 rfl ?_
      refine J_aload_n (pc := 26) 0 dX12_isSeen_26 rfl ?_
      obtain ⟨x7, σ5, hc6, h⟩ := cI_t h
      refine J_cVi (pc := 27) (ctX12_quarterGoes l E o ho σ hc6) dX12_isSeen_27 mlX12_306 mvX12_quarterGoes ho rfl (by decide) rfl (Nat.le_of_ble_eq_true rfl) ?_
      refine J_putZ (pc := 30) dX12_isSeen_30 ho flX12_309 rfl h (fun σ8 h => ?_)
      refine J_iconst (pc := 33) (0 : Int32) dX12_isSeen_33 (by decide) ?_
      refine J_istore (pc := 34) (L' := [(5, .int (0 : Int32)), (0, .ref (e_a E o 0)), (1, .int a1), (2, .int a2), (4, .int v4)]) dX12_isSeen_34 (by decide) rfl ?_
      refine J_sub (L' := [(0, .ref (e_a E o 0)), (1, .int a1), (2, .int a2), (4, .int v4), (5, .int (0 : Int32))]) [1, 2, 3, 4, 0] rfl ?_
      exact tX12_isSeen_36 l E o a1 a2 a3 ho (fX12_isSeen_19 o a1 a2 a3 n) ih FU v4 (0 : Int32) σ8 h
def fX12_isSeen (o : Nat) (a1 : Int32) (a2 : Int32) (a3 : Int32) (σ : Mm) : Option (Int32 × Mm) := c_V (fX12_begins1 o σ) (fun σ1 => g_ar σ1 o 0 2950 (2454 : Int32) (fun x3 => s_ar σ1 o 0 2950 (2454 : Int32) (x3 ||| a3) (fun σ4 => fX12_isSeen_19 o a1 a2 a3 FU (0 : Int32) σ4)))
set_option maxRecDepth 100000 in
set_option maxHeartbeats 4000000 in
theorem ctX12_isSeen (l : Launch) (E : EV) (o : Nat) (a1 : Int32) (a2 : Int32) (a3 : Int32) (ho : KD o = 12) (σ : Mm) {xr : Int32} {τ : Mm} (h : fX12_isSeen o a1 a2 a3 σ = some (xr, τ)) : Ct l E mX12_isSeen 6 [.ref (e_a E o 0), .int a1, .int a2, .int a3] σ (some (.int xr), τ) := by
  refine Ct.of (by decide +kernel) (Nat.le_of_ble_eq_true rfl) ?_
  show Jd l E mX12_isSeen 6 (some (.int xr), τ) σ 0 [(0, .ref (e_a E o 0)), (1, .int a1), (2, .int a2), (3, .int a3)] []
  unfold fX12_isSeen at h
  refine J_aload_n (pc := 0) 0 dX12_isSeen_0 rfl ?_
  obtain ⟨σ1, hc2, h⟩ := cV_t h
  refine J_cVv (pc := 1) (ctX12_begins1 l E o ho σ hc2) dX12_isSeen_1 mlX12_325 mvX12_begins1 ho rfl (by decide) rfl (Nat.le_of_ble_eq_true rfl) ?_
  refine J_aload_n (pc := 4) 0 dX12_isSeen_4 rfl ?_
  refine J_getA (pc := 5) dX12_isSeen_5 ho flX12_7 rfl ?_
  refine J_sipush (pc := 8) (2454 : Int32) dX12_isSeen_8 (by decide) ?_
  refine J_dup2 (pc := 11) dX12_isSeen_11 rfl rfl ?_
  refine J_iald (pc := 12) dX12_isSeen_12 ho ha12_0 h (fun x3 h => ?_)
  refine J_iload_n (pc := 13) 3 dX12_isSeen_13 rfl ?_
  refine J_ior (pc := 14) dX12_isSeen_14 ?_
  refine J_iast (pc := 15) dX12_isSeen_15 ho ha12_0 h (fun σ4 h => ?_)
  refine J_iconst (pc := 16) (0 : Int32) dX12_isSeen_16 (by decide) ?_
  refine J_istore (pc := 17) (L' := [(4, .int (0 : Int32)), (0, .ref (e_a E o 0)), (1, .int a1), (2, .int a2), (3, .int a3)]) dX12_isSeen_17 (by decide) rfl ?_
  refine J_sub (L' := [(0, .ref (e_a E o 0)), (1, .int a1), (2, .int a2), (4, .int (0 : Int32))]) [1, 2, 3, 0] rfl ?_
  exact tX12_isSeen_19 l E o a1 a2 a3 ho FU (0 : Int32) σ4 h
def fX12_whole (o : Nat) (a1 : Int32) (a2 : Int32) (σ : Mm) : Option (Int32 × Mm) := c_I (fX12_wrongRows o a1 a2 σ) (fun x3 σ1 => if x3 ≤ 0 then (c_I (fX12_isSeen o a1 a2 (0 : Int32) σ1) (fun x6 σ4 => if x6 = 0 then (c_I (fX12_gives o (0 : Int32) σ4) (fun x9 σ7 => some (x9, σ7))) else (c_I (fX12_gives o (1 : Int32) σ4) (fun x12 σ10 => some (x12, σ10))))) else (c_I (fX12_refuse o x3 σ1) (fun x15 σ13 => some (x15, σ13))))
set_option maxRecDepth 100000 in
set_option maxHeartbeats 4000000 in
theorem ctX12_whole (l : Launch) (E : EV) (o : Nat) (a1 : Int32) (a2 : Int32) (ho : KD o = 12) (σ : Mm) {xr : Int32} {τ : Mm} (h : fX12_whole o a1 a2 σ = some (xr, τ)) : Ct l E mX12_whole 7 [.ref (e_a E o 0), .int a1, .int a2] σ (some (.int xr), τ) := by
  refine Ct.of (by decide +kernel) (Nat.le_of_ble_eq_true rfl) ?_
  show Jd l E mX12_whole 7 (some (.int xr), τ) σ 0 [(0, .ref (e_a E o 0)), (1, .int a1), (2, .int a2)] []
  unfold fX12_whole at h
  refine J_aload_n (pc := 0) 0 dX12_whole_0 rfl ?_
  refine J_iload_n (pc := 1) 1 dX12_whole_1 rfl ?_
  refine J_iload_n (pc := 2) 2 dX12_whole_2 rfl ?_
  obtain ⟨x3, σ1, hc2, h⟩ := cI_t h
  refine J_cVi (pc := 3) (ctX12_wrongRows l E o a1 a2 ho σ hc2) dX12_whole_3 mlX12_392 mvX12_wrongRows ho rfl (by decide) rfl (Nat.le_of_ble_eq_true rfl) ?_
  refine J_istore_n (pc := 6) (L' := [(3, .int x3), (0, .ref (e_a E o 0)), (1, .int a1), (2, .int a2)]) dX12_whole_6 (by decide) rfl ?_
  refine J_iload_n (pc := 7) 0 dX12_whole_7 rfl ?_
  refine J_if_le (pc := 8) 19 dX12_whole_8 (by decide) h (fun h => ?_) (fun h => ?_)
  · refine J_aload_n (pc := 19) 1 dX12_whole_19 rfl ?_
    refine J_aload_n (pc := 20) 1 dX12_whole_20 rfl ?_
    refine J_iload_n (pc := 21) 2 dX12_whole_21 rfl ?_
    refine J_iload_n (pc := 22) 3 dX12_whole_22 rfl ?_
    refine J_iconst (pc := 23) (0 : Int32) dX12_whole_23 (by decide) ?_
    obtain ⟨x6, σ4, hc5, h⟩ := cI_t h
    refine J_cVi (pc := 24) (ctX12_isSeen l E o a1 a2 (0 : Int32) ho σ1 hc5) dX12_whole_24 mlX12_395 mvX12_isSeen ho rfl (by decide) rfl (Nat.le_of_ble_eq_true rfl) ?_
    refine J_if_eq (pc := 27) 34 dX12_whole_27 (by decide) h (fun h => ?_) (fun h => ?_)
    · refine J_iconst (pc := 34) (0 : Int32) dX12_whole_34 (by decide) ?_
      obtain ⟨x9, σ7, hc8, h⟩ := cI_t h
      refine J_cVi (pc := 35) (ctX12_gives l E o (0 : Int32) ho σ4 hc8) dX12_whole_35 mlX12_87 mvX12_gives ho rfl (by decide) rfl (Nat.le_of_ble_eq_true rfl) ?_
      cases h
      exact J_iret (pc := 38) dX12_whole_38 rfl rfl
    · refine J_iconst (pc := 30) (1 : Int32) dX12_whole_30 (by decide) ?_
      refine J_goto (pc := 31) 35 dX12_whole_31 (by decide) ?_
      obtain ⟨x12, σ10, hc11, h⟩ := cI_t h
      refine J_cVi (pc := 35) (ctX12_gives l E o (1 : Int32) ho σ4 hc11) dX12_whole_35 mlX12_87 mvX12_gives ho rfl (by decide) rfl (Nat.le_of_ble_eq_true rfl) ?_
      cases h
      exact J_iret (pc := 38) dX12_whole_38 rfl rfl
  · refine J_aload_n (pc := 11) 1 dX12_whole_11 rfl ?_
    refine J_iload_n (pc := 12) 0 dX12_whole_12 rfl ?_
    obtain ⟨x15, σ13, hc14, h⟩ := cI_t h
    refine J_cVi (pc := 13) (ctX12_refuse l E o x3 ho σ1 hc14) dX12_whole_13 mlX12_83 mvX12_refuse ho rfl (by decide) rfl (Nat.le_of_ble_eq_true rfl) ?_
    refine J_goto (pc := 16) 38 dX12_whole_16 (by decide) ?_
    cases h
    exact J_iret (pc := 38) dX12_whole_38 rfl rfl
def fX12_broken_23 (o : Nat) (a1 : Int32) (a2 : Int32) : Nat → Int32 → Int32 → Mm → Option (Int32 × Mm)
  | 0, _, _, _ => none
  | n + 1, v4, v5, σ => g_ar σ o 0 2950 (2 : Int32) (fun x7 => if x7 ≤ v5 then (c_I (fX12_gives o v4 σ) (fun x10 σ8 => some (x10, σ8))) else (g_ar σ o 0 2950 (4 : Int32) (fun x11 => if ((x11 >>> (v5 &&& 31)) &&& (1 : Int32)) = 0 then (c_I (fX12_isSeen o a1 a2 ((1 : Int32) <<< (v5 &&& 31)) σ) (fun x14 σ12 => if x14 = 0 then ((fX12_broken_23 o a1 a2 n) (v4 ||| (0 : Int32)) (v5 + (1 : Int32)) σ12) else ((fX12_broken_23 o a1 a2 n) (v4 ||| ((1 : Int32) <<< (v5 &&& 31))) (v5 + (1 : Int32)) σ12))) else ((fX12_broken_23 o a1 a2 n) (v4 ||| (0 : Int32)) (v5 + (1 : Int32)) σ))))
set_option maxRecDepth 100000 in
set_option maxHeartbeats 4000000 in
theorem tX12_broken_23 (l : Launch) (E : EV) {xr : Int32} {τ : Mm} (o : Nat) (a1 : Int32) (a2 : Int32) (ho : KD o = 12) : ∀ (n : Nat) (v4 : Int32) (v5 : Int32) (σ : Mm), fX12_broken_23 o a1 a2 n v4 v5 σ = some (xr, τ) → Jd l E mX12_broken 7 (some (.int xr), τ) σ 23 [(0, .ref (e_a E o 0)), (1, .int a1), (2, .int a2), (4, .int v4), (5, .int v5)] [] := by
  intro n
  induction n with
  | zero => intro v4 v5 σ h; rw [fX12_broken_23] at h; cases h
  | succ n ih =>
    intro v4 v5 σ h
    rw [fX12_broken_23] at h
    refine J_iload (pc := 23) 4 dX12_broken_23 rfl ?_
    refine J_aload_n (pc := 25) 0 dX12_broken_25 rfl ?_
    refine J_getA (pc := 26) dX12_broken_26 ho flX12_7 rfl ?_
    refine J_iconst (pc := 29) (2 : Int32) dX12_broken_29 (by decide) ?_
    refine J_iald (pc := 30) dX12_broken_30 ho ha12_0 h (fun x7 h => ?_)
    refine J_icmp_ge (pc := 31) 80 dX12_broken_31 (by decide) h (fun h => ?_) (fun h => ?_)
    · refine J_aload_n (pc := 80) 0 dX12_broken_80 rfl ?_
      refine J_iload (pc := 81) 3 dX12_broken_81 rfl ?_
      obtain ⟨x10, σ8, hc9, h⟩ := cI_t h
      refine J_cVi (pc := 83) (ctX12_gives l E o v4 ho σ hc9) dX12_broken_83 mlX12_87 mvX12_gives ho rfl (by decide) rfl (Nat.le_of_ble_eq_true rfl) ?_
      cases h
      exact J_iret (pc := 86) dX12_broken_86 rfl rfl
    · refine J_iload (pc := 34) 3 dX12_broken_34 rfl ?_
      refine J_aload_n (pc := 36) 0 dX12_broken_36 rfl ?_
      refine J_getA (pc := 37) dX12_broken_37 ho flX12_7 rfl ?_
      refine J_iconst (pc := 40) (4 : Int32) dX12_broken_40 (by decide) ?_
      refine J_iald (pc := 41) dX12_broken_41 ho ha12_0 h (fun x11 h => ?_)
      refine J_iload (pc := 42) 4 dX12_broken_42 rfl ?_
      refine J_ishr (pc := 44) dX12_broken_44 ?_
      refine J_iconst (pc := 45) (1 : Int32) dX12_broken_45 (by decide) ?_
      refine J_iand (pc := 46) dX12_broken_46 ?_
      refine J_if_ne (pc := 47) 70 dX12_broken_47 (by decide) h (fun h => ?_) (fun h => ?_)
      · refine J_iconst (pc := 70) (0 : Int32) dX12_broken_70 (by decide) ?_
        refine J_ior (pc := 71) dX12_broken_71 ?_
        refine J_istore (pc := 72) (L' := [(4, .int (v4 ||| (0 : Int32))), (0, .ref (e_a E o 0)), (1, .int a1), (2, .int a2), (5, .int v5)]) dX12_broken_72 (by decide) rfl ?_
        refine J_iinc (pc := 74) (L' := [(5, .int (v5 + (1 : Int32))), (4, .int (v4 ||| (0 : Int32))), (0, .ref (e_a E o 0)), (1, .int a1), (2, .int a2)]) 4 (v5 + (1 : Int32)) dX12_broken_74 rfl (by rfl) (by decide) rfl ?_
        refine J_goto (pc := 77) 23 dX12_broken_77 (by decide) ?_
        refine J_sub (L' := [(0, .ref (e_a E o 0)), (1, .int a1), (2, .int a2), (4, .int (v4 ||| (0 : Int32))), (5, .int (v5 + (1 : Int32)))]) [2, 3, 4, 1, 0] rfl ?_
        exact ih (v4 ||| (0 : Int32)) (v5 + (1 : Int32)) σ h
      · refine J_aload_n (pc := 50) 0 dX12_broken_50 rfl ?_
        refine J_iload_n (pc := 51) 1 dX12_broken_51 rfl ?_
        refine J_iload_n (pc := 52) 2 dX12_broken_52 rfl ?_
        refine J_iconst (pc := 53) (1 : Int32) dX12_broken_53 (by decide) ?_
        refine J_iload (pc := 54) 4 dX12_broken_54 rfl ?_
        refine J_ishl (pc := 56) dX12_broken_56 ?_
        obtain ⟨x14, σ12, hc13, h⟩ := cI_t h
        refine J_cVi (pc := 57) (ctX12_isSeen l E o a1 a2 ((1 : Int32) <<< (v5 &&& 31)) ho σ hc13) dX12_broken_57 mlX12_395 mvX12_isSeen ho rfl (by decide) rfl (Nat.le_of_ble_eq_true rfl) ?_
        refine J_if_eq (pc := 60) 70 dX12_broken_60 (by decide) h (fun h => ?_) (fun h => ?_)
        · refine J_iconst (pc := 70) (0 : Int32) dX12_broken_70 (by decide) ?_
          refine J_ior (pc := 71) dX12_broken_71 ?_
          refine J_istore (pc := 72) (L' := [(4, .int (v4 ||| (0 : Int32))), (0, .ref (e_a E o 0)), (1, .int a1), (2, .int a2), (5, .int v5)]) dX12_broken_72 (by decide) rfl ?_
          refine J_iinc (pc := 74) (L' := [(5, .int (v5 + (1 : Int32))), (4, .int (v4 ||| (0 : Int32))), (0, .ref (e_a E o 0)), (1, .int a1), (2, .int a2)]) 4 (v5 + (1 : Int32)) dX12_broken_74 rfl (by rfl) (by decide) rfl ?_
          refine J_goto (pc := 77) 23 dX12_broken_77 (by decide) ?_
          refine J_sub (L' := [(0, .ref (e_a E o 0)), (1, .int a1), (2, .int a2), (4, .int (v4 ||| (0 : Int32))), (5, .int (v5 + (1 : Int32)))]) [2, 3, 4, 1, 0] rfl ?_
          exact ih (v4 ||| (0 : Int32)) (v5 + (1 : Int32)) σ12 h
        · refine J_iconst (pc := 63) (1 : Int32) dX12_broken_63 (by decide) ?_
          refine J_iload (pc := 64) 4 dX12_broken_64 rfl ?_
          refine J_ishl (pc := 66) dX12_broken_66 ?_
          refine J_goto (pc := 67) 71 dX12_broken_67 (by decide) ?_
          refine J_ior (pc := 71) dX12_broken_71 ?_
          refine J_istore (pc := 72) (L' := [(4, .int (v4 ||| ((1 : Int32) <<< (v5 &&& 31)))), (0, .ref (e_a E o 0)), (1, .int a1), (2, .int a2), (5, .int v5)]) dX12_broken_72 (by decide) rfl ?_
          refine J_iinc (pc := 74) (L' := [(5, .int (v5 + (1 : Int32))), (4, .int (v4 ||| ((1 : Int32) <<< (v5 &&& 31)))), (0, .ref (e_a E o 0)), (1, .int a1), (2, .int a2)]) 4 (v5 + (1 : Int32)) dX12_broken_74 rfl (by rfl) (by decide) rfl ?_
          refine J_goto (pc := 77) 23 dX12_broken_77 (by decide) ?_
          refine J_sub (L' := [(0, .ref (e_a E o 0)), (1, .int a1), (2, .int a2), (4, .int (v4 ||| ((1 : Int32) <<< (v5 &&& 31)))), (5, .int (v5 + (1 : Int32)))]) [2, 3, 4, 1, 0] rfl ?_
          exact ih (v4 ||| ((1 : Int32) <<< (v5 &&& 31))) (v5 + (1 : Int32)) σ12 h
def fX12_broken (o : Nat) (a1 : Int32) (a2 : Int32) (σ : Mm) : Option (Int32 × Mm) := c_I (fX12_wrongRows o a1 a2 σ) (fun x3 σ1 => if x3 ≤ 0 then (fX12_broken_23 o a1 a2 FU (0 : Int32) (0 : Int32) σ1) else (c_I (fX12_refuse o x3 σ1) (fun x6 σ4 => some (x6, σ4))))
set_option maxRecDepth 100000 in
set_option maxHeartbeats 4000000 in
theorem ctX12_broken (l : Launch) (E : EV) (o : Nat) (a1 : Int32) (a2 : Int32) (ho : KD o = 12) (σ : Mm) {xr : Int32} {τ : Mm} (h : fX12_broken o a1 a2 σ = some (xr, τ)) : Ct l E mX12_broken 7 [.ref (e_a E o 0), .int a1, .int a2] σ (some (.int xr), τ) := by
  refine Ct.of (by decide +kernel) (Nat.le_of_ble_eq_true rfl) ?_
  show Jd l E mX12_broken 7 (some (.int xr), τ) σ 0 [(0, .ref (e_a E o 0)), (1, .int a1), (2, .int a2)] []
  unfold fX12_broken at h
  refine J_aload_n (pc := 0) 0 dX12_broken_0 rfl ?_
  refine J_iload_n (pc := 1) 1 dX12_broken_1 rfl ?_
  refine J_iload_n (pc := 2) 2 dX12_broken_2 rfl ?_
  obtain ⟨x3, σ1, hc2, h⟩ := cI_t h
  refine J_cVi (pc := 3) (ctX12_wrongRows l E o a1 a2 ho σ hc2) dX12_broken_3 mlX12_392 mvX12_wrongRows ho rfl (by decide) rfl (Nat.le_of_ble_eq_true rfl) ?_
  refine J_istore_n (pc := 6) (L' := [(3, .int x3), (0, .ref (e_a E o 0)), (1, .int a1), (2, .int a2)]) dX12_broken_6 (by decide) rfl ?_
  refine J_iload_n (pc := 7) 0 dX12_broken_7 rfl ?_
  refine J_if_le (pc := 8) 17 dX12_broken_8 (by decide) h (fun h => ?_) (fun h => ?_)
  · refine J_iconst (pc := 17) (0 : Int32) dX12_broken_17 (by decide) ?_
    refine J_istore (pc := 18) (L' := [(4, .int (0 : Int32)), (3, .int x3), (0, .ref (e_a E o 0)), (1, .int a1), (2, .int a2)]) dX12_broken_18 (by decide) rfl ?_
    refine J_iconst (pc := 20) (0 : Int32) dX12_broken_20 (by decide) ?_
    refine J_istore (pc := 21) (L' := [(5, .int (0 : Int32)), (4, .int (0 : Int32)), (3, .int x3), (0, .ref (e_a E o 0)), (1, .int a1), (2, .int a2)]) dX12_broken_21 (by decide) rfl ?_
    refine J_sub (L' := [(0, .ref (e_a E o 0)), (1, .int a1), (2, .int a2), (4, .int (0 : Int32)), (5, .int (0 : Int32))]) [3, 4, 5, 1, 0] rfl ?_
    exact tX12_broken_23 l E o a1 a2 ho FU (0 : Int32) (0 : Int32) σ1 h
  · refine J_aload_n (pc := 11) 1 dX12_broken_11 rfl ?_
    refine J_iload_n (pc := 12) 0 dX12_broken_12 rfl ?_
    obtain ⟨x6, σ4, hc5, h⟩ := cI_t h
    refine J_cVi (pc := 13) (ctX12_refuse l E o x3 ho σ1 hc5) dX12_broken_13 mlX12_83 mvX12_refuse ho rfl (by decide) rfl (Nat.le_of_ble_eq_true rfl) ?_
    cases h
    exact J_iret (pc := 16) dX12_broken_16 rfl rfl
def fX12_draw (o : Nat) (σ : Mm) : Option (Int32 × Mm) := r_sc σ o 35 (fun x1 => p_sc σ o 35 (((x1 * (2683 : Int32)) + (11587 : Int32)) - ((x1 * (2683 : Int32)) + (11587 : Int32)) / (65536 : Int32) * (65536 : Int32)) (fun σ2 => r_sc σ2 o 35 (fun x3 => some (((x3 / (8 : Int32)) - (x3 / (8 : Int32)) / (16 : Int32) * (16 : Int32)), σ2))))
set_option maxRecDepth 100000 in
set_option maxHeartbeats 4000000 in
theorem ctX12_draw (l : Launch) (E : EV) (o : Nat) (ho : KD o = 12) (σ : Mm) {xr : Int32} {τ : Mm} (h : fX12_draw o σ = some (xr, τ)) : Ct l E mX12_draw 0 [.ref (e_a E o 0)] σ (some (.int xr), τ) := by
  refine Ct.of (by decide +kernel) (Nat.le_of_ble_eq_true rfl) ?_
  show Jd l E mX12_draw 0 (some (.int xr), τ) σ 0 [(0, .ref (e_a E o 0))] []
  unfold fX12_draw at h
  refine J_aload_n (pc := 0) 0 dX12_draw_0 rfl ?_
  refine J_aload_n (pc := 1) 0 dX12_draw_1 rfl ?_
  refine J_getI (pc := 2) dX12_draw_2 ho flX12_398 rfl h (fun x1 h => ?_)
  refine J_sipush (pc := 5) (2683 : Int32) dX12_draw_5 (by decide) ?_
  refine J_imul (pc := 8) dX12_draw_8 ?_
  refine J_sipush (pc := 9) (11587 : Int32) dX12_draw_9 (by decide) ?_
  refine J_iadd (pc := 12) dX12_draw_12 ?_
  refine J_ldcw (pc := 13) (65536 : Int32) dX12_draw_13 kcX12_401 ?_
  refine J_irem (pc := 16) dX12_draw_16 (by decide) ?_
  refine J_putI (pc := 17) dX12_draw_17 ho flX12_398 rfl h (fun σ2 h => ?_)
  refine J_aload_n (pc := 20) 0 dX12_draw_20 rfl ?_
  refine J_getI (pc := 21) dX12_draw_21 ho flX12_398 rfl h (fun x3 h => ?_)
  refine J_bipush (pc := 24) (8 : Int32) dX12_draw_24 (by decide) ?_
  refine J_idiv (pc := 26) dX12_draw_26 (by decide) ?_
  refine J_bipush (pc := 27) (16 : Int32) dX12_draw_27 (by decide) ?_
  refine J_irem (pc := 29) dX12_draw_29 (by decide) ?_
  cases h
  exact J_iret (pc := 30) dX12_draw_30 rfl rfl
def fX12_does_94 (o : Nat) (a1 : Int32) : Nat → Int32 → Int32 → Mm → Option (Mm)
  | 0, _, _, _ => none
  | n + 1, v2, v3, σ => g_ar σ o 0 2950 (0 : Int32) (fun x50 => if x50 ≤ v3 then (some σ) else (c_I (fX12_draw o σ) (fun x53 σ51 => c_V (fX12_blows o v3 x53 v2 σ51) (fun σ54 => (fX12_does_94 o a1 n) v2 (v3 + (1 : Int32)) σ54))))
set_option maxRecDepth 100000 in
set_option maxHeartbeats 4000000 in
theorem tX12_does_94 (l : Launch) (E : EV) {τ : Mm} (o : Nat) (a1 : Int32) (ho : KD o = 12) : ∀ (n : Nat) (v2 : Int32) (v3 : Int32) (σ : Mm), fX12_does_94 o a1 n v2 v3 σ = some τ → Jd l E mX12_does 7 (none, τ) σ 94 [(0, .ref (e_a E o 0)), (2, .int v2), (3, .int v3)] [] := by
  intro n
  induction n with
  | zero => intro v2 v3 σ h; rw [fX12_does_94] at h; cases h
  | succ n ih =>
    intro v2 v3 σ h
    rw [fX12_does_94] at h
    refine J_iload_n (pc := 94) 2 dX12_does_94 rfl ?_
    refine J_aload_n (pc := 95) 0 dX12_does_95 rfl ?_
    refine J_getA (pc := 96) dX12_does_96 ho flX12_7 rfl ?_
    refine J_iconst (pc := 99) (0 : Int32) dX12_does_99 (by decide) ?_
    refine J_iald (pc := 100) dX12_does_100 ho ha12_0 h (fun x50 h => ?_)
    refine J_icmp_ge (pc := 101) 120 dX12_does_101 (by decide) h (fun h => ?_) (fun h => ?_)
    · refine J_goto (pc := 120) 273 dX12_does_120 (by decide) ?_
      cases h
      exact J_vret (pc := 273) dX12_does_273 rfl
    · refine J_aload_n (pc := 104) 0 dX12_does_104 rfl ?_
      refine J_iload_n (pc := 105) 2 dX12_does_105 rfl ?_
      refine J_aload_n (pc := 106) 0 dX12_does_106 rfl ?_
      obtain ⟨x53, σ51, hc52, h⟩ := cI_t h
      refine J_cVi (pc := 107) (ctX12_draw l E o ho σ hc52) dX12_does_107 mlX12_402 mvX12_draw ho rfl (by decide) rfl (Nat.le_of_ble_eq_true rfl) ?_
      refine J_iload_n (pc := 110) 1 dX12_does_110 rfl ?_
      obtain ⟨σ54, hc55, h⟩ := cV_t h
      refine J_cVv (pc := 111) (ctX12_blows l E o v3 x53 v2 ho σ51 hc55) dX12_does_111 mlX12_376 mvX12_blows ho rfl (by decide) rfl (Nat.le_of_ble_eq_true rfl) ?_
      refine J_iinc (pc := 114) (L' := [(3, .int (v3 + (1 : Int32))), (0, .ref (e_a E o 0)), (2, .int v2)]) 2 (v3 + (1 : Int32)) dX12_does_114 rfl (by rfl) (by decide) rfl ?_
      refine J_goto (pc := 117) 94 dX12_does_117 (by decide) ?_
      refine J_sub (L' := [(0, .ref (e_a E o 0)), (2, .int v2), (3, .int (v3 + (1 : Int32)))]) [1, 2, 0] rfl ?_
      exact ih v2 (v3 + (1 : Int32)) σ54 h
def fX12_does (o : Nat) (a1 : Int32) (σ : Mm) : Option (Mm) := g_ar σ o 0 2950 (a1 + (1 : Int32)) (fun x1 => g_ar σ o 0 2950 a1 (fun x2 => if x2 = (10 : Int32) then (c_I (fX12_isPlace o x1 σ) (fun x6 σ4 => if x6 = 0 then (some σ4) else (g_ar σ4 o 0 2950 (a1 + (2 : Int32)) (fun x7 => g_ar σ4 o 0 2950 (a1 + (3 : Int32)) (fun x8 => c_V (fX12_blows o x1 x7 x8 σ4) (fun σ9 => some σ9)))))) else if x2 = (11 : Int32) then (fX12_does_94 o a1 FU x1 (0 : Int32) σ) else if x2 = (12 : Int32) then (c_V (fX12_goesBy o x1 σ) (fun σ13 => r_sc σ13 o 37 (fun x15 => p_sc σ13 o 37 (x15 + x1) (fun σ16 => some σ16)))) else if x2 = (13 : Int32) then (c_I (fX12_isShaft o x1 σ) (fun x20 σ18 => if x20 = 0 then (some σ18) else (g_ar σ18 o 0 2950 (2454 : Int32) (fun x21 => s_ar σ18 o 0 2950 (2454 : Int32) (x21 ||| ((1 : Int32) <<< (x1 &&& 31))) (fun σ22 => some σ22))))) else if x2 = (14 : Int32) then (c_I (fX12_isShaft o x1 σ) (fun x26 σ24 => if x26 = 0 then (some σ24) else (g_ar σ24 o 0 2950 (2454 : Int32) (fun x27 => s_ar σ24 o 0 2950 (2454 : Int32) (x27 &&& (((1 : Int32) <<< (x1 &&& 31)) ^^^ (-1 : Int32))) (fun σ28 => some σ28))))) else if x2 = (15 : Int32) then (c_I (fX12_isVane o x1 σ) (fun x32 σ30 => if x32 = 0 then (some σ30) else (g_ar σ30 o 0 2950 (2455 : Int32) (fun x33 => s_ar σ30 o 0 2950 (2455 : Int32) (x33 ||| ((1 : Int32) <<< (x1 &&& 31))) (fun σ34 => some σ34))))) else if x2 = (16 : Int32) then (c_I (fX12_isVane o x1 σ) (fun x38 σ36 => if x38 = 0 then (some σ36) else (g_ar σ36 o 0 2950 (2455 : Int32) (fun x39 => s_ar σ36 o 0 2950 (2455 : Int32) (x39 &&& (((1 : Int32) <<< (x1 &&& 31)) ^^^ (-1 : Int32))) (fun σ40 => some σ40))))) else if x2 = (17 : Int32) then (c_I (fX12_isVane o x1 σ) (fun x44 σ42 => if x44 = 0 then (some σ42) else (g_ar σ42 o 0 2950 (a1 + (2 : Int32)) (fun x45 => c_I (fX12_turnsBy o x1 x45 σ42) (fun x48 σ46 => p_sc σ46 o 43 x48 (fun σ49 => some σ49)))))) else (some σ)))
set_option maxRecDepth 100000 in
set_option maxHeartbeats 4000000 in
theorem ctX12_does (l : Launch) (E : EV) (o : Nat) (a1 : Int32) (ho : KD o = 12) (σ : Mm) {τ : Mm} (h : fX12_does o a1 σ = some τ) : Ct l E mX12_does 7 [.ref (e_a E o 0), .int a1] σ (none, τ) := by
  refine Ct.of (by decide +kernel) (Nat.le_of_ble_eq_true rfl) ?_
  show Jd l E mX12_does 7 (none, τ) σ 0 [(0, .ref (e_a E o 0)), (1, .int a1)] []
  unfold fX12_does at h
  refine J_aload_n (pc := 0) 0 dX12_does_0 rfl ?_
  refine J_getA (pc := 1) dX12_does_1 ho flX12_7 rfl ?_
  refine J_iload_n (pc := 4) 1 dX12_does_4 rfl ?_
  refine J_iconst (pc := 5) (1 : Int32) dX12_does_5 (by decide) ?_
  refine J_iadd (pc := 6) dX12_does_6 ?_
  refine J_iald (pc := 7) dX12_does_7 ho ha12_0 h (fun x1 h => ?_)
  refine J_istore_n (pc := 8) (L' := [(2, .int x1), (0, .ref (e_a E o 0)), (1, .int a1)]) dX12_does_8 (by decide) rfl ?_
  refine J_aload_n (pc := 9) 1 dX12_does_9 rfl ?_
  refine J_getA (pc := 10) dX12_does_10 ho flX12_7 rfl ?_
  refine J_iload_n (pc := 13) 2 dX12_does_13 rfl ?_
  refine J_iald (pc := 14) dX12_does_14 ho ha12_0 h (fun x2 h => ?_)
  by_cases hs3 : x2 = (10 : Int32)
  · rw [if_pos hs3] at h
    refine J_tableIn (pc := 15) 60 dX12_does_15 (by rw [hs3]; decide) (by rw [hs3]; decide) (by rw [hs3]; rfl) (by decide) ?_
    refine J_aload_n (pc := 60) 1 dX12_does_60 rfl ?_
    refine J_iload_n (pc := 61) 0 dX12_does_61 rfl ?_
    obtain ⟨x6, σ4, hc5, h⟩ := cI_t h
    refine J_cVi (pc := 62) (ctX12_isPlace l E o x1 ho σ hc5) dX12_does_62 mlX12_313 mvX12_isPlace ho rfl (by decide) rfl (Nat.le_of_ble_eq_true rfl) ?_
    refine J_if_eq (pc := 65) 273 dX12_does_65 (by decide) h (fun h => ?_) (fun h => ?_)
    · cases h
      exact J_vret (pc := 273) dX12_does_273 rfl
    · refine J_aload_n (pc := 68) 1 dX12_does_68 rfl ?_
      refine J_iload_n (pc := 69) 0 dX12_does_69 rfl ?_
      refine J_aload_n (pc := 70) 1 dX12_does_70 rfl ?_
      refine J_getA (pc := 71) dX12_does_71 ho flX12_7 rfl ?_
      refine J_iload_n (pc := 74) 2 dX12_does_74 rfl ?_
      refine J_iconst (pc := 75) (2 : Int32) dX12_does_75 (by decide) ?_
      refine J_iadd (pc := 76) dX12_does_76 ?_
      refine J_iald (pc := 77) dX12_does_77 ho ha12_0 h (fun x7 h => ?_)
      refine J_aload_n (pc := 78) 1 dX12_does_78 rfl ?_
      refine J_getA (pc := 79) dX12_does_79 ho flX12_7 rfl ?_
      refine J_iload_n (pc := 82) 2 dX12_does_82 rfl ?_
      refine J_iconst (pc := 83) (3 : Int32) dX12_does_83 (by decide) ?_
      refine J_iadd (pc := 84) dX12_does_84 ?_
      refine J_iald (pc := 85) dX12_does_85 ho ha12_0 h (fun x8 h => ?_)
      obtain ⟨σ9, hc10, h⟩ := cV_t h
      refine J_cVv (pc := 86) (ctX12_blows l E o x1 x7 x8 ho σ4 hc10) dX12_does_86 mlX12_376 mvX12_blows ho rfl (by decide) rfl (Nat.le_of_ble_eq_true rfl) ?_
      refine J_goto (pc := 89) 273 dX12_does_89 (by decide) ?_
      cases h
      exact J_vret (pc := 273) dX12_does_273 rfl
  rw [if_neg hs3] at h
  by_cases hs11 : x2 = (11 : Int32)
  · rw [if_pos hs11] at h
    refine J_tableIn (pc := 15) 92 dX12_does_15 (by rw [hs11]; decide) (by rw [hs11]; decide) (by rw [hs11]; rfl) (by decide) ?_
    refine J_iconst (pc := 92) (0 : Int32) dX12_does_92 (by decide) ?_
    refine J_istore_n (pc := 93) (L' := [(3, .int (0 : Int32)), (2, .int x1), (0, .ref (e_a E o 0)), (1, .int a1)]) dX12_does_93 (by decide) rfl ?_
    refine J_sub (L' := [(0, .ref (e_a E o 0)), (2, .int x1), (3, .int (0 : Int32))]) [2, 1, 0] rfl ?_
    exact tX12_does_94 l E o a1 ho FU x1 (0 : Int32) σ h
  rw [if_neg hs11] at h
  by_cases hs12 : x2 = (12 : Int32)
  · rw [if_pos hs12] at h
    refine J_tableIn (pc := 15) 123 dX12_does_15 (by rw [hs12]; decide) (by rw [hs12]; decide) (by rw [hs12]; rfl) (by decide) ?_
    refine J_aload_n (pc := 123) 1 dX12_does_123 rfl ?_
    refine J_iload_n (pc := 124) 0 dX12_does_124 rfl ?_
    obtain ⟨σ13, hc14, h⟩ := cV_t h
    refine J_cVv (pc := 125) (ctX12_goesBy l E o x1 ho σ hc14) dX12_does_125 mlX12_328 mvX12_goesBy ho rfl (by decide) rfl (Nat.le_of_ble_eq_true rfl) ?_
    refine J_aload_n (pc := 128) 1 dX12_does_128 rfl ?_
    refine J_dup (pc := 129) dX12_does_129 rfl ?_
    refine J_getI (pc := 130) dX12_does_130 ho flX12_405 rfl h (fun x15 h => ?_)
    refine J_iload_n (pc := 133) 0 dX12_does_133 rfl ?_
    refine J_iadd (pc := 134) dX12_does_134 ?_
    refine J_putI (pc := 135) dX12_does_135 ho flX12_405 rfl h (fun σ16 h => ?_)
    refine J_goto (pc := 138) 273 dX12_does_138 (by decide) ?_
    cases h
    exact J_vret (pc := 273) dX12_does_273 rfl
  rw [if_neg hs12] at h
  by_cases hs17 : x2 = (13 : Int32)
  · rw [if_pos hs17] at h
    refine J_tableIn (pc := 15) 141 dX12_does_15 (by rw [hs17]; decide) (by rw [hs17]; decide) (by rw [hs17]; rfl) (by decide) ?_
    refine J_aload_n (pc := 141) 1 dX12_does_141 rfl ?_
    refine J_iload_n (pc := 142) 0 dX12_does_142 rfl ?_
    obtain ⟨x20, σ18, hc19, h⟩ := cI_t h
    refine J_cVi (pc := 143) (ctX12_isShaft l E o x1 ho σ hc19) dX12_does_143 mlX12_246 mvX12_isShaft ho rfl (by decide) rfl (Nat.le_of_ble_eq_true rfl) ?_
    refine J_if_eq (pc := 146) 273 dX12_does_146 (by decide) h (fun h => ?_) (fun h => ?_)
    · cases h
      exact J_vret (pc := 273) dX12_does_273 rfl
    · refine J_aload_n (pc := 149) 1 dX12_does_149 rfl ?_
      refine J_getA (pc := 150) dX12_does_150 ho flX12_7 rfl ?_
      refine J_sipush (pc := 153) (2454 : Int32) dX12_does_153 (by decide) ?_
      refine J_dup2 (pc := 156) dX12_does_156 rfl rfl ?_
      refine J_iald (pc := 157) dX12_does_157 ho ha12_0 h (fun x21 h => ?_)
      refine J_iconst (pc := 158) (1 : Int32) dX12_does_158 (by decide) ?_
      refine J_iload_n (pc := 159) 0 dX12_does_159 rfl ?_
      refine J_ishl (pc := 160) dX12_does_160 ?_
      refine J_ior (pc := 161) dX12_does_161 ?_
      refine J_iast (pc := 162) dX12_does_162 ho ha12_0 h (fun σ22 h => ?_)
      refine J_goto (pc := 163) 273 dX12_does_163 (by decide) ?_
      cases h
      exact J_vret (pc := 273) dX12_does_273 rfl
  rw [if_neg hs17] at h
  by_cases hs23 : x2 = (14 : Int32)
  · rw [if_pos hs23] at h
    refine J_tableIn (pc := 15) 166 dX12_does_15 (by rw [hs23]; decide) (by rw [hs23]; decide) (by rw [hs23]; rfl) (by decide) ?_
    refine J_aload_n (pc := 166) 1 dX12_does_166 rfl ?_
    refine J_iload_n (pc := 167) 0 dX12_does_167 rfl ?_
    obtain ⟨x26, σ24, hc25, h⟩ := cI_t h
    refine J_cVi (pc := 168) (ctX12_isShaft l E o x1 ho σ hc25) dX12_does_168 mlX12_246 mvX12_isShaft ho rfl (by decide) rfl (Nat.le_of_ble_eq_true rfl) ?_
    refine J_if_eq (pc := 171) 273 dX12_does_171 (by decide) h (fun h => ?_) (fun h => ?_)
    · cases h
      exact J_vret (pc := 273) dX12_does_273 rfl
    · refine J_aload_n (pc := 174) 1 dX12_does_174 rfl ?_
      refine J_getA (pc := 175) dX12_does_175 ho flX12_7 rfl ?_
      refine J_sipush (pc := 178) (2454 : Int32) dX12_does_178 (by decide) ?_
      refine J_dup2 (pc := 181) dX12_does_181 rfl rfl ?_
      refine J_iald (pc := 182) dX12_does_182 ho ha12_0 h (fun x27 h => ?_)
      refine J_iconst (pc := 183) (1 : Int32) dX12_does_183 (by decide) ?_
      refine J_iload_n (pc := 184) 0 dX12_does_184 rfl ?_
      refine J_ishl (pc := 185) dX12_does_185 ?_
      refine J_iconst (pc := 186) (-1 : Int32) dX12_does_186 (by decide) ?_
      refine J_ixor (pc := 187) dX12_does_187 ?_
      refine J_iand (pc := 188) dX12_does_188 ?_
      refine J_iast (pc := 189) dX12_does_189 ho ha12_0 h (fun σ28 h => ?_)
      refine J_goto (pc := 190) 273 dX12_does_190 (by decide) ?_
      cases h
      exact J_vret (pc := 273) dX12_does_273 rfl
  rw [if_neg hs23] at h
  by_cases hs29 : x2 = (15 : Int32)
  · rw [if_pos hs29] at h
    refine J_tableIn (pc := 15) 193 dX12_does_15 (by rw [hs29]; decide) (by rw [hs29]; decide) (by rw [hs29]; rfl) (by decide) ?_
    refine J_aload_n (pc := 193) 1 dX12_does_193 rfl ?_
    refine J_iload_n (pc := 194) 0 dX12_does_194 rfl ?_
    obtain ⟨x32, σ30, hc31, h⟩ := cI_t h
    refine J_cVi (pc := 195) (ctX12_isVane l E o x1 ho σ hc31) dX12_does_195 mlX12_243 mvX12_isVane ho rfl (by decide) rfl (Nat.le_of_ble_eq_true rfl) ?_
    refine J_if_eq (pc := 198) 273 dX12_does_198 (by decide) h (fun h => ?_) (fun h => ?_)
    · cases h
      exact J_vret (pc := 273) dX12_does_273 rfl
    · refine J_aload_n (pc := 201) 1 dX12_does_201 rfl ?_
      refine J_getA (pc := 202) dX12_does_202 ho flX12_7 rfl ?_
      refine J_sipush (pc := 205) (2455 : Int32) dX12_does_205 (by decide) ?_
      refine J_dup2 (pc := 208) dX12_does_208 rfl rfl ?_
      refine J_iald (pc := 209) dX12_does_209 ho ha12_0 h (fun x33 h => ?_)
      refine J_iconst (pc := 210) (1 : Int32) dX12_does_210 (by decide) ?_
      refine J_iload_n (pc := 211) 0 dX12_does_211 rfl ?_
      refine J_ishl (pc := 212) dX12_does_212 ?_
      refine J_ior (pc := 213) dX12_does_213 ?_
      refine J_iast (pc := 214) dX12_does_214 ho ha12_0 h (fun σ34 h => ?_)
      refine J_goto (pc := 215) 273 dX12_does_215 (by decide) ?_
      cases h
      exact J_vret (pc := 273) dX12_does_273 rfl
  rw [if_neg hs29] at h
  by_cases hs35 : x2 = (16 : Int32)
  · rw [if_pos hs35] at h
    refine J_tableIn (pc := 15) 218 dX12_does_15 (by rw [hs35]; decide) (by rw [hs35]; decide) (by rw [hs35]; rfl) (by decide) ?_
    refine J_aload_n (pc := 218) 1 dX12_does_218 rfl ?_
    refine J_iload_n (pc := 219) 0 dX12_does_219 rfl ?_
    obtain ⟨x38, σ36, hc37, h⟩ := cI_t h
    refine J_cVi (pc := 220) (ctX12_isVane l E o x1 ho σ hc37) dX12_does_220 mlX12_243 mvX12_isVane ho rfl (by decide) rfl (Nat.le_of_ble_eq_true rfl) ?_
    refine J_if_eq (pc := 223) 273 dX12_does_223 (by decide) h (fun h => ?_) (fun h => ?_)
    · cases h
      exact J_vret (pc := 273) dX12_does_273 rfl
    · refine J_aload_n (pc := 226) 1 dX12_does_226 rfl ?_
      refine J_getA (pc := 227) dX12_does_227 ho flX12_7 rfl ?_
      refine J_sipush (pc := 230) (2455 : Int32) dX12_does_230 (by decide) ?_
      refine J_dup2 (pc := 233) dX12_does_233 rfl rfl ?_
      refine J_iald (pc := 234) dX12_does_234 ho ha12_0 h (fun x39 h => ?_)
      refine J_iconst (pc := 235) (1 : Int32) dX12_does_235 (by decide) ?_
      refine J_iload_n (pc := 236) 0 dX12_does_236 rfl ?_
      refine J_ishl (pc := 237) dX12_does_237 ?_
      refine J_iconst (pc := 238) (-1 : Int32) dX12_does_238 (by decide) ?_
      refine J_ixor (pc := 239) dX12_does_239 ?_
      refine J_iand (pc := 240) dX12_does_240 ?_
      refine J_iast (pc := 241) dX12_does_241 ho ha12_0 h (fun σ40 h => ?_)
      refine J_goto (pc := 242) 273 dX12_does_242 (by decide) ?_
      cases h
      exact J_vret (pc := 273) dX12_does_273 rfl
  rw [if_neg hs35] at h
  by_cases hs41 : x2 = (17 : Int32)
  · rw [if_pos hs41] at h
    refine J_tableIn (pc := 15) 245 dX12_does_15 (by rw [hs41]; decide) (by rw [hs41]; decide) (by rw [hs41]; rfl) (by decide) ?_
    refine J_aload_n (pc := 245) 1 dX12_does_245 rfl ?_
    refine J_iload_n (pc := 246) 0 dX12_does_246 rfl ?_
    obtain ⟨x44, σ42, hc43, h⟩ := cI_t h
    refine J_cVi (pc := 247) (ctX12_isVane l E o x1 ho σ hc43) dX12_does_247 mlX12_243 mvX12_isVane ho rfl (by decide) rfl (Nat.le_of_ble_eq_true rfl) ?_
    refine J_if_eq (pc := 250) 273 dX12_does_250 (by decide) h (fun h => ?_) (fun h => ?_)
    · cases h
      exact J_vret (pc := 273) dX12_does_273 rfl
    · refine J_aload_n (pc := 253) 1 dX12_does_253 rfl ?_
      refine J_aload_n (pc := 254) 1 dX12_does_254 rfl ?_
      refine J_iload_n (pc := 255) 0 dX12_does_255 rfl ?_
      refine J_aload_n (pc := 256) 1 dX12_does_256 rfl ?_
      refine J_getA (pc := 257) dX12_does_257 ho flX12_7 rfl ?_
      refine J_iload_n (pc := 260) 2 dX12_does_260 rfl ?_
      refine J_iconst (pc := 261) (2 : Int32) dX12_does_261 (by decide) ?_
      refine J_iadd (pc := 262) dX12_does_262 ?_
      refine J_iald (pc := 263) dX12_does_263 ho ha12_0 h (fun x45 h => ?_)
      obtain ⟨x48, σ46, hc47, h⟩ := cI_t h
      refine J_cVi (pc := 264) (ctX12_turnsBy l E o x1 x45 ho σ42 hc47) dX12_does_264 mlX12_336 mvX12_turnsBy ho rfl (by decide) rfl (Nat.le_of_ble_eq_true rfl) ?_
      refine J_putI (pc := 267) dX12_does_267 ho flX12_408 rfl h (fun σ49 h => ?_)
      refine J_goto (pc := 270) 273 dX12_does_270 (by decide) ?_
      cases h
      exact J_vret (pc := 273) dX12_does_273 rfl
  rw [if_neg hs41] at h
  refine J_tableOut (pc := 15) 273 dX12_does_15 (by have := ne_i hs3 (k := 10) (by decide); have := ne_i hs11 (k := 11) (by decide); have := ne_i hs12 (k := 12) (by decide); have := ne_i hs17 (k := 13) (by decide); have := ne_i hs23 (k := 14) (by decide); have := ne_i hs29 (k := 15) (by decide); have := ne_i hs35 (k := 16) (by decide); have := ne_i hs41 (k := 17) (by decide); omega) (by decide) ?_
  cases h
  exact J_vret (pc := 273) dX12_does_273 rfl
def fX12_holdsNow (o : Nat) (a1 : Int32) (σ : Mm) : Option (Int32 × Mm) := g_ar σ o 0 2950 (a1 + (1 : Int32)) (fun x1 => c_I (fX12_isVane o x1 σ) (fun x4 σ2 => if x4 = 0 then (some ((0 : Int32), σ2)) else (g_ar σ2 o 0 2950 a1 (fun x5 => if x5 = (1819 : Int32) then (c_I (fX12_isRight o x1 σ2) (fun x16 σ14 => b_z x16 σ14)) else (c_I (fX12_vaneAt o x1 (3 : Int32) σ2) (fun x8 σ6 => g_ar σ6 o 0 2950 (a1 + (5 : Int32)) (fun x9 => if x9 = (60 : Int32) then (g_ar σ6 o 0 2950 (a1 + (2 : Int32)) (fun x13 => if x13 ≤ x8 then (some ((0 : Int32), σ6)) else (some ((1 : Int32), σ6)))) else (g_ar σ6 o 0 2950 (a1 + (5 : Int32)) (fun x10 => if x10 = (62 : Int32) then (g_ar σ6 o 0 2950 (a1 + (2 : Int32)) (fun x12 => if x8 ≤ x12 then (some ((0 : Int32), σ6)) else (some ((1 : Int32), σ6)))) else (g_ar σ6 o 0 2950 (a1 + (2 : Int32)) (fun x11 => if x8 = x11 then (some ((1 : Int32), σ6)) else (some ((0 : Int32), σ6)))))))))))))
set_option maxRecDepth 100000 in
set_option maxHeartbeats 4000000 in
theorem ctX12_holdsNow (l : Launch) (E : EV) (o : Nat) (a1 : Int32) (ho : KD o = 12) (σ : Mm) {xr : Int32} {τ : Mm} (h : fX12_holdsNow o a1 σ = some (xr, τ)) : Ct l E mX12_holdsNow 3 [.ref (e_a E o 0), .int a1] σ (some (.int xr), τ) := by
  refine Ct.of (by decide +kernel) (Nat.le_of_ble_eq_true rfl) ?_
  show Jd l E mX12_holdsNow 3 (some (.int xr), τ) σ 0 [(0, .ref (e_a E o 0)), (1, .int a1)] []
  unfold fX12_holdsNow at h
  refine J_aload_n (pc := 0) 0 dX12_holdsNow_0 rfl ?_
  refine J_getA (pc := 1) dX12_holdsNow_1 ho flX12_7 rfl ?_
  refine J_iload_n (pc := 4) 1 dX12_holdsNow_4 rfl ?_
  refine J_iconst (pc := 5) (1 : Int32) dX12_holdsNow_5 (by decide) ?_
  refine J_iadd (pc := 6) dX12_holdsNow_6 ?_
  refine J_iald (pc := 7) dX12_holdsNow_7 ho ha12_0 h (fun x1 h => ?_)
  refine J_istore_n (pc := 8) (L' := [(2, .int x1), (0, .ref (e_a E o 0)), (1, .int a1)]) dX12_holdsNow_8 (by decide) rfl ?_
  refine J_aload_n (pc := 9) 1 dX12_holdsNow_9 rfl ?_
  refine J_iload_n (pc := 10) 0 dX12_holdsNow_10 rfl ?_
  obtain ⟨x4, σ2, hc3, h⟩ := cI_t h
  refine J_cVi (pc := 11) (ctX12_isVane l E o x1 ho σ hc3) dX12_holdsNow_11 mlX12_243 mvX12_isVane ho rfl (by decide) rfl (Nat.le_of_ble_eq_true rfl) ?_
  refine J_if_ne (pc := 14) 19 dX12_holdsNow_14 (by decide) h (fun h => ?_) (fun h => ?_)
  · refine J_aload_n (pc := 19) 1 dX12_holdsNow_19 rfl ?_
    refine J_getA (pc := 20) dX12_holdsNow_20 ho flX12_7 rfl ?_
    refine J_iload_n (pc := 23) 2 dX12_holdsNow_23 rfl ?_
    refine J_iald (pc := 24) dX12_holdsNow_24 ho ha12_0 h (fun x5 h => ?_)
    refine J_sipush (pc := 25) (1819 : Int32) dX12_holdsNow_25 (by decide) ?_
    refine J_icmp_ne (pc := 28) 37 dX12_holdsNow_28 (by decide) h (fun h => ?_) (fun h => ?_)
    · refine J_aload_n (pc := 37) 1 dX12_holdsNow_37 rfl ?_
      refine J_iload_n (pc := 38) 0 dX12_holdsNow_38 rfl ?_
      refine J_iconst (pc := 39) (3 : Int32) dX12_holdsNow_39 (by decide) ?_
      obtain ⟨x8, σ6, hc7, h⟩ := cI_t h
      refine J_cVi (pc := 40) (ctX12_vaneAt l E o x1 (3 : Int32) ho σ2 hc7) dX12_holdsNow_40 mlX12_249 mvX12_vaneAt ho rfl (by decide) rfl (Nat.le_of_ble_eq_true rfl) ?_
      refine J_istore_n (pc := 43) (L' := [(3, .int x8), (2, .int x1), (0, .ref (e_a E o 0)), (1, .int a1)]) dX12_holdsNow_43 (by decide) rfl ?_
      refine J_aload_n (pc := 44) 2 dX12_holdsNow_44 rfl ?_
      refine J_getA (pc := 45) dX12_holdsNow_45 ho flX12_7 rfl ?_
      refine J_iload_n (pc := 48) 3 dX12_holdsNow_48 rfl ?_
      refine J_iconst (pc := 49) (5 : Int32) dX12_holdsNow_49 (by decide) ?_
      refine J_iadd (pc := 50) dX12_holdsNow_50 ?_
      refine J_iald (pc := 51) dX12_holdsNow_51 ho ha12_0 h (fun x9 h => ?_)
      refine J_bipush (pc := 52) (60 : Int32) dX12_holdsNow_52 (by decide) ?_
      refine J_icmp_ne (pc := 54) 77 dX12_holdsNow_54 (by decide) h (fun h => ?_) (fun h => ?_)
      · refine J_aload_n (pc := 77) 2 dX12_holdsNow_77 rfl ?_
        refine J_getA (pc := 78) dX12_holdsNow_78 ho flX12_7 rfl ?_
        refine J_iload_n (pc := 81) 3 dX12_holdsNow_81 rfl ?_
        refine J_iconst (pc := 82) (5 : Int32) dX12_holdsNow_82 (by decide) ?_
        refine J_iadd (pc := 83) dX12_holdsNow_83 ?_
        refine J_iald (pc := 84) dX12_holdsNow_84 ho ha12_0 h (fun x10 h => ?_)
        refine J_bipush (pc := 85) (62 : Int32) dX12_holdsNow_85 (by decide) ?_
        refine J_icmp_ne (pc := 87) 110 dX12_holdsNow_87 (by decide) h (fun h => ?_) (fun h => ?_)
        · refine J_iload_n (pc := 110) 0 dX12_holdsNow_110 rfl ?_
          refine J_aload_n (pc := 111) 2 dX12_holdsNow_111 rfl ?_
          refine J_getA (pc := 112) dX12_holdsNow_112 ho flX12_7 rfl ?_
          refine J_iload_n (pc := 115) 3 dX12_holdsNow_115 rfl ?_
          refine J_iconst (pc := 116) (2 : Int32) dX12_holdsNow_116 (by decide) ?_
          refine J_iadd (pc := 117) dX12_holdsNow_117 ?_
          refine J_iald (pc := 118) dX12_holdsNow_118 ho ha12_0 h (fun x11 h => ?_)
          refine J_icmp_ne (pc := 119) 126 dX12_holdsNow_119 (by decide) h (fun h => ?_) (fun h => ?_)
          · refine J_iconst (pc := 126) (0 : Int32) dX12_holdsNow_126 (by decide) ?_
            cases h
            exact J_iret (pc := 127) dX12_holdsNow_127 rfl rfl
          · refine J_iconst (pc := 122) (1 : Int32) dX12_holdsNow_122 (by decide) ?_
            refine J_goto (pc := 123) 127 dX12_holdsNow_123 (by decide) ?_
            cases h
            exact J_iret (pc := 127) dX12_holdsNow_127 rfl rfl
        · refine J_iload_n (pc := 90) 0 dX12_holdsNow_90 rfl ?_
          refine J_aload_n (pc := 91) 2 dX12_holdsNow_91 rfl ?_
          refine J_getA (pc := 92) dX12_holdsNow_92 ho flX12_7 rfl ?_
          refine J_iload_n (pc := 95) 3 dX12_holdsNow_95 rfl ?_
          refine J_iconst (pc := 96) (2 : Int32) dX12_holdsNow_96 (by decide) ?_
          refine J_iadd (pc := 97) dX12_holdsNow_97 ?_
          refine J_iald (pc := 98) dX12_holdsNow_98 ho ha12_0 h (fun x12 h => ?_)
          refine J_icmp_le (pc := 99) 106 dX12_holdsNow_99 (by decide) h (fun h => ?_) (fun h => ?_)
          · refine J_iconst (pc := 106) (0 : Int32) dX12_holdsNow_106 (by decide) ?_
            refine J_goto (pc := 107) 127 dX12_holdsNow_107 (by decide) ?_
            cases h
            exact J_iret (pc := 127) dX12_holdsNow_127 rfl rfl
          · refine J_iconst (pc := 102) (1 : Int32) dX12_holdsNow_102 (by decide) ?_
            refine J_goto (pc := 103) 127 dX12_holdsNow_103 (by decide) ?_
            cases h
            exact J_iret (pc := 127) dX12_holdsNow_127 rfl rfl
      · refine J_iload_n (pc := 57) 0 dX12_holdsNow_57 rfl ?_
        refine J_aload_n (pc := 58) 2 dX12_holdsNow_58 rfl ?_
        refine J_getA (pc := 59) dX12_holdsNow_59 ho flX12_7 rfl ?_
        refine J_iload_n (pc := 62) 3 dX12_holdsNow_62 rfl ?_
        refine J_iconst (pc := 63) (2 : Int32) dX12_holdsNow_63 (by decide) ?_
        refine J_iadd (pc := 64) dX12_holdsNow_64 ?_
        refine J_iald (pc := 65) dX12_holdsNow_65 ho ha12_0 h (fun x13 h => ?_)
        refine J_icmp_ge (pc := 66) 73 dX12_holdsNow_66 (by decide) h (fun h => ?_) (fun h => ?_)
        · refine J_iconst (pc := 73) (0 : Int32) dX12_holdsNow_73 (by decide) ?_
          refine J_goto (pc := 74) 127 dX12_holdsNow_74 (by decide) ?_
          cases h
          exact J_iret (pc := 127) dX12_holdsNow_127 rfl rfl
        · refine J_iconst (pc := 69) (1 : Int32) dX12_holdsNow_69 (by decide) ?_
          refine J_goto (pc := 70) 127 dX12_holdsNow_70 (by decide) ?_
          cases h
          exact J_iret (pc := 127) dX12_holdsNow_127 rfl rfl
    · refine J_aload_n (pc := 31) 1 dX12_holdsNow_31 rfl ?_
      refine J_iload_n (pc := 32) 0 dX12_holdsNow_32 rfl ?_
      obtain ⟨x16, σ14, hc15, h⟩ := cI_t h
      refine J_cVi (pc := 33) (ctX12_isRight l E o x1 ho σ2 hc15) dX12_holdsNow_33 mlX12_258 mvX12_isRight ho rfl (by decide) rfl (Nat.le_of_ble_eq_true rfl) ?_
      obtain ⟨hz17, h⟩ := bz_t h
      cases h
      exact J_iret (pc := 36) dX12_holdsNow_36 rfl hz17
  · refine J_iconst (pc := 17) (0 : Int32) dX12_holdsNow_17 (by decide) ?_
    cases h
    exact J_iret (pc := 18) dX12_holdsNow_18 rfl rfl
def fX12_behindEnds_76 (o : Nat) (a1 : Int32) (k2 : Int32 → Mm → Option (Int32 × Mm)) (v2 : Int32) (v3 : Int32) (s0 : Int32) (σ : Mm) : Option (Int32 × Mm) := g_ar σ o 14 80 v3 (fun x6 => if s0 = 0 then (s_ar σ o 14 80 v3 (x6 - (0 : Int32)) (fun σ7 => if s0 = 0 then (k2 (v2 + (1 : Int32)) σ7) else (k2 (v3 + (1 : Int32)) σ7))) else (s_ar σ o 14 80 v3 (x6 - (1 : Int32)) (fun σ8 => if s0 = 0 then (k2 (v2 + (1 : Int32)) σ8) else (k2 (v3 + (1 : Int32)) σ8))))
set_option maxRecDepth 100000 in
set_option maxHeartbeats 4000000 in
theorem tX12_behindEnds_76 (l : Launch) (E : EV) {xr : Int32} {τ : Mm} (o : Nat) (a1 : Int32) (ho : KD o = 12) (k2 : Int32 → Mm → Option (Int32 × Mm)) (hk2 : ∀ (v2 : Int32) (σ : Mm), k2 v2 σ = some (xr, τ) → Jd l E mX12_behindEnds 0 (some (.int xr), τ) σ 2 [(0, .ref (e_a E o 0)), (2, .int v2)] []) (v2 : Int32) (v3 : Int32) (s0 : Int32) (σ : Mm) (h : fX12_behindEnds_76 o a1 k2 v2 v3 s0 σ = some (xr, τ)) : Jd l E mX12_behindEnds 0 (some (.int xr), τ) σ 76 [(0, .ref (e_a E o 0)), (2, .int v2), (3, .int v3)] [.int s0] := by
  unfold fX12_behindEnds_76 at h
  refine J_istore (pc := 76) (L' := [(4, .int s0), (0, .ref (e_a E o 0)), (2, .int v2), (3, .int v3)]) dX12_behindEnds_76 (by decide) rfl ?_
  refine J_aload_n (pc := 78) 1 dX12_behindEnds_78 rfl ?_
  refine J_getA (pc := 79) dX12_behindEnds_79 ho flX12_65 rfl ?_
  refine J_iload_n (pc := 82) 3 dX12_behindEnds_82 rfl ?_
  refine J_dup2 (pc := 83) dX12_behindEnds_83 rfl rfl ?_
  refine J_iald (pc := 84) dX12_behindEnds_84 ho ha12_14 h (fun x6 h => ?_)
  refine J_iload (pc := 85) 0 dX12_behindEnds_85 rfl ?_
  refine J_if_eq (pc := 87) 94 dX12_behindEnds_87 (by decide) h (fun h => ?_) (fun h => ?_)
  · refine J_iconst (pc := 94) (0 : Int32) dX12_behindEnds_94 (by decide) ?_
    refine J_isub (pc := 95) dX12_behindEnds_95 ?_
    refine J_iast (pc := 96) dX12_behindEnds_96 ho ha12_14 h (fun σ7 h => ?_)
    refine J_iload (pc := 97) 0 dX12_behindEnds_97 rfl ?_
    refine J_if_eq (pc := 99) 108 dX12_behindEnds_99 (by decide) h (fun h => ?_) (fun h => ?_)
    · refine J_iload_n (pc := 108) 2 dX12_behindEnds_108 rfl ?_
      refine J_iconst (pc := 109) (1 : Int32) dX12_behindEnds_109 (by decide) ?_
      refine J_iadd (pc := 110) dX12_behindEnds_110 ?_
      refine J_istore_n (pc := 111) (L' := [(2, .int (v2 + (1 : Int32))), (4, .int s0), (0, .ref (e_a E o 0)), (3, .int v3)]) dX12_behindEnds_111 (by decide) rfl ?_
      refine J_goto (pc := 112) 2 dX12_behindEnds_112 (by decide) ?_
      refine J_sub (L' := [(0, .ref (e_a E o 0)), (2, .int (v2 + (1 : Int32)))]) [2, 0] rfl ?_
      exact hk2 (v2 + (1 : Int32)) σ7 h
    · refine J_iload_n (pc := 102) 3 dX12_behindEnds_102 rfl ?_
      refine J_iconst (pc := 103) (1 : Int32) dX12_behindEnds_103 (by decide) ?_
      refine J_iadd (pc := 104) dX12_behindEnds_104 ?_
      refine J_goto (pc := 105) 111 dX12_behindEnds_105 (by decide) ?_
      refine J_istore_n (pc := 111) (L' := [(2, .int (v3 + (1 : Int32))), (4, .int s0), (0, .ref (e_a E o 0)), (3, .int v3)]) dX12_behindEnds_111 (by decide) rfl ?_
      refine J_goto (pc := 112) 2 dX12_behindEnds_112 (by decide) ?_
      refine J_sub (L' := [(0, .ref (e_a E o 0)), (2, .int (v3 + (1 : Int32)))]) [2, 0] rfl ?_
      exact hk2 (v3 + (1 : Int32)) σ7 h
  · refine J_iconst (pc := 90) (1 : Int32) dX12_behindEnds_90 (by decide) ?_
    refine J_goto (pc := 91) 95 dX12_behindEnds_91 (by decide) ?_
    refine J_isub (pc := 95) dX12_behindEnds_95 ?_
    refine J_iast (pc := 96) dX12_behindEnds_96 ho ha12_14 h (fun σ8 h => ?_)
    refine J_iload (pc := 97) 0 dX12_behindEnds_97 rfl ?_
    refine J_if_eq (pc := 99) 108 dX12_behindEnds_99 (by decide) h (fun h => ?_) (fun h => ?_)
    · refine J_iload_n (pc := 108) 2 dX12_behindEnds_108 rfl ?_
      refine J_iconst (pc := 109) (1 : Int32) dX12_behindEnds_109 (by decide) ?_
      refine J_iadd (pc := 110) dX12_behindEnds_110 ?_
      refine J_istore_n (pc := 111) (L' := [(2, .int (v2 + (1 : Int32))), (4, .int s0), (0, .ref (e_a E o 0)), (3, .int v3)]) dX12_behindEnds_111 (by decide) rfl ?_
      refine J_goto (pc := 112) 2 dX12_behindEnds_112 (by decide) ?_
      refine J_sub (L' := [(0, .ref (e_a E o 0)), (2, .int (v2 + (1 : Int32)))]) [2, 0] rfl ?_
      exact hk2 (v2 + (1 : Int32)) σ8 h
    · refine J_iload_n (pc := 102) 3 dX12_behindEnds_102 rfl ?_
      refine J_iconst (pc := 103) (1 : Int32) dX12_behindEnds_103 (by decide) ?_
      refine J_iadd (pc := 104) dX12_behindEnds_104 ?_
      refine J_goto (pc := 105) 111 dX12_behindEnds_105 (by decide) ?_
      refine J_istore_n (pc := 111) (L' := [(2, .int (v3 + (1 : Int32))), (4, .int s0), (0, .ref (e_a E o 0)), (3, .int v3)]) dX12_behindEnds_111 (by decide) rfl ?_
      refine J_goto (pc := 112) 2 dX12_behindEnds_112 (by decide) ?_
      refine J_sub (L' := [(0, .ref (e_a E o 0)), (2, .int (v3 + (1 : Int32)))]) [2, 0] rfl ?_
      exact hk2 (v3 + (1 : Int32)) σ8 h
def fX12_behindEnds_2 (o : Nat) (a1 : Int32) : Nat → Int32 → Mm → Option (Int32 × Mm)
  | 0, _, _ => none
  | n + 1, v2, σ => g_ar σ o 0 2950 (6 : Int32) (fun x1 => if x1 ≤ v2 then (some (v2, σ)) else (g_ar σ o 0 2950 ((120 : Int32) + ((6 : Int32) * v2)) (fun x2 => if x2 = (21 : Int32) then (g_ar σ o 0 2950 (((120 : Int32) + ((6 : Int32) * v2)) + (4 : Int32)) (fun x3 => g_ar σ o 0 2950 ((120 : Int32) + ((6 : Int32) * x3)) (fun x4 => if x4 = (20 : Int32) then (g_ar σ o 14 80 x3 (fun x5 => if x5 ≤ 0 then (fX12_behindEnds_76 o a1 (fX12_behindEnds_2 o a1 n) v2 x3 (0 : Int32) σ) else (fX12_behindEnds_76 o a1 (fX12_behindEnds_2 o a1 n) v2 x3 (1 : Int32) σ))) else (fX12_behindEnds_76 o a1 (fX12_behindEnds_2 o a1 n) v2 x3 (0 : Int32) σ)))) else (some (v2, σ)))))
set_option maxRecDepth 100000 in
set_option maxHeartbeats 4000000 in
theorem tX12_behindEnds_2 (l : Launch) (E : EV) {xr : Int32} {τ : Mm} (o : Nat) (a1 : Int32) (ho : KD o = 12) : ∀ (n : Nat) (v2 : Int32) (σ : Mm), fX12_behindEnds_2 o a1 n v2 σ = some (xr, τ) → Jd l E mX12_behindEnds 0 (some (.int xr), τ) σ 2 [(0, .ref (e_a E o 0)), (2, .int v2)] [] := by
  intro n
  induction n with
  | zero => intro v2 σ h; rw [fX12_behindEnds_2] at h; cases h
  | succ n ih =>
    intro v2 σ h
    rw [fX12_behindEnds_2] at h
    refine J_iload_n (pc := 2) 1 dX12_behindEnds_2 rfl ?_
    refine J_aload_n (pc := 3) 0 dX12_behindEnds_3 rfl ?_
    refine J_getA (pc := 4) dX12_behindEnds_4 ho flX12_7 rfl ?_
    refine J_bipush (pc := 7) (6 : Int32) dX12_behindEnds_7 (by decide) ?_
    refine J_iald (pc := 9) dX12_behindEnds_9 ho ha12_0 h (fun x1 h => ?_)
    refine J_icmp_ge (pc := 10) 115 dX12_behindEnds_10 (by decide) h (fun h => ?_) (fun h => ?_)
    · refine J_iload_n (pc := 115) 1 dX12_behindEnds_115 rfl ?_
      cases h
      exact J_iret (pc := 116) dX12_behindEnds_116 rfl rfl
    · refine J_aload_n (pc := 13) 0 dX12_behindEnds_13 rfl ?_
      refine J_getA (pc := 14) dX12_behindEnds_14 ho flX12_7 rfl ?_
      refine J_bipush (pc := 17) (120 : Int32) dX12_behindEnds_17 (by decide) ?_
      refine J_bipush (pc := 19) (6 : Int32) dX12_behindEnds_19 (by decide) ?_
      refine J_iload_n (pc := 21) 1 dX12_behindEnds_21 rfl ?_
      refine J_imul (pc := 22) dX12_behindEnds_22 ?_
      refine J_iadd (pc := 23) dX12_behindEnds_23 ?_
      refine J_iald (pc := 24) dX12_behindEnds_24 ho ha12_0 h (fun x2 h => ?_)
      refine J_bipush (pc := 25) (21 : Int32) dX12_behindEnds_25 (by decide) ?_
      refine J_icmp_ne (pc := 27) 115 dX12_behindEnds_27 (by decide) h (fun h => ?_) (fun h => ?_)
      · refine J_iload_n (pc := 115) 1 dX12_behindEnds_115 rfl ?_
        cases h
        exact J_iret (pc := 116) dX12_behindEnds_116 rfl rfl
      · refine J_aload_n (pc := 30) 0 dX12_behindEnds_30 rfl ?_
        refine J_getA (pc := 31) dX12_behindEnds_31 ho flX12_7 rfl ?_
        refine J_bipush (pc := 34) (120 : Int32) dX12_behindEnds_34 (by decide) ?_
        refine J_bipush (pc := 36) (6 : Int32) dX12_behindEnds_36 (by decide) ?_
        refine J_iload_n (pc := 38) 1 dX12_behindEnds_38 rfl ?_
        refine J_imul (pc := 39) dX12_behindEnds_39 ?_
        refine J_iadd (pc := 40) dX12_behindEnds_40 ?_
        refine J_iconst (pc := 41) (4 : Int32) dX12_behindEnds_41 (by decide) ?_
        refine J_iadd (pc := 42) dX12_behindEnds_42 ?_
        refine J_iald (pc := 43) dX12_behindEnds_43 ho ha12_0 h (fun x3 h => ?_)
        refine J_istore_n (pc := 44) (L' := [(3, .int x3), (0, .ref (e_a E o 0)), (2, .int v2)]) dX12_behindEnds_44 (by decide) rfl ?_
        refine J_aload_n (pc := 45) 1 dX12_behindEnds_45 rfl ?_
        refine J_getA (pc := 46) dX12_behindEnds_46 ho flX12_7 rfl ?_
        refine J_bipush (pc := 49) (120 : Int32) dX12_behindEnds_49 (by decide) ?_
        refine J_bipush (pc := 51) (6 : Int32) dX12_behindEnds_51 (by decide) ?_
        refine J_iload_n (pc := 53) 0 dX12_behindEnds_53 rfl ?_
        refine J_imul (pc := 54) dX12_behindEnds_54 ?_
        refine J_iadd (pc := 55) dX12_behindEnds_55 ?_
        refine J_iald (pc := 56) dX12_behindEnds_56 ho ha12_0 h (fun x4 h => ?_)
        refine J_bipush (pc := 57) (20 : Int32) dX12_behindEnds_57 (by decide) ?_
        refine J_icmp_ne (pc := 59) 75 dX12_behindEnds_59 (by decide) h (fun h => ?_) (fun h => ?_)
        · refine J_iconst (pc := 75) (0 : Int32) dX12_behindEnds_75 (by decide) ?_
          refine J_sub (L' := [(0, .ref (e_a E o 0)), (2, .int v2), (3, .int x3)]) [1, 2, 0] rfl ?_
          exact tX12_behindEnds_76 l E o a1 ho (fX12_behindEnds_2 o a1 n) ih v2 x3 (0 : Int32) σ h
        · refine J_aload_n (pc := 62) 1 dX12_behindEnds_62 rfl ?_
          refine J_getA (pc := 63) dX12_behindEnds_63 ho flX12_65 rfl ?_
          refine J_iload_n (pc := 66) 0 dX12_behindEnds_66 rfl ?_
          refine J_iald (pc := 67) dX12_behindEnds_67 ho ha12_14 h (fun x5 h => ?_)
          refine J_if_le (pc := 68) 75 dX12_behindEnds_68 (by decide) h (fun h => ?_) (fun h => ?_)
          · refine J_iconst (pc := 75) (0 : Int32) dX12_behindEnds_75 (by decide) ?_
            refine J_sub (L' := [(0, .ref (e_a E o 0)), (2, .int v2), (3, .int x3)]) [1, 2, 0] rfl ?_
            exact tX12_behindEnds_76 l E o a1 ho (fX12_behindEnds_2 o a1 n) ih v2 x3 (0 : Int32) σ h
          · refine J_iconst (pc := 71) (1 : Int32) dX12_behindEnds_71 (by decide) ?_
            refine J_goto (pc := 72) 76 dX12_behindEnds_72 (by decide) ?_
            refine J_sub (L' := [(0, .ref (e_a E o 0)), (2, .int v2), (3, .int x3)]) [1, 2, 0] rfl ?_
            exact tX12_behindEnds_76 l E o a1 ho (fX12_behindEnds_2 o a1 n) ih v2 x3 (1 : Int32) σ h
def fX12_behindEnds (o : Nat) (a1 : Int32) (σ : Mm) : Option (Int32 × Mm) := fX12_behindEnds_2 o a1 FU a1 σ
set_option maxRecDepth 100000 in
set_option maxHeartbeats 4000000 in
theorem ctX12_behindEnds (l : Launch) (E : EV) (o : Nat) (a1 : Int32) (ho : KD o = 12) (σ : Mm) {xr : Int32} {τ : Mm} (h : fX12_behindEnds o a1 σ = some (xr, τ)) : Ct l E mX12_behindEnds 0 [.ref (e_a E o 0), .int a1] σ (some (.int xr), τ) := by
  refine Ct.of (by decide +kernel) (Nat.le_of_ble_eq_true rfl) ?_
  show Jd l E mX12_behindEnds 0 (some (.int xr), τ) σ 0 [(0, .ref (e_a E o 0)), (1, .int a1)] []
  unfold fX12_behindEnds at h
  refine J_iload_n (pc := 0) 1 dX12_behindEnds_0 rfl ?_
  refine J_istore_n (pc := 1) (L' := [(2, .int a1), (0, .ref (e_a E o 0)), (1, .int a1)]) dX12_behindEnds_1 (by decide) rfl ?_
  refine J_sub (L' := [(0, .ref (e_a E o 0)), (2, .int a1)]) [1, 0] rfl ?_
  exact tX12_behindEnds_2 l E o a1 ho FU a1 σ h
