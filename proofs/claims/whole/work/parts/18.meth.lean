def fX12_wants (o : Nat) (a1 : Int32) (σ : Mm) : Option (Int32 × Mm) := c_I (fX12_isVane o a1 σ) (fun x3 σ1 => if x3 = 0 then (c_I (fX12_refuse o (1 : Int32) σ1) (fun x20 σ18 => some (x20, σ18))) else (c_V (fX12_begins0 o σ1) (fun σ4 => c_I (fX12_isCalm o a1 σ4) (fun x8 σ6 => if x8 = 0 then (c_I (fX12_wantOf o a1 σ6) (fun x11 σ9 => c_I (fX12_gives o x11 σ9) (fun x14 σ12 => some (x14, σ12)))) else (c_I (fX12_refuse o (6 : Int32) σ6) (fun x17 σ15 => some (x17, σ15)))))))
set_option maxRecDepth 100000 in
set_option maxHeartbeats 4000000 in
theorem ctX12_wants (l : Launch) (E : EV) (o : Nat) (a1 : Int32) (ho : KD o = 12) (σ : Mm) {xr : Int32} {τ : Mm} (h : fX12_wants o a1 σ = some (xr, τ)) : Ct l E mX12_wants 2 [.ref (e_a E o 0), .int a1] σ (some (.int xr), τ) := by
  refine Ct.of (by decide +kernel) (Nat.le_of_ble_eq_true rfl) ?_
  show Jd l E mX12_wants 2 (some (.int xr), τ) σ 0 [(0, .ref (e_a E o 0)), (1, .int a1)] []
  unfold fX12_wants at h
  refine J_aload_n (pc := 0) 0 dX12_wants_0 rfl ?_
  refine J_iload_n (pc := 1) 1 dX12_wants_1 rfl ?_
  obtain ⟨x3, σ1, hc2, h⟩ := cI_t h
  refine J_cVi (pc := 2) (ctX12_isVane l E o a1 ho σ hc2) dX12_wants_2 mlX12_243 mvX12_isVane ho rfl (by decide) rfl (Nat.le_of_ble_eq_true rfl) ?_
  refine J_if_ne (pc := 5) 14 dX12_wants_5 (by decide) h (fun h => ?_) (fun h => ?_)
  · refine J_aload_n (pc := 14) 0 dX12_wants_14 rfl ?_
    obtain ⟨σ4, hc5, h⟩ := cV_t h
    refine J_cVv (pc := 15) (ctX12_begins0 l E o ho σ1 hc5) dX12_wants_15 mlX12_261 mvX12_begins0 ho rfl (by decide) rfl (Nat.le_of_ble_eq_true rfl) ?_
    refine J_aload_n (pc := 18) 0 dX12_wants_18 rfl ?_
    refine J_iload_n (pc := 19) 1 dX12_wants_19 rfl ?_
    obtain ⟨x8, σ6, hc7, h⟩ := cI_t h
    refine J_cVi (pc := 20) (ctX12_isCalm l E o a1 ho σ4 hc7) dX12_wants_20 mlX12_252 mvX12_isCalm ho rfl (by decide) rfl (Nat.le_of_ble_eq_true rfl) ?_
    refine J_if_eq (pc := 23) 35 dX12_wants_23 (by decide) h (fun h => ?_) (fun h => ?_)
    · refine J_aload_n (pc := 35) 0 dX12_wants_35 rfl ?_
      refine J_aload_n (pc := 36) 0 dX12_wants_36 rfl ?_
      refine J_iload_n (pc := 37) 1 dX12_wants_37 rfl ?_
      obtain ⟨x11, σ9, hc10, h⟩ := cI_t h
      refine J_cVi (pc := 38) (ctX12_wantOf l E o a1 ho σ6 hc10) dX12_wants_38 mlX12_255 mvX12_wantOf ho rfl (by decide) rfl (Nat.le_of_ble_eq_true rfl) ?_
      obtain ⟨x14, σ12, hc13, h⟩ := cI_t h
      refine J_cVi (pc := 41) (ctX12_gives l E o x11 ho σ9 hc13) dX12_wants_41 mlX12_87 mvX12_gives ho rfl (by decide) rfl (Nat.le_of_ble_eq_true rfl) ?_
      cases h
      exact J_iret (pc := 44) dX12_wants_44 rfl rfl
    · refine J_aload_n (pc := 26) 0 dX12_wants_26 rfl ?_
      refine J_bipush (pc := 27) (6 : Int32) dX12_wants_27 (by decide) ?_
      obtain ⟨x17, σ15, hc16, h⟩ := cI_t h
      refine J_cVi (pc := 29) (ctX12_refuse l E o (6 : Int32) ho σ6 hc16) dX12_wants_29 mlX12_83 mvX12_refuse ho rfl (by decide) rfl (Nat.le_of_ble_eq_true rfl) ?_
      refine J_goto (pc := 32) 44 dX12_wants_32 (by decide) ?_
      cases h
      exact J_iret (pc := 44) dX12_wants_44 rfl rfl
  · refine J_aload_n (pc := 8) 0 dX12_wants_8 rfl ?_
    refine J_iconst (pc := 9) (1 : Int32) dX12_wants_9 (by decide) ?_
    obtain ⟨x20, σ18, hc19, h⟩ := cI_t h
    refine J_cVi (pc := 10) (ctX12_refuse l E o (1 : Int32) ho σ1 hc19) dX12_wants_10 mlX12_83 mvX12_refuse ho rfl (by decide) rfl (Nat.le_of_ble_eq_true rfl) ?_
    cases h
    exact J_iret (pc := 13) dX12_wants_13 rfl rfl
def fX12_right (o : Nat) (a1 : Int32) (σ : Mm) : Option (Int32 × Mm) := c_I (fX12_isVane o a1 σ) (fun x3 σ1 => if x3 = 0 then (c_I (fX12_refuse o (1 : Int32) σ1) (fun x17 σ15 => some (x17, σ15))) else (c_V (fX12_begins0 o σ1) (fun σ4 => c_I (fX12_isRight o a1 σ4) (fun x8 σ6 => if x8 = 0 then (c_I (fX12_gives o (0 : Int32) σ6) (fun x11 σ9 => some (x11, σ9))) else (c_I (fX12_gives o (1 : Int32) σ6) (fun x14 σ12 => some (x14, σ12)))))))
set_option maxRecDepth 100000 in
set_option maxHeartbeats 4000000 in
theorem ctX12_right (l : Launch) (E : EV) (o : Nat) (a1 : Int32) (ho : KD o = 12) (σ : Mm) {xr : Int32} {τ : Mm} (h : fX12_right o a1 σ = some (xr, τ)) : Ct l E mX12_right 3 [.ref (e_a E o 0), .int a1] σ (some (.int xr), τ) := by
  refine Ct.of (by decide +kernel) (Nat.le_of_ble_eq_true rfl) ?_
  show Jd l E mX12_right 3 (some (.int xr), τ) σ 0 [(0, .ref (e_a E o 0)), (1, .int a1)] []
  unfold fX12_right at h
  refine J_aload_n (pc := 0) 0 dX12_right_0 rfl ?_
  refine J_iload_n (pc := 1) 1 dX12_right_1 rfl ?_
  obtain ⟨x3, σ1, hc2, h⟩ := cI_t h
  refine J_cVi (pc := 2) (ctX12_isVane l E o a1 ho σ hc2) dX12_right_2 mlX12_243 mvX12_isVane ho rfl (by decide) rfl (Nat.le_of_ble_eq_true rfl) ?_
  refine J_if_ne (pc := 5) 14 dX12_right_5 (by decide) h (fun h => ?_) (fun h => ?_)
  · refine J_aload_n (pc := 14) 0 dX12_right_14 rfl ?_
    obtain ⟨σ4, hc5, h⟩ := cV_t h
    refine J_cVv (pc := 15) (ctX12_begins0 l E o ho σ1 hc5) dX12_right_15 mlX12_261 mvX12_begins0 ho rfl (by decide) rfl (Nat.le_of_ble_eq_true rfl) ?_
    refine J_aload_n (pc := 18) 0 dX12_right_18 rfl ?_
    refine J_aload_n (pc := 19) 0 dX12_right_19 rfl ?_
    refine J_iload_n (pc := 20) 1 dX12_right_20 rfl ?_
    obtain ⟨x8, σ6, hc7, h⟩ := cI_t h
    refine J_cVi (pc := 21) (ctX12_isRight l E o a1 ho σ4 hc7) dX12_right_21 mlX12_258 mvX12_isRight ho rfl (by decide) rfl (Nat.le_of_ble_eq_true rfl) ?_
    refine J_if_eq (pc := 24) 31 dX12_right_24 (by decide) h (fun h => ?_) (fun h => ?_)
    · refine J_iconst (pc := 31) (0 : Int32) dX12_right_31 (by decide) ?_
      obtain ⟨x11, σ9, hc10, h⟩ := cI_t h
      refine J_cVi (pc := 32) (ctX12_gives l E o (0 : Int32) ho σ6 hc10) dX12_right_32 mlX12_87 mvX12_gives ho rfl (by decide) rfl (Nat.le_of_ble_eq_true rfl) ?_
      cases h
      exact J_iret (pc := 35) dX12_right_35 rfl rfl
    · refine J_iconst (pc := 27) (1 : Int32) dX12_right_27 (by decide) ?_
      refine J_goto (pc := 28) 32 dX12_right_28 (by decide) ?_
      obtain ⟨x14, σ12, hc13, h⟩ := cI_t h
      refine J_cVi (pc := 32) (ctX12_gives l E o (1 : Int32) ho σ6 hc13) dX12_right_32 mlX12_87 mvX12_gives ho rfl (by decide) rfl (Nat.le_of_ble_eq_true rfl) ?_
      cases h
      exact J_iret (pc := 35) dX12_right_35 rfl rfl
  · refine J_aload_n (pc := 8) 0 dX12_right_8 rfl ?_
    refine J_iconst (pc := 9) (1 : Int32) dX12_right_9 (by decide) ?_
    obtain ⟨x17, σ15, hc16, h⟩ := cI_t h
    refine J_cVi (pc := 10) (ctX12_refuse l E o (1 : Int32) ho σ1 hc16) dX12_right_10 mlX12_83 mvX12_refuse ho rfl (by decide) rfl (Nat.le_of_ble_eq_true rfl) ?_
    cases h
    exact J_iret (pc := 13) dX12_right_13 rfl rfl
def fX12_toRight (o : Nat) (a1 : Int32) (a2 : Int32) (σ : Mm) : Option (Int32 × Mm) := c_I (fX12_vaneAt o a1 (0 : Int32) σ) (fun x3 σ1 => c_I (fX12_wantOf o a1 σ1) (fun x6 σ4 => n_z x3 (some ((((x6 - a2) + x3) - ((x6 - a2) + x3) / x3 * x3), σ4))))
set_option maxRecDepth 100000 in
set_option maxHeartbeats 4000000 in
theorem ctX12_toRight (l : Launch) (E : EV) (o : Nat) (a1 : Int32) (a2 : Int32) (ho : KD o = 12) (σ : Mm) {xr : Int32} {τ : Mm} (h : fX12_toRight o a1 a2 σ = some (xr, τ)) : Ct l E mX12_toRight 2 [.ref (e_a E o 0), .int a1, .int a2] σ (some (.int xr), τ) := by
  refine Ct.of (by decide +kernel) (Nat.le_of_ble_eq_true rfl) ?_
  show Jd l E mX12_toRight 2 (some (.int xr), τ) σ 0 [(0, .ref (e_a E o 0)), (1, .int a1), (2, .int a2)] []
  unfold fX12_toRight at h
  refine J_aload_n (pc := 0) 0 dX12_toRight_0 rfl ?_
  refine J_iload_n (pc := 1) 1 dX12_toRight_1 rfl ?_
  refine J_iconst (pc := 2) (0 : Int32) dX12_toRight_2 (by decide) ?_
  obtain ⟨x3, σ1, hc2, h⟩ := cI_t h
  refine J_cVi (pc := 3) (ctX12_vaneAt l E o a1 (0 : Int32) ho σ hc2) dX12_toRight_3 mlX12_249 mvX12_vaneAt ho rfl (by decide) rfl (Nat.le_of_ble_eq_true rfl) ?_
  refine J_istore_n (pc := 6) (L' := [(3, .int x3), (0, .ref (e_a E o 0)), (1, .int a1), (2, .int a2)]) dX12_toRight_6 (by decide) rfl ?_
  refine J_aload_n (pc := 7) 1 dX12_toRight_7 rfl ?_
  refine J_iload_n (pc := 8) 2 dX12_toRight_8 rfl ?_
  obtain ⟨x6, σ4, hc5, h⟩ := cI_t h
  refine J_cVi (pc := 9) (ctX12_wantOf l E o a1 ho σ1 hc5) dX12_toRight_9 mlX12_255 mvX12_wantOf ho rfl (by decide) rfl (Nat.le_of_ble_eq_true rfl) ?_
  refine J_iload_n (pc := 12) 3 dX12_toRight_12 rfl ?_
  refine J_isub (pc := 13) dX12_toRight_13 ?_
  refine J_iload_n (pc := 14) 0 dX12_toRight_14 rfl ?_
  refine J_iadd (pc := 15) dX12_toRight_15 ?_
  refine J_iload_n (pc := 16) 0 dX12_toRight_16 rfl ?_
  obtain ⟨hz7, h⟩ := nz_t h
  refine J_irem (pc := 17) dX12_toRight_17 hz7 ?_
  cases h
  exact J_iret (pc := 18) dX12_toRight_18 rfl rfl
def fX12_farFrom (o : Nat) (a1 : Int32) (a2 : Int32) (σ : Mm) : Option (Int32 × Mm) := c_I (fX12_toRight o a1 a2 σ) (fun x3 σ1 => c_I (fX12_vaneAt o a1 (0 : Int32) σ1) (fun x6 σ4 => if (x6 - x3) ≤ x3 then (some ((x6 - x3), σ4)) else (some (x3, σ4))))
set_option maxRecDepth 100000 in
set_option maxHeartbeats 4000000 in
theorem ctX12_farFrom (l : Launch) (E : EV) (o : Nat) (a1 : Int32) (a2 : Int32) (ho : KD o = 12) (σ : Mm) {xr : Int32} {τ : Mm} (h : fX12_farFrom o a1 a2 σ = some (xr, τ)) : Ct l E mX12_farFrom 3 [.ref (e_a E o 0), .int a1, .int a2] σ (some (.int xr), τ) := by
  refine Ct.of (by decide +kernel) (Nat.le_of_ble_eq_true rfl) ?_
  show Jd l E mX12_farFrom 3 (some (.int xr), τ) σ 0 [(0, .ref (e_a E o 0)), (1, .int a1), (2, .int a2)] []
  unfold fX12_farFrom at h
  refine J_aload_n (pc := 0) 0 dX12_farFrom_0 rfl ?_
  refine J_iload_n (pc := 1) 1 dX12_farFrom_1 rfl ?_
  refine J_iload_n (pc := 2) 2 dX12_farFrom_2 rfl ?_
  obtain ⟨x3, σ1, hc2, h⟩ := cI_t h
  refine J_cVi (pc := 3) (ctX12_toRight l E o a1 a2 ho σ hc2) dX12_farFrom_3 mlX12_264 mvX12_toRight ho rfl (by decide) rfl (Nat.le_of_ble_eq_true rfl) ?_
  refine J_istore_n (pc := 6) (L' := [(3, .int x3), (0, .ref (e_a E o 0)), (1, .int a1), (2, .int a2)]) dX12_farFrom_6 (by decide) rfl ?_
  refine J_aload_n (pc := 7) 1 dX12_farFrom_7 rfl ?_
  refine J_iload_n (pc := 8) 2 dX12_farFrom_8 rfl ?_
  refine J_iconst (pc := 9) (0 : Int32) dX12_farFrom_9 (by decide) ?_
  obtain ⟨x6, σ4, hc5, h⟩ := cI_t h
  refine J_cVi (pc := 10) (ctX12_vaneAt l E o a1 (0 : Int32) ho σ1 hc5) dX12_farFrom_10 mlX12_249 mvX12_vaneAt ho rfl (by decide) rfl (Nat.le_of_ble_eq_true rfl) ?_
  refine J_iload_n (pc := 13) 0 dX12_farFrom_13 rfl ?_
  refine J_isub (pc := 14) dX12_farFrom_14 ?_
  refine J_istore (pc := 15) (L' := [(4, .int (x6 - x3)), (3, .int x3), (0, .ref (e_a E o 0)), (1, .int a1), (2, .int a2)]) dX12_farFrom_15 (by decide) rfl ?_
  refine J_iload_n (pc := 17) 1 dX12_farFrom_17 rfl ?_
  refine J_iload (pc := 18) 0 dX12_farFrom_18 rfl ?_
  refine J_icmp_ge (pc := 20) 27 dX12_farFrom_20 (by decide) h (fun h => ?_) (fun h => ?_)
  · refine J_iload (pc := 27) 0 dX12_farFrom_27 rfl ?_
    cases h
    exact J_iret (pc := 29) dX12_farFrom_29 rfl rfl
  · refine J_iload_n (pc := 23) 1 dX12_farFrom_23 rfl ?_
    refine J_goto (pc := 24) 29 dX12_farFrom_24 (by decide) ?_
    cases h
    exact J_iret (pc := 29) dX12_farFrom_29 rfl rfl
def fX12_turned (o : Nat) (a1 : Int32) (a2 : Int32) (σ : Mm) : Option (Int32 × Mm) := c_I (fX12_vaneAt o a1 (3 : Int32) σ) (fun x3 σ1 => c_I (fX12_vaneAt o a1 (0 : Int32) σ1) (fun x6 σ4 => c_I (fX12_vaneAt o a1 (0 : Int32) σ4) (fun x9 σ7 => n_z x9 (some ((((x3 + a2) + x6) - ((x3 + a2) + x6) / x9 * x9), σ7)))))
set_option maxRecDepth 100000 in
set_option maxHeartbeats 4000000 in
theorem ctX12_turned (l : Launch) (E : EV) (o : Nat) (a1 : Int32) (a2 : Int32) (ho : KD o = 12) (σ : Mm) {xr : Int32} {τ : Mm} (h : fX12_turned o a1 a2 σ = some (xr, τ)) : Ct l E mX12_turned 1 [.ref (e_a E o 0), .int a1, .int a2] σ (some (.int xr), τ) := by
  refine Ct.of (by decide +kernel) (Nat.le_of_ble_eq_true rfl) ?_
  show Jd l E mX12_turned 1 (some (.int xr), τ) σ 0 [(0, .ref (e_a E o 0)), (1, .int a1), (2, .int a2)] []
  unfold fX12_turned at h
  refine J_aload_n (pc := 0) 0 dX12_turned_0 rfl ?_
  refine J_iload_n (pc := 1) 1 dX12_turned_1 rfl ?_
  refine J_iconst (pc := 2) (3 : Int32) dX12_turned_2 (by decide) ?_
  obtain ⟨x3, σ1, hc2, h⟩ := cI_t h
  refine J_cVi (pc := 3) (ctX12_vaneAt l E o a1 (3 : Int32) ho σ hc2) dX12_turned_3 mlX12_249 mvX12_vaneAt ho rfl (by decide) rfl (Nat.le_of_ble_eq_true rfl) ?_
  refine J_iload_n (pc := 6) 2 dX12_turned_6 rfl ?_
  refine J_iadd (pc := 7) dX12_turned_7 ?_
  refine J_aload_n (pc := 8) 0 dX12_turned_8 rfl ?_
  refine J_iload_n (pc := 9) 1 dX12_turned_9 rfl ?_
  refine J_iconst (pc := 10) (0 : Int32) dX12_turned_10 (by decide) ?_
  obtain ⟨x6, σ4, hc5, h⟩ := cI_t h
  refine J_cVi (pc := 11) (ctX12_vaneAt l E o a1 (0 : Int32) ho σ1 hc5) dX12_turned_11 mlX12_249 mvX12_vaneAt ho rfl (by decide) rfl (Nat.le_of_ble_eq_true rfl) ?_
  refine J_iadd (pc := 14) dX12_turned_14 ?_
  refine J_aload_n (pc := 15) 0 dX12_turned_15 rfl ?_
  refine J_iload_n (pc := 16) 1 dX12_turned_16 rfl ?_
  refine J_iconst (pc := 17) (0 : Int32) dX12_turned_17 (by decide) ?_
  obtain ⟨x9, σ7, hc8, h⟩ := cI_t h
  refine J_cVi (pc := 18) (ctX12_vaneAt l E o a1 (0 : Int32) ho σ4 hc8) dX12_turned_18 mlX12_249 mvX12_vaneAt ho rfl (by decide) rfl (Nat.le_of_ble_eq_true rfl) ?_
  obtain ⟨hz10, h⟩ := nz_t h
  refine J_irem (pc := 21) dX12_turned_21 hz10 ?_
  cases h
  exact J_iret (pc := 22) dX12_turned_22 rfl rfl
def fX12_playBehind (o : Nat) (a1 : Int32) (σ : Mm) : Option (Int32 × Mm) := c_I (fX12_shaftAt o a1 (1 : Int32) σ) (fun x3 σ1 => g_ar σ1 o 8 8 x3 (fun x4 => c_I (fX12_shaftAt o a1 (4 : Int32) σ1) (fun x7 σ5 => c_I (fX12_shaftAt o a1 (0 : Int32) σ5) (fun x10 σ8 => g_ar σ8 o 8 8 x10 (fun x11 => c_I (fX12_shaftAt o a1 (2 : Int32) σ8) (fun x14 σ12 => if x14 = (1 : Int32) then (some (((x7 + x11) + (-x4)), σ12)) else (some (((x7 + x11) + x4), σ12))))))))
set_option maxRecDepth 100000 in
set_option maxHeartbeats 4000000 in
theorem ctX12_playBehind (l : Launch) (E : EV) (o : Nat) (a1 : Int32) (ho : KD o = 12) (σ : Mm) {xr : Int32} {τ : Mm} (h : fX12_playBehind o a1 σ = some (xr, τ)) : Ct l E mX12_playBehind 1 [.ref (e_a E o 0), .int a1] σ (some (.int xr), τ) := by
  refine Ct.of (by decide +kernel) (Nat.le_of_ble_eq_true rfl) ?_
  show Jd l E mX12_playBehind 1 (some (.int xr), τ) σ 0 [(0, .ref (e_a E o 0)), (1, .int a1)] []
  unfold fX12_playBehind at h
  refine J_aload_n (pc := 0) 0 dX12_playBehind_0 rfl ?_
  refine J_getA (pc := 1) dX12_playBehind_1 ho flX12_47 rfl ?_
  refine J_aload_n (pc := 4) 0 dX12_playBehind_4 rfl ?_
  refine J_iload_n (pc := 5) 1 dX12_playBehind_5 rfl ?_
  refine J_iconst (pc := 6) (1 : Int32) dX12_playBehind_6 (by decide) ?_
  obtain ⟨x3, σ1, hc2, h⟩ := cI_t h
  refine J_cVi (pc := 7) (ctX12_shaftAt l E o a1 (1 : Int32) ho σ hc2) dX12_playBehind_7 mlX12_267 mvX12_shaftAt ho rfl (by decide) rfl (Nat.le_of_ble_eq_true rfl) ?_
  refine J_iald (pc := 10) dX12_playBehind_10 ho ha12_8 h (fun x4 h => ?_)
  refine J_istore_n (pc := 11) (L' := [(2, .int x4), (0, .ref (e_a E o 0)), (1, .int a1)]) dX12_playBehind_11 (by decide) rfl ?_
  refine J_aload_n (pc := 12) 1 dX12_playBehind_12 rfl ?_
  refine J_iload_n (pc := 13) 2 dX12_playBehind_13 rfl ?_
  refine J_iconst (pc := 14) (4 : Int32) dX12_playBehind_14 (by decide) ?_
  obtain ⟨x7, σ5, hc6, h⟩ := cI_t h
  refine J_cVi (pc := 15) (ctX12_shaftAt l E o a1 (4 : Int32) ho σ1 hc6) dX12_playBehind_15 mlX12_267 mvX12_shaftAt ho rfl (by decide) rfl (Nat.le_of_ble_eq_true rfl) ?_
  refine J_aload_n (pc := 18) 1 dX12_playBehind_18 rfl ?_
  refine J_getA (pc := 19) dX12_playBehind_19 ho flX12_47 rfl ?_
  refine J_aload_n (pc := 22) 1 dX12_playBehind_22 rfl ?_
  refine J_iload_n (pc := 23) 2 dX12_playBehind_23 rfl ?_
  refine J_iconst (pc := 24) (0 : Int32) dX12_playBehind_24 (by decide) ?_
  obtain ⟨x10, σ8, hc9, h⟩ := cI_t h
  refine J_cVi (pc := 25) (ctX12_shaftAt l E o a1 (0 : Int32) ho σ5 hc9) dX12_playBehind_25 mlX12_267 mvX12_shaftAt ho rfl (by decide) rfl (Nat.le_of_ble_eq_true rfl) ?_
  refine J_iald (pc := 28) dX12_playBehind_28 ho ha12_8 h (fun x11 h => ?_)
  refine J_iadd (pc := 29) dX12_playBehind_29 ?_
  refine J_aload_n (pc := 30) 1 dX12_playBehind_30 rfl ?_
  refine J_iload_n (pc := 31) 2 dX12_playBehind_31 rfl ?_
  refine J_iconst (pc := 32) (2 : Int32) dX12_playBehind_32 (by decide) ?_
  obtain ⟨x14, σ12, hc13, h⟩ := cI_t h
  refine J_cVi (pc := 33) (ctX12_shaftAt l E o a1 (2 : Int32) ho σ8 hc13) dX12_playBehind_33 mlX12_267 mvX12_shaftAt ho rfl (by decide) rfl (Nat.le_of_ble_eq_true rfl) ?_
  refine J_iconst (pc := 36) (1 : Int32) dX12_playBehind_36 (by decide) ?_
  refine J_icmp_ne (pc := 37) 45 dX12_playBehind_37 (by decide) h (fun h => ?_) (fun h => ?_)
  · refine J_iload_n (pc := 45) 0 dX12_playBehind_45 rfl ?_
    refine J_iadd (pc := 46) dX12_playBehind_46 ?_
    cases h
    exact J_iret (pc := 47) dX12_playBehind_47 rfl rfl
  · refine J_iload_n (pc := 40) 0 dX12_playBehind_40 rfl ?_
    refine J_ineg (pc := 41) dX12_playBehind_41 ?_
    refine J_goto (pc := 42) 46 dX12_playBehind_42 (by decide) ?_
    refine J_iadd (pc := 46) dX12_playBehind_46 ?_
    cases h
    exact J_iret (pc := 47) dX12_playBehind_47 rfl rfl
def fX12_isOut (o : Nat) (a1 : Int32) (σ : Mm) : Option (Int32 × Mm) := c_I (fX12_playBehind o a1 σ) (fun x3 σ1 => if x3 < 0 then (some ((1 : Int32), σ1)) else (c_I (fX12_playBehind o a1 σ1) (fun x6 σ4 => c_I (fX12_shaftAt o a1 (3 : Int32) σ4) (fun x9 σ7 => if x6 ≤ x9 then (some ((0 : Int32), σ7)) else (some ((1 : Int32), σ7))))))
set_option maxRecDepth 100000 in
set_option maxHeartbeats 4000000 in
theorem ctX12_isOut (l : Launch) (E : EV) (o : Nat) (a1 : Int32) (ho : KD o = 12) (σ : Mm) {xr : Int32} {τ : Mm} (h : fX12_isOut o a1 σ = some (xr, τ)) : Ct l E mX12_isOut 2 [.ref (e_a E o 0), .int a1] σ (some (.int xr), τ) := by
  refine Ct.of (by decide +kernel) (Nat.le_of_ble_eq_true rfl) ?_
  show Jd l E mX12_isOut 2 (some (.int xr), τ) σ 0 [(0, .ref (e_a E o 0)), (1, .int a1)] []
  unfold fX12_isOut at h
  refine J_aload_n (pc := 0) 0 dX12_isOut_0 rfl ?_
  refine J_iload_n (pc := 1) 1 dX12_isOut_1 rfl ?_
  obtain ⟨x3, σ1, hc2, h⟩ := cI_t h
  refine J_cVi (pc := 2) (ctX12_playBehind l E o a1 ho σ hc2) dX12_isOut_2 mlX12_270 mvX12_playBehind ho rfl (by decide) rfl (Nat.le_of_ble_eq_true rfl) ?_
  refine J_if_lt (pc := 5) 22 dX12_isOut_5 (by decide) h (fun h => ?_) (fun h => ?_)
  · refine J_iconst (pc := 22) (1 : Int32) dX12_isOut_22 (by decide) ?_
    refine J_goto (pc := 23) 27 dX12_isOut_23 (by decide) ?_
    cases h
    exact J_iret (pc := 27) dX12_isOut_27 rfl rfl
  · refine J_aload_n (pc := 8) 0 dX12_isOut_8 rfl ?_
    refine J_iload_n (pc := 9) 1 dX12_isOut_9 rfl ?_
    obtain ⟨x6, σ4, hc5, h⟩ := cI_t h
    refine J_cVi (pc := 10) (ctX12_playBehind l E o a1 ho σ1 hc5) dX12_isOut_10 mlX12_270 mvX12_playBehind ho rfl (by decide) rfl (Nat.le_of_ble_eq_true rfl) ?_
    refine J_aload_n (pc := 13) 0 dX12_isOut_13 rfl ?_
    refine J_iload_n (pc := 14) 1 dX12_isOut_14 rfl ?_
    refine J_iconst (pc := 15) (3 : Int32) dX12_isOut_15 (by decide) ?_
    obtain ⟨x9, σ7, hc8, h⟩ := cI_t h
    refine J_cVi (pc := 16) (ctX12_shaftAt l E o a1 (3 : Int32) ho σ4 hc8) dX12_isOut_16 mlX12_267 mvX12_shaftAt ho rfl (by decide) rfl (Nat.le_of_ble_eq_true rfl) ?_
    refine J_icmp_le (pc := 19) 26 dX12_isOut_19 (by decide) h (fun h => ?_) (fun h => ?_)
    · refine J_iconst (pc := 26) (0 : Int32) dX12_isOut_26 (by decide) ?_
      cases h
      exact J_iret (pc := 27) dX12_isOut_27 rfl rfl
    · refine J_iconst (pc := 22) (1 : Int32) dX12_isOut_22 (by decide) ?_
      refine J_goto (pc := 23) 27 dX12_isOut_23 (by decide) ?_
      cases h
      exact J_iret (pc := 27) dX12_isOut_27 rfl rfl
def fX12_isJoining (o : Nat) (a1 : Int32) (σ : Mm) : Option (Int32 × Mm) := g_ar σ o 0 2950 (2454 : Int32) (fun x1 => if ((x1 >>> (a1 &&& 31)) &&& (1 : Int32)) = 0 then (some ((1 : Int32), σ)) else (some ((0 : Int32), σ)))
set_option maxRecDepth 100000 in
set_option maxHeartbeats 4000000 in
theorem ctX12_isJoining (l : Launch) (E : EV) (o : Nat) (a1 : Int32) (ho : KD o = 12) (σ : Mm) {xr : Int32} {τ : Mm} (h : fX12_isJoining o a1 σ = some (xr, τ)) : Ct l E mX12_isJoining 0 [.ref (e_a E o 0), .int a1] σ (some (.int xr), τ) := by
  refine Ct.of (by decide +kernel) (Nat.le_of_ble_eq_true rfl) ?_
  show Jd l E mX12_isJoining 0 (some (.int xr), τ) σ 0 [(0, .ref (e_a E o 0)), (1, .int a1)] []
  unfold fX12_isJoining at h
  refine J_aload_n (pc := 0) 0 dX12_isJoining_0 rfl ?_
  refine J_getA (pc := 1) dX12_isJoining_1 ho flX12_7 rfl ?_
  refine J_sipush (pc := 4) (2454 : Int32) dX12_isJoining_4 (by decide) ?_
  refine J_iald (pc := 7) dX12_isJoining_7 ho ha12_0 h (fun x1 h => ?_)
  refine J_iload_n (pc := 8) 1 dX12_isJoining_8 rfl ?_
  refine J_ishr (pc := 9) dX12_isJoining_9 ?_
  refine J_iconst (pc := 10) (1 : Int32) dX12_isJoining_10 (by decide) ?_
  refine J_iand (pc := 11) dX12_isJoining_11 ?_
  refine J_if_ne (pc := 12) 19 dX12_isJoining_12 (by decide) h (fun h => ?_) (fun h => ?_)
  · refine J_iconst (pc := 19) (0 : Int32) dX12_isJoining_19 (by decide) ?_
    cases h
    exact J_iret (pc := 20) dX12_isJoining_20 rfl rfl
  · refine J_iconst (pc := 15) (1 : Int32) dX12_isJoining_15 (by decide) ?_
    refine J_goto (pc := 16) 20 dX12_isJoining_16 (by decide) ?_
    cases h
    exact J_iret (pc := 20) dX12_isJoining_20 rfl rfl
def fX12_dragsBy_142 (o : Nat) (a1 : Int32) (a2 : Int32) (k30 : Int32 → Mm → Option (Int32 × Mm)) (v4 : Int32) (v5 : Int32) (v6 : Int32) (σ : Mm) : Option (Int32 × Mm) := g_ar σ o 8 8 v4 (fun x34 => if x34 = 0 then (s_ar σ o 8 8 v4 v6 (fun σ36 => k30 (0 : Int32) σ36)) else (s_ar σ o 8 8 v5 v6 (fun σ35 => k30 (0 : Int32) σ35)))
set_option maxRecDepth 100000 in
set_option maxHeartbeats 4000000 in
theorem tX12_dragsBy_142 (l : Launch) (E : EV) {xr : Int32} {τ : Mm} (o : Nat) (a1 : Int32) (a2 : Int32) (ho : KD o = 12) (k30 : Int32 → Mm → Option (Int32 × Mm)) (hk30 : ∀ (v3 : Int32) (σ : Mm), k30 v3 σ = some (xr, τ) → Jd l E mX12_dragsBy 3 (some (.int xr), τ) σ 30 [(0, .ref (e_a E o 0)), (3, .int v3)] []) (v4 : Int32) (v5 : Int32) (v6 : Int32) (σ : Mm) (h : fX12_dragsBy_142 o a1 a2 k30 v4 v5 v6 σ = some (xr, τ)) : Jd l E mX12_dragsBy 3 (some (.int xr), τ) σ 142 [(0, .ref (e_a E o 0)), (4, .int v4), (5, .int v5), (6, .int v6)] [] := by
  unfold fX12_dragsBy_142 at h
  refine J_aload_n (pc := 142) 0 dX12_dragsBy_142 rfl ?_
  refine J_getA (pc := 143) dX12_dragsBy_143 ho flX12_47 rfl ?_
  refine J_iload (pc := 146) 1 dX12_dragsBy_146 rfl ?_
  refine J_iald (pc := 148) dX12_dragsBy_148 ho ha12_8 h (fun x34 h => ?_)
  refine J_if_ne (pc := 149) 164 dX12_dragsBy_149 (by decide) h (fun h => ?_) (fun h => ?_)
  · refine J_aload_n (pc := 164) 0 dX12_dragsBy_164 rfl ?_
    refine J_getA (pc := 165) dX12_dragsBy_165 ho flX12_47 rfl ?_
    refine J_iload (pc := 168) 2 dX12_dragsBy_168 rfl ?_
    refine J_iload (pc := 170) 3 dX12_dragsBy_170 rfl ?_
    refine J_iast (pc := 172) dX12_dragsBy_172 ho ha12_8 h (fun σ35 h => ?_)
    refine J_iconst (pc := 173) (0 : Int32) dX12_dragsBy_173 (by decide) ?_
    refine J_istore_n (pc := 174) (L' := [(3, .int (0 : Int32)), (0, .ref (e_a E o 0)), (4, .int v4), (5, .int v5), (6, .int v6)]) dX12_dragsBy_174 (by decide) rfl ?_
    refine J_goto (pc := 175) 30 dX12_dragsBy_175 (by decide) ?_
    refine J_sub (L' := [(0, .ref (e_a E o 0)), (3, .int (0 : Int32))]) [1, 0] rfl ?_
    exact hk30 (0 : Int32) σ35 h
  · refine J_aload_n (pc := 152) 0 dX12_dragsBy_152 rfl ?_
    refine J_getA (pc := 153) dX12_dragsBy_153 ho flX12_47 rfl ?_
    refine J_iload (pc := 156) 1 dX12_dragsBy_156 rfl ?_
    refine J_iload (pc := 158) 3 dX12_dragsBy_158 rfl ?_
    refine J_iast (pc := 160) dX12_dragsBy_160 ho ha12_8 h (fun σ36 h => ?_)
    refine J_goto (pc := 161) 173 dX12_dragsBy_161 (by decide) ?_
    refine J_iconst (pc := 173) (0 : Int32) dX12_dragsBy_173 (by decide) ?_
    refine J_istore_n (pc := 174) (L' := [(3, .int (0 : Int32)), (0, .ref (e_a E o 0)), (4, .int v4), (5, .int v5), (6, .int v6)]) dX12_dragsBy_174 (by decide) rfl ?_
    refine J_goto (pc := 175) 30 dX12_dragsBy_175 (by decide) ?_
    refine J_sub (L' := [(0, .ref (e_a E o 0)), (3, .int (0 : Int32))]) [1, 0] rfl ?_
    exact hk30 (0 : Int32) σ36 h
def fX12_dragsBy_94 (o : Nat) (a1 : Int32) (a2 : Int32) (k30 : Int32 → Mm → Option (Int32 × Mm)) (v3 : Int32) (v4 : Int32) (v5 : Int32) (s0 : Int32) (s1 : Int32) (σ : Mm) : Option (Int32 × Mm) := if s1 = s0 then (k30 (v3 + (1 : Int32)) σ) else (c_I (fX12_isOut o v3 σ) (fun x21 σ19 => if x21 = 0 then (k30 (v3 + (1 : Int32)) σ19) else (g_ar σ19 o 8 8 v4 (fun x22 => g_ar σ19 o 8 8 v5 (fun x23 => c_I (fX12_shaftAt o v3 (2 : Int32) σ19) (fun x26 σ24 => if x26 = 0 then (fX12_dragsBy_142 o a1 a2 k30 v4 v5 (-(x22 + x23)) σ24) else (fX12_dragsBy_142 o a1 a2 k30 v4 v5 (x22 + x23) σ24)))))))
set_option maxRecDepth 100000 in
set_option maxHeartbeats 4000000 in
theorem tX12_dragsBy_94 (l : Launch) (E : EV) {xr : Int32} {τ : Mm} (o : Nat) (a1 : Int32) (a2 : Int32) (ho : KD o = 12) (k30 : Int32 → Mm → Option (Int32 × Mm)) (hk30 : ∀ (v3 : Int32) (σ : Mm), k30 v3 σ = some (xr, τ) → Jd l E mX12_dragsBy 3 (some (.int xr), τ) σ 30 [(0, .ref (e_a E o 0)), (3, .int v3)] []) (v3 : Int32) (v4 : Int32) (v5 : Int32) (s0 : Int32) (s1 : Int32) (σ : Mm) (h : fX12_dragsBy_94 o a1 a2 k30 v3 v4 v5 s0 s1 σ = some (xr, τ)) : Jd l E mX12_dragsBy 3 (some (.int xr), τ) σ 94 [(0, .ref (e_a E o 0)), (3, .int v3), (4, .int v4), (5, .int v5)] [.int s0, .int s1] := by
  unfold fX12_dragsBy_94 at h
  refine J_icmp_eq (pc := 94) 105 dX12_dragsBy_94 (by decide) h (fun h => ?_) (fun h => ?_)
  · refine J_iinc (pc := 105) (L' := [(3, .int (v3 + (1 : Int32))), (0, .ref (e_a E o 0)), (4, .int v4), (5, .int v5)]) 1 (v3 + (1 : Int32)) dX12_dragsBy_105 rfl (by rfl) (by decide) rfl ?_
    refine J_goto (pc := 108) 30 dX12_dragsBy_108 (by decide) ?_
    refine J_sub (L' := [(0, .ref (e_a E o 0)), (3, .int (v3 + (1 : Int32)))]) [1, 0] rfl ?_
    exact hk30 (v3 + (1 : Int32)) σ h
  · refine J_aload_n (pc := 97) 0 dX12_dragsBy_97 rfl ?_
    refine J_iload_n (pc := 98) 1 dX12_dragsBy_98 rfl ?_
    obtain ⟨x21, σ19, hc20, h⟩ := cI_t h
    refine J_cVi (pc := 99) (ctX12_isOut l E o v3 ho σ hc20) dX12_dragsBy_99 mlX12_276 mvX12_isOut ho rfl (by decide) rfl (Nat.le_of_ble_eq_true rfl) ?_
    refine J_if_ne (pc := 102) 111 dX12_dragsBy_102 (by decide) h (fun h => ?_) (fun h => ?_)
    · refine J_aload_n (pc := 111) 0 dX12_dragsBy_111 rfl ?_
      refine J_getA (pc := 112) dX12_dragsBy_112 ho flX12_47 rfl ?_
      refine J_iload (pc := 115) 2 dX12_dragsBy_115 rfl ?_
      refine J_iald (pc := 117) dX12_dragsBy_117 ho ha12_8 h (fun x22 h => ?_)
      refine J_aload_n (pc := 118) 0 dX12_dragsBy_118 rfl ?_
      refine J_getA (pc := 119) dX12_dragsBy_119 ho flX12_47 rfl ?_
      refine J_iload (pc := 122) 3 dX12_dragsBy_122 rfl ?_
      refine J_iald (pc := 124) dX12_dragsBy_124 ho ha12_8 h (fun x23 h => ?_)
      refine J_iadd (pc := 125) dX12_dragsBy_125 ?_
      refine J_istore (pc := 126) (L' := [(6, .int (x22 + x23)), (0, .ref (e_a E o 0)), (3, .int v3), (4, .int v4), (5, .int v5)]) dX12_dragsBy_126 (by decide) rfl ?_
      refine J_aload_n (pc := 128) 1 dX12_dragsBy_128 rfl ?_
      refine J_iload_n (pc := 129) 2 dX12_dragsBy_129 rfl ?_
      refine J_iconst (pc := 130) (2 : Int32) dX12_dragsBy_130 (by decide) ?_
      obtain ⟨x26, σ24, hc25, h⟩ := cI_t h
      refine J_cVi (pc := 131) (ctX12_shaftAt l E o v3 (2 : Int32) ho σ19 hc25) dX12_dragsBy_131 mlX12_267 mvX12_shaftAt ho rfl (by decide) rfl (Nat.le_of_ble_eq_true rfl) ?_
      refine J_if_ne (pc := 134) 142 dX12_dragsBy_134 (by decide) h (fun h => ?_) (fun h => ?_)
      · refine J_sub (L' := [(0, .ref (e_a E o 0)), (4, .int v4), (5, .int v5), (6, .int (x22 + x23))]) [1, 3, 4, 0] rfl ?_
        exact tX12_dragsBy_142 l E o a1 a2 ho k30 hk30 v4 v5 (x22 + x23) σ24 h
      · refine J_iload (pc := 137) 0 dX12_dragsBy_137 rfl ?_
        refine J_ineg (pc := 139) dX12_dragsBy_139 ?_
        refine J_istore (pc := 140) (L' := [(6, .int (-(x22 + x23))), (0, .ref (e_a E o 0)), (3, .int v3), (4, .int v4), (5, .int v5)]) dX12_dragsBy_140 (by decide) rfl ?_
        refine J_sub (L' := [(0, .ref (e_a E o 0)), (4, .int v4), (5, .int v5), (6, .int (-(x22 + x23)))]) [1, 3, 4, 0] rfl ?_
        exact tX12_dragsBy_142 l E o a1 a2 ho k30 hk30 v4 v5 (-(x22 + x23)) σ24 h
    · refine J_iinc (pc := 105) (L' := [(3, .int (v3 + (1 : Int32))), (0, .ref (e_a E o 0)), (4, .int v4), (5, .int v5)]) 1 (v3 + (1 : Int32)) dX12_dragsBy_105 rfl (by rfl) (by decide) rfl ?_
      refine J_goto (pc := 108) 30 dX12_dragsBy_108 (by decide) ?_
      refine J_sub (L' := [(0, .ref (e_a E o 0)), (3, .int (v3 + (1 : Int32)))]) [1, 0] rfl ?_
      exact hk30 (v3 + (1 : Int32)) σ19 h
def fX12_dragsBy_230 (o : Nat) (a1 : Int32) (a2 : Int32) : Nat → Int32 → Mm → Option (Int32 × Mm)
  | 0, _, _ => none
  | n + 1, v4, σ => g_ar σ o 0 2950 (2 : Int32) (fun x27 => if x27 ≤ v4 then (some ((1 : Int32), σ)) else (c_I (fX12_isJoining o v4 σ) (fun x30 σ28 => if x30 = 0 then ((fX12_dragsBy_230 o a1 a2 n) (v4 + (1 : Int32)) σ28) else (c_I (fX12_isOut o v4 σ28) (fun x33 σ31 => if x33 = 0 then ((fX12_dragsBy_230 o a1 a2 n) (v4 + (1 : Int32)) σ31) else (some ((0 : Int32), σ31)))))))
set_option maxRecDepth 100000 in
set_option maxHeartbeats 4000000 in
theorem tX12_dragsBy_230 (l : Launch) (E : EV) {xr : Int32} {τ : Mm} (o : Nat) (a1 : Int32) (a2 : Int32) (ho : KD o = 12) : ∀ (n : Nat) (v4 : Int32) (σ : Mm), fX12_dragsBy_230 o a1 a2 n v4 σ = some (xr, τ) → Jd l E mX12_dragsBy 3 (some (.int xr), τ) σ 230 [(0, .ref (e_a E o 0)), (4, .int v4)] [] := by
  intro n
  induction n with
  | zero => intro v4 σ h; rw [fX12_dragsBy_230] at h; cases h
  | succ n ih =>
    intro v4 σ h
    rw [fX12_dragsBy_230] at h
    refine J_iload (pc := 230) 1 dX12_dragsBy_230 rfl ?_
    refine J_aload_n (pc := 232) 0 dX12_dragsBy_232 rfl ?_
    refine J_getA (pc := 233) dX12_dragsBy_233 ho flX12_7 rfl ?_
    refine J_iconst (pc := 236) (2 : Int32) dX12_dragsBy_236 (by decide) ?_
    refine J_iald (pc := 237) dX12_dragsBy_237 ho ha12_0 h (fun x27 h => ?_)
    refine J_icmp_ge (pc := 238) 267 dX12_dragsBy_238 (by decide) h (fun h => ?_) (fun h => ?_)
    · refine J_iconst (pc := 267) (1 : Int32) dX12_dragsBy_267 (by decide) ?_
      cases h
      exact J_iret (pc := 268) dX12_dragsBy_268 rfl rfl
    · refine J_aload_n (pc := 241) 0 dX12_dragsBy_241 rfl ?_
      refine J_iload (pc := 242) 1 dX12_dragsBy_242 rfl ?_
      obtain ⟨x30, σ28, hc29, h⟩ := cI_t h
      refine J_cVi (pc := 244) (ctX12_isJoining l E o v4 ho σ hc29) dX12_dragsBy_244 mlX12_273 mvX12_isJoining ho rfl (by decide) rfl (Nat.le_of_ble_eq_true rfl) ?_
      refine J_if_eq (pc := 247) 261 dX12_dragsBy_247 (by decide) h (fun h => ?_) (fun h => ?_)
      · refine J_iinc (pc := 261) (L' := [(4, .int (v4 + (1 : Int32))), (0, .ref (e_a E o 0))]) 1 (v4 + (1 : Int32)) dX12_dragsBy_261 rfl (by rfl) (by decide) rfl ?_
        refine J_goto (pc := 264) 230 dX12_dragsBy_264 (by decide) ?_
        refine J_sub (L' := [(0, .ref (e_a E o 0)), (4, .int (v4 + (1 : Int32)))]) [1, 0] rfl ?_
        exact ih (v4 + (1 : Int32)) σ28 h
      · refine J_aload_n (pc := 250) 0 dX12_dragsBy_250 rfl ?_
        refine J_iload (pc := 251) 1 dX12_dragsBy_251 rfl ?_
        obtain ⟨x33, σ31, hc32, h⟩ := cI_t h
        refine J_cVi (pc := 253) (ctX12_isOut l E o v4 ho σ28 hc32) dX12_dragsBy_253 mlX12_276 mvX12_isOut ho rfl (by decide) rfl (Nat.le_of_ble_eq_true rfl) ?_
        refine J_if_eq (pc := 256) 261 dX12_dragsBy_256 (by decide) h (fun h => ?_) (fun h => ?_)
        · refine J_iinc (pc := 261) (L' := [(4, .int (v4 + (1 : Int32))), (0, .ref (e_a E o 0))]) 1 (v4 + (1 : Int32)) dX12_dragsBy_261 rfl (by rfl) (by decide) rfl ?_
          refine J_goto (pc := 264) 230 dX12_dragsBy_264 (by decide) ?_
          refine J_sub (L' := [(0, .ref (e_a E o 0)), (4, .int (v4 + (1 : Int32)))]) [1, 0] rfl ?_
          exact ih (v4 + (1 : Int32)) σ31 h
        · refine J_iconst (pc := 259) (0 : Int32) dX12_dragsBy_259 (by decide) ?_
          cases h
          exact J_iret (pc := 260) dX12_dragsBy_260 rfl rfl
def fX12_dragsBy_181 (o : Nat) (a1 : Int32) (a2 : Int32) : Nat → Int32 → Mm → Option (Int32 × Mm)
  | 0, _, _ => none
  | n + 1, v4, σ => g_ar σ o 0 2950 (1 : Int32) (fun x16 => if x16 ≤ v4 then (fX12_dragsBy_230 o a1 a2 FU (0 : Int32) σ) else (g_ar σ o 8 8 v4 (fun x17 => if x17 = 0 then ((fX12_dragsBy_181 o a1 a2 n) (v4 + (1 : Int32)) σ) else (g_ar σ o 0 2950 (2455 : Int32) (fun x18 => if ((x18 >>> (v4 &&& 31)) &&& (1 : Int32)) = (1 : Int32) then (some ((0 : Int32), σ)) else ((fX12_dragsBy_181 o a1 a2 n) (v4 + (1 : Int32)) σ))))))
set_option maxRecDepth 100000 in
set_option maxHeartbeats 4000000 in
theorem tX12_dragsBy_181 (l : Launch) (E : EV) {xr : Int32} {τ : Mm} (o : Nat) (a1 : Int32) (a2 : Int32) (ho : KD o = 12) : ∀ (n : Nat) (v4 : Int32) (σ : Mm), fX12_dragsBy_181 o a1 a2 n v4 σ = some (xr, τ) → Jd l E mX12_dragsBy 3 (some (.int xr), τ) σ 181 [(0, .ref (e_a E o 0)), (4, .int v4)] [] := by
  intro n
  induction n with
  | zero => intro v4 σ h; rw [fX12_dragsBy_181] at h; cases h
  | succ n ih =>
    intro v4 σ h
    rw [fX12_dragsBy_181] at h
    refine J_iload (pc := 181) 1 dX12_dragsBy_181 rfl ?_
    refine J_aload_n (pc := 183) 0 dX12_dragsBy_183 rfl ?_
    refine J_getA (pc := 184) dX12_dragsBy_184 ho flX12_7 rfl ?_
    refine J_iconst (pc := 187) (1 : Int32) dX12_dragsBy_187 (by decide) ?_
    refine J_iald (pc := 188) dX12_dragsBy_188 ho ha12_0 h (fun x16 h => ?_)
    refine J_icmp_ge (pc := 189) 227 dX12_dragsBy_189 (by decide) h (fun h => ?_) (fun h => ?_)
    · refine J_iconst (pc := 227) (0 : Int32) dX12_dragsBy_227 (by decide) ?_
      refine J_istore (pc := 228) (L' := [(4, .int (0 : Int32)), (0, .ref (e_a E o 0))]) dX12_dragsBy_228 (by decide) rfl ?_
      refine J_sub (L' := [(0, .ref (e_a E o 0)), (4, .int (0 : Int32))]) [1, 0] rfl ?_
      exact tX12_dragsBy_230 l E o a1 a2 ho FU (0 : Int32) σ h
    · refine J_aload_n (pc := 192) 0 dX12_dragsBy_192 rfl ?_
      refine J_getA (pc := 193) dX12_dragsBy_193 ho flX12_47 rfl ?_
      refine J_iload (pc := 196) 1 dX12_dragsBy_196 rfl ?_
      refine J_iald (pc := 198) dX12_dragsBy_198 ho ha12_8 h (fun x17 h => ?_)
      refine J_if_eq (pc := 199) 221 dX12_dragsBy_199 (by decide) h (fun h => ?_) (fun h => ?_)
      · refine J_iinc (pc := 221) (L' := [(4, .int (v4 + (1 : Int32))), (0, .ref (e_a E o 0))]) 1 (v4 + (1 : Int32)) dX12_dragsBy_221 rfl (by rfl) (by decide) rfl ?_
        refine J_goto (pc := 224) 181 dX12_dragsBy_224 (by decide) ?_
        refine J_sub (L' := [(0, .ref (e_a E o 0)), (4, .int (v4 + (1 : Int32)))]) [1, 0] rfl ?_
        exact ih (v4 + (1 : Int32)) σ h
      · refine J_aload_n (pc := 202) 0 dX12_dragsBy_202 rfl ?_
        refine J_getA (pc := 203) dX12_dragsBy_203 ho flX12_7 rfl ?_
        refine J_sipush (pc := 206) (2455 : Int32) dX12_dragsBy_206 (by decide) ?_
        refine J_iald (pc := 209) dX12_dragsBy_209 ho ha12_0 h (fun x18 h => ?_)
        refine J_iload (pc := 210) 1 dX12_dragsBy_210 rfl ?_
        refine J_ishr (pc := 212) dX12_dragsBy_212 ?_
        refine J_iconst (pc := 213) (1 : Int32) dX12_dragsBy_213 (by decide) ?_
        refine J_iand (pc := 214) dX12_dragsBy_214 ?_
        refine J_iconst (pc := 215) (1 : Int32) dX12_dragsBy_215 (by decide) ?_
        refine J_icmp_ne (pc := 216) 221 dX12_dragsBy_216 (by decide) h (fun h => ?_) (fun h => ?_)
        · refine J_iinc (pc := 221) (L' := [(4, .int (v4 + (1 : Int32))), (0, .ref (e_a E o 0))]) 1 (v4 + (1 : Int32)) dX12_dragsBy_221 rfl (by rfl) (by decide) rfl ?_
          refine J_goto (pc := 224) 181 dX12_dragsBy_224 (by decide) ?_
          refine J_sub (L' := [(0, .ref (e_a E o 0)), (4, .int (v4 + (1 : Int32)))]) [1, 0] rfl ?_
          exact ih (v4 + (1 : Int32)) σ h
        · refine J_iconst (pc := 219) (0 : Int32) dX12_dragsBy_219 (by decide) ?_
          cases h
          exact J_iret (pc := 220) dX12_dragsBy_220 rfl rfl
def fX12_dragsBy_30 (o : Nat) (a1 : Int32) (a2 : Int32) : Nat → Int32 → Mm → Option (Int32 × Mm)
  | 0, _, _ => none
  | n + 1, v3, σ => g_ar σ o 0 2950 (2 : Int32) (fun x3 => if x3 ≤ v3 then (fX12_dragsBy_181 o a1 a2 FU (0 : Int32) σ) else (c_I (fX12_shaftAt o v3 (0 : Int32) σ) (fun x6 σ4 => c_I (fX12_shaftAt o v3 (1 : Int32) σ4) (fun x9 σ7 => c_I (fX12_isJoining o v3 σ7) (fun x12 σ10 => if x12 = 0 then ((fX12_dragsBy_30 o a1 a2 n) (v3 + (1 : Int32)) σ10) else (g_ar σ10 o 8 8 x6 (fun x13 => if x13 = 0 then (g_ar σ10 o 8 8 x9 (fun x15 => if x15 = 0 then (fX12_dragsBy_94 o a1 a2 (fX12_dragsBy_30 o a1 a2 n) v3 x6 x9 (1 : Int32) (1 : Int32) σ10) else (fX12_dragsBy_94 o a1 a2 (fX12_dragsBy_30 o a1 a2 n) v3 x6 x9 (0 : Int32) (1 : Int32) σ10))) else (g_ar σ10 o 8 8 x9 (fun x14 => if x14 = 0 then (fX12_dragsBy_94 o a1 a2 (fX12_dragsBy_30 o a1 a2 n) v3 x6 x9 (1 : Int32) (0 : Int32) σ10) else (fX12_dragsBy_94 o a1 a2 (fX12_dragsBy_30 o a1 a2 n) v3 x6 x9 (0 : Int32) (0 : Int32) σ10))))))))))
set_option maxRecDepth 100000 in
set_option maxHeartbeats 4000000 in
theorem tX12_dragsBy_30 (l : Launch) (E : EV) {xr : Int32} {τ : Mm} (o : Nat) (a1 : Int32) (a2 : Int32) (ho : KD o = 12) : ∀ (n : Nat) (v3 : Int32) (σ : Mm), fX12_dragsBy_30 o a1 a2 n v3 σ = some (xr, τ) → Jd l E mX12_dragsBy 3 (some (.int xr), τ) σ 30 [(0, .ref (e_a E o 0)), (3, .int v3)] [] := by
  intro n
  induction n with
  | zero => intro v3 σ h; rw [fX12_dragsBy_30] at h; cases h
  | succ n ih =>
    intro v3 σ h
    rw [fX12_dragsBy_30] at h
    refine J_iload_n (pc := 30) 1 dX12_dragsBy_30 rfl ?_
    refine J_aload_n (pc := 31) 0 dX12_dragsBy_31 rfl ?_
    refine J_getA (pc := 32) dX12_dragsBy_32 ho flX12_7 rfl ?_
    refine J_iconst (pc := 35) (2 : Int32) dX12_dragsBy_35 (by decide) ?_
    refine J_iald (pc := 36) dX12_dragsBy_36 ho ha12_0 h (fun x3 h => ?_)
    refine J_icmp_ge (pc := 37) 178 dX12_dragsBy_37 (by decide) h (fun h => ?_) (fun h => ?_)
    · refine J_iconst (pc := 178) (0 : Int32) dX12_dragsBy_178 (by decide) ?_
      refine J_istore (pc := 179) (L' := [(4, .int (0 : Int32)), (0, .ref (e_a E o 0)), (3, .int v3)]) dX12_dragsBy_179 (by decide) rfl ?_
      refine J_sub (L' := [(0, .ref (e_a E o 0)), (4, .int (0 : Int32))]) [1, 0] rfl ?_
      exact tX12_dragsBy_181 l E o a1 a2 ho FU (0 : Int32) σ h
    · refine J_aload_n (pc := 40) 0 dX12_dragsBy_40 rfl ?_
      refine J_iload_n (pc := 41) 1 dX12_dragsBy_41 rfl ?_
      refine J_iconst (pc := 42) (0 : Int32) dX12_dragsBy_42 (by decide) ?_
      obtain ⟨x6, σ4, hc5, h⟩ := cI_t h
      refine J_cVi (pc := 43) (ctX12_shaftAt l E o v3 (0 : Int32) ho σ hc5) dX12_dragsBy_43 mlX12_267 mvX12_shaftAt ho rfl (by decide) rfl (Nat.le_of_ble_eq_true rfl) ?_
      refine J_istore (pc := 46) (L' := [(4, .int x6), (0, .ref (e_a E o 0)), (3, .int v3)]) dX12_dragsBy_46 (by decide) rfl ?_
      refine J_aload_n (pc := 48) 1 dX12_dragsBy_48 rfl ?_
      refine J_iload_n (pc := 49) 2 dX12_dragsBy_49 rfl ?_
      refine J_iconst (pc := 50) (1 : Int32) dX12_dragsBy_50 (by decide) ?_
      obtain ⟨x9, σ7, hc8, h⟩ := cI_t h
      refine J_cVi (pc := 51) (ctX12_shaftAt l E o v3 (1 : Int32) ho σ4 hc8) dX12_dragsBy_51 mlX12_267 mvX12_shaftAt ho rfl (by decide) rfl (Nat.le_of_ble_eq_true rfl) ?_
      refine J_istore (pc := 54) (L' := [(5, .int x9), (4, .int x6), (0, .ref (e_a E o 0)), (3, .int v3)]) dX12_dragsBy_54 (by decide) rfl ?_
      refine J_aload_n (pc := 56) 2 dX12_dragsBy_56 rfl ?_
      refine J_iload_n (pc := 57) 3 dX12_dragsBy_57 rfl ?_
      obtain ⟨x12, σ10, hc11, h⟩ := cI_t h
      refine J_cVi (pc := 58) (ctX12_isJoining l E o v3 ho σ7 hc11) dX12_dragsBy_58 mlX12_273 mvX12_isJoining ho rfl (by decide) rfl (Nat.le_of_ble_eq_true rfl) ?_
      refine J_if_eq (pc := 61) 105 dX12_dragsBy_61 (by decide) h (fun h => ?_) (fun h => ?_)
      · refine J_iinc (pc := 105) (L' := [(3, .int (v3 + (1 : Int32))), (5, .int x9), (4, .int x6), (0, .ref (e_a E o 0))]) 3 (v3 + (1 : Int32)) dX12_dragsBy_105 rfl (by rfl) (by decide) rfl ?_
        refine J_goto (pc := 108) 30 dX12_dragsBy_108 (by decide) ?_
        refine J_sub (L' := [(0, .ref (e_a E o 0)), (3, .int (v3 + (1 : Int32)))]) [3, 0] rfl ?_
        exact ih (v3 + (1 : Int32)) σ10 h
      · refine J_aload_n (pc := 64) 2 dX12_dragsBy_64 rfl ?_
        refine J_getA (pc := 65) dX12_dragsBy_65 ho flX12_47 rfl ?_
        refine J_iload (pc := 68) 1 dX12_dragsBy_68 rfl ?_
        refine J_iald (pc := 70) dX12_dragsBy_70 ho ha12_8 h (fun x13 h => ?_)
        refine J_if_ne (pc := 71) 78 dX12_dragsBy_71 (by decide) h (fun h => ?_) (fun h => ?_)
        · refine J_iconst (pc := 78) (0 : Int32) dX12_dragsBy_78 (by decide) ?_
          refine J_aload_n (pc := 79) 2 dX12_dragsBy_79 rfl ?_
          refine J_getA (pc := 80) dX12_dragsBy_80 ho flX12_47 rfl ?_
          refine J_iload (pc := 83) 0 dX12_dragsBy_83 rfl ?_
          refine J_iald (pc := 85) dX12_dragsBy_85 ho ha12_8 h (fun x14 h => ?_)
          refine J_if_ne (pc := 86) 93 dX12_dragsBy_86 (by decide) h (fun h => ?_) (fun h => ?_)
          · refine J_iconst (pc := 93) (0 : Int32) dX12_dragsBy_93 (by decide) ?_
            refine J_sub (L' := [(0, .ref (e_a E o 0)), (3, .int v3), (4, .int x6), (5, .int x9)]) [2, 3, 1, 0] rfl ?_
            exact tX12_dragsBy_94 l E o a1 a2 ho (fX12_dragsBy_30 o a1 a2 n) ih v3 x6 x9 (0 : Int32) (0 : Int32) σ10 h
          · refine J_iconst (pc := 89) (1 : Int32) dX12_dragsBy_89 (by decide) ?_
            refine J_goto (pc := 90) 94 dX12_dragsBy_90 (by decide) ?_
            refine J_sub (L' := [(0, .ref (e_a E o 0)), (3, .int v3), (4, .int x6), (5, .int x9)]) [2, 3, 1, 0] rfl ?_
            exact tX12_dragsBy_94 l E o a1 a2 ho (fX12_dragsBy_30 o a1 a2 n) ih v3 x6 x9 (1 : Int32) (0 : Int32) σ10 h
        · refine J_iconst (pc := 74) (1 : Int32) dX12_dragsBy_74 (by decide) ?_
          refine J_goto (pc := 75) 79 dX12_dragsBy_75 (by decide) ?_
          refine J_aload_n (pc := 79) 2 dX12_dragsBy_79 rfl ?_
          refine J_getA (pc := 80) dX12_dragsBy_80 ho flX12_47 rfl ?_
          refine J_iload (pc := 83) 0 dX12_dragsBy_83 rfl ?_
          refine J_iald (pc := 85) dX12_dragsBy_85 ho ha12_8 h (fun x15 h => ?_)
          refine J_if_ne (pc := 86) 93 dX12_dragsBy_86 (by decide) h (fun h => ?_) (fun h => ?_)
          · refine J_iconst (pc := 93) (0 : Int32) dX12_dragsBy_93 (by decide) ?_
            refine J_sub (L' := [(0, .ref (e_a E o 0)), (3, .int v3), (4, .int x6), (5, .int x9)]) [2, 3, 1, 0] rfl ?_
            exact tX12_dragsBy_94 l E o a1 a2 ho (fX12_dragsBy_30 o a1 a2 n) ih v3 x6 x9 (0 : Int32) (1 : Int32) σ10 h
          · refine J_iconst (pc := 89) (1 : Int32) dX12_dragsBy_89 (by decide) ?_
            refine J_goto (pc := 90) 94 dX12_dragsBy_90 (by decide) ?_
            refine J_sub (L' := [(0, .ref (e_a E o 0)), (3, .int v3), (4, .int x6), (5, .int x9)]) [2, 3, 1, 0] rfl ?_
            exact tX12_dragsBy_94 l E o a1 a2 ho (fX12_dragsBy_30 o a1 a2 n) ih v3 x6 x9 (1 : Int32) (1 : Int32) σ10 h
def fX12_dragsBy_21 (o : Nat) (a1 : Int32) (a2 : Int32) (σ : Mm) : Option (Int32 × Mm) := s_ar σ o 8 8 a1 a2 (fun σ2 => fX12_dragsBy_30 o a1 a2 FU (0 : Int32) σ2)
set_option maxRecDepth 100000 in
set_option maxHeartbeats 4000000 in
theorem tX12_dragsBy_21 (l : Launch) (E : EV) {xr : Int32} {τ : Mm} (o : Nat) (a1 : Int32) (a2 : Int32) (ho : KD o = 12) (σ : Mm) (h : fX12_dragsBy_21 o a1 a2 σ = some (xr, τ)) : Jd l E mX12_dragsBy 3 (some (.int xr), τ) σ 21 [(0, .ref (e_a E o 0)), (1, .int a1), (2, .int a2)] [] := by
  unfold fX12_dragsBy_21 at h
  refine J_aload_n (pc := 21) 0 dX12_dragsBy_21 rfl ?_
  refine J_getA (pc := 22) dX12_dragsBy_22 ho flX12_47 rfl ?_
  refine J_iload_n (pc := 25) 1 dX12_dragsBy_25 rfl ?_
  refine J_iload_n (pc := 26) 2 dX12_dragsBy_26 rfl ?_
  refine J_iast (pc := 27) dX12_dragsBy_27 ho ha12_8 h (fun σ2 h => ?_)
  refine J_iconst (pc := 28) (0 : Int32) dX12_dragsBy_28 (by decide) ?_
  refine J_istore_n (pc := 29) (L' := [(3, .int (0 : Int32)), (0, .ref (e_a E o 0)), (1, .int a1), (2, .int a2)]) dX12_dragsBy_29 (by decide) rfl ?_
  refine J_sub (L' := [(0, .ref (e_a E o 0)), (3, .int (0 : Int32))]) [1, 0] rfl ?_
  exact tX12_dragsBy_30 l E o a1 a2 ho FU (0 : Int32) σ2 h
def fX12_dragsBy_2 (o : Nat) (a1 : Int32) (a2 : Int32) : Nat → Int32 → Mm → Option (Int32 × Mm)
  | 0, _, _ => none
  | n + 1, v3, σ => if (8 : Int32) ≤ v3 then (fX12_dragsBy_21 o a1 a2 σ) else (s_ar σ o 8 8 v3 (0 : Int32) (fun σ1 => (fX12_dragsBy_2 o a1 a2 n) (v3 + (1 : Int32)) σ1))
set_option maxRecDepth 100000 in
set_option maxHeartbeats 4000000 in
theorem tX12_dragsBy_2 (l : Launch) (E : EV) {xr : Int32} {τ : Mm} (o : Nat) (a1 : Int32) (a2 : Int32) (ho : KD o = 12) : ∀ (n : Nat) (v3 : Int32) (σ : Mm), fX12_dragsBy_2 o a1 a2 n v3 σ = some (xr, τ) → Jd l E mX12_dragsBy 3 (some (.int xr), τ) σ 2 [(0, .ref (e_a E o 0)), (1, .int a1), (2, .int a2), (3, .int v3)] [] := by
  intro n
  induction n with
  | zero => intro v3 σ h; rw [fX12_dragsBy_2] at h; cases h
  | succ n ih =>
    intro v3 σ h
    rw [fX12_dragsBy_2] at h
    refine J_iload_n (pc := 2) 3 dX12_dragsBy_2 rfl ?_
    refine J_bipush (pc := 3) (8 : Int32) dX12_dragsBy_3 (by decide) ?_
    refine J_icmp_ge (pc := 5) 21 dX12_dragsBy_5 (by decide) h (fun h => ?_) (fun h => ?_)
    · refine J_sub (L' := [(0, .ref (e_a E o 0)), (1, .int a1), (2, .int a2)]) [0, 1, 2] rfl ?_
      exact tX12_dragsBy_21 l E o a1 a2 ho σ h
    · refine J_aload_n (pc := 8) 0 dX12_dragsBy_8 rfl ?_
      refine J_getA (pc := 9) dX12_dragsBy_9 ho flX12_47 rfl ?_
      refine J_iload_n (pc := 12) 3 dX12_dragsBy_12 rfl ?_
      refine J_iconst (pc := 13) (0 : Int32) dX12_dragsBy_13 (by decide) ?_
      refine J_iast (pc := 14) dX12_dragsBy_14 ho ha12_8 h (fun σ1 h => ?_)
      refine J_iinc (pc := 15) (L' := [(3, .int (v3 + (1 : Int32))), (0, .ref (e_a E o 0)), (1, .int a1), (2, .int a2)]) 3 (v3 + (1 : Int32)) dX12_dragsBy_15 rfl (by rfl) (by decide) rfl ?_
      refine J_goto (pc := 18) 2 dX12_dragsBy_18 (by decide) ?_
      refine J_sub (L' := [(0, .ref (e_a E o 0)), (1, .int a1), (2, .int a2), (3, .int (v3 + (1 : Int32)))]) [1, 2, 3, 0] rfl ?_
      exact ih (v3 + (1 : Int32)) σ1 h
def fX12_dragsBy (o : Nat) (a1 : Int32) (a2 : Int32) (σ : Mm) : Option (Int32 × Mm) := fX12_dragsBy_2 o a1 a2 FU (0 : Int32) σ
set_option maxRecDepth 100000 in
set_option maxHeartbeats 4000000 in
theorem ctX12_dragsBy (l : Launch) (E : EV) (o : Nat) (a1 : Int32) (a2 : Int32) (ho : KD o = 12) (σ : Mm) {xr : Int32} {τ : Mm} (h : fX12_dragsBy o a1 a2 σ = some (xr, τ)) : Ct l E mX12_dragsBy 3 [.ref (e_a E o 0), .int a1, .int a2] σ (some (.int xr), τ) := by
  refine Ct.of (by decide +kernel) (Nat.le_of_ble_eq_true rfl) ?_
  show Jd l E mX12_dragsBy 3 (some (.int xr), τ) σ 0 [(0, .ref (e_a E o 0)), (1, .int a1), (2, .int a2)] []
  unfold fX12_dragsBy at h
  refine J_iconst (pc := 0) (0 : Int32) dX12_dragsBy_0 (by decide) ?_
  refine J_istore_n (pc := 1) (L' := [(3, .int (0 : Int32)), (0, .ref (e_a E o 0)), (1, .int a1), (2, .int a2)]) dX12_dragsBy_1 (by decide) rfl ?_
  refine J_sub (L' := [(0, .ref (e_a E o 0)), (1, .int a1), (2, .int a2), (3, .int (0 : Int32))]) [1, 2, 3, 0] rfl ?_
  exact tX12_dragsBy_2 l E o a1 a2 ho FU (0 : Int32) σ h
def fX12_turnedSet_4 (o : Nat) : Nat → Int32 → Int32 → Mm → Option (Int32 × Mm)
  | 0, _, _, _ => none
  | n + 1, v1, v2, σ => g_ar σ o 0 2950 (1 : Int32) (fun x1 => if x1 ≤ v2 then (some (v1, σ)) else (g_ar σ o 8 8 v2 (fun x2 => if x2 = 0 then ((fX12_turnedSet_4 o n) (v1 ||| (0 : Int32)) (v2 + (1 : Int32)) σ) else ((fX12_turnedSet_4 o n) (v1 ||| ((1 : Int32) <<< (v2 &&& 31))) (v2 + (1 : Int32)) σ))))
set_option maxRecDepth 100000 in
set_option maxHeartbeats 4000000 in
theorem tX12_turnedSet_4 (l : Launch) (E : EV) {xr : Int32} {τ : Mm} (o : Nat) (ho : KD o = 12) : ∀ (n : Nat) (v1 : Int32) (v2 : Int32) (σ : Mm), fX12_turnedSet_4 o n v1 v2 σ = some (xr, τ) → Jd l E mX12_turnedSet 0 (some (.int xr), τ) σ 4 [(0, .ref (e_a E o 0)), (1, .int v1), (2, .int v2)] [] := by
  intro n
  induction n with
  | zero => intro v1 v2 σ h; rw [fX12_turnedSet_4] at h; cases h
  | succ n ih =>
    intro v1 v2 σ h
    rw [fX12_turnedSet_4] at h
    refine J_iload_n (pc := 4) 2 dX12_turnedSet_4 rfl ?_
    refine J_aload_n (pc := 5) 0 dX12_turnedSet_5 rfl ?_
    refine J_getA (pc := 6) dX12_turnedSet_6 ho flX12_7 rfl ?_
    refine J_iconst (pc := 9) (1 : Int32) dX12_turnedSet_9 (by decide) ?_
    refine J_iald (pc := 10) dX12_turnedSet_10 ho ha12_0 h (fun x1 h => ?_)
    refine J_icmp_ge (pc := 11) 39 dX12_turnedSet_11 (by decide) h (fun h => ?_) (fun h => ?_)
    · refine J_iload_n (pc := 39) 1 dX12_turnedSet_39 rfl ?_
      cases h
      exact J_iret (pc := 40) dX12_turnedSet_40 rfl rfl
    · refine J_iload_n (pc := 14) 1 dX12_turnedSet_14 rfl ?_
      refine J_aload_n (pc := 15) 0 dX12_turnedSet_15 rfl ?_
      refine J_getA (pc := 16) dX12_turnedSet_16 ho flX12_47 rfl ?_
      refine J_iload_n (pc := 19) 2 dX12_turnedSet_19 rfl ?_
      refine J_iald (pc := 20) dX12_turnedSet_20 ho ha12_8 h (fun x2 h => ?_)
      refine J_if_eq (pc := 21) 30 dX12_turnedSet_21 (by decide) h (fun h => ?_) (fun h => ?_)
      · refine J_iconst (pc := 30) (0 : Int32) dX12_turnedSet_30 (by decide) ?_
        refine J_ior (pc := 31) dX12_turnedSet_31 ?_
        refine J_istore_n (pc := 32) (L' := [(1, .int (v1 ||| (0 : Int32))), (0, .ref (e_a E o 0)), (2, .int v2)]) dX12_turnedSet_32 (by decide) rfl ?_
        refine J_iinc (pc := 33) (L' := [(2, .int (v2 + (1 : Int32))), (1, .int (v1 ||| (0 : Int32))), (0, .ref (e_a E o 0))]) 2 (v2 + (1 : Int32)) dX12_turnedSet_33 rfl (by rfl) (by decide) rfl ?_
        refine J_goto (pc := 36) 4 dX12_turnedSet_36 (by decide) ?_
        refine J_sub (L' := [(0, .ref (e_a E o 0)), (1, .int (v1 ||| (0 : Int32))), (2, .int (v2 + (1 : Int32)))]) [2, 1, 0] rfl ?_
        exact ih (v1 ||| (0 : Int32)) (v2 + (1 : Int32)) σ h
      · refine J_iconst (pc := 24) (1 : Int32) dX12_turnedSet_24 (by decide) ?_
        refine J_iload_n (pc := 25) 2 dX12_turnedSet_25 rfl ?_
        refine J_ishl (pc := 26) dX12_turnedSet_26 ?_
        refine J_goto (pc := 27) 31 dX12_turnedSet_27 (by decide) ?_
        refine J_ior (pc := 31) dX12_turnedSet_31 ?_
        refine J_istore_n (pc := 32) (L' := [(1, .int (v1 ||| ((1 : Int32) <<< (v2 &&& 31)))), (0, .ref (e_a E o 0)), (2, .int v2)]) dX12_turnedSet_32 (by decide) rfl ?_
        refine J_iinc (pc := 33) (L' := [(2, .int (v2 + (1 : Int32))), (1, .int (v1 ||| ((1 : Int32) <<< (v2 &&& 31)))), (0, .ref (e_a E o 0))]) 2 (v2 + (1 : Int32)) dX12_turnedSet_33 rfl (by rfl) (by decide) rfl ?_
        refine J_goto (pc := 36) 4 dX12_turnedSet_36 (by decide) ?_
        refine J_sub (L' := [(0, .ref (e_a E o 0)), (1, .int (v1 ||| ((1 : Int32) <<< (v2 &&& 31)))), (2, .int (v2 + (1 : Int32)))]) [2, 1, 0] rfl ?_
        exact ih (v1 ||| ((1 : Int32) <<< (v2 &&& 31))) (v2 + (1 : Int32)) σ h
def fX12_turnedSet (o : Nat) (σ : Mm) : Option (Int32 × Mm) := fX12_turnedSet_4 o FU (0 : Int32) (0 : Int32) σ
set_option maxRecDepth 100000 in
set_option maxHeartbeats 4000000 in
theorem ctX12_turnedSet (l : Launch) (E : EV) (o : Nat) (ho : KD o = 12) (σ : Mm) {xr : Int32} {τ : Mm} (h : fX12_turnedSet o σ = some (xr, τ)) : Ct l E mX12_turnedSet 0 [.ref (e_a E o 0)] σ (some (.int xr), τ) := by
  refine Ct.of (by decide +kernel) (Nat.le_of_ble_eq_true rfl) ?_
  show Jd l E mX12_turnedSet 0 (some (.int xr), τ) σ 0 [(0, .ref (e_a E o 0))] []
  unfold fX12_turnedSet at h
  refine J_iconst (pc := 0) (0 : Int32) dX12_turnedSet_0 (by decide) ?_
  refine J_istore_n (pc := 1) (L' := [(1, .int (0 : Int32)), (0, .ref (e_a E o 0))]) dX12_turnedSet_1 (by decide) rfl ?_
  refine J_iconst (pc := 2) (0 : Int32) dX12_turnedSet_2 (by decide) ?_
  refine J_istore_n (pc := 3) (L' := [(2, .int (0 : Int32)), (1, .int (0 : Int32)), (0, .ref (e_a E o 0))]) dX12_turnedSet_3 (by decide) rfl ?_
  refine J_sub (L' := [(0, .ref (e_a E o 0)), (1, .int (0 : Int32)), (2, .int (0 : Int32))]) [2, 1, 0] rfl ?_
  exact tX12_turnedSet_4 l E o ho FU (0 : Int32) (0 : Int32) σ h
def fX12_turnsAll_47 (o : Nat) : Nat → Int32 → Mm → Option (Mm)
  | 0, _, _ => none
  | n + 1, v1, σ => g_ar σ o 0 2950 (1 : Int32) (fun x9 => if x9 ≤ v1 then (some σ) else (g_ar σ o 8 8 v1 (fun x10 => if x10 = 0 then ((fX12_turnsAll_47 o n) (v1 + (1 : Int32)) σ) else (g_ar σ o 8 8 v1 (fun x11 => c_I (fX12_turned o v1 x11 σ) (fun x14 σ12 => s_ar σ12 o 0 2950 (((2470 : Int32) + ((6 : Int32) * v1)) + (3 : Int32)) x14 (fun σ15 => g_ar σ15 o 0 2950 (((2470 : Int32) + ((6 : Int32) * v1)) + (4 : Int32)) (fun x16 => s_ar σ15 o 0 2950 (((2470 : Int32) + ((6 : Int32) * v1)) + (4 : Int32)) (x16 + (1 : Int32)) (fun σ17 => r_sc σ17 o 27 (fun x18 => p_sc σ17 o 27 (x18 + (1 : Int32)) (fun σ19 => g_ar σ19 o 0 2950 (((2470 : Int32) + ((6 : Int32) * v1)) + (3 : Int32)) (fun x20 => if x20 ≤ 0 then (g_ar σ19 o 0 2950 (((2470 : Int32) + ((6 : Int32) * v1)) + (5 : Int32)) (fun x21 => s_ar σ19 o 0 2950 (((2470 : Int32) + ((6 : Int32) * v1)) + (5 : Int32)) (x21 + (1 : Int32)) (fun σ22 => r_sc σ22 o 26 (fun x23 => if (12800 : Int32) ≤ x23 then (r_sc σ22 o 26 (fun x24 => p_sc σ22 o 26 (x24 + (1 : Int32)) (fun σ25 => (fX12_turnsAll_47 o n) (v1 + (1 : Int32)) σ25))) else (r_sc σ22 o 26 (fun x26 => s_ar σ22 o 9 12800 x26 v1 (fun σ27 => r_sc σ27 o 26 (fun x28 => p_sc σ27 o 26 (x28 + (1 : Int32)) (fun σ29 => (fX12_turnsAll_47 o n) (v1 + (1 : Int32)) σ29))))))))) else ((fX12_turnsAll_47 o n) (v1 + (1 : Int32)) σ19)))))))))))))
set_option maxRecDepth 100000 in
set_option maxHeartbeats 4000000 in
theorem tX12_turnsAll_47 (l : Launch) (E : EV) {τ : Mm} (o : Nat) (ho : KD o = 12) : ∀ (n : Nat) (v1 : Int32) (σ : Mm), fX12_turnsAll_47 o n v1 σ = some τ → Jd l E mX12_turnsAll 2 (none, τ) σ 47 [(0, .ref (e_a E o 0)), (1, .int v1)] [] := by
  intro n
  induction n with
  | zero => intro v1 σ h; rw [fX12_turnsAll_47] at h; cases h
  | succ n ih =>
    intro v1 σ h
    rw [fX12_turnsAll_47] at h
    refine J_iload_n (pc := 47) 1 dX12_turnsAll_47 rfl ?_
    refine J_aload_n (pc := 48) 0 dX12_turnsAll_48 rfl ?_
    refine J_getA (pc := 49) dX12_turnsAll_49 ho flX12_7 rfl ?_
    refine J_iconst (pc := 52) (1 : Int32) dX12_turnsAll_52 (by decide) ?_
    refine J_iald (pc := 53) dX12_turnsAll_53 ho ha12_0 h (fun x9 h => ?_)
    refine J_icmp_ge (pc := 54) 181 dX12_turnsAll_54 (by decide) h (fun h => ?_) (fun h => ?_)
    · cases h
      exact J_vret (pc := 181) dX12_turnsAll_181 rfl
    · refine J_aload_n (pc := 57) 0 dX12_turnsAll_57 rfl ?_
      refine J_getA (pc := 58) dX12_turnsAll_58 ho flX12_47 rfl ?_
      refine J_iload_n (pc := 61) 1 dX12_turnsAll_61 rfl ?_
      refine J_iald (pc := 62) dX12_turnsAll_62 ho ha12_8 h (fun x10 h => ?_)
      refine J_if_ne (pc := 63) 69 dX12_turnsAll_63 (by decide) h (fun h => ?_) (fun h => ?_)
      · refine J_sipush (pc := 69) (2470 : Int32) dX12_turnsAll_69 (by decide) ?_
        refine J_bipush (pc := 72) (6 : Int32) dX12_turnsAll_72 (by decide) ?_
        refine J_iload_n (pc := 74) 1 dX12_turnsAll_74 rfl ?_
        refine J_imul (pc := 75) dX12_turnsAll_75 ?_
        refine J_iadd (pc := 76) dX12_turnsAll_76 ?_
        refine J_istore_n (pc := 77) (L' := [(2, .int ((2470 : Int32) + ((6 : Int32) * v1))), (0, .ref (e_a E o 0)), (1, .int v1)]) dX12_turnsAll_77 (by decide) rfl ?_
        refine J_aload_n (pc := 78) 1 dX12_turnsAll_78 rfl ?_
        refine J_getA (pc := 79) dX12_turnsAll_79 ho flX12_7 rfl ?_
        refine J_iload_n (pc := 82) 0 dX12_turnsAll_82 rfl ?_
        refine J_iconst (pc := 83) (3 : Int32) dX12_turnsAll_83 (by decide) ?_
        refine J_iadd (pc := 84) dX12_turnsAll_84 ?_
        refine J_aload_n (pc := 85) 1 dX12_turnsAll_85 rfl ?_
        refine J_iload_n (pc := 86) 2 dX12_turnsAll_86 rfl ?_
        refine J_aload_n (pc := 87) 1 dX12_turnsAll_87 rfl ?_
        refine J_getA (pc := 88) dX12_turnsAll_88 ho flX12_47 rfl ?_
        refine J_iload_n (pc := 91) 2 dX12_turnsAll_91 rfl ?_
        refine J_iald (pc := 92) dX12_turnsAll_92 ho ha12_8 h (fun x11 h => ?_)
        obtain ⟨x14, σ12, hc13, h⟩ := cI_t h
        refine J_cVi (pc := 93) (ctX12_turned l E o v1 x11 ho σ hc13) dX12_turnsAll_93 mlX12_279 mvX12_turned ho rfl (by decide) rfl (Nat.le_of_ble_eq_true rfl) ?_
        refine J_iast (pc := 96) dX12_turnsAll_96 ho ha12_0 h (fun σ15 h => ?_)
        refine J_aload_n (pc := 97) 1 dX12_turnsAll_97 rfl ?_
        refine J_getA (pc := 98) dX12_turnsAll_98 ho flX12_7 rfl ?_
        refine J_iload_n (pc := 101) 0 dX12_turnsAll_101 rfl ?_
        refine J_iconst (pc := 102) (4 : Int32) dX12_turnsAll_102 (by decide) ?_
        refine J_iadd (pc := 103) dX12_turnsAll_103 ?_
        refine J_dup2 (pc := 104) dX12_turnsAll_104 rfl rfl ?_
        refine J_iald (pc := 105) dX12_turnsAll_105 ho ha12_0 h (fun x16 h => ?_)
        refine J_iconst (pc := 106) (1 : Int32) dX12_turnsAll_106 (by decide) ?_
        refine J_iadd (pc := 107) dX12_turnsAll_107 ?_
        refine J_iast (pc := 108) dX12_turnsAll_108 ho ha12_0 h (fun σ17 h => ?_)
        refine J_aload_n (pc := 109) 1 dX12_turnsAll_109 rfl ?_
        refine J_dup (pc := 110) dX12_turnsAll_110 rfl ?_
        refine J_getI (pc := 111) dX12_turnsAll_111 ho flX12_282 rfl h (fun x18 h => ?_)
        refine J_iconst (pc := 114) (1 : Int32) dX12_turnsAll_114 (by decide) ?_
        refine J_iadd (pc := 115) dX12_turnsAll_115 ?_
        refine J_putI (pc := 116) dX12_turnsAll_116 ho flX12_282 rfl h (fun σ19 h => ?_)
        refine J_aload_n (pc := 119) 1 dX12_turnsAll_119 rfl ?_
        refine J_getA (pc := 120) dX12_turnsAll_120 ho flX12_7 rfl ?_
        refine J_iload_n (pc := 123) 0 dX12_turnsAll_123 rfl ?_
        refine J_iconst (pc := 124) (3 : Int32) dX12_turnsAll_124 (by decide) ?_
        refine J_iadd (pc := 125) dX12_turnsAll_125 ?_
        refine J_iald (pc := 126) dX12_turnsAll_126 ho ha12_0 h (fun x20 h => ?_)
        refine J_if_le (pc := 127) 133 dX12_turnsAll_127 (by decide) h (fun h => ?_) (fun h => ?_)
        · refine J_aload_n (pc := 133) 1 dX12_turnsAll_133 rfl ?_
          refine J_getA (pc := 134) dX12_turnsAll_134 ho flX12_7 rfl ?_
          refine J_iload_n (pc := 137) 0 dX12_turnsAll_137 rfl ?_
          refine J_iconst (pc := 138) (5 : Int32) dX12_turnsAll_138 (by decide) ?_
          refine J_iadd (pc := 139) dX12_turnsAll_139 ?_
          refine J_dup2 (pc := 140) dX12_turnsAll_140 rfl rfl ?_
          refine J_iald (pc := 141) dX12_turnsAll_141 ho ha12_0 h (fun x21 h => ?_)
          refine J_iconst (pc := 142) (1 : Int32) dX12_turnsAll_142 (by decide) ?_
          refine J_iadd (pc := 143) dX12_turnsAll_143 ?_
          refine J_iast (pc := 144) dX12_turnsAll_144 ho ha12_0 h (fun σ22 h => ?_)
          refine J_aload_n (pc := 145) 1 dX12_turnsAll_145 rfl ?_
          refine J_getI (pc := 146) dX12_turnsAll_146 ho flX12_285 rfl h (fun x23 h => ?_)
          refine J_sipush (pc := 149) (12800 : Int32) dX12_turnsAll_149 (by decide) ?_
          refine J_icmp_ge (pc := 152) 165 dX12_turnsAll_152 (by decide) h (fun h => ?_) (fun h => ?_)
          · refine J_aload_n (pc := 165) 1 dX12_turnsAll_165 rfl ?_
            refine J_dup (pc := 166) dX12_turnsAll_166 rfl ?_
            refine J_getI (pc := 167) dX12_turnsAll_167 ho flX12_285 rfl h (fun x24 h => ?_)
            refine J_iconst (pc := 170) (1 : Int32) dX12_turnsAll_170 (by decide) ?_
            refine J_iadd (pc := 171) dX12_turnsAll_171 ?_
            refine J_putI (pc := 172) dX12_turnsAll_172 ho flX12_285 rfl h (fun σ25 h => ?_)
            refine J_iinc (pc := 175) (L' := [(1, .int (v1 + (1 : Int32))), (2, .int ((2470 : Int32) + ((6 : Int32) * v1))), (0, .ref (e_a E o 0))]) 2 (v1 + (1 : Int32)) dX12_turnsAll_175 rfl (by rfl) (by decide) rfl ?_
            refine J_goto (pc := 178) 47 dX12_turnsAll_178 (by decide) ?_
            refine J_sub (L' := [(0, .ref (e_a E o 0)), (1, .int (v1 + (1 : Int32)))]) [2, 0] rfl ?_
            exact ih (v1 + (1 : Int32)) σ25 h
          · refine J_aload_n (pc := 155) 1 dX12_turnsAll_155 rfl ?_
            refine J_getA (pc := 156) dX12_turnsAll_156 ho flX12_50 rfl ?_
            refine J_aload_n (pc := 159) 1 dX12_turnsAll_159 rfl ?_
            refine J_getI (pc := 160) dX12_turnsAll_160 ho flX12_285 rfl h (fun x26 h => ?_)
            refine J_iload_n (pc := 163) 2 dX12_turnsAll_163 rfl ?_
            refine J_iast (pc := 164) dX12_turnsAll_164 ho ha12_9 h (fun σ27 h => ?_)
            refine J_aload_n (pc := 165) 1 dX12_turnsAll_165 rfl ?_
            refine J_dup (pc := 166) dX12_turnsAll_166 rfl ?_
            refine J_getI (pc := 167) dX12_turnsAll_167 ho flX12_285 rfl h (fun x28 h => ?_)
            refine J_iconst (pc := 170) (1 : Int32) dX12_turnsAll_170 (by decide) ?_
            refine J_iadd (pc := 171) dX12_turnsAll_171 ?_
            refine J_putI (pc := 172) dX12_turnsAll_172 ho flX12_285 rfl h (fun σ29 h => ?_)
            refine J_iinc (pc := 175) (L' := [(1, .int (v1 + (1 : Int32))), (2, .int ((2470 : Int32) + ((6 : Int32) * v1))), (0, .ref (e_a E o 0))]) 2 (v1 + (1 : Int32)) dX12_turnsAll_175 rfl (by rfl) (by decide) rfl ?_
            refine J_goto (pc := 178) 47 dX12_turnsAll_178 (by decide) ?_
            refine J_sub (L' := [(0, .ref (e_a E o 0)), (1, .int (v1 + (1 : Int32)))]) [2, 0] rfl ?_
            exact ih (v1 + (1 : Int32)) σ29 h
        · refine J_goto (pc := 130) 175 dX12_turnsAll_130 (by decide) ?_
          refine J_iinc (pc := 175) (L' := [(1, .int (v1 + (1 : Int32))), (2, .int ((2470 : Int32) + ((6 : Int32) * v1))), (0, .ref (e_a E o 0))]) 2 (v1 + (1 : Int32)) dX12_turnsAll_175 rfl (by rfl) (by decide) rfl ?_
          refine J_goto (pc := 178) 47 dX12_turnsAll_178 (by decide) ?_
          refine J_sub (L' := [(0, .ref (e_a E o 0)), (1, .int (v1 + (1 : Int32)))]) [2, 0] rfl ?_
          exact ih (v1 + (1 : Int32)) σ19 h
      · refine J_goto (pc := 66) 175 dX12_turnsAll_66 (by decide) ?_
        refine J_iinc (pc := 175) (L' := [(1, .int (v1 + (1 : Int32))), (0, .ref (e_a E o 0))]) 1 (v1 + (1 : Int32)) dX12_turnsAll_175 rfl (by rfl) (by decide) rfl ?_
        refine J_goto (pc := 178) 47 dX12_turnsAll_178 (by decide) ?_
        refine J_sub (L' := [(0, .ref (e_a E o 0)), (1, .int (v1 + (1 : Int32)))]) [1, 0] rfl ?_
        exact ih (v1 + (1 : Int32)) σ h
def fX12_turnsAll_2 (o : Nat) : Nat → Int32 → Mm → Option (Mm)
  | 0, _, _ => none
  | n + 1, v1, σ => g_ar σ o 0 2950 (2 : Int32) (fun x1 => if x1 ≤ v1 then (fX12_turnsAll_47 o FU (0 : Int32) σ) else (c_I (fX12_isJoining o v1 σ) (fun x4 σ2 => if x4 = 0 then ((fX12_turnsAll_2 o n) (v1 + (1 : Int32)) σ2) else (c_I (fX12_playBehind o v1 σ2) (fun x7 σ5 => s_ar σ5 o 0 2950 (((2520 : Int32) + ((5 : Int32) * v1)) + (4 : Int32)) x7 (fun σ8 => (fX12_turnsAll_2 o n) (v1 + (1 : Int32)) σ8))))))
set_option maxRecDepth 100000 in
set_option maxHeartbeats 4000000 in
theorem tX12_turnsAll_2 (l : Launch) (E : EV) {τ : Mm} (o : Nat) (ho : KD o = 12) : ∀ (n : Nat) (v1 : Int32) (σ : Mm), fX12_turnsAll_2 o n v1 σ = some τ → Jd l E mX12_turnsAll 2 (none, τ) σ 2 [(0, .ref (e_a E o 0)), (1, .int v1)] [] := by
  intro n
  induction n with
  | zero => intro v1 σ h; rw [fX12_turnsAll_2] at h; cases h
  | succ n ih =>
    intro v1 σ h
    rw [fX12_turnsAll_2] at h
    refine J_iload_n (pc := 2) 1 dX12_turnsAll_2 rfl ?_
    refine J_aload_n (pc := 3) 0 dX12_turnsAll_3 rfl ?_
    refine J_getA (pc := 4) dX12_turnsAll_4 ho flX12_7 rfl ?_
    refine J_iconst (pc := 7) (2 : Int32) dX12_turnsAll_7 (by decide) ?_
    refine J_iald (pc := 8) dX12_turnsAll_8 ho ha12_0 h (fun x1 h => ?_)
    refine J_icmp_ge (pc := 9) 45 dX12_turnsAll_9 (by decide) h (fun h => ?_) (fun h => ?_)
    · refine J_iconst (pc := 45) (0 : Int32) dX12_turnsAll_45 (by decide) ?_
      refine J_istore_n (pc := 46) (L' := [(1, .int (0 : Int32)), (0, .ref (e_a E o 0))]) dX12_turnsAll_46 (by decide) rfl ?_
      refine J_sub (L' := [(0, .ref (e_a E o 0)), (1, .int (0 : Int32))]) [1, 0] rfl ?_
      exact tX12_turnsAll_47 l E o ho FU (0 : Int32) σ h
    · refine J_aload_n (pc := 12) 0 dX12_turnsAll_12 rfl ?_
      refine J_iload_n (pc := 13) 1 dX12_turnsAll_13 rfl ?_
      obtain ⟨x4, σ2, hc3, h⟩ := cI_t h
      refine J_cVi (pc := 14) (ctX12_isJoining l E o v1 ho σ hc3) dX12_turnsAll_14 mlX12_273 mvX12_isJoining ho rfl (by decide) rfl (Nat.le_of_ble_eq_true rfl) ?_
      refine J_if_eq (pc := 17) 39 dX12_turnsAll_17 (by decide) h (fun h => ?_) (fun h => ?_)
      · refine J_iinc (pc := 39) (L' := [(1, .int (v1 + (1 : Int32))), (0, .ref (e_a E o 0))]) 1 (v1 + (1 : Int32)) dX12_turnsAll_39 rfl (by rfl) (by decide) rfl ?_
        refine J_goto (pc := 42) 2 dX12_turnsAll_42 (by decide) ?_
        refine J_sub (L' := [(0, .ref (e_a E o 0)), (1, .int (v1 + (1 : Int32)))]) [1, 0] rfl ?_
        exact ih (v1 + (1 : Int32)) σ2 h
      · refine J_aload_n (pc := 20) 0 dX12_turnsAll_20 rfl ?_
        refine J_getA (pc := 21) dX12_turnsAll_21 ho flX12_7 rfl ?_
        refine J_sipush (pc := 24) (2520 : Int32) dX12_turnsAll_24 (by decide) ?_
        refine J_iconst (pc := 27) (5 : Int32) dX12_turnsAll_27 (by decide) ?_
        refine J_iload_n (pc := 28) 1 dX12_turnsAll_28 rfl ?_
        refine J_imul (pc := 29) dX12_turnsAll_29 ?_
        refine J_iadd (pc := 30) dX12_turnsAll_30 ?_
        refine J_iconst (pc := 31) (4 : Int32) dX12_turnsAll_31 (by decide) ?_
        refine J_iadd (pc := 32) dX12_turnsAll_32 ?_
        refine J_aload_n (pc := 33) 0 dX12_turnsAll_33 rfl ?_
        refine J_iload_n (pc := 34) 1 dX12_turnsAll_34 rfl ?_
        obtain ⟨x7, σ5, hc6, h⟩ := cI_t h
        refine J_cVi (pc := 35) (ctX12_playBehind l E o v1 ho σ2 hc6) dX12_turnsAll_35 mlX12_270 mvX12_playBehind ho rfl (by decide) rfl (Nat.le_of_ble_eq_true rfl) ?_
        refine J_iast (pc := 38) dX12_turnsAll_38 ho ha12_0 h (fun σ8 h => ?_)
        refine J_iinc (pc := 39) (L' := [(1, .int (v1 + (1 : Int32))), (0, .ref (e_a E o 0))]) 1 (v1 + (1 : Int32)) dX12_turnsAll_39 rfl (by rfl) (by decide) rfl ?_
        refine J_goto (pc := 42) 2 dX12_turnsAll_42 (by decide) ?_
        refine J_sub (L' := [(0, .ref (e_a E o 0)), (1, .int (v1 + (1 : Int32)))]) [1, 0] rfl ?_
        exact ih (v1 + (1 : Int32)) σ8 h
def fX12_turnsAll (o : Nat) (σ : Mm) : Option (Mm) := fX12_turnsAll_2 o FU (0 : Int32) σ
set_option maxRecDepth 100000 in
set_option maxHeartbeats 4000000 in
theorem ctX12_turnsAll (l : Launch) (E : EV) (o : Nat) (ho : KD o = 12) (σ : Mm) {τ : Mm} (h : fX12_turnsAll o σ = some τ) : Ct l E mX12_turnsAll 2 [.ref (e_a E o 0)] σ (none, τ) := by
  refine Ct.of (by decide +kernel) (Nat.le_of_ble_eq_true rfl) ?_
  show Jd l E mX12_turnsAll 2 (none, τ) σ 0 [(0, .ref (e_a E o 0))] []
  unfold fX12_turnsAll at h
  refine J_iconst (pc := 0) (0 : Int32) dX12_turnsAll_0 (by decide) ?_
  refine J_istore_n (pc := 1) (L' := [(1, .int (0 : Int32)), (0, .ref (e_a E o 0))]) dX12_turnsAll_1 (by decide) rfl ?_
  refine J_sub (L' := [(0, .ref (e_a E o 0)), (1, .int (0 : Int32))]) [1, 0] rfl ?_
  exact tX12_turnsAll_2 l E o ho FU (0 : Int32) σ h
def fX12_isStronger_22 (o : Nat) (a1 : Int32) : Nat → Int32 → Int32 → Mm → Option (Int32 × Mm)
  | 0, _, _, _ => none
  | n + 1, v2, v3, σ => g_ar σ o 0 2950 (1 : Int32) (fun x5 => if x5 ≤ v3 then (if v2 ≤ 0 then (some ((0 : Int32), σ)) else (some ((1 : Int32), σ))) else (g_ar σ o 8 8 v3 (fun x6 => if x6 = 0 then ((fX12_isStronger_22 o a1 n) v2 (v3 + (1 : Int32)) σ) else (c_I (fX12_vaneAt o v3 (2 : Int32) σ) (fun x9 σ7 => if v3 = a1 then ((fX12_isStronger_22 o a1 n) (v2 - x9) (v3 + (1 : Int32)) σ7) else (c_I (fX12_isCalm o v3 σ7) (fun x12 σ10 => if x12 = 0 then (c_I (fX12_vaneAt o v3 (3 : Int32) σ10) (fun x15 σ13 => c_I (fX12_farFrom o v3 x15 σ13) (fun x18 σ16 => g_ar σ16 o 8 8 v3 (fun x19 => c_I (fX12_turned o v3 x19 σ16) (fun x22 σ20 => c_I (fX12_farFrom o v3 x22 σ20) (fun x25 σ23 => c_I (fX12_vaneAt o v3 (1 : Int32) σ23) (fun x28 σ26 => g_ar σ26 o 0 2950 (((2460 : Int32) + ((2 : Int32) * x28)) + (1 : Int32)) (fun x29 => if x18 ≤ x25 then (if x25 ≤ x18 then ((fX12_isStronger_22 o a1 n) ((v2 - x9) + (0 : Int32)) (v3 + (1 : Int32)) σ26) else ((fX12_isStronger_22 o a1 n) ((v2 - x9) + (-x29)) (v3 + (1 : Int32)) σ26)) else ((fX12_isStronger_22 o a1 n) ((v2 - x9) + x29) (v3 + (1 : Int32)) σ26))))))))) else ((fX12_isStronger_22 o a1 n) (v2 - x9) (v3 + (1 : Int32)) σ10))))))))
set_option maxRecDepth 100000 in
set_option maxHeartbeats 4000000 in
theorem tX12_isStronger_22 (l : Launch) (E : EV) {xr : Int32} {τ : Mm} (o : Nat) (a1 : Int32) (ho : KD o = 12) : ∀ (n : Nat) (v2 : Int32) (v3 : Int32) (σ : Mm), fX12_isStronger_22 o a1 n v2 v3 σ = some (xr, τ) → Jd l E mX12_isStronger 4 (some (.int xr), τ) σ 22 [(0, .ref (e_a E o 0)), (1, .int a1), (2, .int v2), (3, .int v3)] [] := by
  intro n
  induction n with
  | zero => intro v2 v3 σ h; rw [fX12_isStronger_22] at h; cases h
  | succ n ih =>
    intro v2 v3 σ h
    rw [fX12_isStronger_22] at h
    refine J_iload_n (pc := 22) 3 dX12_isStronger_22 rfl ?_
    refine J_aload_n (pc := 23) 0 dX12_isStronger_23 rfl ?_
    refine J_getA (pc := 24) dX12_isStronger_24 ho flX12_7 rfl ?_
    refine J_iconst (pc := 27) (1 : Int32) dX12_isStronger_27 (by decide) ?_
    refine J_iald (pc := 28) dX12_isStronger_28 ho ha12_0 h (fun x5 h => ?_)
    refine J_icmp_ge (pc := 29) 156 dX12_isStronger_29 (by decide) h (fun h => ?_) (fun h => ?_)
    · refine J_iload_n (pc := 156) 2 dX12_isStronger_156 rfl ?_
      refine J_if_le (pc := 157) 164 dX12_isStronger_157 (by decide) h (fun h => ?_) (fun h => ?_)
      · refine J_iconst (pc := 164) (0 : Int32) dX12_isStronger_164 (by decide) ?_
        cases h
        exact J_iret (pc := 165) dX12_isStronger_165 rfl rfl
      · refine J_iconst (pc := 160) (1 : Int32) dX12_isStronger_160 (by decide) ?_
        refine J_goto (pc := 161) 165 dX12_isStronger_161 (by decide) ?_
        cases h
        exact J_iret (pc := 165) dX12_isStronger_165 rfl rfl
    · refine J_aload_n (pc := 32) 0 dX12_isStronger_32 rfl ?_
      refine J_getA (pc := 33) dX12_isStronger_33 ho flX12_47 rfl ?_
      refine J_iload_n (pc := 36) 3 dX12_isStronger_36 rfl ?_
      refine J_iald (pc := 37) dX12_isStronger_37 ho ha12_8 h (fun x6 h => ?_)
      refine J_if_ne (pc := 38) 44 dX12_isStronger_38 (by decide) h (fun h => ?_) (fun h => ?_)
      · refine J_iload_n (pc := 44) 2 dX12_isStronger_44 rfl ?_
        refine J_aload_n (pc := 45) 0 dX12_isStronger_45 rfl ?_
        refine J_iload_n (pc := 46) 3 dX12_isStronger_46 rfl ?_
        refine J_iconst (pc := 47) (2 : Int32) dX12_isStronger_47 (by decide) ?_
        obtain ⟨x9, σ7, hc8, h⟩ := cI_t h
        refine J_cVi (pc := 48) (ctX12_vaneAt l E o v3 (2 : Int32) ho σ hc8) dX12_isStronger_48 mlX12_249 mvX12_vaneAt ho rfl (by decide) rfl (Nat.le_of_ble_eq_true rfl) ?_
        refine J_isub (pc := 51) dX12_isStronger_51 ?_
        refine J_istore_n (pc := 52) (L' := [(2, .int (v2 - x9)), (0, .ref (e_a E o 0)), (1, .int a1), (3, .int v3)]) dX12_isStronger_52 (by decide) rfl ?_
        refine J_iload_n (pc := 53) 3 dX12_isStronger_53 rfl ?_
        refine J_iload_n (pc := 54) 2 dX12_isStronger_54 rfl ?_
        refine J_icmp_eq (pc := 55) 150 dX12_isStronger_55 (by decide) h (fun h => ?_) (fun h => ?_)
        · refine J_iinc (pc := 150) (L' := [(3, .int (v3 + (1 : Int32))), (2, .int (v2 - x9)), (0, .ref (e_a E o 0)), (1, .int a1)]) 3 (v3 + (1 : Int32)) dX12_isStronger_150 rfl (by rfl) (by decide) rfl ?_
          refine J_goto (pc := 153) 22 dX12_isStronger_153 (by decide) ?_
          refine J_sub (L' := [(0, .ref (e_a E o 0)), (1, .int a1), (2, .int (v2 - x9)), (3, .int (v3 + (1 : Int32)))]) [2, 3, 1, 0] rfl ?_
          exact ih (v2 - x9) (v3 + (1 : Int32)) σ7 h
        · refine J_aload_n (pc := 58) 1 dX12_isStronger_58 rfl ?_
          refine J_iload_n (pc := 59) 3 dX12_isStronger_59 rfl ?_
          obtain ⟨x12, σ10, hc11, h⟩ := cI_t h
          refine J_cVi (pc := 60) (ctX12_isCalm l E o v3 ho σ7 hc11) dX12_isStronger_60 mlX12_252 mvX12_isCalm ho rfl (by decide) rfl (Nat.le_of_ble_eq_true rfl) ?_
          refine J_if_eq (pc := 63) 69 dX12_isStronger_63 (by decide) h (fun h => ?_) (fun h => ?_)
          · refine J_aload_n (pc := 69) 1 dX12_isStronger_69 rfl ?_
            refine J_iload_n (pc := 70) 3 dX12_isStronger_70 rfl ?_
            refine J_aload_n (pc := 71) 1 dX12_isStronger_71 rfl ?_
            refine J_iload_n (pc := 72) 3 dX12_isStronger_72 rfl ?_
            refine J_iconst (pc := 73) (3 : Int32) dX12_isStronger_73 (by decide) ?_
            obtain ⟨x15, σ13, hc14, h⟩ := cI_t h
            refine J_cVi (pc := 74) (ctX12_vaneAt l E o v3 (3 : Int32) ho σ10 hc14) dX12_isStronger_74 mlX12_249 mvX12_vaneAt ho rfl (by decide) rfl (Nat.le_of_ble_eq_true rfl) ?_
            obtain ⟨x18, σ16, hc17, h⟩ := cI_t h
            refine J_cVi (pc := 77) (ctX12_farFrom l E o v3 x15 ho σ13 hc17) dX12_isStronger_77 mlX12_288 mvX12_farFrom ho rfl (by decide) rfl (Nat.le_of_ble_eq_true rfl) ?_
            refine J_istore (pc := 80) (L' := [(4, .int x18), (2, .int (v2 - x9)), (0, .ref (e_a E o 0)), (1, .int a1), (3, .int v3)]) dX12_isStronger_80 (by decide) rfl ?_
            refine J_aload_n (pc := 82) 2 dX12_isStronger_82 rfl ?_
            refine J_iload_n (pc := 83) 4 dX12_isStronger_83 rfl ?_
            refine J_aload_n (pc := 84) 2 dX12_isStronger_84 rfl ?_
            refine J_iload_n (pc := 85) 4 dX12_isStronger_85 rfl ?_
            refine J_aload_n (pc := 86) 2 dX12_isStronger_86 rfl ?_
            refine J_getA (pc := 87) dX12_isStronger_87 ho flX12_47 rfl ?_
            refine J_iload_n (pc := 90) 4 dX12_isStronger_90 rfl ?_
            refine J_iald (pc := 91) dX12_isStronger_91 ho ha12_8 h (fun x19 h => ?_)
            obtain ⟨x22, σ20, hc21, h⟩ := cI_t h
            refine J_cVi (pc := 92) (ctX12_turned l E o v3 x19 ho σ16 hc21) dX12_isStronger_92 mlX12_279 mvX12_turned ho rfl (by decide) rfl (Nat.le_of_ble_eq_true rfl) ?_
            obtain ⟨x25, σ23, hc24, h⟩ := cI_t h
            refine J_cVi (pc := 95) (ctX12_farFrom l E o v3 x22 ho σ20 hc24) dX12_isStronger_95 mlX12_288 mvX12_farFrom ho rfl (by decide) rfl (Nat.le_of_ble_eq_true rfl) ?_
            refine J_istore (pc := 98) (L' := [(5, .int x25), (4, .int x18), (2, .int (v2 - x9)), (0, .ref (e_a E o 0)), (1, .int a1), (3, .int v3)]) dX12_isStronger_98 (by decide) rfl ?_
            refine J_aload_n (pc := 100) 3 dX12_isStronger_100 rfl ?_
            refine J_getA (pc := 101) dX12_isStronger_101 ho flX12_7 rfl ?_
            refine J_sipush (pc := 104) (2460 : Int32) dX12_isStronger_104 (by decide) ?_
            refine J_iconst (pc := 107) (2 : Int32) dX12_isStronger_107 (by decide) ?_
            refine J_aload_n (pc := 108) 3 dX12_isStronger_108 rfl ?_
            refine J_iload_n (pc := 109) 5 dX12_isStronger_109 rfl ?_
            refine J_iconst (pc := 110) (1 : Int32) dX12_isStronger_110 (by decide) ?_
            obtain ⟨x28, σ26, hc27, h⟩ := cI_t h
            refine J_cVi (pc := 111) (ctX12_vaneAt l E o v3 (1 : Int32) ho σ23 hc27) dX12_isStronger_111 mlX12_249 mvX12_vaneAt ho rfl (by decide) rfl (Nat.le_of_ble_eq_true rfl) ?_
            refine J_imul (pc := 114) dX12_isStronger_114 ?_
            refine J_iadd (pc := 115) dX12_isStronger_115 ?_
            refine J_iconst (pc := 116) (1 : Int32) dX12_isStronger_116 (by decide) ?_
            refine J_iadd (pc := 117) dX12_isStronger_117 ?_
            refine J_iald (pc := 118) dX12_isStronger_118 ho ha12_0 h (fun x29 h => ?_)
            refine J_istore (pc := 119) (L' := [(6, .int x29), (5, .int x25), (4, .int x18), (2, .int (v2 - x9)), (0, .ref (e_a E o 0)), (1, .int a1), (3, .int v3)]) dX12_isStronger_119 (by decide) rfl ?_
            refine J_iload_n (pc := 121) 3 dX12_isStronger_121 rfl ?_
            refine J_iload (pc := 122) 1 dX12_isStronger_122 rfl ?_
            refine J_iload (pc := 124) 2 dX12_isStronger_124 rfl ?_
            refine J_icmp_ge (pc := 126) 134 dX12_isStronger_126 (by decide) h (fun h => ?_) (fun h => ?_)
            · refine J_iload (pc := 134) 1 dX12_isStronger_134 rfl ?_
              refine J_iload (pc := 136) 2 dX12_isStronger_136 rfl ?_
              refine J_icmp_le (pc := 138) 147 dX12_isStronger_138 (by decide) h (fun h => ?_) (fun h => ?_)
              · refine J_iconst (pc := 147) (0 : Int32) dX12_isStronger_147 (by decide) ?_
                refine J_iadd (pc := 148) dX12_isStronger_148 ?_
                refine J_istore_n (pc := 149) (L' := [(2, .int ((v2 - x9) + (0 : Int32))), (6, .int x29), (5, .int x25), (4, .int x18), (0, .ref (e_a E o 0)), (1, .int a1), (3, .int v3)]) dX12_isStronger_149 (by decide) rfl ?_
                refine J_iinc (pc := 150) (L' := [(3, .int (v3 + (1 : Int32))), (2, .int ((v2 - x9) + (0 : Int32))), (6, .int x29), (5, .int x25), (4, .int x18), (0, .ref (e_a E o 0)), (1, .int a1)]) 6 (v3 + (1 : Int32)) dX12_isStronger_150 rfl (by rfl) (by decide) rfl ?_
                refine J_goto (pc := 153) 22 dX12_isStronger_153 (by decide) ?_
                refine J_sub (L' := [(0, .ref (e_a E o 0)), (1, .int a1), (2, .int ((v2 - x9) + (0 : Int32))), (3, .int (v3 + (1 : Int32)))]) [5, 6, 1, 0] rfl ?_
                exact ih ((v2 - x9) + (0 : Int32)) (v3 + (1 : Int32)) σ26 h
              · refine J_iload (pc := 141) 0 dX12_isStronger_141 rfl ?_
                refine J_ineg (pc := 143) dX12_isStronger_143 ?_
                refine J_goto (pc := 144) 148 dX12_isStronger_144 (by decide) ?_
                refine J_iadd (pc := 148) dX12_isStronger_148 ?_
                refine J_istore_n (pc := 149) (L' := [(2, .int ((v2 - x9) + (-x29))), (6, .int x29), (5, .int x25), (4, .int x18), (0, .ref (e_a E o 0)), (1, .int a1), (3, .int v3)]) dX12_isStronger_149 (by decide) rfl ?_
                refine J_iinc (pc := 150) (L' := [(3, .int (v3 + (1 : Int32))), (2, .int ((v2 - x9) + (-x29))), (6, .int x29), (5, .int x25), (4, .int x18), (0, .ref (e_a E o 0)), (1, .int a1)]) 6 (v3 + (1 : Int32)) dX12_isStronger_150 rfl (by rfl) (by decide) rfl ?_
                refine J_goto (pc := 153) 22 dX12_isStronger_153 (by decide) ?_
                refine J_sub (L' := [(0, .ref (e_a E o 0)), (1, .int a1), (2, .int ((v2 - x9) + (-x29))), (3, .int (v3 + (1 : Int32)))]) [5, 6, 1, 0] rfl ?_
                exact ih ((v2 - x9) + (-x29)) (v3 + (1 : Int32)) σ26 h
            · refine J_iload (pc := 129) 0 dX12_isStronger_129 rfl ?_
              refine J_goto (pc := 131) 148 dX12_isStronger_131 (by decide) ?_
              refine J_iadd (pc := 148) dX12_isStronger_148 ?_
              refine J_istore_n (pc := 149) (L' := [(2, .int ((v2 - x9) + x29)), (6, .int x29), (5, .int x25), (4, .int x18), (0, .ref (e_a E o 0)), (1, .int a1), (3, .int v3)]) dX12_isStronger_149 (by decide) rfl ?_
              refine J_iinc (pc := 150) (L' := [(3, .int (v3 + (1 : Int32))), (2, .int ((v2 - x9) + x29)), (6, .int x29), (5, .int x25), (4, .int x18), (0, .ref (e_a E o 0)), (1, .int a1)]) 6 (v3 + (1 : Int32)) dX12_isStronger_150 rfl (by rfl) (by decide) rfl ?_
              refine J_goto (pc := 153) 22 dX12_isStronger_153 (by decide) ?_
              refine J_sub (L' := [(0, .ref (e_a E o 0)), (1, .int a1), (2, .int ((v2 - x9) + x29)), (3, .int (v3 + (1 : Int32)))]) [5, 6, 1, 0] rfl ?_
              exact ih ((v2 - x9) + x29) (v3 + (1 : Int32)) σ26 h
          · refine J_goto (pc := 66) 150 dX12_isStronger_66 (by decide) ?_
            refine J_iinc (pc := 150) (L' := [(3, .int (v3 + (1 : Int32))), (2, .int (v2 - x9)), (0, .ref (e_a E o 0)), (1, .int a1)]) 3 (v3 + (1 : Int32)) dX12_isStronger_150 rfl (by rfl) (by decide) rfl ?_
            refine J_goto (pc := 153) 22 dX12_isStronger_153 (by decide) ?_
            refine J_sub (L' := [(0, .ref (e_a E o 0)), (1, .int a1), (2, .int (v2 - x9)), (3, .int (v3 + (1 : Int32)))]) [2, 3, 1, 0] rfl ?_
            exact ih (v2 - x9) (v3 + (1 : Int32)) σ10 h
      · refine J_goto (pc := 41) 150 dX12_isStronger_41 (by decide) ?_
        refine J_iinc (pc := 150) (L' := [(3, .int (v3 + (1 : Int32))), (0, .ref (e_a E o 0)), (1, .int a1), (2, .int v2)]) 3 (v3 + (1 : Int32)) dX12_isStronger_150 rfl (by rfl) (by decide) rfl ?_
        refine J_goto (pc := 153) 22 dX12_isStronger_153 (by decide) ?_
        refine J_sub (L' := [(0, .ref (e_a E o 0)), (1, .int a1), (2, .int v2), (3, .int (v3 + (1 : Int32)))]) [1, 2, 3, 0] rfl ?_
        exact ih v2 (v3 + (1 : Int32)) σ h
def fX12_isStronger (o : Nat) (a1 : Int32) (σ : Mm) : Option (Int32 × Mm) := c_I (fX12_vaneAt o a1 (1 : Int32) σ) (fun x3 σ1 => g_ar σ1 o 0 2950 (((2460 : Int32) + ((2 : Int32) * x3)) + (1 : Int32)) (fun x4 => fX12_isStronger_22 o a1 FU x4 (0 : Int32) σ1))
set_option maxRecDepth 100000 in
set_option maxHeartbeats 4000000 in
theorem ctX12_isStronger (l : Launch) (E : EV) (o : Nat) (a1 : Int32) (ho : KD o = 12) (σ : Mm) {xr : Int32} {τ : Mm} (h : fX12_isStronger o a1 σ = some (xr, τ)) : Ct l E mX12_isStronger 4 [.ref (e_a E o 0), .int a1] σ (some (.int xr), τ) := by
  refine Ct.of (by decide +kernel) (Nat.le_of_ble_eq_true rfl) ?_
  show Jd l E mX12_isStronger 4 (some (.int xr), τ) σ 0 [(0, .ref (e_a E o 0)), (1, .int a1)] []
  unfold fX12_isStronger at h
  refine J_aload_n (pc := 0) 0 dX12_isStronger_0 rfl ?_
  refine J_getA (pc := 1) dX12_isStronger_1 ho flX12_7 rfl ?_
  refine J_sipush (pc := 4) (2460 : Int32) dX12_isStronger_4 (by decide) ?_
  refine J_iconst (pc := 7) (2 : Int32) dX12_isStronger_7 (by decide) ?_
  refine J_aload_n (pc := 8) 0 dX12_isStronger_8 rfl ?_
  refine J_iload_n (pc := 9) 1 dX12_isStronger_9 rfl ?_
  refine J_iconst (pc := 10) (1 : Int32) dX12_isStronger_10 (by decide) ?_
  obtain ⟨x3, σ1, hc2, h⟩ := cI_t h
  refine J_cVi (pc := 11) (ctX12_vaneAt l E o a1 (1 : Int32) ho σ hc2) dX12_isStronger_11 mlX12_249 mvX12_vaneAt ho rfl (by decide) rfl (Nat.le_of_ble_eq_true rfl) ?_
  refine J_imul (pc := 14) dX12_isStronger_14 ?_
  refine J_iadd (pc := 15) dX12_isStronger_15 ?_
  refine J_iconst (pc := 16) (1 : Int32) dX12_isStronger_16 (by decide) ?_
  refine J_iadd (pc := 17) dX12_isStronger_17 ?_
  refine J_iald (pc := 18) dX12_isStronger_18 ho ha12_0 h (fun x4 h => ?_)
  refine J_istore_n (pc := 19) (L' := [(2, .int x4), (0, .ref (e_a E o 0)), (1, .int a1)]) dX12_isStronger_19 (by decide) rfl ?_
  refine J_iconst (pc := 20) (0 : Int32) dX12_isStronger_20 (by decide) ?_
  refine J_istore_n (pc := 21) (L' := [(3, .int (0 : Int32)), (2, .int x4), (0, .ref (e_a E o 0)), (1, .int a1)]) dX12_isStronger_21 (by decide) rfl ?_
  refine J_sub (L' := [(0, .ref (e_a E o 0)), (1, .int a1), (2, .int x4), (3, .int (0 : Int32))]) [2, 3, 1, 0] rfl ?_
  exact tX12_isStronger_22 l E o a1 ho FU x4 (0 : Int32) σ1 h
def fX12_shorter (o : Nat) (a1 : Int32) (σ : Mm) : Option (Int32 × Mm) := c_I (fX12_vaneAt o a1 (3 : Int32) σ) (fun x3 σ1 => c_I (fX12_toRight o a1 x3 σ1) (fun x6 σ4 => c_I (fX12_vaneAt o a1 (0 : Int32) σ4) (fun x9 σ7 => if (x9 - x6) < x6 then (some ((-1 : Int32), σ7)) else (some ((1 : Int32), σ7)))))
set_option maxRecDepth 100000 in
set_option maxHeartbeats 4000000 in
theorem ctX12_shorter (l : Launch) (E : EV) (o : Nat) (a1 : Int32) (ho : KD o = 12) (σ : Mm) {xr : Int32} {τ : Mm} (h : fX12_shorter o a1 σ = some (xr, τ)) : Ct l E mX12_shorter 3 [.ref (e_a E o 0), .int a1] σ (some (.int xr), τ) := by
  refine Ct.of (by decide +kernel) (Nat.le_of_ble_eq_true rfl) ?_
  show Jd l E mX12_shorter 3 (some (.int xr), τ) σ 0 [(0, .ref (e_a E o 0)), (1, .int a1)] []
  unfold fX12_shorter at h
  refine J_aload_n (pc := 0) 0 dX12_shorter_0 rfl ?_
  refine J_iload_n (pc := 1) 1 dX12_shorter_1 rfl ?_
  refine J_aload_n (pc := 2) 0 dX12_shorter_2 rfl ?_
  refine J_iload_n (pc := 3) 1 dX12_shorter_3 rfl ?_
  refine J_iconst (pc := 4) (3 : Int32) dX12_shorter_4 (by decide) ?_
  obtain ⟨x3, σ1, hc2, h⟩ := cI_t h
  refine J_cVi (pc := 5) (ctX12_vaneAt l E o a1 (3 : Int32) ho σ hc2) dX12_shorter_5 mlX12_249 mvX12_vaneAt ho rfl (by decide) rfl (Nat.le_of_ble_eq_true rfl) ?_
  obtain ⟨x6, σ4, hc5, h⟩ := cI_t h
  refine J_cVi (pc := 8) (ctX12_toRight l E o a1 x3 ho σ1 hc5) dX12_shorter_8 mlX12_264 mvX12_toRight ho rfl (by decide) rfl (Nat.le_of_ble_eq_true rfl) ?_
  refine J_istore_n (pc := 11) (L' := [(2, .int x6), (0, .ref (e_a E o 0)), (1, .int a1)]) dX12_shorter_11 (by decide) rfl ?_
  refine J_iload_n (pc := 12) 0 dX12_shorter_12 rfl ?_
  refine J_aload_n (pc := 13) 1 dX12_shorter_13 rfl ?_
  refine J_iload_n (pc := 14) 2 dX12_shorter_14 rfl ?_
  refine J_iconst (pc := 15) (0 : Int32) dX12_shorter_15 (by decide) ?_
  obtain ⟨x9, σ7, hc8, h⟩ := cI_t h
  refine J_cVi (pc := 16) (ctX12_vaneAt l E o a1 (0 : Int32) ho σ4 hc8) dX12_shorter_16 mlX12_249 mvX12_vaneAt ho rfl (by decide) rfl (Nat.le_of_ble_eq_true rfl) ?_
  refine J_iload_n (pc := 19) 0 dX12_shorter_19 rfl ?_
  refine J_isub (pc := 20) dX12_shorter_20 ?_
  refine J_icmp_gt (pc := 21) 28 dX12_shorter_21 (by decide) h (fun h => ?_) (fun h => ?_)
  · refine J_iconst (pc := 28) (-1 : Int32) dX12_shorter_28 (by decide) ?_
    cases h
    exact J_iret (pc := 29) dX12_shorter_29 rfl rfl
  · refine J_iconst (pc := 24) (1 : Int32) dX12_shorter_24 (by decide) ?_
    refine J_goto (pc := 25) 29 dX12_shorter_25 (by decide) ?_
    cases h
    exact J_iret (pc := 29) dX12_shorter_29 rfl rfl
def fX12_quarterGoes_91 (o : Nat) (σ : Mm) : Option (Int32 × Mm) := g_ar σ o 0 2950 (2453 : Int32) (fun x20 => if (9999 : Int32) ≤ x20 then (r_sc σ o 28 (fun x21 => if x21 = (-1 : Int32) then (some ((0 : Int32), σ)) else (some ((1 : Int32), σ)))) else (g_ar σ o 0 2950 (2453 : Int32) (fun x22 => s_ar σ o 0 2950 (2453 : Int32) (x22 + (1 : Int32)) (fun σ23 => r_sc σ23 o 28 (fun x24 => if x24 = (-1 : Int32) then (some ((0 : Int32), σ23)) else (some ((1 : Int32), σ23)))))))
set_option maxRecDepth 100000 in
set_option maxHeartbeats 4000000 in
theorem tX12_quarterGoes_91 (l : Launch) (E : EV) {xr : Int32} {τ : Mm} (o : Nat) (ho : KD o = 12) (σ : Mm) (h : fX12_quarterGoes_91 o σ = some (xr, τ)) : Jd l E mX12_quarterGoes 5 (some (.int xr), τ) σ 91 [(0, .ref (e_a E o 0))] [] := by
  unfold fX12_quarterGoes_91 at h
  refine J_aload_n (pc := 91) 0 dX12_quarterGoes_91 rfl ?_
  refine J_getA (pc := 92) dX12_quarterGoes_92 ho flX12_7 rfl ?_
  refine J_sipush (pc := 95) (2453 : Int32) dX12_quarterGoes_95 (by decide) ?_
  refine J_iald (pc := 98) dX12_quarterGoes_98 ho ha12_0 h (fun x20 h => ?_)
  refine J_sipush (pc := 99) (9999 : Int32) dX12_quarterGoes_99 (by decide) ?_
  refine J_icmp_ge (pc := 102) 117 dX12_quarterGoes_102 (by decide) h (fun h => ?_) (fun h => ?_)
  · refine J_aload_n (pc := 117) 0 dX12_quarterGoes_117 rfl ?_
    refine J_getI (pc := 118) dX12_quarterGoes_118 ho flX12_291 rfl h (fun x21 h => ?_)
    refine J_iconst (pc := 121) (-1 : Int32) dX12_quarterGoes_121 (by decide) ?_
    refine J_icmp_eq (pc := 122) 129 dX12_quarterGoes_122 (by decide) h (fun h => ?_) (fun h => ?_)
    · refine J_iconst (pc := 129) (0 : Int32) dX12_quarterGoes_129 (by decide) ?_
      cases h
      exact J_iret (pc := 130) dX12_quarterGoes_130 rfl rfl
    · refine J_iconst (pc := 125) (1 : Int32) dX12_quarterGoes_125 (by decide) ?_
      refine J_goto (pc := 126) 130 dX12_quarterGoes_126 (by decide) ?_
      cases h
      exact J_iret (pc := 130) dX12_quarterGoes_130 rfl rfl
  · refine J_aload_n (pc := 105) 0 dX12_quarterGoes_105 rfl ?_
    refine J_getA (pc := 106) dX12_quarterGoes_106 ho flX12_7 rfl ?_
    refine J_sipush (pc := 109) (2453 : Int32) dX12_quarterGoes_109 (by decide) ?_
    refine J_dup2 (pc := 112) dX12_quarterGoes_112 rfl rfl ?_
    refine J_iald (pc := 113) dX12_quarterGoes_113 ho ha12_0 h (fun x22 h => ?_)
    refine J_iconst (pc := 114) (1 : Int32) dX12_quarterGoes_114 (by decide) ?_
    refine J_iadd (pc := 115) dX12_quarterGoes_115 ?_
    refine J_iast (pc := 116) dX12_quarterGoes_116 ho ha12_0 h (fun σ23 h => ?_)
    refine J_aload_n (pc := 117) 0 dX12_quarterGoes_117 rfl ?_
    refine J_getI (pc := 118) dX12_quarterGoes_118 ho flX12_291 rfl h (fun x24 h => ?_)
    refine J_iconst (pc := 121) (-1 : Int32) dX12_quarterGoes_121 (by decide) ?_
    refine J_icmp_eq (pc := 122) 129 dX12_quarterGoes_122 (by decide) h (fun h => ?_) (fun h => ?_)
    · refine J_iconst (pc := 129) (0 : Int32) dX12_quarterGoes_129 (by decide) ?_
      cases h
      exact J_iret (pc := 130) dX12_quarterGoes_130 rfl rfl
    · refine J_iconst (pc := 125) (1 : Int32) dX12_quarterGoes_125 (by decide) ?_
      refine J_goto (pc := 126) 130 dX12_quarterGoes_126 (by decide) ?_
      cases h
      exact J_iret (pc := 130) dX12_quarterGoes_130 rfl rfl
def fX12_quarterGoes_7 (o : Nat) : Nat → Int32 → Mm → Option (Int32 × Mm)
  | 0, _, _ => none
  | n + 1, v1, σ => g_ar σ o 0 2950 (1 : Int32) (fun x2 => if x2 ≤ v1 then (fX12_quarterGoes_91 o σ) else (g_ar σ o 0 2950 (2455 : Int32) (fun x3 => if ((x3 >>> (v1 &&& 31)) &&& (1 : Int32)) = (1 : Int32) then ((fX12_quarterGoes_7 o n) (v1 + (1 : Int32)) σ) else (c_I (fX12_isRight o v1 σ) (fun x6 σ4 => if x6 = 0 then (c_I (fX12_shorter o v1 σ4) (fun x9 σ7 => c_I (fX12_dragsBy o v1 x9 σ7) (fun x12 σ10 => if x12 = 0 then ((fX12_quarterGoes_7 o n) (v1 + (1 : Int32)) σ10) else (c_I (fX12_isStronger o v1 σ10) (fun x15 σ13 => if x15 = 0 then ((fX12_quarterGoes_7 o n) (v1 + (1 : Int32)) σ13) else (c_V (fX12_turnsAll o σ13) (fun σ16 => r_sc σ16 o 28 (fun x18 => if x18 = (-1 : Int32) then (p_sc σ16 o 28 v1 (fun σ19 => (fX12_quarterGoes_7 o n) (v1 + (1 : Int32)) σ19)) else ((fX12_quarterGoes_7 o n) (v1 + (1 : Int32)) σ16))))))))) else ((fX12_quarterGoes_7 o n) (v1 + (1 : Int32)) σ4))))))
set_option maxRecDepth 100000 in
set_option maxHeartbeats 4000000 in
theorem tX12_quarterGoes_7 (l : Launch) (E : EV) {xr : Int32} {τ : Mm} (o : Nat) (ho : KD o = 12) : ∀ (n : Nat) (v1 : Int32) (σ : Mm), fX12_quarterGoes_7 o n v1 σ = some (xr, τ) → Jd l E mX12_quarterGoes 5 (some (.int xr), τ) σ 7 [(0, .ref (e_a E o 0)), (1, .int v1)] [] := by
  intro n
  induction n with
  | zero => intro v1 σ h; rw [fX12_quarterGoes_7] at h; cases h
  | succ n ih =>
    intro v1 σ h
    rw [fX12_quarterGoes_7] at h
    refine J_iload_n (pc := 7) 1 dX12_quarterGoes_7 rfl ?_
    refine J_aload_n (pc := 8) 0 dX12_quarterGoes_8 rfl ?_
    refine J_getA (pc := 9) dX12_quarterGoes_9 ho flX12_7 rfl ?_
    refine J_iconst (pc := 12) (1 : Int32) dX12_quarterGoes_12 (by decide) ?_
    refine J_iald (pc := 13) dX12_quarterGoes_13 ho ha12_0 h (fun x2 h => ?_)
    refine J_icmp_ge (pc := 14) 91 dX12_quarterGoes_14 (by decide) h (fun h => ?_) (fun h => ?_)
    · refine J_sub (L' := [(0, .ref (e_a E o 0))]) [0] rfl ?_
      exact tX12_quarterGoes_91 l E o ho σ h
    · refine J_aload_n (pc := 17) 0 dX12_quarterGoes_17 rfl ?_
      refine J_getA (pc := 18) dX12_quarterGoes_18 ho flX12_7 rfl ?_
      refine J_sipush (pc := 21) (2455 : Int32) dX12_quarterGoes_21 (by decide) ?_
      refine J_iald (pc := 24) dX12_quarterGoes_24 ho ha12_0 h (fun x3 h => ?_)
      refine J_iload_n (pc := 25) 1 dX12_quarterGoes_25 rfl ?_
      refine J_ishr (pc := 26) dX12_quarterGoes_26 ?_
      refine J_iconst (pc := 27) (1 : Int32) dX12_quarterGoes_27 (by decide) ?_
      refine J_iand (pc := 28) dX12_quarterGoes_28 ?_
      refine J_iconst (pc := 29) (1 : Int32) dX12_quarterGoes_29 (by decide) ?_
      refine J_icmp_eq (pc := 30) 85 dX12_quarterGoes_30 (by decide) h (fun h => ?_) (fun h => ?_)
      · refine J_iinc (pc := 85) (L' := [(1, .int (v1 + (1 : Int32))), (0, .ref (e_a E o 0))]) 1 (v1 + (1 : Int32)) dX12_quarterGoes_85 rfl (by rfl) (by decide) rfl ?_
        refine J_goto (pc := 88) 7 dX12_quarterGoes_88 (by decide) ?_
        refine J_sub (L' := [(0, .ref (e_a E o 0)), (1, .int (v1 + (1 : Int32)))]) [1, 0] rfl ?_
        exact ih (v1 + (1 : Int32)) σ h
      · refine J_aload_n (pc := 33) 0 dX12_quarterGoes_33 rfl ?_
        refine J_iload_n (pc := 34) 1 dX12_quarterGoes_34 rfl ?_
        obtain ⟨x6, σ4, hc5, h⟩ := cI_t h
        refine J_cVi (pc := 35) (ctX12_isRight l E o v1 ho σ hc5) dX12_quarterGoes_35 mlX12_258 mvX12_isRight ho rfl (by decide) rfl (Nat.le_of_ble_eq_true rfl) ?_
        refine J_if_eq (pc := 38) 44 dX12_quarterGoes_38 (by decide) h (fun h => ?_) (fun h => ?_)
        · refine J_aload_n (pc := 44) 0 dX12_quarterGoes_44 rfl ?_
          refine J_iload_n (pc := 45) 1 dX12_quarterGoes_45 rfl ?_
          refine J_aload_n (pc := 46) 0 dX12_quarterGoes_46 rfl ?_
          refine J_iload_n (pc := 47) 1 dX12_quarterGoes_47 rfl ?_
          obtain ⟨x9, σ7, hc8, h⟩ := cI_t h
          refine J_cVi (pc := 48) (ctX12_shorter l E o v1 ho σ4 hc8) dX12_quarterGoes_48 mlX12_294 mvX12_shorter ho rfl (by decide) rfl (Nat.le_of_ble_eq_true rfl) ?_
          obtain ⟨x12, σ10, hc11, h⟩ := cI_t h
          refine J_cVi (pc := 51) (ctX12_dragsBy l E o v1 x9 ho σ7 hc11) dX12_quarterGoes_51 mlX12_297 mvX12_dragsBy ho rfl (by decide) rfl (Nat.le_of_ble_eq_true rfl) ?_
          refine J_if_eq (pc := 54) 85 dX12_quarterGoes_54 (by decide) h (fun h => ?_) (fun h => ?_)
          · refine J_iinc (pc := 85) (L' := [(1, .int (v1 + (1 : Int32))), (0, .ref (e_a E o 0))]) 1 (v1 + (1 : Int32)) dX12_quarterGoes_85 rfl (by rfl) (by decide) rfl ?_
            refine J_goto (pc := 88) 7 dX12_quarterGoes_88 (by decide) ?_
            refine J_sub (L' := [(0, .ref (e_a E o 0)), (1, .int (v1 + (1 : Int32)))]) [1, 0] rfl ?_
            exact ih (v1 + (1 : Int32)) σ10 h
          · refine J_aload_n (pc := 57) 0 dX12_quarterGoes_57 rfl ?_
            refine J_iload_n (pc := 58) 1 dX12_quarterGoes_58 rfl ?_
            obtain ⟨x15, σ13, hc14, h⟩ := cI_t h
            refine J_cVi (pc := 59) (ctX12_isStronger l E o v1 ho σ10 hc14) dX12_quarterGoes_59 mlX12_300 mvX12_isStronger ho rfl (by decide) rfl (Nat.le_of_ble_eq_true rfl) ?_
            refine J_if_ne (pc := 62) 68 dX12_quarterGoes_62 (by decide) h (fun h => ?_) (fun h => ?_)
            · refine J_aload_n (pc := 68) 0 dX12_quarterGoes_68 rfl ?_
              obtain ⟨σ16, hc17, h⟩ := cV_t h
              refine J_cVv (pc := 69) (ctX12_turnsAll l E o ho σ13 hc17) dX12_quarterGoes_69 mlX12_303 mvX12_turnsAll ho rfl (by decide) rfl (Nat.le_of_ble_eq_true rfl) ?_
              refine J_aload_n (pc := 72) 0 dX12_quarterGoes_72 rfl ?_
              refine J_getI (pc := 73) dX12_quarterGoes_73 ho flX12_291 rfl h (fun x18 h => ?_)
              refine J_iconst (pc := 76) (-1 : Int32) dX12_quarterGoes_76 (by decide) ?_
              refine J_icmp_ne (pc := 77) 85 dX12_quarterGoes_77 (by decide) h (fun h => ?_) (fun h => ?_)
              · refine J_iinc (pc := 85) (L' := [(1, .int (v1 + (1 : Int32))), (0, .ref (e_a E o 0))]) 1 (v1 + (1 : Int32)) dX12_quarterGoes_85 rfl (by rfl) (by decide) rfl ?_
                refine J_goto (pc := 88) 7 dX12_quarterGoes_88 (by decide) ?_
                refine J_sub (L' := [(0, .ref (e_a E o 0)), (1, .int (v1 + (1 : Int32)))]) [1, 0] rfl ?_
                exact ih (v1 + (1 : Int32)) σ16 h
              · refine J_aload_n (pc := 80) 0 dX12_quarterGoes_80 rfl ?_
                refine J_iload_n (pc := 81) 1 dX12_quarterGoes_81 rfl ?_
                refine J_putI (pc := 82) dX12_quarterGoes_82 ho flX12_291 rfl h (fun σ19 h => ?_)
                refine J_iinc (pc := 85) (L' := [(1, .int (v1 + (1 : Int32))), (0, .ref (e_a E o 0))]) 1 (v1 + (1 : Int32)) dX12_quarterGoes_85 rfl (by rfl) (by decide) rfl ?_
                refine J_goto (pc := 88) 7 dX12_quarterGoes_88 (by decide) ?_
                refine J_sub (L' := [(0, .ref (e_a E o 0)), (1, .int (v1 + (1 : Int32)))]) [1, 0] rfl ?_
                exact ih (v1 + (1 : Int32)) σ19 h
            · refine J_goto (pc := 65) 85 dX12_quarterGoes_65 (by decide) ?_
              refine J_iinc (pc := 85) (L' := [(1, .int (v1 + (1 : Int32))), (0, .ref (e_a E o 0))]) 1 (v1 + (1 : Int32)) dX12_quarterGoes_85 rfl (by rfl) (by decide) rfl ?_
              refine J_goto (pc := 88) 7 dX12_quarterGoes_88 (by decide) ?_
              refine J_sub (L' := [(0, .ref (e_a E o 0)), (1, .int (v1 + (1 : Int32)))]) [1, 0] rfl ?_
              exact ih (v1 + (1 : Int32)) σ13 h
        · refine J_goto (pc := 41) 85 dX12_quarterGoes_41 (by decide) ?_
          refine J_iinc (pc := 85) (L' := [(1, .int (v1 + (1 : Int32))), (0, .ref (e_a E o 0))]) 1 (v1 + (1 : Int32)) dX12_quarterGoes_85 rfl (by rfl) (by decide) rfl ?_
          refine J_goto (pc := 88) 7 dX12_quarterGoes_88 (by decide) ?_
          refine J_sub (L' := [(0, .ref (e_a E o 0)), (1, .int (v1 + (1 : Int32)))]) [1, 0] rfl ?_
          exact ih (v1 + (1 : Int32)) σ4 h
def fX12_quarterGoes (o : Nat) (σ : Mm) : Option (Int32 × Mm) := p_sc σ o 28 (-1 : Int32) (fun σ1 => fX12_quarterGoes_7 o FU (0 : Int32) σ1)
set_option maxRecDepth 100000 in
set_option maxHeartbeats 4000000 in
theorem ctX12_quarterGoes (l : Launch) (E : EV) (o : Nat) (ho : KD o = 12) (σ : Mm) {xr : Int32} {τ : Mm} (h : fX12_quarterGoes o σ = some (xr, τ)) : Ct l E mX12_quarterGoes 5 [.ref (e_a E o 0)] σ (some (.int xr), τ) := by
  refine Ct.of (by decide +kernel) (Nat.le_of_ble_eq_true rfl) ?_
  show Jd l E mX12_quarterGoes 5 (some (.int xr), τ) σ 0 [(0, .ref (e_a E o 0))] []
  unfold fX12_quarterGoes at h
  refine J_aload_n (pc := 0) 0 dX12_quarterGoes_0 rfl ?_
  refine J_iconst (pc := 1) (-1 : Int32) dX12_quarterGoes_1 (by decide) ?_
  refine J_putI (pc := 2) dX12_quarterGoes_2 ho flX12_291 rfl h (fun σ1 h => ?_)
  refine J_iconst (pc := 5) (0 : Int32) dX12_quarterGoes_5 (by decide) ?_
  refine J_istore_n (pc := 6) (L' := [(1, .int (0 : Int32)), (0, .ref (e_a E o 0))]) dX12_quarterGoes_6 (by decide) rfl ?_
  refine J_sub (L' := [(0, .ref (e_a E o 0)), (1, .int (0 : Int32))]) [1, 0] rfl ?_
  exact tX12_quarterGoes_7 l E o ho FU (0 : Int32) σ1 h
def fX12_begins1 (o : Nat) (σ : Mm) : Option (Mm) := c_V (fX12_begins0 o σ) (fun σ1 => p_sc σ1 o 26 (0 : Int32) (fun σ3 => p_sc σ3 o 27 (0 : Int32) (fun σ4 => some σ4)))
set_option maxRecDepth 100000 in
set_option maxHeartbeats 4000000 in
theorem ctX12_begins1 (l : Launch) (E : EV) (o : Nat) (ho : KD o = 12) (σ : Mm) {τ : Mm} (h : fX12_begins1 o σ = some τ) : Ct l E mX12_begins1 1 [.ref (e_a E o 0)] σ (none, τ) := by
  refine Ct.of (by decide +kernel) (Nat.le_of_ble_eq_true rfl) ?_
  show Jd l E mX12_begins1 1 (none, τ) σ 0 [(0, .ref (e_a E o 0))] []
  unfold fX12_begins1 at h
  refine J_aload_n (pc := 0) 0 dX12_begins1_0 rfl ?_
  obtain ⟨σ1, hc2, h⟩ := cV_t h
  refine J_cVv (pc := 1) (ctX12_begins0 l E o ho σ hc2) dX12_begins1_1 mlX12_261 mvX12_begins0 ho rfl (by decide) rfl (Nat.le_of_ble_eq_true rfl) ?_
  refine J_aload_n (pc := 4) 0 dX12_begins1_4 rfl ?_
  refine J_iconst (pc := 5) (0 : Int32) dX12_begins1_5 (by decide) ?_
  refine J_putI (pc := 6) dX12_begins1_6 ho flX12_285 rfl h (fun σ3 h => ?_)
  refine J_aload_n (pc := 9) 0 dX12_begins1_9 rfl ?_
  refine J_iconst (pc := 10) (0 : Int32) dX12_begins1_10 (by decide) ?_
  refine J_putI (pc := 11) dX12_begins1_11 ho flX12_282 rfl h (fun σ4 h => ?_)
  cases h
  exact J_vret (pc := 14) dX12_begins1_14 rfl
def fX12_goesBy_2 (o : Nat) (a1 : Int32) : Nat → Int32 → Mm → Option (Mm)
  | 0, _, _ => none
  | n + 1, v2, σ => if a1 ≤ v2 then (some σ) else (c_I (fX12_quarterGoes o σ) (fun x3 σ1 => p_bz σ1 o 29 x3 (fun σ4 => (fX12_goesBy_2 o a1 n) (v2 + (1 : Int32)) σ4)))
set_option maxRecDepth 100000 in
set_option maxHeartbeats 4000000 in
theorem tX12_goesBy_2 (l : Launch) (E : EV) {τ : Mm} (o : Nat) (a1 : Int32) (ho : KD o = 12) : ∀ (n : Nat) (v2 : Int32) (σ : Mm), fX12_goesBy_2 o a1 n v2 σ = some τ → Jd l E mX12_goesBy 6 (none, τ) σ 2 [(0, .ref (e_a E o 0)), (1, .int a1), (2, .int v2)] [] := by
  intro n
  induction n with
  | zero => intro v2 σ h; rw [fX12_goesBy_2] at h; cases h
  | succ n ih =>
    intro v2 σ h
    rw [fX12_goesBy_2] at h
    refine J_iload_n (pc := 2) 2 dX12_goesBy_2 rfl ?_
    refine J_iload_n (pc := 3) 1 dX12_goesBy_3 rfl ?_
    refine J_icmp_ge (pc := 4) 21 dX12_goesBy_4 (by decide) h (fun h => ?_) (fun h => ?_)
    · cases h
      exact J_vret (pc := 21) dX12_goesBy_21 rfl
    · refine J_aload_n (pc := 7) 0 dX12_goesBy_7 rfl ?_
      refine J_aload_n (pc := 8) 0 dX12_goesBy_8 rfl ?_
      obtain ⟨x3, σ1, hc2, h⟩ := cI_t h
      refine J_cVi (pc := 9) (ctX12_quarterGoes l E o ho σ hc2) dX12_goesBy_9 mlX12_306 mvX12_quarterGoes ho rfl (by decide) rfl (Nat.le_of_ble_eq_true rfl) ?_
      refine J_putZ (pc := 12) dX12_goesBy_12 ho flX12_309 rfl h (fun σ4 h => ?_)
      refine J_iinc (pc := 15) (L' := [(2, .int (v2 + (1 : Int32))), (0, .ref (e_a E o 0)), (1, .int a1)]) 2 (v2 + (1 : Int32)) dX12_goesBy_15 rfl (by rfl) (by decide) rfl ?_
      refine J_goto (pc := 18) 2 dX12_goesBy_18 (by decide) ?_
      refine J_sub (L' := [(0, .ref (e_a E o 0)), (1, .int a1), (2, .int (v2 + (1 : Int32)))]) [1, 2, 0] rfl ?_
      exact ih (v2 + (1 : Int32)) σ4 h
def fX12_goesBy (o : Nat) (a1 : Int32) (σ : Mm) : Option (Mm) := fX12_goesBy_2 o a1 FU (0 : Int32) σ
set_option maxRecDepth 100000 in
set_option maxHeartbeats 4000000 in
theorem ctX12_goesBy (l : Launch) (E : EV) (o : Nat) (a1 : Int32) (ho : KD o = 12) (σ : Mm) {τ : Mm} (h : fX12_goesBy o a1 σ = some τ) : Ct l E mX12_goesBy 6 [.ref (e_a E o 0), .int a1] σ (none, τ) := by
  refine Ct.of (by decide +kernel) (Nat.le_of_ble_eq_true rfl) ?_
  show Jd l E mX12_goesBy 6 (none, τ) σ 0 [(0, .ref (e_a E o 0)), (1, .int a1)] []
  unfold fX12_goesBy at h
  refine J_iconst (pc := 0) (0 : Int32) dX12_goesBy_0 (by decide) ?_
  refine J_istore_n (pc := 1) (L' := [(2, .int (0 : Int32)), (0, .ref (e_a E o 0)), (1, .int a1)]) dX12_goesBy_1 (by decide) rfl ?_
  refine J_sub (L' := [(0, .ref (e_a E o 0)), (1, .int a1), (2, .int (0 : Int32))]) [1, 2, 0] rfl ?_
  exact tX12_goesBy_2 l E o a1 ho FU (0 : Int32) σ h
def fX12_isDirection (a1 : Int32) (σ : Mm) : Option (Int32 × Mm) := if a1 < 0 then (some ((0 : Int32), σ)) else (if (16 : Int32) ≤ a1 then (some ((0 : Int32), σ)) else (some ((1 : Int32), σ)))
set_option maxRecDepth 100000 in
set_option maxHeartbeats 4000000 in
theorem ctX12_isDirection (l : Launch) (E : EV) (a1 : Int32) (σ : Mm) {xr : Int32} {τ : Mm} (h : fX12_isDirection a1 σ = some (xr, τ)) : Ct l E mX12_isDirection 0 [.int a1] σ (some (.int xr), τ) := by
  refine Ct.of (by decide +kernel) (Nat.le_of_ble_eq_true rfl) ?_
  show Jd l E mX12_isDirection 0 (some (.int xr), τ) σ 0 [(0, .int a1)] []
  unfold fX12_isDirection at h
  refine J_iload_n (pc := 0) 0 dX12_isDirection_0 rfl ?_
  refine J_if_lt (pc := 1) 14 dX12_isDirection_1 (by decide) h (fun h => ?_) (fun h => ?_)
  · refine J_iconst (pc := 14) (0 : Int32) dX12_isDirection_14 (by decide) ?_
    cases h
    exact J_iret (pc := 15) dX12_isDirection_15 rfl rfl
  · refine J_iload_n (pc := 4) 0 dX12_isDirection_4 rfl ?_
    refine J_bipush (pc := 5) (16 : Int32) dX12_isDirection_5 (by decide) ?_
    refine J_icmp_ge (pc := 7) 14 dX12_isDirection_7 (by decide) h (fun h => ?_) (fun h => ?_)
    · refine J_iconst (pc := 14) (0 : Int32) dX12_isDirection_14 (by decide) ?_
      cases h
      exact J_iret (pc := 15) dX12_isDirection_15 rfl rfl
    · refine J_iconst (pc := 10) (1 : Int32) dX12_isDirection_10 (by decide) ?_
      refine J_goto (pc := 11) 15 dX12_isDirection_11 (by decide) ?_
      cases h
      exact J_iret (pc := 15) dX12_isDirection_15 rfl rfl
def fX12_wind (o : Nat) (a1 : Int32) (a2 : Int32) (a3 : Int32) (σ : Mm) : Option (Int32 × Mm) := c_I (fX12_isPlace o a1 σ) (fun x3 σ1 => if x3 = 0 then (c_I (fX12_is o (1 : Int32) σ1) (fun x6 σ4 => b_z x6 σ4)) else (c_I (fX12_isDirection a2 σ1) (fun x10 σ8 => if x10 = 0 then (c_I (fX12_is o (1 : Int32) σ8) (fun x13 σ11 => b_z x13 σ11)) else (c_I (fX12_isFrom a3.toInt64 (0 : Int64) (99 : Int64) σ8) (fun x17 σ15 => if x17 = 0 then (c_I (fX12_is o (1 : Int32) σ15) (fun x26 σ24 => b_z x26 σ24)) else (s_ar σ15 o 0 2950 ((10 : Int32) + ((2 : Int32) * a1)) a2 (fun σ18 => s_ar σ18 o 0 2950 (((10 : Int32) + ((2 : Int32) * a1)) + (1 : Int32)) a3 (fun σ19 => c_I (fX12_is o (0 : Int32) σ19) (fun x22 σ20 => b_z x22 σ20)))))))))
set_option maxRecDepth 100000 in
set_option maxHeartbeats 4000000 in
theorem ctX12_wind (l : Launch) (E : EV) (o : Nat) (a1 : Int32) (a2 : Int32) (a3 : Int32) (ho : KD o = 12) (σ : Mm) {xr : Int32} {τ : Mm} (h : fX12_wind o a1 a2 a3 σ = some (xr, τ)) : Ct l E mX12_wind 1 [.ref (e_a E o 0), .int a1, .int a2, .int a3] σ (some (.int xr), τ) := by
  refine Ct.of (by decide +kernel) (Nat.le_of_ble_eq_true rfl) ?_
  show Jd l E mX12_wind 1 (some (.int xr), τ) σ 0 [(0, .ref (e_a E o 0)), (1, .int a1), (2, .int a2), (3, .int a3)] []
  unfold fX12_wind at h
  refine J_aload_n (pc := 0) 0 dX12_wind_0 rfl ?_
  refine J_iload_n (pc := 1) 1 dX12_wind_1 rfl ?_
  obtain ⟨x3, σ1, hc2, h⟩ := cI_t h
  refine J_cVi (pc := 2) (ctX12_isPlace l E o a1 ho σ hc2) dX12_wind_2 mlX12_313 mvX12_isPlace ho rfl (by decide) rfl (Nat.le_of_ble_eq_true rfl) ?_
  refine J_if_eq (pc := 5) 27 dX12_wind_5 (by decide) h (fun h => ?_) (fun h => ?_)
  · refine J_aload_n (pc := 27) 0 dX12_wind_27 rfl ?_
    refine J_iconst (pc := 28) (1 : Int32) dX12_wind_28 (by decide) ?_
    obtain ⟨x6, σ4, hc5, h⟩ := cI_t h
    refine J_cVi (pc := 29) (ctX12_is l E o (1 : Int32) ho σ1 hc5) dX12_wind_29 mlX12_90 mvX12_is ho rfl (by decide) rfl (Nat.le_of_ble_eq_true rfl) ?_
    obtain ⟨hz7, h⟩ := bz_t h
    cases h
    exact J_iret (pc := 32) dX12_wind_32 rfl hz7
  · refine J_iload_n (pc := 8) 2 dX12_wind_8 rfl ?_
    obtain ⟨x10, σ8, hc9, h⟩ := cI_t h
    refine J_cSi (pc := 9) (ctX12_isDirection l E a2 σ1 hc9) dX12_wind_9 mlX12_316 msX12_isDirection rfl (by decide) rfl (Nat.le_of_ble_eq_true rfl) ?_
    refine J_if_eq (pc := 12) 27 dX12_wind_12 (by decide) h (fun h => ?_) (fun h => ?_)
    · refine J_aload_n (pc := 27) 0 dX12_wind_27 rfl ?_
      refine J_iconst (pc := 28) (1 : Int32) dX12_wind_28 (by decide) ?_
      obtain ⟨x13, σ11, hc12, h⟩ := cI_t h
      refine J_cVi (pc := 29) (ctX12_is l E o (1 : Int32) ho σ8 hc12) dX12_wind_29 mlX12_90 mvX12_is ho rfl (by decide) rfl (Nat.le_of_ble_eq_true rfl) ?_
      obtain ⟨hz14, h⟩ := bz_t h
      cases h
      exact J_iret (pc := 32) dX12_wind_32 rfl hz14
    · refine J_iload_n (pc := 15) 3 dX12_wind_15 rfl ?_
      refine J_i2l (pc := 16) dX12_wind_16 ?_
      refine J_lconst (pc := 17) (0 : Int64) dX12_wind_17 (by decide) ?_
      refine J_ldc2 (pc := 18) (99 : Int64) dX12_wind_18 klX12_319 ?_
      obtain ⟨x17, σ15, hc16, h⟩ := cI_t h
      refine J_cSi (pc := 21) (ctX12_isFrom l E a3.toInt64 (0 : Int64) (99 : Int64) σ8 hc16) dX12_wind_21 mlX12_321 msX12_isFrom rfl (by decide) rfl (Nat.le_of_ble_eq_true rfl) ?_
      refine J_if_ne (pc := 24) 33 dX12_wind_24 (by decide) h (fun h => ?_) (fun h => ?_)
      · refine J_aload_n (pc := 33) 0 dX12_wind_33 rfl ?_
        refine J_getA (pc := 34) dX12_wind_34 ho flX12_7 rfl ?_
        refine J_bipush (pc := 37) (10 : Int32) dX12_wind_37 (by decide) ?_
        refine J_iconst (pc := 39) (2 : Int32) dX12_wind_39 (by decide) ?_
        refine J_iload_n (pc := 40) 1 dX12_wind_40 rfl ?_
        refine J_imul (pc := 41) dX12_wind_41 ?_
        refine J_iadd (pc := 42) dX12_wind_42 ?_
        refine J_iload_n (pc := 43) 2 dX12_wind_43 rfl ?_
        refine J_iast (pc := 44) dX12_wind_44 ho ha12_0 h (fun σ18 h => ?_)
        refine J_aload_n (pc := 45) 0 dX12_wind_45 rfl ?_
        refine J_getA (pc := 46) dX12_wind_46 ho flX12_7 rfl ?_
        refine J_bipush (pc := 49) (10 : Int32) dX12_wind_49 (by decide) ?_
        refine J_iconst (pc := 51) (2 : Int32) dX12_wind_51 (by decide) ?_
        refine J_iload_n (pc := 52) 1 dX12_wind_52 rfl ?_
        refine J_imul (pc := 53) dX12_wind_53 ?_
        refine J_iadd (pc := 54) dX12_wind_54 ?_
        refine J_iconst (pc := 55) (1 : Int32) dX12_wind_55 (by decide) ?_
        refine J_iadd (pc := 56) dX12_wind_56 ?_
        refine J_iload_n (pc := 57) 3 dX12_wind_57 rfl ?_
        refine J_iast (pc := 58) dX12_wind_58 ho ha12_0 h (fun σ19 h => ?_)
        refine J_aload_n (pc := 59) 0 dX12_wind_59 rfl ?_
        refine J_iconst (pc := 60) (0 : Int32) dX12_wind_60 (by decide) ?_
        obtain ⟨x22, σ20, hc21, h⟩ := cI_t h
        refine J_cVi (pc := 61) (ctX12_is l E o (0 : Int32) ho σ19 hc21) dX12_wind_61 mlX12_90 mvX12_is ho rfl (by decide) rfl (Nat.le_of_ble_eq_true rfl) ?_
        obtain ⟨hz23, h⟩ := bz_t h
        cases h
        exact J_iret (pc := 64) dX12_wind_64 rfl hz23
      · refine J_aload_n (pc := 27) 0 dX12_wind_27 rfl ?_
        refine J_iconst (pc := 28) (1 : Int32) dX12_wind_28 (by decide) ?_
        obtain ⟨x26, σ24, hc25, h⟩ := cI_t h
        refine J_cVi (pc := 29) (ctX12_is l E o (1 : Int32) ho σ15 hc25) dX12_wind_29 mlX12_90 mvX12_is ho rfl (by decide) rfl (Nat.le_of_ble_eq_true rfl) ?_
        obtain ⟨hz27, h⟩ := bz_t h
        cases h
        exact J_iret (pc := 32) dX12_wind_32 rfl hz27
def fX12_windAt (o : Nat) (a1 : Int32) (a2 : Int32) (σ : Mm) : Option (Int32 × Mm) := c_I (fX12_isPlace o a1 σ) (fun x3 σ1 => if x3 = 0 then (c_I (fX12_refuse o (1 : Int32) σ1) (fun x6 σ4 => some (x6, σ4))) else (if a2 = 0 then (g_ar σ1 o 0 2950 (((10 : Int32) + ((2 : Int32) * a1)) + a2) (fun x7 => c_I (fX12_gives o x7 σ1) (fun x10 σ8 => some (x10, σ8)))) else (if a2 = (1 : Int32) then (g_ar σ1 o 0 2950 (((10 : Int32) + ((2 : Int32) * a1)) + a2) (fun x14 => c_I (fX12_gives o x14 σ1) (fun x17 σ15 => some (x17, σ15)))) else (c_I (fX12_refuse o (1 : Int32) σ1) (fun x13 σ11 => some (x13, σ11))))))
set_option maxRecDepth 100000 in
set_option maxHeartbeats 4000000 in
theorem ctX12_windAt (l : Launch) (E : EV) (o : Nat) (a1 : Int32) (a2 : Int32) (ho : KD o = 12) (σ : Mm) {xr : Int32} {τ : Mm} (h : fX12_windAt o a1 a2 σ = some (xr, τ)) : Ct l E mX12_windAt 1 [.ref (e_a E o 0), .int a1, .int a2] σ (some (.int xr), τ) := by
  refine Ct.of (by decide +kernel) (Nat.le_of_ble_eq_true rfl) ?_
  show Jd l E mX12_windAt 1 (some (.int xr), τ) σ 0 [(0, .ref (e_a E o 0)), (1, .int a1), (2, .int a2)] []
  unfold fX12_windAt at h
  refine J_aload_n (pc := 0) 0 dX12_windAt_0 rfl ?_
  refine J_iload_n (pc := 1) 1 dX12_windAt_1 rfl ?_
  obtain ⟨x3, σ1, hc2, h⟩ := cI_t h
  refine J_cVi (pc := 2) (ctX12_isPlace l E o a1 ho σ hc2) dX12_windAt_2 mlX12_313 mvX12_isPlace ho rfl (by decide) rfl (Nat.le_of_ble_eq_true rfl) ?_
  refine J_if_eq (pc := 5) 37 dX12_windAt_5 (by decide) h (fun h => ?_) (fun h => ?_)
  · refine J_aload_n (pc := 37) 0 dX12_windAt_37 rfl ?_
    refine J_iconst (pc := 38) (1 : Int32) dX12_windAt_38 (by decide) ?_
    obtain ⟨x6, σ4, hc5, h⟩ := cI_t h
    refine J_cVi (pc := 39) (ctX12_refuse l E o (1 : Int32) ho σ1 hc5) dX12_windAt_39 mlX12_83 mvX12_refuse ho rfl (by decide) rfl (Nat.le_of_ble_eq_true rfl) ?_
    cases h
    exact J_iret (pc := 42) dX12_windAt_42 rfl rfl
  · refine J_iload_n (pc := 8) 2 dX12_windAt_8 rfl ?_
    refine J_if_eq (pc := 9) 17 dX12_windAt_9 (by decide) h (fun h => ?_) (fun h => ?_)
    · refine J_aload_n (pc := 17) 0 dX12_windAt_17 rfl ?_
      refine J_aload_n (pc := 18) 0 dX12_windAt_18 rfl ?_
      refine J_getA (pc := 19) dX12_windAt_19 ho flX12_7 rfl ?_
      refine J_bipush (pc := 22) (10 : Int32) dX12_windAt_22 (by decide) ?_
      refine J_iconst (pc := 24) (2 : Int32) dX12_windAt_24 (by decide) ?_
      refine J_iload_n (pc := 25) 1 dX12_windAt_25 rfl ?_
      refine J_imul (pc := 26) dX12_windAt_26 ?_
      refine J_iadd (pc := 27) dX12_windAt_27 ?_
      refine J_iload_n (pc := 28) 2 dX12_windAt_28 rfl ?_
      refine J_iadd (pc := 29) dX12_windAt_29 ?_
      refine J_iald (pc := 30) dX12_windAt_30 ho ha12_0 h (fun x7 h => ?_)
      obtain ⟨x10, σ8, hc9, h⟩ := cI_t h
      refine J_cVi (pc := 31) (ctX12_gives l E o x7 ho σ1 hc9) dX12_windAt_31 mlX12_87 mvX12_gives ho rfl (by decide) rfl (Nat.le_of_ble_eq_true rfl) ?_
      refine J_goto (pc := 34) 42 dX12_windAt_34 (by decide) ?_
      cases h
      exact J_iret (pc := 42) dX12_windAt_42 rfl rfl
    · refine J_iload_n (pc := 12) 2 dX12_windAt_12 rfl ?_
      refine J_iconst (pc := 13) (1 : Int32) dX12_windAt_13 (by decide) ?_
      refine J_icmp_ne (pc := 14) 37 dX12_windAt_14 (by decide) h (fun h => ?_) (fun h => ?_)
      · refine J_aload_n (pc := 37) 0 dX12_windAt_37 rfl ?_
        refine J_iconst (pc := 38) (1 : Int32) dX12_windAt_38 (by decide) ?_
        obtain ⟨x13, σ11, hc12, h⟩ := cI_t h
        refine J_cVi (pc := 39) (ctX12_refuse l E o (1 : Int32) ho σ1 hc12) dX12_windAt_39 mlX12_83 mvX12_refuse ho rfl (by decide) rfl (Nat.le_of_ble_eq_true rfl) ?_
        cases h
        exact J_iret (pc := 42) dX12_windAt_42 rfl rfl
      · refine J_aload_n (pc := 17) 0 dX12_windAt_17 rfl ?_
        refine J_aload_n (pc := 18) 0 dX12_windAt_18 rfl ?_
        refine J_getA (pc := 19) dX12_windAt_19 ho flX12_7 rfl ?_
        refine J_bipush (pc := 22) (10 : Int32) dX12_windAt_22 (by decide) ?_
        refine J_iconst (pc := 24) (2 : Int32) dX12_windAt_24 (by decide) ?_
        refine J_iload_n (pc := 25) 1 dX12_windAt_25 rfl ?_
        refine J_imul (pc := 26) dX12_windAt_26 ?_
        refine J_iadd (pc := 27) dX12_windAt_27 ?_
        refine J_iload_n (pc := 28) 2 dX12_windAt_28 rfl ?_
        refine J_iadd (pc := 29) dX12_windAt_29 ?_
        refine J_iald (pc := 30) dX12_windAt_30 ho ha12_0 h (fun x14 h => ?_)
        obtain ⟨x17, σ15, hc16, h⟩ := cI_t h
        refine J_cVi (pc := 31) (ctX12_gives l E o x14 ho σ1 hc16) dX12_windAt_31 mlX12_87 mvX12_gives ho rfl (by decide) rfl (Nat.le_of_ble_eq_true rfl) ?_
        refine J_goto (pc := 34) 42 dX12_windAt_34 (by decide) ?_
        cases h
        exact J_iret (pc := 42) dX12_windAt_42 rfl rfl
def fX12_lift (o : Nat) (a1 : Int32) (a2 : Int32) (σ : Mm) : Option (Int32 × Mm) := c_I (fX12_isShaft o a1 σ) (fun x3 σ1 => if x3 = 0 then (c_I (fX12_is o (1 : Int32) σ1) (fun x17 σ15 => b_z x17 σ15)) else (g_ar σ1 o 0 2950 (4 : Int32) (fun x4 => if a2 = 0 then (s_ar σ1 o 0 2950 (4 : Int32) ((x4 &&& (((1 : Int32) <<< (a1 &&& 31)) ^^^ (-1 : Int32))) ||| (0 : Int32)) (fun σ5 => c_I (fX12_is o (0 : Int32) σ5) (fun x8 σ6 => b_z x8 σ6))) else (s_ar σ1 o 0 2950 (4 : Int32) ((x4 &&& (((1 : Int32) <<< (a1 &&& 31)) ^^^ (-1 : Int32))) ||| ((1 : Int32) <<< (a1 &&& 31))) (fun σ10 => c_I (fX12_is o (0 : Int32) σ10) (fun x13 σ11 => b_z x13 σ11))))))
set_option maxRecDepth 100000 in
set_option maxHeartbeats 4000000 in
theorem ctX12_lift (l : Launch) (E : EV) (o : Nat) (a1 : Int32) (a2 : Int32) (ho : KD o = 12) (σ : Mm) {xr : Int32} {τ : Mm} (h : fX12_lift o a1 a2 σ = some (xr, τ)) : Ct l E mX12_lift 1 [.ref (e_a E o 0), .int a1, .int a2] σ (some (.int xr), τ) := by
  refine Ct.of (by decide +kernel) (Nat.le_of_ble_eq_true rfl) ?_
  show Jd l E mX12_lift 1 (some (.int xr), τ) σ 0 [(0, .ref (e_a E o 0)), (1, .int a1), (2, .int a2)] []
  unfold fX12_lift at h
  refine J_aload_n (pc := 0) 0 dX12_lift_0 rfl ?_
  refine J_iload_n (pc := 1) 1 dX12_lift_1 rfl ?_
  obtain ⟨x3, σ1, hc2, h⟩ := cI_t h
  refine J_cVi (pc := 2) (ctX12_isShaft l E o a1 ho σ hc2) dX12_lift_2 mlX12_246 mvX12_isShaft ho rfl (by decide) rfl (Nat.le_of_ble_eq_true rfl) ?_
  refine J_if_ne (pc := 5) 14 dX12_lift_5 (by decide) h (fun h => ?_) (fun h => ?_)
  · refine J_aload_n (pc := 14) 0 dX12_lift_14 rfl ?_
    refine J_getA (pc := 15) dX12_lift_15 ho flX12_7 rfl ?_
    refine J_iconst (pc := 18) (4 : Int32) dX12_lift_18 (by decide) ?_
    refine J_aload_n (pc := 19) 0 dX12_lift_19 rfl ?_
    refine J_getA (pc := 20) dX12_lift_20 ho flX12_7 rfl ?_
    refine J_iconst (pc := 23) (4 : Int32) dX12_lift_23 (by decide) ?_
    refine J_iald (pc := 24) dX12_lift_24 ho ha12_0 h (fun x4 h => ?_)
    refine J_iconst (pc := 25) (1 : Int32) dX12_lift_25 (by decide) ?_
    refine J_iload_n (pc := 26) 1 dX12_lift_26 rfl ?_
    refine J_ishl (pc := 27) dX12_lift_27 ?_
    refine J_iconst (pc := 28) (-1 : Int32) dX12_lift_28 (by decide) ?_
    refine J_ixor (pc := 29) dX12_lift_29 ?_
    refine J_iand (pc := 30) dX12_lift_30 ?_
    refine J_iload_n (pc := 31) 2 dX12_lift_31 rfl ?_
    refine J_if_eq (pc := 32) 41 dX12_lift_32 (by decide) h (fun h => ?_) (fun h => ?_)
    · refine J_iconst (pc := 41) (0 : Int32) dX12_lift_41 (by decide) ?_
      refine J_ior (pc := 42) dX12_lift_42 ?_
      refine J_iast (pc := 43) dX12_lift_43 ho ha12_0 h (fun σ5 h => ?_)
      refine J_aload_n (pc := 44) 0 dX12_lift_44 rfl ?_
      refine J_iconst (pc := 45) (0 : Int32) dX12_lift_45 (by decide) ?_
      obtain ⟨x8, σ6, hc7, h⟩ := cI_t h
      refine J_cVi (pc := 46) (ctX12_is l E o (0 : Int32) ho σ5 hc7) dX12_lift_46 mlX12_90 mvX12_is ho rfl (by decide) rfl (Nat.le_of_ble_eq_true rfl) ?_
      obtain ⟨hz9, h⟩ := bz_t h
      cases h
      exact J_iret (pc := 49) dX12_lift_49 rfl hz9
    · refine J_iconst (pc := 35) (1 : Int32) dX12_lift_35 (by decide) ?_
      refine J_iload_n (pc := 36) 1 dX12_lift_36 rfl ?_
      refine J_ishl (pc := 37) dX12_lift_37 ?_
      refine J_goto (pc := 38) 42 dX12_lift_38 (by decide) ?_
      refine J_ior (pc := 42) dX12_lift_42 ?_
      refine J_iast (pc := 43) dX12_lift_43 ho ha12_0 h (fun σ10 h => ?_)
      refine J_aload_n (pc := 44) 0 dX12_lift_44 rfl ?_
      refine J_iconst (pc := 45) (0 : Int32) dX12_lift_45 (by decide) ?_
      obtain ⟨x13, σ11, hc12, h⟩ := cI_t h
      refine J_cVi (pc := 46) (ctX12_is l E o (0 : Int32) ho σ10 hc12) dX12_lift_46 mlX12_90 mvX12_is ho rfl (by decide) rfl (Nat.le_of_ble_eq_true rfl) ?_
      obtain ⟨hz14, h⟩ := bz_t h
      cases h
      exact J_iret (pc := 49) dX12_lift_49 rfl hz14
  · refine J_aload_n (pc := 8) 0 dX12_lift_8 rfl ?_
    refine J_iconst (pc := 9) (1 : Int32) dX12_lift_9 (by decide) ?_
    obtain ⟨x17, σ15, hc16, h⟩ := cI_t h
    refine J_cVi (pc := 10) (ctX12_is l E o (1 : Int32) ho σ1 hc16) dX12_lift_10 mlX12_90 mvX12_is ho rfl (by decide) rfl (Nat.le_of_ble_eq_true rfl) ?_
    obtain ⟨hz18, h⟩ := bz_t h
    cases h
    exact J_iret (pc := 13) dX12_lift_13 rfl hz18
def fX12_hold (o : Nat) (a1 : Int32) (a2 : Int32) (σ : Mm) : Option (Int32 × Mm) := c_I (fX12_isVane o a1 σ) (fun x3 σ1 => if x3 = 0 then (c_I (fX12_is o (1 : Int32) σ1) (fun x17 σ15 => b_z x17 σ15)) else (g_ar σ1 o 0 2950 (5 : Int32) (fun x4 => if a2 = 0 then (s_ar σ1 o 0 2950 (5 : Int32) ((x4 &&& (((1 : Int32) <<< (a1 &&& 31)) ^^^ (-1 : Int32))) ||| (0 : Int32)) (fun σ5 => c_I (fX12_is o (0 : Int32) σ5) (fun x8 σ6 => b_z x8 σ6))) else (s_ar σ1 o 0 2950 (5 : Int32) ((x4 &&& (((1 : Int32) <<< (a1 &&& 31)) ^^^ (-1 : Int32))) ||| ((1 : Int32) <<< (a1 &&& 31))) (fun σ10 => c_I (fX12_is o (0 : Int32) σ10) (fun x13 σ11 => b_z x13 σ11))))))
set_option maxRecDepth 100000 in
set_option maxHeartbeats 4000000 in
theorem ctX12_hold (l : Launch) (E : EV) (o : Nat) (a1 : Int32) (a2 : Int32) (ho : KD o = 12) (σ : Mm) {xr : Int32} {τ : Mm} (h : fX12_hold o a1 a2 σ = some (xr, τ)) : Ct l E mX12_hold 1 [.ref (e_a E o 0), .int a1, .int a2] σ (some (.int xr), τ) := by
  refine Ct.of (by decide +kernel) (Nat.le_of_ble_eq_true rfl) ?_
  show Jd l E mX12_hold 1 (some (.int xr), τ) σ 0 [(0, .ref (e_a E o 0)), (1, .int a1), (2, .int a2)] []
  unfold fX12_hold at h
  refine J_aload_n (pc := 0) 0 dX12_hold_0 rfl ?_
  refine J_iload_n (pc := 1) 1 dX12_hold_1 rfl ?_
  obtain ⟨x3, σ1, hc2, h⟩ := cI_t h
  refine J_cVi (pc := 2) (ctX12_isVane l E o a1 ho σ hc2) dX12_hold_2 mlX12_243 mvX12_isVane ho rfl (by decide) rfl (Nat.le_of_ble_eq_true rfl) ?_
  refine J_if_ne (pc := 5) 14 dX12_hold_5 (by decide) h (fun h => ?_) (fun h => ?_)
  · refine J_aload_n (pc := 14) 0 dX12_hold_14 rfl ?_
    refine J_getA (pc := 15) dX12_hold_15 ho flX12_7 rfl ?_
    refine J_iconst (pc := 18) (5 : Int32) dX12_hold_18 (by decide) ?_
    refine J_aload_n (pc := 19) 0 dX12_hold_19 rfl ?_
    refine J_getA (pc := 20) dX12_hold_20 ho flX12_7 rfl ?_
    refine J_iconst (pc := 23) (5 : Int32) dX12_hold_23 (by decide) ?_
    refine J_iald (pc := 24) dX12_hold_24 ho ha12_0 h (fun x4 h => ?_)
    refine J_iconst (pc := 25) (1 : Int32) dX12_hold_25 (by decide) ?_
    refine J_iload_n (pc := 26) 1 dX12_hold_26 rfl ?_
    refine J_ishl (pc := 27) dX12_hold_27 ?_
    refine J_iconst (pc := 28) (-1 : Int32) dX12_hold_28 (by decide) ?_
    refine J_ixor (pc := 29) dX12_hold_29 ?_
    refine J_iand (pc := 30) dX12_hold_30 ?_
    refine J_iload_n (pc := 31) 2 dX12_hold_31 rfl ?_
    refine J_if_eq (pc := 32) 41 dX12_hold_32 (by decide) h (fun h => ?_) (fun h => ?_)
    · refine J_iconst (pc := 41) (0 : Int32) dX12_hold_41 (by decide) ?_
      refine J_ior (pc := 42) dX12_hold_42 ?_
      refine J_iast (pc := 43) dX12_hold_43 ho ha12_0 h (fun σ5 h => ?_)
      refine J_aload_n (pc := 44) 0 dX12_hold_44 rfl ?_
      refine J_iconst (pc := 45) (0 : Int32) dX12_hold_45 (by decide) ?_
      obtain ⟨x8, σ6, hc7, h⟩ := cI_t h
      refine J_cVi (pc := 46) (ctX12_is l E o (0 : Int32) ho σ5 hc7) dX12_hold_46 mlX12_90 mvX12_is ho rfl (by decide) rfl (Nat.le_of_ble_eq_true rfl) ?_
      obtain ⟨hz9, h⟩ := bz_t h
      cases h
      exact J_iret (pc := 49) dX12_hold_49 rfl hz9
    · refine J_iconst (pc := 35) (1 : Int32) dX12_hold_35 (by decide) ?_
      refine J_iload_n (pc := 36) 1 dX12_hold_36 rfl ?_
      refine J_ishl (pc := 37) dX12_hold_37 ?_
      refine J_goto (pc := 38) 42 dX12_hold_38 (by decide) ?_
      refine J_ior (pc := 42) dX12_hold_42 ?_
      refine J_iast (pc := 43) dX12_hold_43 ho ha12_0 h (fun σ10 h => ?_)
      refine J_aload_n (pc := 44) 0 dX12_hold_44 rfl ?_
      refine J_iconst (pc := 45) (0 : Int32) dX12_hold_45 (by decide) ?_
      obtain ⟨x13, σ11, hc12, h⟩ := cI_t h
      refine J_cVi (pc := 46) (ctX12_is l E o (0 : Int32) ho σ10 hc12) dX12_hold_46 mlX12_90 mvX12_is ho rfl (by decide) rfl (Nat.le_of_ble_eq_true rfl) ?_
      obtain ⟨hz14, h⟩ := bz_t h
      cases h
      exact J_iret (pc := 49) dX12_hold_49 rfl hz14
  · refine J_aload_n (pc := 8) 0 dX12_hold_8 rfl ?_
    refine J_iconst (pc := 9) (1 : Int32) dX12_hold_9 (by decide) ?_
    obtain ⟨x17, σ15, hc16, h⟩ := cI_t h
    refine J_cVi (pc := 10) (ctX12_is l E o (1 : Int32) ho σ1 hc16) dX12_hold_10 mlX12_90 mvX12_is ho rfl (by decide) rfl (Nat.le_of_ble_eq_true rfl) ?_
    obtain ⟨hz18, h⟩ := bz_t h
    cases h
    exact J_iret (pc := 13) dX12_hold_13 rfl hz18
def fX12_pass (o : Nat) (a1 : Int32) (σ : Mm) : Option (Int32 × Mm) := c_I (fX12_isFrom a1.toInt64 (1 : Int64) (99 : Int64) σ) (fun x3 σ1 => if x3 = 0 then (c_I (fX12_refuse o (1 : Int32) σ1) (fun x20 σ18 => some (x20, σ18))) else (g_ar σ1 o 0 2950 (3 : Int32) (fun x4 => if (x4 + a1) ≤ (9999 : Int32) then (c_V (fX12_begins1 o σ1) (fun σ5 => c_V (fX12_goesBy o a1 σ5) (fun σ7 => c_V (fX12_laysBack o σ7) (fun σ9 => g_ar σ9 o 0 2950 (3 : Int32) (fun x11 => c_I (fX12_gives o x11 σ9) (fun x14 σ12 => some (x14, σ12))))))) else (c_I (fX12_refuse o (4 : Int32) σ1) (fun x17 σ15 => some (x17, σ15))))))
set_option maxRecDepth 100000 in
set_option maxHeartbeats 4000000 in
theorem ctX12_pass (l : Launch) (E : EV) (o : Nat) (a1 : Int32) (ho : KD o = 12) (σ : Mm) {xr : Int32} {τ : Mm} (h : fX12_pass o a1 σ = some (xr, τ)) : Ct l E mX12_pass 7 [.ref (e_a E o 0), .int a1] σ (some (.int xr), τ) := by
  refine Ct.of (by decide +kernel) (Nat.le_of_ble_eq_true rfl) ?_
  show Jd l E mX12_pass 7 (some (.int xr), τ) σ 0 [(0, .ref (e_a E o 0)), (1, .int a1)] []
  unfold fX12_pass at h
  refine J_iload_n (pc := 0) 1 dX12_pass_0 rfl ?_
  refine J_i2l (pc := 1) dX12_pass_1 ?_
  refine J_lconst (pc := 2) (1 : Int64) dX12_pass_2 (by decide) ?_
  refine J_ldc2 (pc := 3) (99 : Int64) dX12_pass_3 klX12_319 ?_
  obtain ⟨x3, σ1, hc2, h⟩ := cI_t h
  refine J_cSi (pc := 6) (ctX12_isFrom l E a1.toInt64 (1 : Int64) (99 : Int64) σ hc2) dX12_pass_6 mlX12_321 msX12_isFrom rfl (by decide) rfl (Nat.le_of_ble_eq_true rfl) ?_
  refine J_if_ne (pc := 9) 18 dX12_pass_9 (by decide) h (fun h => ?_) (fun h => ?_)
  · refine J_aload_n (pc := 18) 0 dX12_pass_18 rfl ?_
    refine J_getA (pc := 19) dX12_pass_19 ho flX12_7 rfl ?_
    refine J_iconst (pc := 22) (3 : Int32) dX12_pass_22 (by decide) ?_
    refine J_iald (pc := 23) dX12_pass_23 ho ha12_0 h (fun x4 h => ?_)
    refine J_iload_n (pc := 24) 1 dX12_pass_24 rfl ?_
    refine J_iadd (pc := 25) dX12_pass_25 ?_
    refine J_sipush (pc := 26) (9999 : Int32) dX12_pass_26 (by decide) ?_
    refine J_icmp_le (pc := 29) 38 dX12_pass_29 (by decide) h (fun h => ?_) (fun h => ?_)
    · refine J_aload_n (pc := 38) 0 dX12_pass_38 rfl ?_
      obtain ⟨σ5, hc6, h⟩ := cV_t h
      refine J_cVv (pc := 39) (ctX12_begins1 l E o ho σ1 hc6) dX12_pass_39 mlX12_325 mvX12_begins1 ho rfl (by decide) rfl (Nat.le_of_ble_eq_true rfl) ?_
      refine J_aload_n (pc := 42) 0 dX12_pass_42 rfl ?_
      refine J_iload_n (pc := 43) 1 dX12_pass_43 rfl ?_
      obtain ⟨σ7, hc8, h⟩ := cV_t h
      refine J_cVv (pc := 44) (ctX12_goesBy l E o a1 ho σ5 hc8) dX12_pass_44 mlX12_328 mvX12_goesBy ho rfl (by decide) rfl (Nat.le_of_ble_eq_true rfl) ?_
      refine J_aload_n (pc := 47) 0 dX12_pass_47 rfl ?_
      obtain ⟨σ9, hc10, h⟩ := cV_t h
      refine J_cVv (pc := 48) (ctX12_laysBack l E o ho σ7 hc10) dX12_pass_48 mlX12_331 mvX12_laysBack ho rfl (by decide) rfl (Nat.le_of_ble_eq_true rfl) ?_
      refine J_aload_n (pc := 51) 0 dX12_pass_51 rfl ?_
      refine J_aload_n (pc := 52) 0 dX12_pass_52 rfl ?_
      refine J_getA (pc := 53) dX12_pass_53 ho flX12_7 rfl ?_
      refine J_iconst (pc := 56) (3 : Int32) dX12_pass_56 (by decide) ?_
      refine J_iald (pc := 57) dX12_pass_57 ho ha12_0 h (fun x11 h => ?_)
      obtain ⟨x14, σ12, hc13, h⟩ := cI_t h
      refine J_cVi (pc := 58) (ctX12_gives l E o x11 ho σ9 hc13) dX12_pass_58 mlX12_87 mvX12_gives ho rfl (by decide) rfl (Nat.le_of_ble_eq_true rfl) ?_
      cases h
      exact J_iret (pc := 61) dX12_pass_61 rfl rfl
    · refine J_aload_n (pc := 32) 0 dX12_pass_32 rfl ?_
      refine J_iconst (pc := 33) (4 : Int32) dX12_pass_33 (by decide) ?_
      obtain ⟨x17, σ15, hc16, h⟩ := cI_t h
      refine J_cVi (pc := 34) (ctX12_refuse l E o (4 : Int32) ho σ1 hc16) dX12_pass_34 mlX12_83 mvX12_refuse ho rfl (by decide) rfl (Nat.le_of_ble_eq_true rfl) ?_
      cases h
      exact J_iret (pc := 37) dX12_pass_37 rfl rfl
  · refine J_aload_n (pc := 12) 0 dX12_pass_12 rfl ?_
    refine J_iconst (pc := 13) (1 : Int32) dX12_pass_13 (by decide) ?_
    obtain ⟨x20, σ18, hc19, h⟩ := cI_t h
    refine J_cVi (pc := 14) (ctX12_refuse l E o (1 : Int32) ho σ1 hc19) dX12_pass_14 mlX12_83 mvX12_refuse ho rfl (by decide) rfl (Nat.le_of_ble_eq_true rfl) ?_
    cases h
    exact J_iret (pc := 17) dX12_pass_17 rfl rfl
def fX12_turnsBy_14 (o : Nat) (a1 : Int32) (a2 : Int32) : Nat → Int32 → Int32 → Mm → Option (Int32 × Mm)
  | 0, _, _, _ => none
  | n + 1, v3, v4, σ => if v3 ≤ v4 then (some (v3, σ)) else (if 0 ≤ a2 then (c_I (fX12_dragsBy o a1 (1 : Int32) σ) (fun x3 σ1 => if x3 = 0 then (some (v4, σ1)) else (c_V (fX12_turnsAll o σ1) (fun σ4 => (fX12_turnsBy_14 o a1 a2 n) v3 (v4 + (1 : Int32)) σ4)))) else (c_I (fX12_dragsBy o a1 (-1 : Int32) σ) (fun x8 σ6 => if x8 = 0 then (some (v4, σ6)) else (c_V (fX12_turnsAll o σ6) (fun σ9 => (fX12_turnsBy_14 o a1 a2 n) v3 (v4 + (1 : Int32)) σ9)))))
set_option maxRecDepth 100000 in
set_option maxHeartbeats 4000000 in
theorem tX12_turnsBy_14 (l : Launch) (E : EV) {xr : Int32} {τ : Mm} (o : Nat) (a1 : Int32) (a2 : Int32) (ho : KD o = 12) : ∀ (n : Nat) (v3 : Int32) (v4 : Int32) (σ : Mm), fX12_turnsBy_14 o a1 a2 n v3 v4 σ = some (xr, τ) → Jd l E mX12_turnsBy 4 (some (.int xr), τ) σ 14 [(0, .ref (e_a E o 0)), (1, .int a1), (2, .int a2), (3, .int v3), (4, .int v4)] [] := by
  intro n
  induction n with
  | zero => intro v3 v4 σ h; rw [fX12_turnsBy_14] at h; cases h
  | succ n ih =>
    intro v3 v4 σ h
    rw [fX12_turnsBy_14] at h
    refine J_iload (pc := 14) 4 dX12_turnsBy_14 rfl ?_
    refine J_iload_n (pc := 16) 3 dX12_turnsBy_16 rfl ?_
    refine J_icmp_ge (pc := 17) 50 dX12_turnsBy_17 (by decide) h (fun h => ?_) (fun h => ?_)
    · refine J_iload_n (pc := 50) 3 dX12_turnsBy_50 rfl ?_
      cases h
      exact J_iret (pc := 51) dX12_turnsBy_51 rfl rfl
    · refine J_aload_n (pc := 20) 0 dX12_turnsBy_20 rfl ?_
      refine J_iload_n (pc := 21) 1 dX12_turnsBy_21 rfl ?_
      refine J_iload_n (pc := 22) 2 dX12_turnsBy_22 rfl ?_
      refine J_if_ge (pc := 23) 30 dX12_turnsBy_23 (by decide) h (fun h => ?_) (fun h => ?_)
      · refine J_iconst (pc := 30) (1 : Int32) dX12_turnsBy_30 (by decide) ?_
        obtain ⟨x3, σ1, hc2, h⟩ := cI_t h
        refine J_cVi (pc := 31) (ctX12_dragsBy l E o a1 (1 : Int32) ho σ hc2) dX12_turnsBy_31 mlX12_297 mvX12_dragsBy ho rfl (by decide) rfl (Nat.le_of_ble_eq_true rfl) ?_
        refine J_if_ne (pc := 34) 40 dX12_turnsBy_34 (by decide) h (fun h => ?_) (fun h => ?_)
        · refine J_aload_n (pc := 40) 0 dX12_turnsBy_40 rfl ?_
          obtain ⟨σ4, hc5, h⟩ := cV_t h
          refine J_cVv (pc := 41) (ctX12_turnsAll l E o ho σ1 hc5) dX12_turnsBy_41 mlX12_303 mvX12_turnsAll ho rfl (by decide) rfl (Nat.le_of_ble_eq_true rfl) ?_
          refine J_iinc (pc := 44) (L' := [(4, .int (v4 + (1 : Int32))), (0, .ref (e_a E o 0)), (1, .int a1), (2, .int a2), (3, .int v3)]) 4 (v4 + (1 : Int32)) dX12_turnsBy_44 rfl (by rfl) (by decide) rfl ?_
          refine J_goto (pc := 47) 14 dX12_turnsBy_47 (by decide) ?_
          refine J_sub (L' := [(0, .ref (e_a E o 0)), (1, .int a1), (2, .int a2), (3, .int v3), (4, .int (v4 + (1 : Int32)))]) [1, 2, 3, 4, 0] rfl ?_
          exact ih v3 (v4 + (1 : Int32)) σ4 h
        · refine J_iload (pc := 37) 4 dX12_turnsBy_37 rfl ?_
          cases h
          exact J_iret (pc := 39) dX12_turnsBy_39 rfl rfl
      · refine J_iconst (pc := 26) (-1 : Int32) dX12_turnsBy_26 (by decide) ?_
        refine J_goto (pc := 27) 31 dX12_turnsBy_27 (by decide) ?_
        obtain ⟨x8, σ6, hc7, h⟩ := cI_t h
        refine J_cVi (pc := 31) (ctX12_dragsBy l E o a1 (-1 : Int32) ho σ hc7) dX12_turnsBy_31 mlX12_297 mvX12_dragsBy ho rfl (by decide) rfl (Nat.le_of_ble_eq_true rfl) ?_
        refine J_if_ne (pc := 34) 40 dX12_turnsBy_34 (by decide) h (fun h => ?_) (fun h => ?_)
        · refine J_aload_n (pc := 40) 0 dX12_turnsBy_40 rfl ?_
          obtain ⟨σ9, hc10, h⟩ := cV_t h
          refine J_cVv (pc := 41) (ctX12_turnsAll l E o ho σ6 hc10) dX12_turnsBy_41 mlX12_303 mvX12_turnsAll ho rfl (by decide) rfl (Nat.le_of_ble_eq_true rfl) ?_
          refine J_iinc (pc := 44) (L' := [(4, .int (v4 + (1 : Int32))), (0, .ref (e_a E o 0)), (1, .int a1), (2, .int a2), (3, .int v3)]) 4 (v4 + (1 : Int32)) dX12_turnsBy_44 rfl (by rfl) (by decide) rfl ?_
          refine J_goto (pc := 47) 14 dX12_turnsBy_47 (by decide) ?_
          refine J_sub (L' := [(0, .ref (e_a E o 0)), (1, .int a1), (2, .int a2), (3, .int v3), (4, .int (v4 + (1 : Int32)))]) [1, 2, 3, 4, 0] rfl ?_
          exact ih v3 (v4 + (1 : Int32)) σ9 h
        · refine J_iload (pc := 37) 4 dX12_turnsBy_37 rfl ?_
          cases h
          exact J_iret (pc := 39) dX12_turnsBy_39 rfl rfl
def fX12_turnsBy (o : Nat) (a1 : Int32) (a2 : Int32) (σ : Mm) : Option (Int32 × Mm) := if 0 ≤ a2 then (fX12_turnsBy_14 o a1 a2 FU a2 (0 : Int32) σ) else (fX12_turnsBy_14 o a1 a2 FU (-a2) (0 : Int32) σ)
set_option maxRecDepth 100000 in
set_option maxHeartbeats 4000000 in
theorem ctX12_turnsBy (l : Launch) (E : EV) (o : Nat) (a1 : Int32) (a2 : Int32) (ho : KD o = 12) (σ : Mm) {xr : Int32} {τ : Mm} (h : fX12_turnsBy o a1 a2 σ = some (xr, τ)) : Ct l E mX12_turnsBy 4 [.ref (e_a E o 0), .int a1, .int a2] σ (some (.int xr), τ) := by
  refine Ct.of (by decide +kernel) (Nat.le_of_ble_eq_true rfl) ?_
  show Jd l E mX12_turnsBy 4 (some (.int xr), τ) σ 0 [(0, .ref (e_a E o 0)), (1, .int a1), (2, .int a2)] []
  unfold fX12_turnsBy at h
  refine J_iload_n (pc := 0) 2 dX12_turnsBy_0 rfl ?_
  refine J_if_ge (pc := 1) 9 dX12_turnsBy_1 (by decide) h (fun h => ?_) (fun h => ?_)
  · refine J_iload_n (pc := 9) 2 dX12_turnsBy_9 rfl ?_
    refine J_istore_n (pc := 10) (L' := [(3, .int a2), (0, .ref (e_a E o 0)), (1, .int a1), (2, .int a2)]) dX12_turnsBy_10 (by decide) rfl ?_
    refine J_iconst (pc := 11) (0 : Int32) dX12_turnsBy_11 (by decide) ?_
    refine J_istore (pc := 12) (L' := [(4, .int (0 : Int32)), (3, .int a2), (0, .ref (e_a E o 0)), (1, .int a1), (2, .int a2)]) dX12_turnsBy_12 (by decide) rfl ?_
    refine J_sub (L' := [(0, .ref (e_a E o 0)), (1, .int a1), (2, .int a2), (3, .int a2), (4, .int (0 : Int32))]) [2, 3, 4, 1, 0] rfl ?_
    exact tX12_turnsBy_14 l E o a1 a2 ho FU a2 (0 : Int32) σ h
  · refine J_iload_n (pc := 4) 2 dX12_turnsBy_4 rfl ?_
    refine J_ineg (pc := 5) dX12_turnsBy_5 ?_
    refine J_goto (pc := 6) 10 dX12_turnsBy_6 (by decide) ?_
    refine J_istore_n (pc := 10) (L' := [(3, .int (-a2)), (0, .ref (e_a E o 0)), (1, .int a1), (2, .int a2)]) dX12_turnsBy_10 (by decide) rfl ?_
    refine J_iconst (pc := 11) (0 : Int32) dX12_turnsBy_11 (by decide) ?_
    refine J_istore (pc := 12) (L' := [(4, .int (0 : Int32)), (3, .int (-a2)), (0, .ref (e_a E o 0)), (1, .int a1), (2, .int a2)]) dX12_turnsBy_12 (by decide) rfl ?_
    refine J_sub (L' := [(0, .ref (e_a E o 0)), (1, .int a1), (2, .int a2), (3, .int (-a2)), (4, .int (0 : Int32))]) [2, 3, 4, 1, 0] rfl ?_
    exact tX12_turnsBy_14 l E o a1 a2 ho FU (-a2) (0 : Int32) σ h
def fX12_turn (o : Nat) (a1 : Int32) (a2 : Int32) (σ : Mm) : Option (Int32 × Mm) := c_I (fX12_isVane o a1 σ) (fun x3 σ1 => if x3 = 0 then (c_I (fX12_refuse o (1 : Int32) σ1) (fun x6 σ4 => some (x6, σ4))) else (if a2 = 0 then (c_I (fX12_refuse o (1 : Int32) σ1) (fun x9 σ7 => some (x9, σ7))) else (c_I (fX12_isFrom a2.toInt64 (-99 : Int64) (99 : Int64) σ1) (fun x12 σ10 => if x12 = 0 then (c_I (fX12_refuse o (1 : Int32) σ10) (fun x25 σ23 => some (x25, σ23))) else (c_V (fX12_begins1 o σ10) (fun σ13 => c_I (fX12_turnsBy o a1 a2 σ13) (fun x17 σ15 => c_V (fX12_laysBack o σ15) (fun σ18 => c_I (fX12_gives o x17 σ18) (fun x22 σ20 => some (x22, σ20))))))))))
set_option maxRecDepth 100000 in
set_option maxHeartbeats 4000000 in
theorem ctX12_turn (l : Launch) (E : EV) (o : Nat) (a1 : Int32) (a2 : Int32) (ho : KD o = 12) (σ : Mm) {xr : Int32} {τ : Mm} (h : fX12_turn o a1 a2 σ = some (xr, τ)) : Ct l E mX12_turn 5 [.ref (e_a E o 0), .int a1, .int a2] σ (some (.int xr), τ) := by
  refine Ct.of (by decide +kernel) (Nat.le_of_ble_eq_true rfl) ?_
  show Jd l E mX12_turn 5 (some (.int xr), τ) σ 0 [(0, .ref (e_a E o 0)), (1, .int a1), (2, .int a2)] []
  unfold fX12_turn at h
  refine J_aload_n (pc := 0) 0 dX12_turn_0 rfl ?_
  refine J_iload_n (pc := 1) 1 dX12_turn_1 rfl ?_
  obtain ⟨x3, σ1, hc2, h⟩ := cI_t h
  refine J_cVi (pc := 2) (ctX12_isVane l E o a1 ho σ hc2) dX12_turn_2 mlX12_243 mvX12_isVane ho rfl (by decide) rfl (Nat.le_of_ble_eq_true rfl) ?_
  refine J_if_eq (pc := 5) 26 dX12_turn_5 (by decide) h (fun h => ?_) (fun h => ?_)
  · refine J_aload_n (pc := 26) 0 dX12_turn_26 rfl ?_
    refine J_iconst (pc := 27) (1 : Int32) dX12_turn_27 (by decide) ?_
    obtain ⟨x6, σ4, hc5, h⟩ := cI_t h
    refine J_cVi (pc := 28) (ctX12_refuse l E o (1 : Int32) ho σ1 hc5) dX12_turn_28 mlX12_83 mvX12_refuse ho rfl (by decide) rfl (Nat.le_of_ble_eq_true rfl) ?_
    cases h
    exact J_iret (pc := 31) dX12_turn_31 rfl rfl
  · refine J_iload_n (pc := 8) 2 dX12_turn_8 rfl ?_
    refine J_if_eq (pc := 9) 26 dX12_turn_9 (by decide) h (fun h => ?_) (fun h => ?_)
    · refine J_aload_n (pc := 26) 0 dX12_turn_26 rfl ?_
      refine J_iconst (pc := 27) (1 : Int32) dX12_turn_27 (by decide) ?_
      obtain ⟨x9, σ7, hc8, h⟩ := cI_t h
      refine J_cVi (pc := 28) (ctX12_refuse l E o (1 : Int32) ho σ1 hc8) dX12_turn_28 mlX12_83 mvX12_refuse ho rfl (by decide) rfl (Nat.le_of_ble_eq_true rfl) ?_
      cases h
      exact J_iret (pc := 31) dX12_turn_31 rfl rfl
    · refine J_iload_n (pc := 12) 2 dX12_turn_12 rfl ?_
      refine J_i2l (pc := 13) dX12_turn_13 ?_
      refine J_ldc2 (pc := 14) (-99 : Int64) dX12_turn_14 klX12_334 ?_
      refine J_ldc2 (pc := 17) (99 : Int64) dX12_turn_17 klX12_319 ?_
      obtain ⟨x12, σ10, hc11, h⟩ := cI_t h
      refine J_cSi (pc := 20) (ctX12_isFrom l E a2.toInt64 (-99 : Int64) (99 : Int64) σ1 hc11) dX12_turn_20 mlX12_321 msX12_isFrom rfl (by decide) rfl (Nat.le_of_ble_eq_true rfl) ?_
      refine J_if_ne (pc := 23) 32 dX12_turn_23 (by decide) h (fun h => ?_) (fun h => ?_)
      · refine J_aload_n (pc := 32) 0 dX12_turn_32 rfl ?_
        obtain ⟨σ13, hc14, h⟩ := cV_t h
        refine J_cVv (pc := 33) (ctX12_begins1 l E o ho σ10 hc14) dX12_turn_33 mlX12_325 mvX12_begins1 ho rfl (by decide) rfl (Nat.le_of_ble_eq_true rfl) ?_
        refine J_aload_n (pc := 36) 0 dX12_turn_36 rfl ?_
        refine J_iload_n (pc := 37) 1 dX12_turn_37 rfl ?_
        refine J_iload_n (pc := 38) 2 dX12_turn_38 rfl ?_
        obtain ⟨x17, σ15, hc16, h⟩ := cI_t h
        refine J_cVi (pc := 39) (ctX12_turnsBy l E o a1 a2 ho σ13 hc16) dX12_turn_39 mlX12_336 mvX12_turnsBy ho rfl (by decide) rfl (Nat.le_of_ble_eq_true rfl) ?_
        refine J_istore_n (pc := 42) (L' := [(3, .int x17), (0, .ref (e_a E o 0)), (1, .int a1), (2, .int a2)]) dX12_turn_42 (by decide) rfl ?_
        refine J_aload_n (pc := 43) 1 dX12_turn_43 rfl ?_
        obtain ⟨σ18, hc19, h⟩ := cV_t h
        refine J_cVv (pc := 44) (ctX12_laysBack l E o ho σ15 hc19) dX12_turn_44 mlX12_331 mvX12_laysBack ho rfl (by decide) rfl (Nat.le_of_ble_eq_true rfl) ?_
        refine J_aload_n (pc := 47) 1 dX12_turn_47 rfl ?_
        refine J_iload_n (pc := 48) 0 dX12_turn_48 rfl ?_
        obtain ⟨x22, σ20, hc21, h⟩ := cI_t h
        refine J_cVi (pc := 49) (ctX12_gives l E o x17 ho σ18 hc21) dX12_turn_49 mlX12_87 mvX12_gives ho rfl (by decide) rfl (Nat.le_of_ble_eq_true rfl) ?_
        cases h
        exact J_iret (pc := 52) dX12_turn_52 rfl rfl
      · refine J_aload_n (pc := 26) 0 dX12_turn_26 rfl ?_
        refine J_iconst (pc := 27) (1 : Int32) dX12_turn_27 (by decide) ?_
        obtain ⟨x25, σ23, hc24, h⟩ := cI_t h
        refine J_cVi (pc := 28) (ctX12_refuse l E o (1 : Int32) ho σ10 hc24) dX12_turn_28 mlX12_83 mvX12_refuse ho rfl (by decide) rfl (Nat.le_of_ble_eq_true rfl) ?_
        cases h
        exact J_iret (pc := 31) dX12_turn_31 rfl rfl
def fX12_drags (o : Nat) (a1 : Int32) (a2 : Int32) (σ : Mm) : Option (Int32 × Mm) := c_I (fX12_isVane o a1 σ) (fun x3 σ1 => if x3 = 0 then (c_I (fX12_refuse o (1 : Int32) σ1) (fun x6 σ4 => some (x6, σ4))) else (if a2 = (1 : Int32) then (c_V (fX12_begins0 o σ1) (fun σ7 => c_I (fX12_dragsBy o a1 a2 σ7) (fun x11 σ9 => if x11 = 0 then (c_I (fX12_refuse o (7 : Int32) σ9) (fun x14 σ12 => some (x14, σ12))) else (c_I (fX12_turnedSet o σ9) (fun x17 σ15 => c_I (fX12_gives o x17 σ15) (fun x20 σ18 => some (x20, σ18))))))) else (if a2 = (-1 : Int32) then (c_V (fX12_begins0 o σ1) (fun σ21 => c_I (fX12_dragsBy o a1 a2 σ21) (fun x25 σ23 => if x25 = 0 then (c_I (fX12_refuse o (7 : Int32) σ23) (fun x28 σ26 => some (x28, σ26))) else (c_I (fX12_turnedSet o σ23) (fun x31 σ29 => c_I (fX12_gives o x31 σ29) (fun x34 σ32 => some (x34, σ32))))))) else (c_I (fX12_refuse o (1 : Int32) σ1) (fun x37 σ35 => some (x37, σ35))))))
set_option maxRecDepth 100000 in
set_option maxHeartbeats 4000000 in
theorem ctX12_drags (l : Launch) (E : EV) (o : Nat) (a1 : Int32) (a2 : Int32) (ho : KD o = 12) (σ : Mm) {xr : Int32} {τ : Mm} (h : fX12_drags o a1 a2 σ = some (xr, τ)) : Ct l E mX12_drags 4 [.ref (e_a E o 0), .int a1, .int a2] σ (some (.int xr), τ) := by
  refine Ct.of (by decide +kernel) (Nat.le_of_ble_eq_true rfl) ?_
  show Jd l E mX12_drags 4 (some (.int xr), τ) σ 0 [(0, .ref (e_a E o 0)), (1, .int a1), (2, .int a2)] []
  unfold fX12_drags at h
  refine J_aload_n (pc := 0) 0 dX12_drags_0 rfl ?_
  refine J_iload_n (pc := 1) 1 dX12_drags_1 rfl ?_
  obtain ⟨x3, σ1, hc2, h⟩ := cI_t h
  refine J_cVi (pc := 2) (ctX12_isVane l E o a1 ho σ hc2) dX12_drags_2 mlX12_243 mvX12_isVane ho rfl (by decide) rfl (Nat.le_of_ble_eq_true rfl) ?_
  refine J_if_eq (pc := 5) 18 dX12_drags_5 (by decide) h (fun h => ?_) (fun h => ?_)
  · refine J_aload_n (pc := 18) 0 dX12_drags_18 rfl ?_
    refine J_iconst (pc := 19) (1 : Int32) dX12_drags_19 (by decide) ?_
    obtain ⟨x6, σ4, hc5, h⟩ := cI_t h
    refine J_cVi (pc := 20) (ctX12_refuse l E o (1 : Int32) ho σ1 hc5) dX12_drags_20 mlX12_83 mvX12_refuse ho rfl (by decide) rfl (Nat.le_of_ble_eq_true rfl) ?_
    cases h
    exact J_iret (pc := 23) dX12_drags_23 rfl rfl
  · refine J_iload_n (pc := 8) 2 dX12_drags_8 rfl ?_
    refine J_iconst (pc := 9) (1 : Int32) dX12_drags_9 (by decide) ?_
    refine J_icmp_eq (pc := 10) 24 dX12_drags_10 (by decide) h (fun h => ?_) (fun h => ?_)
    · refine J_aload_n (pc := 24) 0 dX12_drags_24 rfl ?_
      obtain ⟨σ7, hc8, h⟩ := cV_t h
      refine J_cVv (pc := 25) (ctX12_begins0 l E o ho σ1 hc8) dX12_drags_25 mlX12_261 mvX12_begins0 ho rfl (by decide) rfl (Nat.le_of_ble_eq_true rfl) ?_
      refine J_aload_n (pc := 28) 0 dX12_drags_28 rfl ?_
      refine J_iload_n (pc := 29) 1 dX12_drags_29 rfl ?_
      refine J_iload_n (pc := 30) 2 dX12_drags_30 rfl ?_
      obtain ⟨x11, σ9, hc10, h⟩ := cI_t h
      refine J_cVi (pc := 31) (ctX12_dragsBy l E o a1 a2 ho σ7 hc10) dX12_drags_31 mlX12_297 mvX12_dragsBy ho rfl (by decide) rfl (Nat.le_of_ble_eq_true rfl) ?_
      refine J_if_eq (pc := 34) 48 dX12_drags_34 (by decide) h (fun h => ?_) (fun h => ?_)
      · refine J_aload_n (pc := 48) 0 dX12_drags_48 rfl ?_
        refine J_bipush (pc := 49) (7 : Int32) dX12_drags_49 (by decide) ?_
        obtain ⟨x14, σ12, hc13, h⟩ := cI_t h
        refine J_cVi (pc := 51) (ctX12_refuse l E o (7 : Int32) ho σ9 hc13) dX12_drags_51 mlX12_83 mvX12_refuse ho rfl (by decide) rfl (Nat.le_of_ble_eq_true rfl) ?_
        cases h
        exact J_iret (pc := 54) dX12_drags_54 rfl rfl
      · refine J_aload_n (pc := 37) 0 dX12_drags_37 rfl ?_
        refine J_aload_n (pc := 38) 0 dX12_drags_38 rfl ?_
        obtain ⟨x17, σ15, hc16, h⟩ := cI_t h
        refine J_cVi (pc := 39) (ctX12_turnedSet l E o ho σ9 hc16) dX12_drags_39 mlX12_339 mvX12_turnedSet ho rfl (by decide) rfl (Nat.le_of_ble_eq_true rfl) ?_
        obtain ⟨x20, σ18, hc19, h⟩ := cI_t h
        refine J_cVi (pc := 42) (ctX12_gives l E o x17 ho σ15 hc19) dX12_drags_42 mlX12_87 mvX12_gives ho rfl (by decide) rfl (Nat.le_of_ble_eq_true rfl) ?_
        refine J_goto (pc := 45) 54 dX12_drags_45 (by decide) ?_
        cases h
        exact J_iret (pc := 54) dX12_drags_54 rfl rfl
    · refine J_iload_n (pc := 13) 2 dX12_drags_13 rfl ?_
      refine J_iconst (pc := 14) (-1 : Int32) dX12_drags_14 (by decide) ?_
      refine J_icmp_eq (pc := 15) 24 dX12_drags_15 (by decide) h (fun h => ?_) (fun h => ?_)
      · refine J_aload_n (pc := 24) 0 dX12_drags_24 rfl ?_
        obtain ⟨σ21, hc22, h⟩ := cV_t h
        refine J_cVv (pc := 25) (ctX12_begins0 l E o ho σ1 hc22) dX12_drags_25 mlX12_261 mvX12_begins0 ho rfl (by decide) rfl (Nat.le_of_ble_eq_true rfl) ?_
        refine J_aload_n (pc := 28) 0 dX12_drags_28 rfl ?_
        refine J_iload_n (pc := 29) 1 dX12_drags_29 rfl ?_
        refine J_iload_n (pc := 30) 2 dX12_drags_30 rfl ?_
        obtain ⟨x25, σ23, hc24, h⟩ := cI_t h
        refine J_cVi (pc := 31) (ctX12_dragsBy l E o a1 a2 ho σ21 hc24) dX12_drags_31 mlX12_297 mvX12_dragsBy ho rfl (by decide) rfl (Nat.le_of_ble_eq_true rfl) ?_
        refine J_if_eq (pc := 34) 48 dX12_drags_34 (by decide) h (fun h => ?_) (fun h => ?_)
        · refine J_aload_n (pc := 48) 0 dX12_drags_48 rfl ?_
          refine J_bipush (pc := 49) (7 : Int32) dX12_drags_49 (by decide) ?_
          obtain ⟨x28, σ26, hc27, h⟩ := cI_t h
          refine J_cVi (pc := 51) (ctX12_refuse l E o (7 : Int32) ho σ23 hc27) dX12_drags_51 mlX12_83 mvX12_refuse ho rfl (by decide) rfl (Nat.le_of_ble_eq_true rfl) ?_
          cases h
          exact J_iret (pc := 54) dX12_drags_54 rfl rfl
        · refine J_aload_n (pc := 37) 0 dX12_drags_37 rfl ?_
          refine J_aload_n (pc := 38) 0 dX12_drags_38 rfl ?_
          obtain ⟨x31, σ29, hc30, h⟩ := cI_t h
          refine J_cVi (pc := 39) (ctX12_turnedSet l E o ho σ23 hc30) dX12_drags_39 mlX12_339 mvX12_turnedSet ho rfl (by decide) rfl (Nat.le_of_ble_eq_true rfl) ?_
          obtain ⟨x34, σ32, hc33, h⟩ := cI_t h
          refine J_cVi (pc := 42) (ctX12_gives l E o x31 ho σ29 hc33) dX12_drags_42 mlX12_87 mvX12_gives ho rfl (by decide) rfl (Nat.le_of_ble_eq_true rfl) ?_
          refine J_goto (pc := 45) 54 dX12_drags_45 (by decide) ?_
          cases h
          exact J_iret (pc := 54) dX12_drags_54 rfl rfl
      · refine J_aload_n (pc := 18) 0 dX12_drags_18 rfl ?_
        refine J_iconst (pc := 19) (1 : Int32) dX12_drags_19 (by decide) ?_
        obtain ⟨x37, σ35, hc36, h⟩ := cI_t h
        refine J_cVi (pc := 20) (ctX12_refuse l E o (1 : Int32) ho σ1 hc36) dX12_drags_20 mlX12_83 mvX12_refuse ho rfl (by decide) rfl (Nat.le_of_ble_eq_true rfl) ?_
        cases h
        exact J_iret (pc := 23) dX12_drags_23 rfl rfl
def fX12_otherOf (o : Nat) (a1 : Int32) (a2 : Int32) (σ : Mm) : Option (Int32 × Mm) := g_ar σ o 0 2950 (((70 : Int32) + ((5 : Int32) * a1)) + (0 : Int32)) (fun x1 => g_ar σ o 0 2950 (((70 : Int32) + ((5 : Int32) * a1)) + (1 : Int32)) (fun x2 => g_ar σ o 0 2950 (4 : Int32) (fun x3 => if ((x3 >>> (a1 &&& 31)) &&& (1 : Int32)) = (1 : Int32) then (some ((-1 : Int32), σ)) else (if x1 = a2 then (some (x2, σ)) else (if x2 = a2 then (some (x1, σ)) else (some ((-1 : Int32), σ)))))))
set_option maxRecDepth 100000 in
set_option maxHeartbeats 4000000 in
theorem ctX12_otherOf (l : Launch) (E : EV) (o : Nat) (a1 : Int32) (a2 : Int32) (ho : KD o = 12) (σ : Mm) {xr : Int32} {τ : Mm} (h : fX12_otherOf o a1 a2 σ = some (xr, τ)) : Ct l E mX12_otherOf 0 [.ref (e_a E o 0), .int a1, .int a2] σ (some (.int xr), τ) := by
  refine Ct.of (by decide +kernel) (Nat.le_of_ble_eq_true rfl) ?_
  show Jd l E mX12_otherOf 0 (some (.int xr), τ) σ 0 [(0, .ref (e_a E o 0)), (1, .int a1), (2, .int a2)] []
  unfold fX12_otherOf at h
  refine J_aload_n (pc := 0) 0 dX12_otherOf_0 rfl ?_
  refine J_getA (pc := 1) dX12_otherOf_1 ho flX12_7 rfl ?_
  refine J_bipush (pc := 4) (70 : Int32) dX12_otherOf_4 (by decide) ?_
  refine J_iconst (pc := 6) (5 : Int32) dX12_otherOf_6 (by decide) ?_
  refine J_iload_n (pc := 7) 1 dX12_otherOf_7 rfl ?_
  refine J_imul (pc := 8) dX12_otherOf_8 ?_
  refine J_iadd (pc := 9) dX12_otherOf_9 ?_
  refine J_iconst (pc := 10) (0 : Int32) dX12_otherOf_10 (by decide) ?_
  refine J_iadd (pc := 11) dX12_otherOf_11 ?_
  refine J_iald (pc := 12) dX12_otherOf_12 ho ha12_0 h (fun x1 h => ?_)
  refine J_istore_n (pc := 13) (L' := [(3, .int x1), (0, .ref (e_a E o 0)), (1, .int a1), (2, .int a2)]) dX12_otherOf_13 (by decide) rfl ?_
  refine J_aload_n (pc := 14) 1 dX12_otherOf_14 rfl ?_
  refine J_getA (pc := 15) dX12_otherOf_15 ho flX12_7 rfl ?_
  refine J_bipush (pc := 18) (70 : Int32) dX12_otherOf_18 (by decide) ?_
  refine J_iconst (pc := 20) (5 : Int32) dX12_otherOf_20 (by decide) ?_
  refine J_iload_n (pc := 21) 2 dX12_otherOf_21 rfl ?_
  refine J_imul (pc := 22) dX12_otherOf_22 ?_
  refine J_iadd (pc := 23) dX12_otherOf_23 ?_
  refine J_iconst (pc := 24) (1 : Int32) dX12_otherOf_24 (by decide) ?_
  refine J_iadd (pc := 25) dX12_otherOf_25 ?_
  refine J_iald (pc := 26) dX12_otherOf_26 ho ha12_0 h (fun x2 h => ?_)
  refine J_istore (pc := 27) (L' := [(4, .int x2), (3, .int x1), (0, .ref (e_a E o 0)), (1, .int a1), (2, .int a2)]) dX12_otherOf_27 (by decide) rfl ?_
  refine J_aload_n (pc := 29) 2 dX12_otherOf_29 rfl ?_
  refine J_getA (pc := 30) dX12_otherOf_30 ho flX12_7 rfl ?_
  refine J_iconst (pc := 33) (4 : Int32) dX12_otherOf_33 (by decide) ?_
  refine J_iald (pc := 34) dX12_otherOf_34 ho ha12_0 h (fun x3 h => ?_)
  refine J_iload_n (pc := 35) 3 dX12_otherOf_35 rfl ?_
  refine J_ishr (pc := 36) dX12_otherOf_36 ?_
  refine J_iconst (pc := 37) (1 : Int32) dX12_otherOf_37 (by decide) ?_
  refine J_iand (pc := 38) dX12_otherOf_38 ?_
  refine J_iconst (pc := 39) (1 : Int32) dX12_otherOf_39 (by decide) ?_
  refine J_icmp_ne (pc := 40) 47 dX12_otherOf_40 (by decide) h (fun h => ?_) (fun h => ?_)
  · refine J_iload_n (pc := 47) 1 dX12_otherOf_47 rfl ?_
    refine J_iload_n (pc := 48) 4 dX12_otherOf_48 rfl ?_
    refine J_icmp_ne (pc := 49) 57 dX12_otherOf_49 (by decide) h (fun h => ?_) (fun h => ?_)
    · refine J_iload (pc := 57) 0 dX12_otherOf_57 rfl ?_
      refine J_iload_n (pc := 59) 4 dX12_otherOf_59 rfl ?_
      refine J_icmp_ne (pc := 60) 67 dX12_otherOf_60 (by decide) h (fun h => ?_) (fun h => ?_)
      · refine J_iconst (pc := 67) (-1 : Int32) dX12_otherOf_67 (by decide) ?_
        cases h
        exact J_iret (pc := 68) dX12_otherOf_68 rfl rfl
      · refine J_iload_n (pc := 63) 1 dX12_otherOf_63 rfl ?_
        refine J_goto (pc := 64) 68 dX12_otherOf_64 (by decide) ?_
        cases h
        exact J_iret (pc := 68) dX12_otherOf_68 rfl rfl
    · refine J_iload (pc := 52) 0 dX12_otherOf_52 rfl ?_
      refine J_goto (pc := 54) 68 dX12_otherOf_54 (by decide) ?_
      cases h
      exact J_iret (pc := 68) dX12_otherOf_68 rfl rfl
  · refine J_iconst (pc := 43) (-1 : Int32) dX12_otherOf_43 (by decide) ?_
    refine J_goto (pc := 44) 68 dX12_otherOf_44 (by decide) ?_
    cases h
    exact J_iret (pc := 68) dX12_otherOf_68 rfl rfl
