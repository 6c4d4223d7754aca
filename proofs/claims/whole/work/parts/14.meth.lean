def fX11_workOnNow (o : Nat) (σ : Mm) : Option (Mm) := r_rf σ (tg o 9) 0 2 (fun q1 => c_V (fX10_use (tg o 14) q1 (tg (tg o 9) 1) σ) (fun σ2 => some σ2))
set_option maxRecDepth 100000 in
set_option maxHeartbeats 4000000 in
theorem ctX11_workOnNow (l : Launch) (E : EV) (o : Nat) (ho : KD o = 11) (σ : Mm) {τ : Mm} (h : fX11_workOnNow o σ = some τ) : Ct l E mX11_workOnNow 2 [.ref (e_a E o 0)] σ (none, τ) := by
  refine Ct.of (by decide +kernel) (Nat.le_of_ble_eq_true rfl) ?_
  show Jd l E mX11_workOnNow 2 (none, τ) σ 0 [(0, .ref (e_a E o 0))] []
  unfold fX11_workOnNow at h
  refine J_aload_n (pc := 0) 0 dX11_workOnNow_0 rfl ?_
  refine J_getT (pc := 1) dX11_workOnNow_1 ho flX11_75 rfl ?_
  refine J_aload_n (pc := 4) 0 dX11_workOnNow_4 rfl ?_
  refine J_getT (pc := 5) dX11_workOnNow_5 ho flX11_50 rfl ?_
  refine J_getR (pc := 8) dX11_workOnNow_8 (tk11_9 ho) flX11_174 rfl h (fun q1 hq1 h => ?_)
  refine J_aload_n (pc := 11) 0 dX11_workOnNow_11 rfl ?_
  refine J_getT (pc := 12) dX11_workOnNow_12 ho flX11_50 rfl ?_
  refine J_getT (pc := 15) dX11_workOnNow_15 (tk11_9 ho) flX11_177 rfl ?_
  obtain ⟨σ2, hc3, h⟩ := cV_t h
  refine J_cVv (pc := 18) (ctX10_use l E (tg o 14) q1 (tg (tg o 9) 1) (tk11_14 ho) hq1 (tk7_1 (tk11_9 ho)) σ hc3) dX11_workOnNow_18 mlX11_447 mvX10_use (tk11_14 ho) rfl (by decide) rfl (Nat.le_of_ble_eq_true rfl) ?_
  cases h
  exact J_vret (pc := 21) dX11_workOnNow_21 rfl
def fX11_wants (o : Nat) (a1 : Int32) (σ : Mm) : Option (Int32 × Mm) := c_I (fX11_isVane o a1 σ) (fun x3 σ1 => if x3 = 0 then (c_I (fX11_none o (1 : Int32) σ1) (fun x15 σ13 => some (x15, σ13))) else (c_V (fX11_workOnNow o σ1) (fun σ4 => g_ar σ4 (tg o 14) 0 8 a1 (fun x6 => if x6 = (-1 : Int32) then (c_I (fX11_none o (6 : Int32) σ4) (fun x12 σ10 => some (x12, σ10))) else (c_I (fX11_answer o x6 σ4) (fun x9 σ7 => some (x9, σ7)))))))
set_option maxRecDepth 100000 in
set_option maxHeartbeats 4000000 in
theorem ctX11_wants (l : Launch) (E : EV) (o : Nat) (a1 : Int32) (ho : KD o = 11) (σ : Mm) {xr : Int32} {τ : Mm} (h : fX11_wants o a1 σ = some (xr, τ)) : Ct l E mX11_wants 3 [.ref (e_a E o 0), .int a1] σ (some (.int xr), τ) := by
  refine Ct.of (by decide +kernel) (Nat.le_of_ble_eq_true rfl) ?_
  show Jd l E mX11_wants 3 (some (.int xr), τ) σ 0 [(0, .ref (e_a E o 0)), (1, .int a1)] []
  unfold fX11_wants at h
  refine J_aload_n (pc := 0) 0 dX11_wants_0 rfl ?_
  refine J_iload_n (pc := 1) 1 dX11_wants_1 rfl ?_
  obtain ⟨x3, σ1, hc2, h⟩ := cI_t h
  refine J_cVi (pc := 2) (ctX11_isVane l E o a1 ho σ hc2) dX11_wants_2 mlX11_217 mvX11_isVane ho rfl (by decide) rfl (Nat.le_of_ble_eq_true rfl) ?_
  refine J_if_ne (pc := 5) 14 dX11_wants_5 (by decide) h (fun h => ?_) (fun h => ?_)
  · refine J_aload_n (pc := 14) 0 dX11_wants_14 rfl ?_
    obtain ⟨σ4, hc5, h⟩ := cV_t h
    refine J_cVv (pc := 15) (ctX11_workOnNow l E o ho σ1 hc5) dX11_wants_15 mlX11_257 mvX11_workOnNow ho rfl (by decide) rfl (Nat.le_of_ble_eq_true rfl) ?_
    refine J_aload_n (pc := 18) 0 dX11_wants_18 rfl ?_
    refine J_getT (pc := 19) dX11_wants_19 ho flX11_75 rfl ?_
    refine J_getA (pc := 22) dX11_wants_22 (tk11_14 ho) flX11_260 rfl ?_
    refine J_iload_n (pc := 25) 1 dX11_wants_25 rfl ?_
    refine J_iald (pc := 26) dX11_wants_26 (tk11_14 ho) ha10_0 h (fun x6 h => ?_)
    refine J_istore_n (pc := 27) (L' := [(2, .int x6), (0, .ref (e_a E o 0)), (1, .int a1)]) dX11_wants_27 (by decide) rfl ?_
    refine J_iload_n (pc := 28) 0 dX11_wants_28 rfl ?_
    refine J_iconst (pc := 29) (-1 : Int32) dX11_wants_29 (by decide) ?_
    refine J_icmp_ne (pc := 30) 42 dX11_wants_30 (by decide) h (fun h => ?_) (fun h => ?_)
    · refine J_aload_n (pc := 42) 1 dX11_wants_42 rfl ?_
      refine J_iload_n (pc := 43) 0 dX11_wants_43 rfl ?_
      obtain ⟨x9, σ7, hc8, h⟩ := cI_t h
      refine J_cVi (pc := 44) (ctX11_answer l E o x6 ho σ4 hc8) dX11_wants_44 mlX11_193 mvX11_answer ho rfl (by decide) rfl (Nat.le_of_ble_eq_true rfl) ?_
      cases h
      exact J_iret (pc := 47) dX11_wants_47 rfl rfl
    · refine J_aload_n (pc := 33) 1 dX11_wants_33 rfl ?_
      refine J_bipush (pc := 34) (6 : Int32) dX11_wants_34 (by decide) ?_
      obtain ⟨x12, σ10, hc11, h⟩ := cI_t h
      refine J_cVi (pc := 36) (ctX11_none l E o (6 : Int32) ho σ4 hc11) dX11_wants_36 mlX11_130 mvX11_none ho rfl (by decide) rfl (Nat.le_of_ble_eq_true rfl) ?_
      refine J_goto (pc := 39) 47 dX11_wants_39 (by decide) ?_
      cases h
      exact J_iret (pc := 47) dX11_wants_47 rfl rfl
  · refine J_aload_n (pc := 8) 0 dX11_wants_8 rfl ?_
    refine J_iconst (pc := 9) (1 : Int32) dX11_wants_9 (by decide) ?_
    obtain ⟨x15, σ13, hc14, h⟩ := cI_t h
    refine J_cVi (pc := 10) (ctX11_none l E o (1 : Int32) ho σ1 hc14) dX11_wants_10 mlX11_130 mvX11_none ho rfl (by decide) rfl (Nat.le_of_ble_eq_true rfl) ?_
    cases h
    exact J_iret (pc := 13) dX11_wants_13 rfl rfl
def fX11_right (o : Nat) (a1 : Int32) (σ : Mm) : Option (Int32 × Mm) := c_I (fX11_isVane o a1 σ) (fun x3 σ1 => if x3 = 0 then (c_I (fX11_none o (1 : Int32) σ1) (fun x17 σ15 => some (x17, σ15))) else (c_V (fX11_workOnNow o σ1) (fun σ4 => c_I (fX10_isRight (tg o 14) a1 σ4) (fun x8 σ6 => if x8 = 0 then (c_I (fX11_answer o (0 : Int32) σ6) (fun x11 σ9 => some (x11, σ9))) else (c_I (fX11_answer o (1 : Int32) σ6) (fun x14 σ12 => some (x14, σ12)))))))
set_option maxRecDepth 100000 in
set_option maxHeartbeats 4000000 in
theorem ctX11_right (l : Launch) (E : EV) (o : Nat) (a1 : Int32) (ho : KD o = 11) (σ : Mm) {xr : Int32} {τ : Mm} (h : fX11_right o a1 σ = some (xr, τ)) : Ct l E mX11_right 3 [.ref (e_a E o 0), .int a1] σ (some (.int xr), τ) := by
  refine Ct.of (by decide +kernel) (Nat.le_of_ble_eq_true rfl) ?_
  show Jd l E mX11_right 3 (some (.int xr), τ) σ 0 [(0, .ref (e_a E o 0)), (1, .int a1)] []
  unfold fX11_right at h
  refine J_aload_n (pc := 0) 0 dX11_right_0 rfl ?_
  refine J_iload_n (pc := 1) 1 dX11_right_1 rfl ?_
  obtain ⟨x3, σ1, hc2, h⟩ := cI_t h
  refine J_cVi (pc := 2) (ctX11_isVane l E o a1 ho σ hc2) dX11_right_2 mlX11_217 mvX11_isVane ho rfl (by decide) rfl (Nat.le_of_ble_eq_true rfl) ?_
  refine J_if_ne (pc := 5) 14 dX11_right_5 (by decide) h (fun h => ?_) (fun h => ?_)
  · refine J_aload_n (pc := 14) 0 dX11_right_14 rfl ?_
    obtain ⟨σ4, hc5, h⟩ := cV_t h
    refine J_cVv (pc := 15) (ctX11_workOnNow l E o ho σ1 hc5) dX11_right_15 mlX11_257 mvX11_workOnNow ho rfl (by decide) rfl (Nat.le_of_ble_eq_true rfl) ?_
    refine J_aload_n (pc := 18) 0 dX11_right_18 rfl ?_
    refine J_aload_n (pc := 19) 0 dX11_right_19 rfl ?_
    refine J_getT (pc := 20) dX11_right_20 ho flX11_75 rfl ?_
    refine J_iload_n (pc := 23) 1 dX11_right_23 rfl ?_
    obtain ⟨x8, σ6, hc7, h⟩ := cI_t h
    refine J_cVi (pc := 24) (ctX10_isRight l E (tg o 14) a1 (tk11_14 ho) σ4 hc7) dX11_right_24 mlX11_263 mvX10_isRight (tk11_14 ho) rfl (by decide) rfl (Nat.le_of_ble_eq_true rfl) ?_
    refine J_if_eq (pc := 27) 34 dX11_right_27 (by decide) h (fun h => ?_) (fun h => ?_)
    · refine J_iconst (pc := 34) (0 : Int32) dX11_right_34 (by decide) ?_
      obtain ⟨x11, σ9, hc10, h⟩ := cI_t h
      refine J_cVi (pc := 35) (ctX11_answer l E o (0 : Int32) ho σ6 hc10) dX11_right_35 mlX11_193 mvX11_answer ho rfl (by decide) rfl (Nat.le_of_ble_eq_true rfl) ?_
      cases h
      exact J_iret (pc := 38) dX11_right_38 rfl rfl
    · refine J_iconst (pc := 30) (1 : Int32) dX11_right_30 (by decide) ?_
      refine J_goto (pc := 31) 35 dX11_right_31 (by decide) ?_
      obtain ⟨x14, σ12, hc13, h⟩ := cI_t h
      refine J_cVi (pc := 35) (ctX11_answer l E o (1 : Int32) ho σ6 hc13) dX11_right_35 mlX11_193 mvX11_answer ho rfl (by decide) rfl (Nat.le_of_ble_eq_true rfl) ?_
      cases h
      exact J_iret (pc := 38) dX11_right_38 rfl rfl
  · refine J_aload_n (pc := 8) 0 dX11_right_8 rfl ?_
    refine J_iconst (pc := 9) (1 : Int32) dX11_right_9 (by decide) ?_
    obtain ⟨x17, σ15, hc16, h⟩ := cI_t h
    refine J_cVi (pc := 10) (ctX11_none l E o (1 : Int32) ho σ1 hc16) dX11_right_10 mlX11_130 mvX11_none ho rfl (by decide) rfl (Nat.le_of_ble_eq_true rfl) ?_
    cases h
    exact J_iret (pc := 13) dX11_right_13 rfl rfl
def fX11_isPlace (o : Nat) (a1 : Int32) (σ : Mm) : Option (Int32 × Mm) := if a1 < 0 then (some ((0 : Int32), σ)) else (r_rf σ (tg o 9) 0 2 (fun q1 => r_sc σ q1 0 (fun x2 => if x2 ≤ a1 then (some ((0 : Int32), σ)) else (some ((1 : Int32), σ)))))
set_option maxRecDepth 100000 in
set_option maxHeartbeats 4000000 in
theorem ctX11_isPlace (l : Launch) (E : EV) (o : Nat) (a1 : Int32) (ho : KD o = 11) (σ : Mm) {xr : Int32} {τ : Mm} (h : fX11_isPlace o a1 σ = some (xr, τ)) : Ct l E mX11_isPlace 0 [.ref (e_a E o 0), .int a1] σ (some (.int xr), τ) := by
  refine Ct.of (by decide +kernel) (Nat.le_of_ble_eq_true rfl) ?_
  show Jd l E mX11_isPlace 0 (some (.int xr), τ) σ 0 [(0, .ref (e_a E o 0)), (1, .int a1)] []
  unfold fX11_isPlace at h
  refine J_iload_n (pc := 0) 1 dX11_isPlace_0 rfl ?_
  refine J_if_lt (pc := 1) 22 dX11_isPlace_1 (by decide) h (fun h => ?_) (fun h => ?_)
  · refine J_iconst (pc := 22) (0 : Int32) dX11_isPlace_22 (by decide) ?_
    cases h
    exact J_iret (pc := 23) dX11_isPlace_23 rfl rfl
  · refine J_iload_n (pc := 4) 1 dX11_isPlace_4 rfl ?_
    refine J_aload_n (pc := 5) 0 dX11_isPlace_5 rfl ?_
    refine J_getT (pc := 6) dX11_isPlace_6 ho flX11_50 rfl ?_
    refine J_getR (pc := 9) dX11_isPlace_9 (tk11_9 ho) flX11_174 rfl h (fun q1 hq1 h => ?_)
    refine J_getI (pc := 12) dX11_isPlace_12 hq1 flX11_202 rfl h (fun x2 h => ?_)
    refine J_icmp_ge (pc := 15) 22 dX11_isPlace_15 (by decide) h (fun h => ?_) (fun h => ?_)
    · refine J_iconst (pc := 22) (0 : Int32) dX11_isPlace_22 (by decide) ?_
      cases h
      exact J_iret (pc := 23) dX11_isPlace_23 rfl rfl
    · refine J_iconst (pc := 18) (1 : Int32) dX11_isPlace_18 (by decide) ?_
      refine J_goto (pc := 19) 23 dX11_isPlace_19 (by decide) ?_
      cases h
      exact J_iret (pc := 23) dX11_isPlace_23 rfl rfl
def fX11_wind (o : Nat) (a1 : Int32) (a2 : Int32) (a3 : Int32) (σ : Mm) : Option (Int32 × Mm) := c_I (fX11_isPlace o a1 σ) (fun x3 σ1 => if x3 = 0 then (c_I (fX11_refuse o (1 : Int32) σ1) (fun x6 σ4 => b_z x6 σ4)) else (if a2 < 0 then (c_I (fX11_refuse o (1 : Int32) σ1) (fun x10 σ8 => b_z x10 σ8)) else (if a2 < (16 : Int32) then (if a3 < 0 then (c_I (fX11_refuse o (1 : Int32) σ1) (fun x14 σ12 => b_z x14 σ12)) else (if a3 ≤ (99 : Int32) then (s_ar σ1 (tg (tg o 9) 1) 0 4 a1 a2 (fun σ16 => s_ar σ16 (tg (tg o 9) 1) 1 4 a1 a3 (fun σ17 => c_I (fX11_agree o σ17) (fun x20 σ18 => b_z x20 σ18)))) else (c_I (fX11_refuse o (1 : Int32) σ1) (fun x24 σ22 => b_z x24 σ22)))) else (c_I (fX11_refuse o (1 : Int32) σ1) (fun x28 σ26 => b_z x28 σ26)))))
set_option maxRecDepth 100000 in
set_option maxHeartbeats 4000000 in
theorem ctX11_wind (l : Launch) (E : EV) (o : Nat) (a1 : Int32) (a2 : Int32) (a3 : Int32) (ho : KD o = 11) (σ : Mm) {xr : Int32} {τ : Mm} (h : fX11_wind o a1 a2 a3 σ = some (xr, τ)) : Ct l E mX11_wind 1 [.ref (e_a E o 0), .int a1, .int a2, .int a3] σ (some (.int xr), τ) := by
  refine Ct.of (by decide +kernel) (Nat.le_of_ble_eq_true rfl) ?_
  show Jd l E mX11_wind 1 (some (.int xr), τ) σ 0 [(0, .ref (e_a E o 0)), (1, .int a1), (2, .int a2), (3, .int a3)] []
  unfold fX11_wind at h
  refine J_aload_n (pc := 0) 0 dX11_wind_0 rfl ?_
  refine J_iload_n (pc := 1) 1 dX11_wind_1 rfl ?_
  obtain ⟨x3, σ1, hc2, h⟩ := cI_t h
  refine J_cVi (pc := 2) (ctX11_isPlace l E o a1 ho σ hc2) dX11_wind_2 mlX11_266 mvX11_isPlace ho rfl (by decide) rfl (Nat.le_of_ble_eq_true rfl) ?_
  refine J_if_eq (pc := 5) 18 dX11_wind_5 (by decide) h (fun h => ?_) (fun h => ?_)
  · refine J_aload_n (pc := 18) 0 dX11_wind_18 rfl ?_
    refine J_iconst (pc := 19) (1 : Int32) dX11_wind_19 (by decide) ?_
    obtain ⟨x6, σ4, hc5, h⟩ := cI_t h
    refine J_cVi (pc := 20) (ctX11_refuse l E o (1 : Int32) ho σ1 hc5) dX11_wind_20 mlX11_111 mvX11_refuse ho rfl (by decide) rfl (Nat.le_of_ble_eq_true rfl) ?_
    obtain ⟨hz7, h⟩ := bz_t h
    cases h
    exact J_iret (pc := 23) dX11_wind_23 rfl hz7
  · refine J_iload_n (pc := 8) 2 dX11_wind_8 rfl ?_
    refine J_if_lt (pc := 9) 18 dX11_wind_9 (by decide) h (fun h => ?_) (fun h => ?_)
    · refine J_aload_n (pc := 18) 0 dX11_wind_18 rfl ?_
      refine J_iconst (pc := 19) (1 : Int32) dX11_wind_19 (by decide) ?_
      obtain ⟨x10, σ8, hc9, h⟩ := cI_t h
      refine J_cVi (pc := 20) (ctX11_refuse l E o (1 : Int32) ho σ1 hc9) dX11_wind_20 mlX11_111 mvX11_refuse ho rfl (by decide) rfl (Nat.le_of_ble_eq_true rfl) ?_
      obtain ⟨hz11, h⟩ := bz_t h
      cases h
      exact J_iret (pc := 23) dX11_wind_23 rfl hz11
    · refine J_iload_n (pc := 12) 2 dX11_wind_12 rfl ?_
      refine J_bipush (pc := 13) (16 : Int32) dX11_wind_13 (by decide) ?_
      refine J_icmp_lt (pc := 15) 24 dX11_wind_15 (by decide) h (fun h => ?_) (fun h => ?_)
      · refine J_iload_n (pc := 24) 3 dX11_wind_24 rfl ?_
        refine J_if_lt (pc := 25) 34 dX11_wind_25 (by decide) h (fun h => ?_) (fun h => ?_)
        · refine J_aload_n (pc := 34) 0 dX11_wind_34 rfl ?_
          refine J_iconst (pc := 35) (1 : Int32) dX11_wind_35 (by decide) ?_
          obtain ⟨x14, σ12, hc13, h⟩ := cI_t h
          refine J_cVi (pc := 36) (ctX11_refuse l E o (1 : Int32) ho σ1 hc13) dX11_wind_36 mlX11_111 mvX11_refuse ho rfl (by decide) rfl (Nat.le_of_ble_eq_true rfl) ?_
          obtain ⟨hz15, h⟩ := bz_t h
          cases h
          exact J_iret (pc := 39) dX11_wind_39 rfl hz15
        · refine J_iload_n (pc := 28) 3 dX11_wind_28 rfl ?_
          refine J_bipush (pc := 29) (99 : Int32) dX11_wind_29 (by decide) ?_
          refine J_icmp_le (pc := 31) 40 dX11_wind_31 (by decide) h (fun h => ?_) (fun h => ?_)
          · refine J_aload_n (pc := 40) 0 dX11_wind_40 rfl ?_
            refine J_getT (pc := 41) dX11_wind_41 ho flX11_50 rfl ?_
            refine J_getT (pc := 44) dX11_wind_44 (tk11_9 ho) flX11_177 rfl ?_
            refine J_getA (pc := 47) dX11_wind_47 (tk7_1 (tk11_9 ho)) flX11_269 rfl ?_
            refine J_iload_n (pc := 50) 1 dX11_wind_50 rfl ?_
            refine J_iload_n (pc := 51) 2 dX11_wind_51 rfl ?_
            refine J_iast (pc := 52) dX11_wind_52 (tk7_1 (tk11_9 ho)) ha4_0 h (fun σ16 h => ?_)
            refine J_aload_n (pc := 53) 0 dX11_wind_53 rfl ?_
            refine J_getT (pc := 54) dX11_wind_54 ho flX11_50 rfl ?_
            refine J_getT (pc := 57) dX11_wind_57 (tk11_9 ho) flX11_177 rfl ?_
            refine J_getA (pc := 60) dX11_wind_60 (tk7_1 (tk11_9 ho)) flX11_272 rfl ?_
            refine J_iload_n (pc := 63) 1 dX11_wind_63 rfl ?_
            refine J_iload_n (pc := 64) 3 dX11_wind_64 rfl ?_
            refine J_iast (pc := 65) dX11_wind_65 (tk7_1 (tk11_9 ho)) ha4_1 h (fun σ17 h => ?_)
            refine J_aload_n (pc := 66) 0 dX11_wind_66 rfl ?_
            obtain ⟨x20, σ18, hc19, h⟩ := cI_t h
            refine J_cVi (pc := 67) (ctX11_agree l E o ho σ17 hc19) dX11_wind_67 mlX11_118 mvX11_agree ho rfl (by decide) rfl (Nat.le_of_ble_eq_true rfl) ?_
            obtain ⟨hz21, h⟩ := bz_t h
            cases h
            exact J_iret (pc := 70) dX11_wind_70 rfl hz21
          · refine J_aload_n (pc := 34) 0 dX11_wind_34 rfl ?_
            refine J_iconst (pc := 35) (1 : Int32) dX11_wind_35 (by decide) ?_
            obtain ⟨x24, σ22, hc23, h⟩ := cI_t h
            refine J_cVi (pc := 36) (ctX11_refuse l E o (1 : Int32) ho σ1 hc23) dX11_wind_36 mlX11_111 mvX11_refuse ho rfl (by decide) rfl (Nat.le_of_ble_eq_true rfl) ?_
            obtain ⟨hz25, h⟩ := bz_t h
            cases h
            exact J_iret (pc := 39) dX11_wind_39 rfl hz25
      · refine J_aload_n (pc := 18) 0 dX11_wind_18 rfl ?_
        refine J_iconst (pc := 19) (1 : Int32) dX11_wind_19 (by decide) ?_
        obtain ⟨x28, σ26, hc27, h⟩ := cI_t h
        refine J_cVi (pc := 20) (ctX11_refuse l E o (1 : Int32) ho σ1 hc27) dX11_wind_20 mlX11_111 mvX11_refuse ho rfl (by decide) rfl (Nat.le_of_ble_eq_true rfl) ?_
        obtain ⟨hz29, h⟩ := bz_t h
        cases h
        exact J_iret (pc := 23) dX11_wind_23 rfl hz29
def fX11_windAt (o : Nat) (a1 : Int32) (a2 : Int32) (σ : Mm) : Option (Int32 × Mm) := c_I (fX11_isPlace o a1 σ) (fun x3 σ1 => if x3 = 0 then (c_I (fX11_none o (1 : Int32) σ1) (fun x6 σ4 => some (x6, σ4))) else (if a2 < 0 then (c_I (fX11_none o (1 : Int32) σ1) (fun x9 σ7 => some (x9, σ7))) else (if a2 ≤ (1 : Int32) then (if a2 = 0 then (g_ar σ1 (tg (tg o 9) 1) 0 4 a1 (fun x14 => c_I (fX11_answer o x14 σ1) (fun x17 σ15 => some (x17, σ15)))) else (g_ar σ1 (tg (tg o 9) 1) 1 4 a1 (fun x10 => c_I (fX11_answer o x10 σ1) (fun x13 σ11 => some (x13, σ11))))) else (c_I (fX11_none o (1 : Int32) σ1) (fun x20 σ18 => some (x20, σ18))))))
set_option maxRecDepth 100000 in
set_option maxHeartbeats 4000000 in
theorem ctX11_windAt (l : Launch) (E : EV) (o : Nat) (a1 : Int32) (a2 : Int32) (ho : KD o = 11) (σ : Mm) {xr : Int32} {τ : Mm} (h : fX11_windAt o a1 a2 σ = some (xr, τ)) : Ct l E mX11_windAt 1 [.ref (e_a E o 0), .int a1, .int a2] σ (some (.int xr), τ) := by
  refine Ct.of (by decide +kernel) (Nat.le_of_ble_eq_true rfl) ?_
  show Jd l E mX11_windAt 1 (some (.int xr), τ) σ 0 [(0, .ref (e_a E o 0)), (1, .int a1), (2, .int a2)] []
  unfold fX11_windAt at h
  refine J_aload_n (pc := 0) 0 dX11_windAt_0 rfl ?_
  refine J_iload_n (pc := 1) 1 dX11_windAt_1 rfl ?_
  obtain ⟨x3, σ1, hc2, h⟩ := cI_t h
  refine J_cVi (pc := 2) (ctX11_isPlace l E o a1 ho σ hc2) dX11_windAt_2 mlX11_266 mvX11_isPlace ho rfl (by decide) rfl (Nat.le_of_ble_eq_true rfl) ?_
  refine J_if_eq (pc := 5) 17 dX11_windAt_5 (by decide) h (fun h => ?_) (fun h => ?_)
  · refine J_aload_n (pc := 17) 0 dX11_windAt_17 rfl ?_
    refine J_iconst (pc := 18) (1 : Int32) dX11_windAt_18 (by decide) ?_
    obtain ⟨x6, σ4, hc5, h⟩ := cI_t h
    refine J_cVi (pc := 19) (ctX11_none l E o (1 : Int32) ho σ1 hc5) dX11_windAt_19 mlX11_130 mvX11_none ho rfl (by decide) rfl (Nat.le_of_ble_eq_true rfl) ?_
    cases h
    exact J_iret (pc := 22) dX11_windAt_22 rfl rfl
  · refine J_iload_n (pc := 8) 2 dX11_windAt_8 rfl ?_
    refine J_if_lt (pc := 9) 17 dX11_windAt_9 (by decide) h (fun h => ?_) (fun h => ?_)
    · refine J_aload_n (pc := 17) 0 dX11_windAt_17 rfl ?_
      refine J_iconst (pc := 18) (1 : Int32) dX11_windAt_18 (by decide) ?_
      obtain ⟨x9, σ7, hc8, h⟩ := cI_t h
      refine J_cVi (pc := 19) (ctX11_none l E o (1 : Int32) ho σ1 hc8) dX11_windAt_19 mlX11_130 mvX11_none ho rfl (by decide) rfl (Nat.le_of_ble_eq_true rfl) ?_
      cases h
      exact J_iret (pc := 22) dX11_windAt_22 rfl rfl
    · refine J_iload_n (pc := 12) 2 dX11_windAt_12 rfl ?_
      refine J_iconst (pc := 13) (1 : Int32) dX11_windAt_13 (by decide) ?_
      refine J_icmp_le (pc := 14) 23 dX11_windAt_14 (by decide) h (fun h => ?_) (fun h => ?_)
      · refine J_aload_n (pc := 23) 0 dX11_windAt_23 rfl ?_
        refine J_iload_n (pc := 24) 2 dX11_windAt_24 rfl ?_
        refine J_if_ne (pc := 25) 43 dX11_windAt_25 (by decide) h (fun h => ?_) (fun h => ?_)
        · refine J_aload_n (pc := 43) 0 dX11_windAt_43 rfl ?_
          refine J_getT (pc := 44) dX11_windAt_44 ho flX11_50 rfl ?_
          refine J_getT (pc := 47) dX11_windAt_47 (tk11_9 ho) flX11_177 rfl ?_
          refine J_getA (pc := 50) dX11_windAt_50 (tk7_1 (tk11_9 ho)) flX11_272 rfl ?_
          refine J_iload_n (pc := 53) 1 dX11_windAt_53 rfl ?_
          refine J_iald (pc := 54) dX11_windAt_54 (tk7_1 (tk11_9 ho)) ha4_1 h (fun x10 h => ?_)
          obtain ⟨x13, σ11, hc12, h⟩ := cI_t h
          refine J_cVi (pc := 55) (ctX11_answer l E o x10 ho σ1 hc12) dX11_windAt_55 mlX11_193 mvX11_answer ho rfl (by decide) rfl (Nat.le_of_ble_eq_true rfl) ?_
          cases h
          exact J_iret (pc := 58) dX11_windAt_58 rfl rfl
        · refine J_aload_n (pc := 28) 0 dX11_windAt_28 rfl ?_
          refine J_getT (pc := 29) dX11_windAt_29 ho flX11_50 rfl ?_
          refine J_getT (pc := 32) dX11_windAt_32 (tk11_9 ho) flX11_177 rfl ?_
          refine J_getA (pc := 35) dX11_windAt_35 (tk7_1 (tk11_9 ho)) flX11_269 rfl ?_
          refine J_iload_n (pc := 38) 1 dX11_windAt_38 rfl ?_
          refine J_iald (pc := 39) dX11_windAt_39 (tk7_1 (tk11_9 ho)) ha4_0 h (fun x14 h => ?_)
          refine J_goto (pc := 40) 55 dX11_windAt_40 (by decide) ?_
          obtain ⟨x17, σ15, hc16, h⟩ := cI_t h
          refine J_cVi (pc := 55) (ctX11_answer l E o x14 ho σ1 hc16) dX11_windAt_55 mlX11_193 mvX11_answer ho rfl (by decide) rfl (Nat.le_of_ble_eq_true rfl) ?_
          cases h
          exact J_iret (pc := 58) dX11_windAt_58 rfl rfl
      · refine J_aload_n (pc := 17) 0 dX11_windAt_17 rfl ?_
        refine J_iconst (pc := 18) (1 : Int32) dX11_windAt_18 (by decide) ?_
        obtain ⟨x20, σ18, hc19, h⟩ := cI_t h
        refine J_cVi (pc := 19) (ctX11_none l E o (1 : Int32) ho σ1 hc19) dX11_windAt_19 mlX11_130 mvX11_none ho rfl (by decide) rfl (Nat.le_of_ble_eq_true rfl) ?_
        cases h
        exact J_iret (pc := 22) dX11_windAt_22 rfl rfl
def fX11_lift (o : Nat) (a1 : Int32) (a2 : Int32) (σ : Mm) : Option (Int32 × Mm) := c_I (fX11_isShaft o a1 σ) (fun x3 σ1 => if x3 = 0 then (c_I (fX11_refuse o (1 : Int32) σ1) (fun x15 σ13 => b_z x15 σ13)) else (r_sc σ1 (tg (tg o 9) 1) 6 (fun x4 => c_I (fX11_with x4 a1 a2 σ1) (fun x7 σ5 => p_sc σ5 (tg (tg o 9) 1) 6 x7 (fun σ8 => c_I (fX11_agree o σ8) (fun x11 σ9 => b_z x11 σ9))))))
set_option maxRecDepth 100000 in
set_option maxHeartbeats 4000000 in
theorem ctX11_lift (l : Launch) (E : EV) (o : Nat) (a1 : Int32) (a2 : Int32) (ho : KD o = 11) (σ : Mm) {xr : Int32} {τ : Mm} (h : fX11_lift o a1 a2 σ = some (xr, τ)) : Ct l E mX11_lift 1 [.ref (e_a E o 0), .int a1, .int a2] σ (some (.int xr), τ) := by
  refine Ct.of (by decide +kernel) (Nat.le_of_ble_eq_true rfl) ?_
  show Jd l E mX11_lift 1 (some (.int xr), τ) σ 0 [(0, .ref (e_a E o 0)), (1, .int a1), (2, .int a2)] []
  unfold fX11_lift at h
  refine J_aload_n (pc := 0) 0 dX11_lift_0 rfl ?_
  refine J_iload_n (pc := 1) 1 dX11_lift_1 rfl ?_
  obtain ⟨x3, σ1, hc2, h⟩ := cI_t h
  refine J_cVi (pc := 2) (ctX11_isShaft l E o a1 ho σ hc2) dX11_lift_2 mlX11_239 mvX11_isShaft ho rfl (by decide) rfl (Nat.le_of_ble_eq_true rfl) ?_
  refine J_if_ne (pc := 5) 14 dX11_lift_5 (by decide) h (fun h => ?_) (fun h => ?_)
  · refine J_aload_n (pc := 14) 0 dX11_lift_14 rfl ?_
    refine J_getT (pc := 15) dX11_lift_15 ho flX11_50 rfl ?_
    refine J_getT (pc := 18) dX11_lift_18 (tk11_9 ho) flX11_177 rfl ?_
    refine J_aload_n (pc := 21) 0 dX11_lift_21 rfl ?_
    refine J_getT (pc := 22) dX11_lift_22 ho flX11_50 rfl ?_
    refine J_getT (pc := 25) dX11_lift_25 (tk11_9 ho) flX11_177 rfl ?_
    refine J_getI (pc := 28) dX11_lift_28 (tk7_1 (tk11_9 ho)) flX11_211 rfl h (fun x4 h => ?_)
    refine J_iload_n (pc := 31) 1 dX11_lift_31 rfl ?_
    refine J_iload_n (pc := 32) 2 dX11_lift_32 rfl ?_
    obtain ⟨x7, σ5, hc6, h⟩ := cI_t h
    refine J_cSi (pc := 33) (ctX11_with l E x4 a1 a2 σ1 hc6) dX11_lift_33 mlX11_275 msX11_with rfl (by decide) rfl (Nat.le_of_ble_eq_true rfl) ?_
    refine J_putI (pc := 36) dX11_lift_36 (tk7_1 (tk11_9 ho)) flX11_211 rfl h (fun σ8 h => ?_)
    refine J_aload_n (pc := 39) 0 dX11_lift_39 rfl ?_
    obtain ⟨x11, σ9, hc10, h⟩ := cI_t h
    refine J_cVi (pc := 40) (ctX11_agree l E o ho σ8 hc10) dX11_lift_40 mlX11_118 mvX11_agree ho rfl (by decide) rfl (Nat.le_of_ble_eq_true rfl) ?_
    obtain ⟨hz12, h⟩ := bz_t h
    cases h
    exact J_iret (pc := 43) dX11_lift_43 rfl hz12
  · refine J_aload_n (pc := 8) 0 dX11_lift_8 rfl ?_
    refine J_iconst (pc := 9) (1 : Int32) dX11_lift_9 (by decide) ?_
    obtain ⟨x15, σ13, hc14, h⟩ := cI_t h
    refine J_cVi (pc := 10) (ctX11_refuse l E o (1 : Int32) ho σ1 hc14) dX11_lift_10 mlX11_111 mvX11_refuse ho rfl (by decide) rfl (Nat.le_of_ble_eq_true rfl) ?_
    obtain ⟨hz16, h⟩ := bz_t h
    cases h
    exact J_iret (pc := 13) dX11_lift_13 rfl hz16
def fX11_hold (o : Nat) (a1 : Int32) (a2 : Int32) (σ : Mm) : Option (Int32 × Mm) := c_I (fX11_isVane o a1 σ) (fun x3 σ1 => if x3 = 0 then (c_I (fX11_refuse o (1 : Int32) σ1) (fun x15 σ13 => b_z x15 σ13)) else (r_sc σ1 (tg (tg o 9) 1) 7 (fun x4 => c_I (fX11_with x4 a1 a2 σ1) (fun x7 σ5 => p_sc σ5 (tg (tg o 9) 1) 7 x7 (fun σ8 => c_I (fX11_agree o σ8) (fun x11 σ9 => b_z x11 σ9))))))
set_option maxRecDepth 100000 in
set_option maxHeartbeats 4000000 in
theorem ctX11_hold (l : Launch) (E : EV) (o : Nat) (a1 : Int32) (a2 : Int32) (ho : KD o = 11) (σ : Mm) {xr : Int32} {τ : Mm} (h : fX11_hold o a1 a2 σ = some (xr, τ)) : Ct l E mX11_hold 1 [.ref (e_a E o 0), .int a1, .int a2] σ (some (.int xr), τ) := by
  refine Ct.of (by decide +kernel) (Nat.le_of_ble_eq_true rfl) ?_
  show Jd l E mX11_hold 1 (some (.int xr), τ) σ 0 [(0, .ref (e_a E o 0)), (1, .int a1), (2, .int a2)] []
  unfold fX11_hold at h
  refine J_aload_n (pc := 0) 0 dX11_hold_0 rfl ?_
  refine J_iload_n (pc := 1) 1 dX11_hold_1 rfl ?_
  obtain ⟨x3, σ1, hc2, h⟩ := cI_t h
  refine J_cVi (pc := 2) (ctX11_isVane l E o a1 ho σ hc2) dX11_hold_2 mlX11_217 mvX11_isVane ho rfl (by decide) rfl (Nat.le_of_ble_eq_true rfl) ?_
  refine J_if_ne (pc := 5) 14 dX11_hold_5 (by decide) h (fun h => ?_) (fun h => ?_)
  · refine J_aload_n (pc := 14) 0 dX11_hold_14 rfl ?_
    refine J_getT (pc := 15) dX11_hold_15 ho flX11_50 rfl ?_
    refine J_getT (pc := 18) dX11_hold_18 (tk11_9 ho) flX11_177 rfl ?_
    refine J_aload_n (pc := 21) 0 dX11_hold_21 rfl ?_
    refine J_getT (pc := 22) dX11_hold_22 ho flX11_50 rfl ?_
    refine J_getT (pc := 25) dX11_hold_25 (tk11_9 ho) flX11_177 rfl ?_
    refine J_getI (pc := 28) dX11_hold_28 (tk7_1 (tk11_9 ho)) flX11_214 rfl h (fun x4 h => ?_)
    refine J_iload_n (pc := 31) 1 dX11_hold_31 rfl ?_
    refine J_iload_n (pc := 32) 2 dX11_hold_32 rfl ?_
    obtain ⟨x7, σ5, hc6, h⟩ := cI_t h
    refine J_cSi (pc := 33) (ctX11_with l E x4 a1 a2 σ1 hc6) dX11_hold_33 mlX11_275 msX11_with rfl (by decide) rfl (Nat.le_of_ble_eq_true rfl) ?_
    refine J_putI (pc := 36) dX11_hold_36 (tk7_1 (tk11_9 ho)) flX11_214 rfl h (fun σ8 h => ?_)
    refine J_aload_n (pc := 39) 0 dX11_hold_39 rfl ?_
    obtain ⟨x11, σ9, hc10, h⟩ := cI_t h
    refine J_cVi (pc := 40) (ctX11_agree l E o ho σ8 hc10) dX11_hold_40 mlX11_118 mvX11_agree ho rfl (by decide) rfl (Nat.le_of_ble_eq_true rfl) ?_
    obtain ⟨hz12, h⟩ := bz_t h
    cases h
    exact J_iret (pc := 43) dX11_hold_43 rfl hz12
  · refine J_aload_n (pc := 8) 0 dX11_hold_8 rfl ?_
    refine J_iconst (pc := 9) (1 : Int32) dX11_hold_9 (by decide) ?_
    obtain ⟨x15, σ13, hc14, h⟩ := cI_t h
    refine J_cVi (pc := 10) (ctX11_refuse l E o (1 : Int32) ho σ1 hc14) dX11_hold_10 mlX11_111 mvX11_refuse ho rfl (by decide) rfl (Nat.le_of_ble_eq_true rfl) ?_
    obtain ⟨hz16, h⟩ := bz_t h
    cases h
    exact J_iret (pc := 13) dX11_hold_13 rfl hz16
def fX11_pass (o : Nat) (a1 : Int32) (σ : Mm) : Option (Int32 × Mm) := if a1 < (1 : Int32) then (c_I (fX11_none o (1 : Int32) σ) (fun x3 σ1 => some (x3, σ1))) else (if a1 ≤ (99 : Int32) then (r_sc σ (tg (tg o 9) 1) 8 (fun x4 => if (x4 + a1) ≤ (9999 : Int32) then (c_V (fX11_workOnNow o σ) (fun σ5 => c_I (fX10_goOn (tg o 14) a1 σ5) (fun x9 σ7 => r_sc σ7 (tg (tg o 9) 1) 8 (fun x10 => p_sc σ7 (tg (tg o 9) 1) 8 (x10 + a1) (fun σ11 => r_sc σ11 (tg (tg o 9) 1) 8 (fun x12 => c_I (fX11_answer o x12 σ11) (fun x15 σ13 => some (x15, σ13)))))))) else (c_I (fX11_none o (4 : Int32) σ) (fun x18 σ16 => some (x18, σ16))))) else (c_I (fX11_none o (1 : Int32) σ) (fun x21 σ19 => some (x21, σ19))))
set_option maxRecDepth 100000 in
set_option maxHeartbeats 4000000 in
theorem ctX11_pass (l : Launch) (E : EV) (o : Nat) (a1 : Int32) (ho : KD o = 11) (σ : Mm) {xr : Int32} {τ : Mm} (h : fX11_pass o a1 σ = some (xr, τ)) : Ct l E mX11_pass 5 [.ref (e_a E o 0), .int a1] σ (some (.int xr), τ) := by
  refine Ct.of (by decide +kernel) (Nat.le_of_ble_eq_true rfl) ?_
  show Jd l E mX11_pass 5 (some (.int xr), τ) σ 0 [(0, .ref (e_a E o 0)), (1, .int a1)] []
  unfold fX11_pass at h
  refine J_iload_n (pc := 0) 1 dX11_pass_0 rfl ?_
  refine J_iconst (pc := 1) (1 : Int32) dX11_pass_1 (by decide) ?_
  refine J_icmp_lt (pc := 2) 11 dX11_pass_2 (by decide) h (fun h => ?_) (fun h => ?_)
  · refine J_aload_n (pc := 11) 0 dX11_pass_11 rfl ?_
    refine J_iconst (pc := 12) (1 : Int32) dX11_pass_12 (by decide) ?_
    obtain ⟨x3, σ1, hc2, h⟩ := cI_t h
    refine J_cVi (pc := 13) (ctX11_none l E o (1 : Int32) ho σ hc2) dX11_pass_13 mlX11_130 mvX11_none ho rfl (by decide) rfl (Nat.le_of_ble_eq_true rfl) ?_
    cases h
    exact J_iret (pc := 16) dX11_pass_16 rfl rfl
  · refine J_iload_n (pc := 5) 1 dX11_pass_5 rfl ?_
    refine J_bipush (pc := 6) (99 : Int32) dX11_pass_6 (by decide) ?_
    refine J_icmp_le (pc := 8) 17 dX11_pass_8 (by decide) h (fun h => ?_) (fun h => ?_)
    · refine J_aload_n (pc := 17) 0 dX11_pass_17 rfl ?_
      refine J_getT (pc := 18) dX11_pass_18 ho flX11_50 rfl ?_
      refine J_getT (pc := 21) dX11_pass_21 (tk11_9 ho) flX11_177 rfl ?_
      refine J_getI (pc := 24) dX11_pass_24 (tk7_1 (tk11_9 ho)) flX11_208 rfl h (fun x4 h => ?_)
      refine J_iload_n (pc := 27) 1 dX11_pass_27 rfl ?_
      refine J_iadd (pc := 28) dX11_pass_28 ?_
      refine J_sipush (pc := 29) (9999 : Int32) dX11_pass_29 (by decide) ?_
      refine J_icmp_le (pc := 32) 41 dX11_pass_32 (by decide) h (fun h => ?_) (fun h => ?_)
      · refine J_aload_n (pc := 41) 0 dX11_pass_41 rfl ?_
        obtain ⟨σ5, hc6, h⟩ := cV_t h
        refine J_cVv (pc := 42) (ctX11_workOnNow l E o ho σ hc6) dX11_pass_42 mlX11_257 mvX11_workOnNow ho rfl (by decide) rfl (Nat.le_of_ble_eq_true rfl) ?_
        refine J_aload_n (pc := 45) 0 dX11_pass_45 rfl ?_
        refine J_getT (pc := 46) dX11_pass_46 ho flX11_75 rfl ?_
        refine J_iload_n (pc := 49) 1 dX11_pass_49 rfl ?_
        obtain ⟨x9, σ7, hc8, h⟩ := cI_t h
        refine J_cVi (pc := 50) (ctX10_goOn l E (tg o 14) a1 (tk11_14 ho) σ5 hc8) dX11_pass_50 mlX11_279 mvX10_goOn (tk11_14 ho) rfl (by decide) rfl (Nat.le_of_ble_eq_true rfl) ?_
        refine J_pop (pc := 53) dX11_pass_53 rfl ?_
        refine J_aload_n (pc := 54) 0 dX11_pass_54 rfl ?_
        refine J_getT (pc := 55) dX11_pass_55 ho flX11_50 rfl ?_
        refine J_getT (pc := 58) dX11_pass_58 (tk11_9 ho) flX11_177 rfl ?_
        refine J_dup (pc := 61) dX11_pass_61 rfl ?_
        refine J_getI (pc := 62) dX11_pass_62 (tk7_1 (tk11_9 ho)) flX11_208 rfl h (fun x10 h => ?_)
        refine J_iload_n (pc := 65) 1 dX11_pass_65 rfl ?_
        refine J_iadd (pc := 66) dX11_pass_66 ?_
        refine J_putI (pc := 67) dX11_pass_67 (tk7_1 (tk11_9 ho)) flX11_208 rfl h (fun σ11 h => ?_)
        refine J_aload_n (pc := 70) 0 dX11_pass_70 rfl ?_
        refine J_aload_n (pc := 71) 0 dX11_pass_71 rfl ?_
        refine J_getT (pc := 72) dX11_pass_72 ho flX11_50 rfl ?_
        refine J_getT (pc := 75) dX11_pass_75 (tk11_9 ho) flX11_177 rfl ?_
        refine J_getI (pc := 78) dX11_pass_78 (tk7_1 (tk11_9 ho)) flX11_208 rfl h (fun x12 h => ?_)
        obtain ⟨x15, σ13, hc14, h⟩ := cI_t h
        refine J_cVi (pc := 81) (ctX11_answer l E o x12 ho σ11 hc14) dX11_pass_81 mlX11_193 mvX11_answer ho rfl (by decide) rfl (Nat.le_of_ble_eq_true rfl) ?_
        cases h
        exact J_iret (pc := 84) dX11_pass_84 rfl rfl
      · refine J_aload_n (pc := 35) 0 dX11_pass_35 rfl ?_
        refine J_iconst (pc := 36) (4 : Int32) dX11_pass_36 (by decide) ?_
        obtain ⟨x18, σ16, hc17, h⟩ := cI_t h
        refine J_cVi (pc := 37) (ctX11_none l E o (4 : Int32) ho σ hc17) dX11_pass_37 mlX11_130 mvX11_none ho rfl (by decide) rfl (Nat.le_of_ble_eq_true rfl) ?_
        cases h
        exact J_iret (pc := 40) dX11_pass_40 rfl rfl
    · refine J_aload_n (pc := 11) 0 dX11_pass_11 rfl ?_
      refine J_iconst (pc := 12) (1 : Int32) dX11_pass_12 (by decide) ?_
      obtain ⟨x21, σ19, hc20, h⟩ := cI_t h
      refine J_cVi (pc := 13) (ctX11_none l E o (1 : Int32) ho σ hc20) dX11_pass_13 mlX11_130 mvX11_none ho rfl (by decide) rfl (Nat.le_of_ble_eq_true rfl) ?_
      cases h
      exact J_iret (pc := 16) dX11_pass_16 rfl rfl
def fX11_turn (o : Nat) (a1 : Int32) (a2 : Int32) (σ : Mm) : Option (Int32 × Mm) := c_I (fX11_isVane o a1 σ) (fun x3 σ1 => if x3 = 0 then (c_I (fX11_none o (1 : Int32) σ1) (fun x6 σ4 => some (x6, σ4))) else (if a2 < (-99 : Int32) then (c_I (fX11_none o (1 : Int32) σ1) (fun x9 σ7 => some (x9, σ7))) else (if (99 : Int32) < a2 then (c_I (fX11_none o (1 : Int32) σ1) (fun x12 σ10 => some (x12, σ10))) else (if a2 = 0 then (c_I (fX11_none o (1 : Int32) σ1) (fun x23 σ21 => some (x23, σ21))) else (c_V (fX11_workOnNow o σ1) (fun σ13 => c_I (fX10_turnByHand (tg o 14) a1 a2 σ13) (fun x17 σ15 => c_I (fX11_answer o x17 σ15) (fun x20 σ18 => some (x20, σ18)))))))))
set_option maxRecDepth 100000 in
set_option maxHeartbeats 4000000 in
theorem ctX11_turn (l : Launch) (E : EV) (o : Nat) (a1 : Int32) (a2 : Int32) (ho : KD o = 11) (σ : Mm) {xr : Int32} {τ : Mm} (h : fX11_turn o a1 a2 σ = some (xr, τ)) : Ct l E mX11_turn 4 [.ref (e_a E o 0), .int a1, .int a2] σ (some (.int xr), τ) := by
  refine Ct.of (by decide +kernel) (Nat.le_of_ble_eq_true rfl) ?_
  show Jd l E mX11_turn 4 (some (.int xr), τ) σ 0 [(0, .ref (e_a E o 0)), (1, .int a1), (2, .int a2)] []
  unfold fX11_turn at h
  refine J_aload_n (pc := 0) 0 dX11_turn_0 rfl ?_
  refine J_iload_n (pc := 1) 1 dX11_turn_1 rfl ?_
  obtain ⟨x3, σ1, hc2, h⟩ := cI_t h
  refine J_cVi (pc := 2) (ctX11_isVane l E o a1 ho σ hc2) dX11_turn_2 mlX11_217 mvX11_isVane ho rfl (by decide) rfl (Nat.le_of_ble_eq_true rfl) ?_
  refine J_if_eq (pc := 5) 24 dX11_turn_5 (by decide) h (fun h => ?_) (fun h => ?_)
  · refine J_aload_n (pc := 24) 0 dX11_turn_24 rfl ?_
    refine J_iconst (pc := 25) (1 : Int32) dX11_turn_25 (by decide) ?_
    obtain ⟨x6, σ4, hc5, h⟩ := cI_t h
    refine J_cVi (pc := 26) (ctX11_none l E o (1 : Int32) ho σ1 hc5) dX11_turn_26 mlX11_130 mvX11_none ho rfl (by decide) rfl (Nat.le_of_ble_eq_true rfl) ?_
    cases h
    exact J_iret (pc := 29) dX11_turn_29 rfl rfl
  · refine J_iload_n (pc := 8) 2 dX11_turn_8 rfl ?_
    refine J_bipush (pc := 9) (-99 : Int32) dX11_turn_9 (by decide) ?_
    refine J_icmp_lt (pc := 11) 24 dX11_turn_11 (by decide) h (fun h => ?_) (fun h => ?_)
    · refine J_aload_n (pc := 24) 0 dX11_turn_24 rfl ?_
      refine J_iconst (pc := 25) (1 : Int32) dX11_turn_25 (by decide) ?_
      obtain ⟨x9, σ7, hc8, h⟩ := cI_t h
      refine J_cVi (pc := 26) (ctX11_none l E o (1 : Int32) ho σ1 hc8) dX11_turn_26 mlX11_130 mvX11_none ho rfl (by decide) rfl (Nat.le_of_ble_eq_true rfl) ?_
      cases h
      exact J_iret (pc := 29) dX11_turn_29 rfl rfl
    · refine J_iload_n (pc := 14) 2 dX11_turn_14 rfl ?_
      refine J_bipush (pc := 15) (99 : Int32) dX11_turn_15 (by decide) ?_
      refine J_icmp_gt (pc := 17) 24 dX11_turn_17 (by decide) h (fun h => ?_) (fun h => ?_)
      · refine J_aload_n (pc := 24) 0 dX11_turn_24 rfl ?_
        refine J_iconst (pc := 25) (1 : Int32) dX11_turn_25 (by decide) ?_
        obtain ⟨x12, σ10, hc11, h⟩ := cI_t h
        refine J_cVi (pc := 26) (ctX11_none l E o (1 : Int32) ho σ1 hc11) dX11_turn_26 mlX11_130 mvX11_none ho rfl (by decide) rfl (Nat.le_of_ble_eq_true rfl) ?_
        cases h
        exact J_iret (pc := 29) dX11_turn_29 rfl rfl
      · refine J_iload_n (pc := 20) 2 dX11_turn_20 rfl ?_
        refine J_if_ne (pc := 21) 30 dX11_turn_21 (by decide) h (fun h => ?_) (fun h => ?_)
        · refine J_aload_n (pc := 30) 0 dX11_turn_30 rfl ?_
          obtain ⟨σ13, hc14, h⟩ := cV_t h
          refine J_cVv (pc := 31) (ctX11_workOnNow l E o ho σ1 hc14) dX11_turn_31 mlX11_257 mvX11_workOnNow ho rfl (by decide) rfl (Nat.le_of_ble_eq_true rfl) ?_
          refine J_aload_n (pc := 34) 0 dX11_turn_34 rfl ?_
          refine J_aload_n (pc := 35) 0 dX11_turn_35 rfl ?_
          refine J_getT (pc := 36) dX11_turn_36 ho flX11_75 rfl ?_
          refine J_iload_n (pc := 39) 1 dX11_turn_39 rfl ?_
          refine J_iload_n (pc := 40) 2 dX11_turn_40 rfl ?_
          obtain ⟨x17, σ15, hc16, h⟩ := cI_t h
          refine J_cVi (pc := 41) (ctX10_turnByHand l E (tg o 14) a1 a2 (tk11_14 ho) σ13 hc16) dX11_turn_41 mlX11_282 mvX10_turnByHand (tk11_14 ho) rfl (by decide) rfl (Nat.le_of_ble_eq_true rfl) ?_
          obtain ⟨x20, σ18, hc19, h⟩ := cI_t h
          refine J_cVi (pc := 44) (ctX11_answer l E o x17 ho σ15 hc19) dX11_turn_44 mlX11_193 mvX11_answer ho rfl (by decide) rfl (Nat.le_of_ble_eq_true rfl) ?_
          cases h
          exact J_iret (pc := 47) dX11_turn_47 rfl rfl
        · refine J_aload_n (pc := 24) 0 dX11_turn_24 rfl ?_
          refine J_iconst (pc := 25) (1 : Int32) dX11_turn_25 (by decide) ?_
          obtain ⟨x23, σ21, hc22, h⟩ := cI_t h
          refine J_cVi (pc := 26) (ctX11_none l E o (1 : Int32) ho σ1 hc22) dX11_turn_26 mlX11_130 mvX11_none ho rfl (by decide) rfl (Nat.le_of_ble_eq_true rfl) ?_
          cases h
          exact J_iret (pc := 29) dX11_turn_29 rfl rfl
def fX11_drags (o : Nat) (a1 : Int32) (a2 : Int32) (σ : Mm) : Option (Int32 × Mm) := c_I (fX11_isVane o a1 σ) (fun x3 σ1 => if x3 = 0 then (c_I (fX11_none o (1 : Int32) σ1) (fun x6 σ4 => some (x6, σ4))) else (if a2 = (1 : Int32) then (c_V (fX11_workOnNow o σ1) (fun σ7 => c_I (fX10_engage (tg o 14) a1 a2 σ7) (fun x11 σ9 => if x11 = 0 then (c_I (fX11_none o (7 : Int32) σ9) (fun x14 σ12 => some (x14, σ12))) else (r_sc σ9 (tg o 14) 4 (fun x15 => c_I (fX11_answer o x15 σ9) (fun x18 σ16 => some (x18, σ16))))))) else (if a2 = (-1 : Int32) then (c_V (fX11_workOnNow o σ1) (fun σ19 => c_I (fX10_engage (tg o 14) a1 a2 σ19) (fun x23 σ21 => if x23 = 0 then (c_I (fX11_none o (7 : Int32) σ21) (fun x26 σ24 => some (x26, σ24))) else (r_sc σ21 (tg o 14) 4 (fun x27 => c_I (fX11_answer o x27 σ21) (fun x30 σ28 => some (x30, σ28))))))) else (c_I (fX11_none o (1 : Int32) σ1) (fun x33 σ31 => some (x33, σ31))))))
set_option maxRecDepth 100000 in
set_option maxHeartbeats 4000000 in
theorem ctX11_drags (l : Launch) (E : EV) (o : Nat) (a1 : Int32) (a2 : Int32) (ho : KD o = 11) (σ : Mm) {xr : Int32} {τ : Mm} (h : fX11_drags o a1 a2 σ = some (xr, τ)) : Ct l E mX11_drags 3 [.ref (e_a E o 0), .int a1, .int a2] σ (some (.int xr), τ) := by
  refine Ct.of (by decide +kernel) (Nat.le_of_ble_eq_true rfl) ?_
  show Jd l E mX11_drags 3 (some (.int xr), τ) σ 0 [(0, .ref (e_a E o 0)), (1, .int a1), (2, .int a2)] []
  unfold fX11_drags at h
  refine J_aload_n (pc := 0) 0 dX11_drags_0 rfl ?_
  refine J_iload_n (pc := 1) 1 dX11_drags_1 rfl ?_
  obtain ⟨x3, σ1, hc2, h⟩ := cI_t h
  refine J_cVi (pc := 2) (ctX11_isVane l E o a1 ho σ hc2) dX11_drags_2 mlX11_217 mvX11_isVane ho rfl (by decide) rfl (Nat.le_of_ble_eq_true rfl) ?_
  refine J_if_eq (pc := 5) 18 dX11_drags_5 (by decide) h (fun h => ?_) (fun h => ?_)
  · refine J_aload_n (pc := 18) 0 dX11_drags_18 rfl ?_
    refine J_iconst (pc := 19) (1 : Int32) dX11_drags_19 (by decide) ?_
    obtain ⟨x6, σ4, hc5, h⟩ := cI_t h
    refine J_cVi (pc := 20) (ctX11_none l E o (1 : Int32) ho σ1 hc5) dX11_drags_20 mlX11_130 mvX11_none ho rfl (by decide) rfl (Nat.le_of_ble_eq_true rfl) ?_
    cases h
    exact J_iret (pc := 23) dX11_drags_23 rfl rfl
  · refine J_iload_n (pc := 8) 2 dX11_drags_8 rfl ?_
    refine J_iconst (pc := 9) (1 : Int32) dX11_drags_9 (by decide) ?_
    refine J_icmp_eq (pc := 10) 24 dX11_drags_10 (by decide) h (fun h => ?_) (fun h => ?_)
    · refine J_aload_n (pc := 24) 0 dX11_drags_24 rfl ?_
      obtain ⟨σ7, hc8, h⟩ := cV_t h
      refine J_cVv (pc := 25) (ctX11_workOnNow l E o ho σ1 hc8) dX11_drags_25 mlX11_257 mvX11_workOnNow ho rfl (by decide) rfl (Nat.le_of_ble_eq_true rfl) ?_
      refine J_aload_n (pc := 28) 0 dX11_drags_28 rfl ?_
      refine J_getT (pc := 29) dX11_drags_29 ho flX11_75 rfl ?_
      refine J_iload_n (pc := 32) 1 dX11_drags_32 rfl ?_
      refine J_iload_n (pc := 33) 2 dX11_drags_33 rfl ?_
      obtain ⟨x11, σ9, hc10, h⟩ := cI_t h
      refine J_cVi (pc := 34) (ctX10_engage l E (tg o 14) a1 a2 (tk11_14 ho) σ7 hc10) dX11_drags_34 mlX11_285 mvX10_engage (tk11_14 ho) rfl (by decide) rfl (Nat.le_of_ble_eq_true rfl) ?_
      refine J_if_eq (pc := 37) 54 dX11_drags_37 (by decide) h (fun h => ?_) (fun h => ?_)
      · refine J_aload_n (pc := 54) 0 dX11_drags_54 rfl ?_
        refine J_bipush (pc := 55) (7 : Int32) dX11_drags_55 (by decide) ?_
        obtain ⟨x14, σ12, hc13, h⟩ := cI_t h
        refine J_cVi (pc := 57) (ctX11_none l E o (7 : Int32) ho σ9 hc13) dX11_drags_57 mlX11_130 mvX11_none ho rfl (by decide) rfl (Nat.le_of_ble_eq_true rfl) ?_
        cases h
        exact J_iret (pc := 60) dX11_drags_60 rfl rfl
      · refine J_aload_n (pc := 40) 0 dX11_drags_40 rfl ?_
        refine J_aload_n (pc := 41) 0 dX11_drags_41 rfl ?_
        refine J_getT (pc := 42) dX11_drags_42 ho flX11_75 rfl ?_
        refine J_getI (pc := 45) dX11_drags_45 (tk11_14 ho) flX11_288 rfl h (fun x15 h => ?_)
        obtain ⟨x18, σ16, hc17, h⟩ := cI_t h
        refine J_cVi (pc := 48) (ctX11_answer l E o x15 ho σ9 hc17) dX11_drags_48 mlX11_193 mvX11_answer ho rfl (by decide) rfl (Nat.le_of_ble_eq_true rfl) ?_
        refine J_goto (pc := 51) 60 dX11_drags_51 (by decide) ?_
        cases h
        exact J_iret (pc := 60) dX11_drags_60 rfl rfl
    · refine J_iload_n (pc := 13) 2 dX11_drags_13 rfl ?_
      refine J_iconst (pc := 14) (-1 : Int32) dX11_drags_14 (by decide) ?_
      refine J_icmp_eq (pc := 15) 24 dX11_drags_15 (by decide) h (fun h => ?_) (fun h => ?_)
      · refine J_aload_n (pc := 24) 0 dX11_drags_24 rfl ?_
        obtain ⟨σ19, hc20, h⟩ := cV_t h
        refine J_cVv (pc := 25) (ctX11_workOnNow l E o ho σ1 hc20) dX11_drags_25 mlX11_257 mvX11_workOnNow ho rfl (by decide) rfl (Nat.le_of_ble_eq_true rfl) ?_
        refine J_aload_n (pc := 28) 0 dX11_drags_28 rfl ?_
        refine J_getT (pc := 29) dX11_drags_29 ho flX11_75 rfl ?_
        refine J_iload_n (pc := 32) 1 dX11_drags_32 rfl ?_
        refine J_iload_n (pc := 33) 2 dX11_drags_33 rfl ?_
        obtain ⟨x23, σ21, hc22, h⟩ := cI_t h
        refine J_cVi (pc := 34) (ctX10_engage l E (tg o 14) a1 a2 (tk11_14 ho) σ19 hc22) dX11_drags_34 mlX11_285 mvX10_engage (tk11_14 ho) rfl (by decide) rfl (Nat.le_of_ble_eq_true rfl) ?_
        refine J_if_eq (pc := 37) 54 dX11_drags_37 (by decide) h (fun h => ?_) (fun h => ?_)
        · refine J_aload_n (pc := 54) 0 dX11_drags_54 rfl ?_
          refine J_bipush (pc := 55) (7 : Int32) dX11_drags_55 (by decide) ?_
          obtain ⟨x26, σ24, hc25, h⟩ := cI_t h
          refine J_cVi (pc := 57) (ctX11_none l E o (7 : Int32) ho σ21 hc25) dX11_drags_57 mlX11_130 mvX11_none ho rfl (by decide) rfl (Nat.le_of_ble_eq_true rfl) ?_
          cases h
          exact J_iret (pc := 60) dX11_drags_60 rfl rfl
        · refine J_aload_n (pc := 40) 0 dX11_drags_40 rfl ?_
          refine J_aload_n (pc := 41) 0 dX11_drags_41 rfl ?_
          refine J_getT (pc := 42) dX11_drags_42 ho flX11_75 rfl ?_
          refine J_getI (pc := 45) dX11_drags_45 (tk11_14 ho) flX11_288 rfl h (fun x27 h => ?_)
          obtain ⟨x30, σ28, hc29, h⟩ := cI_t h
          refine J_cVi (pc := 48) (ctX11_answer l E o x27 ho σ21 hc29) dX11_drags_48 mlX11_193 mvX11_answer ho rfl (by decide) rfl (Nat.le_of_ble_eq_true rfl) ?_
          refine J_goto (pc := 51) 60 dX11_drags_51 (by decide) ?_
          cases h
          exact J_iret (pc := 60) dX11_drags_60 rfl rfl
      · refine J_aload_n (pc := 18) 0 dX11_drags_18 rfl ?_
        refine J_iconst (pc := 19) (1 : Int32) dX11_drags_19 (by decide) ?_
        obtain ⟨x33, σ31, hc32, h⟩ := cI_t h
        refine J_cVi (pc := 20) (ctX11_none l E o (1 : Int32) ho σ1 hc32) dX11_drags_20 mlX11_130 mvX11_none ho rfl (by decide) rfl (Nat.le_of_ble_eq_true rfl) ?_
        cases h
        exact J_iret (pc := 23) dX11_drags_23 rfl rfl
def fX11_joined (o : Nat) (a1 : Int32) (σ : Mm) : Option (Int32 × Mm) := c_I (fX11_isVane o a1 σ) (fun x3 σ1 => if x3 = 0 then (c_I (fX11_none o (1 : Int32) σ1) (fun x14 σ12 => some (x14, σ12))) else (r_rf σ1 (tg o 9) 0 2 (fun q4 => r_sc σ1 (tg (tg o 9) 1) 6 (fun x5 => c_V (fX0_search (tg o 16) q4 x5 a1 σ1) (fun σ6 => r_sc σ6 (tg o 16) 2 (fun x8 => c_I (fX11_answer o x8 σ6) (fun x11 σ9 => some (x11, σ9))))))))
set_option maxRecDepth 100000 in
set_option maxHeartbeats 4000000 in
theorem ctX11_joined (l : Launch) (E : EV) (o : Nat) (a1 : Int32) (ho : KD o = 11) (σ : Mm) {xr : Int32} {τ : Mm} (h : fX11_joined o a1 σ = some (xr, τ)) : Ct l E mX11_joined 4 [.ref (e_a E o 0), .int a1] σ (some (.int xr), τ) := by
  refine Ct.of (by decide +kernel) (Nat.le_of_ble_eq_true rfl) ?_
  show Jd l E mX11_joined 4 (some (.int xr), τ) σ 0 [(0, .ref (e_a E o 0)), (1, .int a1)] []
  unfold fX11_joined at h
  refine J_aload_n (pc := 0) 0 dX11_joined_0 rfl ?_
  refine J_iload_n (pc := 1) 1 dX11_joined_1 rfl ?_
  obtain ⟨x3, σ1, hc2, h⟩ := cI_t h
  refine J_cVi (pc := 2) (ctX11_isVane l E o a1 ho σ hc2) dX11_joined_2 mlX11_217 mvX11_isVane ho rfl (by decide) rfl (Nat.le_of_ble_eq_true rfl) ?_
  refine J_if_ne (pc := 5) 14 dX11_joined_5 (by decide) h (fun h => ?_) (fun h => ?_)
  · refine J_aload_n (pc := 14) 0 dX11_joined_14 rfl ?_
    refine J_getT (pc := 15) dX11_joined_15 ho flX11_89 rfl ?_
    refine J_aload_n (pc := 18) 0 dX11_joined_18 rfl ?_
    refine J_getT (pc := 19) dX11_joined_19 ho flX11_50 rfl ?_
    refine J_getR (pc := 22) dX11_joined_22 (tk11_9 ho) flX11_174 rfl h (fun q4 hq4 h => ?_)
    refine J_aload_n (pc := 25) 0 dX11_joined_25 rfl ?_
    refine J_getT (pc := 26) dX11_joined_26 ho flX11_50 rfl ?_
    refine J_getT (pc := 29) dX11_joined_29 (tk11_9 ho) flX11_177 rfl ?_
    refine J_getI (pc := 32) dX11_joined_32 (tk7_1 (tk11_9 ho)) flX11_211 rfl h (fun x5 h => ?_)
    refine J_iload_n (pc := 35) 1 dX11_joined_35 rfl ?_
    obtain ⟨σ6, hc7, h⟩ := cV_t h
    refine J_cVv (pc := 36) (ctX0_search l E (tg o 16) q4 x5 a1 (tk11_16 ho) hq4 σ1 hc7) dX11_joined_36 mlX11_291 mvX0_search (tk11_16 ho) rfl (by decide) rfl (Nat.le_of_ble_eq_true rfl) ?_
    refine J_aload_n (pc := 39) 0 dX11_joined_39 rfl ?_
    refine J_aload_n (pc := 40) 0 dX11_joined_40 rfl ?_
    refine J_getT (pc := 41) dX11_joined_41 ho flX11_89 rfl ?_
    refine J_getI (pc := 44) dX11_joined_44 (tk11_16 ho) flX11_295 rfl h (fun x8 h => ?_)
    obtain ⟨x11, σ9, hc10, h⟩ := cI_t h
    refine J_cVi (pc := 47) (ctX11_answer l E o x8 ho σ6 hc10) dX11_joined_47 mlX11_193 mvX11_answer ho rfl (by decide) rfl (Nat.le_of_ble_eq_true rfl) ?_
    cases h
    exact J_iret (pc := 50) dX11_joined_50 rfl rfl
  · refine J_aload_n (pc := 8) 0 dX11_joined_8 rfl ?_
    refine J_iconst (pc := 9) (1 : Int32) dX11_joined_9 (by decide) ?_
    obtain ⟨x14, σ12, hc13, h⟩ := cI_t h
    refine J_cVi (pc := 10) (ctX11_none l E o (1 : Int32) ho σ1 hc13) dX11_joined_10 mlX11_130 mvX11_none ho rfl (by decide) rfl (Nat.le_of_ble_eq_true rfl) ?_
    cases h
    exact J_iret (pc := 13) dX11_joined_13 rfl rfl
def fX11_greatestDivisor_9 (a1 : Int64) (a2 : Int64) : Nat → Int64 → Int64 → Int32 → Mm → Option (Int64 × Mm)
  | 0, _, _, _, _ => none
  | n + 1, v4, v6, v8, σ => if (200 : Int32) ≤ v8 then (some (v4, σ)) else (if (lg_cmp v6 (0 : Int64)) = 0 then (some (v4, σ)) else (n_zl v6 ((fX11_greatestDivisor_9 a1 a2 n) v6 (v4 - v4 / v6 * v6) (v8 + (1 : Int32)) σ)))
set_option maxRecDepth 100000 in
set_option maxHeartbeats 4000000 in
theorem tX11_greatestDivisor_9 (l : Launch) (E : EV) {xr : Int64} {τ : Mm} (a1 : Int64) (a2 : Int64) : ∀ (n : Nat) (v4 : Int64) (v6 : Int64) (v8 : Int32) (σ : Mm), fX11_greatestDivisor_9 a1 a2 n v4 v6 v8 σ = some (xr, τ) → Jd l E mX11_greatestDivisor 0 (some (.long xr), τ) σ 9 [(4, .long v4), (6, .long v6), (8, .int v8)] [] := by
  intro n
  induction n with
  | zero => intro v4 v6 v8 σ h; rw [fX11_greatestDivisor_9] at h; cases h
  | succ n ih =>
    intro v4 v6 v8 σ h
    rw [fX11_greatestDivisor_9] at h
    refine J_iload (pc := 9) 2 dX11_greatestDivisor_9 rfl ?_
    refine J_sipush (pc := 11) (200 : Int32) dX11_greatestDivisor_11 (by decide) ?_
    refine J_icmp_ge (pc := 14) 45 dX11_greatestDivisor_14 (by decide) h (fun h => ?_) (fun h => ?_)
    · refine J_lload (pc := 45) 0 dX11_greatestDivisor_45 rfl ?_
      cases h
      exact J_lret (pc := 47) dX11_greatestDivisor_47 rfl
    · refine J_lload (pc := 17) 1 dX11_greatestDivisor_17 rfl ?_
      refine J_lconst (pc := 19) (0 : Int64) dX11_greatestDivisor_19 (by decide) ?_
      refine J_lcmp (pc := 20) dX11_greatestDivisor_20 ?_
      refine J_if_eq (pc := 21) 45 dX11_greatestDivisor_21 (by decide) h (fun h => ?_) (fun h => ?_)
      · refine J_lload (pc := 45) 0 dX11_greatestDivisor_45 rfl ?_
        cases h
        exact J_lret (pc := 47) dX11_greatestDivisor_47 rfl
      · refine J_lload (pc := 24) 0 dX11_greatestDivisor_24 rfl ?_
        refine J_lload (pc := 26) 1 dX11_greatestDivisor_26 rfl ?_
        obtain ⟨hz1, h⟩ := nzl_t h
        refine J_lrem (pc := 28) dX11_greatestDivisor_28 hz1 ?_
        refine J_lstore (pc := 29) (L' := [(9, .long (v4 - v4 / v6 * v6)), (4, .long v4), (6, .long v6), (8, .int v8)]) dX11_greatestDivisor_29 (by decide) rfl ?_
        refine J_lload (pc := 31) 2 dX11_greatestDivisor_31 rfl ?_
        refine J_lstore (pc := 33) (L' := [(4, .long v6), (9, .long (v4 - v4 / v6 * v6)), (6, .long v6), (8, .int v8)]) dX11_greatestDivisor_33 (by decide) rfl ?_
        refine J_lload (pc := 35) 1 dX11_greatestDivisor_35 rfl ?_
        refine J_lstore (pc := 37) (L' := [(6, .long (v4 - v4 / v6 * v6)), (4, .long v6), (9, .long (v4 - v4 / v6 * v6)), (8, .int v8)]) dX11_greatestDivisor_37 (by decide) rfl ?_
        refine J_iinc (pc := 39) (L' := [(8, .int (v8 + (1 : Int32))), (6, .long (v4 - v4 / v6 * v6)), (4, .long v6), (9, .long (v4 - v4 / v6 * v6))]) 3 (v8 + (1 : Int32)) dX11_greatestDivisor_39 rfl (by rfl) (by decide) rfl ?_
        refine J_goto (pc := 42) 9 dX11_greatestDivisor_42 (by decide) ?_
        refine J_sub (L' := [(4, .long v6), (6, .long (v4 - v4 / v6 * v6)), (8, .int (v8 + (1 : Int32)))]) [2, 1, 0] rfl ?_
        exact ih v6 (v4 - v4 / v6 * v6) (v8 + (1 : Int32)) σ h
def fX11_greatestDivisor (a1 : Int64) (a2 : Int64) (σ : Mm) : Option (Int64 × Mm) := fX11_greatestDivisor_9 a1 a2 FU a1 a2 (0 : Int32) σ
set_option maxRecDepth 100000 in
set_option maxHeartbeats 4000000 in
theorem ctX11_greatestDivisor (l : Launch) (E : EV) (a1 : Int64) (a2 : Int64) (σ : Mm) {xr : Int64} {τ : Mm} (h : fX11_greatestDivisor a1 a2 σ = some (xr, τ)) : Ct l E mX11_greatestDivisor 0 [.long a1, .long a2] σ (some (.long xr), τ) := by
  refine Ct.of (by decide +kernel) (Nat.le_of_ble_eq_true rfl) ?_
  show Jd l E mX11_greatestDivisor 0 (some (.long xr), τ) σ 0 [(0, .long a1), (2, .long a2)] []
  unfold fX11_greatestDivisor at h
  refine J_lload_n (pc := 0) 0 dX11_greatestDivisor_0 rfl ?_
  refine J_lstore (pc := 1) (L' := [(4, .long a1), (0, .long a1), (2, .long a2)]) dX11_greatestDivisor_1 (by decide) rfl ?_
  refine J_lload_n (pc := 3) 2 dX11_greatestDivisor_3 rfl ?_
  refine J_lstore (pc := 4) (L' := [(6, .long a2), (4, .long a1), (0, .long a1), (2, .long a2)]) dX11_greatestDivisor_4 (by decide) rfl ?_
  refine J_iconst (pc := 6) (0 : Int32) dX11_greatestDivisor_6 (by decide) ?_
  refine J_istore (pc := 7) (L' := [(8, .int (0 : Int32)), (6, .long a2), (4, .long a1), (0, .long a1), (2, .long a2)]) dX11_greatestDivisor_7 (by decide) rfl ?_
  refine J_sub (L' := [(4, .long a1), (6, .long a2), (8, .int (0 : Int32))]) [2, 1, 0] rfl ?_
  exact tX11_greatestDivisor_9 l E a1 a2 FU a1 a2 (0 : Int32) σ h
def fX11_tellFraction (o : Nat) (a1 : Int64) (a2 : Int64) (σ : Mm) : Option (Mm) := c_L (fX11_greatestDivisor (if 0 < a1 then a1 else -a1) a2 σ) (fun x3 σ1 => if (lg_cmp x3 (0 : Int64)) = 0 then (some σ1) else (n_zl x3 (p_lg σ1 o 1 (a1 / x3) (fun σ4 => n_zl x3 (p_lg σ4 o 2 (a2 / x3) (fun σ5 => some σ5))))))
set_option maxRecDepth 100000 in
set_option maxHeartbeats 4000000 in
theorem ctX11_tellFraction (l : Launch) (E : EV) (o : Nat) (a1 : Int64) (a2 : Int64) (ho : KD o = 11) (σ : Mm) {τ : Mm} (h : fX11_tellFraction o a1 a2 σ = some τ) : Ct l E mX11_tellFraction 1 [.ref (e_a E o 0), .long a1, .long a2] σ (none, τ) := by
  refine Ct.of (by decide +kernel) (Nat.le_of_ble_eq_true rfl) ?_
  show Jd l E mX11_tellFraction 1 (none, τ) σ 0 [(0, .ref (e_a E o 0)), (1, .long a1), (3, .long a2)] []
  unfold fX11_tellFraction at h
  refine J_lload_n (pc := 0) 1 dX11_tellFraction_0 rfl ?_
  refine J_mabsl (pc := 1) dX11_tellFraction_1 mmX11_432 (by decide) (Nat.le_of_ble_eq_true rfl) ?_
  refine J_lload_n (pc := 4) 2 dX11_tellFraction_4 rfl ?_
  obtain ⟨x3, σ1, hc2, h⟩ := cL_t h
  refine J_cSl (pc := 5) (ctX11_greatestDivisor l E (if 0 < a1 then a1 else -a1) a2 σ hc2) dX11_tellFraction_5 mlX11_436 msX11_greatestDivisor rfl (by decide) rfl (Nat.le_of_ble_eq_true rfl) ?_
  refine J_lstore (pc := 8) (L' := [(5, .long x3), (0, .ref (e_a E o 0)), (1, .long a1), (3, .long a2)]) dX11_tellFraction_8 (by decide) rfl ?_
  refine J_lload (pc := 10) 0 dX11_tellFraction_10 rfl ?_
  refine J_lconst (pc := 12) (0 : Int64) dX11_tellFraction_12 (by decide) ?_
  refine J_lcmp (pc := 13) dX11_tellFraction_13 ?_
  refine J_if_ne (pc := 14) 18 dX11_tellFraction_14 (by decide) h (fun h => ?_) (fun h => ?_)
  · refine J_aload_n (pc := 18) 1 dX11_tellFraction_18 rfl ?_
    refine J_lload_n (pc := 19) 2 dX11_tellFraction_19 rfl ?_
    refine J_lload (pc := 20) 0 dX11_tellFraction_20 rfl ?_
    obtain ⟨hz7, h⟩ := nzl_t h
    refine J_ldiv (pc := 22) dX11_tellFraction_22 hz7 ?_
    refine J_putL (pc := 23) dX11_tellFraction_23 ho flX11_104 rfl h (fun σ4 h => ?_)
    refine J_aload_n (pc := 26) 1 dX11_tellFraction_26 rfl ?_
    refine J_lload_n (pc := 27) 3 dX11_tellFraction_27 rfl ?_
    refine J_lload (pc := 28) 0 dX11_tellFraction_28 rfl ?_
    obtain ⟨hz6, h⟩ := nzl_t h
    refine J_ldiv (pc := 30) dX11_tellFraction_30 hz6 ?_
    refine J_putL (pc := 31) dX11_tellFraction_31 ho flX11_7 rfl h (fun σ5 h => ?_)
    cases h
    exact J_vret (pc := 34) dX11_tellFraction_34 rfl
  · cases h
    exact J_vret (pc := 17) dX11_tellFraction_17 rfl
def fX11_ratio (o : Nat) (a1 : Int32) (a2 : Int32) (σ : Mm) : Option (Int32 × Mm) := c_I (fX11_isVane o a1 σ) (fun x3 σ1 => if x3 = 0 then (c_I (fX11_refuse o (1 : Int32) σ1) (fun x6 σ4 => b_z x6 σ4)) else (c_I (fX11_isVane o a2 σ1) (fun x10 σ8 => if x10 = 0 then (c_I (fX11_refuse o (1 : Int32) σ8) (fun x36 σ34 => b_z x36 σ34)) else (r_rf σ8 (tg o 9) 0 2 (fun q11 => r_sc σ8 (tg (tg o 9) 1) 6 (fun x12 => c_V (fX0_search (tg o 16) q11 x12 a1 σ8) (fun σ13 => r_sc σ13 (tg o 16) 2 (fun x15 => c_I (fX11_has x15 a2 σ13) (fun x18 σ16 => if x18 = 0 then (c_I (fX11_refuse o (7 : Int32) σ16) (fun x32 σ30 => b_z x32 σ30)) else (g_ar σ16 (tg o 16) 0 8 a2 (fun x19 => r_rf σ16 (tg o 9) 0 2 (fun q20 => g_ar σ16 q20 3 8 a1 (fun x21 => r_rf σ16 (tg o 9) 0 2 (fun q22 => g_ar σ16 q22 3 8 a2 (fun x23 => c_V (fX11_tellFraction o (x19.toInt64 * x21.toInt64) x23.toInt64 σ16) (fun σ24 => c_I (fX11_agree o σ24) (fun x28 σ26 => b_z x28 σ26)))))))))))))))))
set_option maxRecDepth 100000 in
set_option maxHeartbeats 4000000 in
theorem ctX11_ratio (l : Launch) (E : EV) (o : Nat) (a1 : Int32) (a2 : Int32) (ho : KD o = 11) (σ : Mm) {xr : Int32} {τ : Mm} (h : fX11_ratio o a1 a2 σ = some (xr, τ)) : Ct l E mX11_ratio 4 [.ref (e_a E o 0), .int a1, .int a2] σ (some (.int xr), τ) := by
  refine Ct.of (by decide +kernel) (Nat.le_of_ble_eq_true rfl) ?_
  show Jd l E mX11_ratio 4 (some (.int xr), τ) σ 0 [(0, .ref (e_a E o 0)), (1, .int a1), (2, .int a2)] []
  unfold fX11_ratio at h
  refine J_aload_n (pc := 0) 0 dX11_ratio_0 rfl ?_
  refine J_iload_n (pc := 1) 1 dX11_ratio_1 rfl ?_
  obtain ⟨x3, σ1, hc2, h⟩ := cI_t h
  refine J_cVi (pc := 2) (ctX11_isVane l E o a1 ho σ hc2) dX11_ratio_2 mlX11_217 mvX11_isVane ho rfl (by decide) rfl (Nat.le_of_ble_eq_true rfl) ?_
  refine J_if_eq (pc := 5) 16 dX11_ratio_5 (by decide) h (fun h => ?_) (fun h => ?_)
  · refine J_aload_n (pc := 16) 0 dX11_ratio_16 rfl ?_
    refine J_iconst (pc := 17) (1 : Int32) dX11_ratio_17 (by decide) ?_
    obtain ⟨x6, σ4, hc5, h⟩ := cI_t h
    refine J_cVi (pc := 18) (ctX11_refuse l E o (1 : Int32) ho σ1 hc5) dX11_ratio_18 mlX11_111 mvX11_refuse ho rfl (by decide) rfl (Nat.le_of_ble_eq_true rfl) ?_
    obtain ⟨hz7, h⟩ := bz_t h
    cases h
    exact J_iret (pc := 21) dX11_ratio_21 rfl hz7
  · refine J_aload_n (pc := 8) 0 dX11_ratio_8 rfl ?_
    refine J_iload_n (pc := 9) 2 dX11_ratio_9 rfl ?_
    obtain ⟨x10, σ8, hc9, h⟩ := cI_t h
    refine J_cVi (pc := 10) (ctX11_isVane l E o a2 ho σ1 hc9) dX11_ratio_10 mlX11_217 mvX11_isVane ho rfl (by decide) rfl (Nat.le_of_ble_eq_true rfl) ?_
    refine J_if_ne (pc := 13) 22 dX11_ratio_13 (by decide) h (fun h => ?_) (fun h => ?_)
    · refine J_aload_n (pc := 22) 0 dX11_ratio_22 rfl ?_
      refine J_getT (pc := 23) dX11_ratio_23 ho flX11_89 rfl ?_
      refine J_aload_n (pc := 26) 0 dX11_ratio_26 rfl ?_
      refine J_getT (pc := 27) dX11_ratio_27 ho flX11_50 rfl ?_
      refine J_getR (pc := 30) dX11_ratio_30 (tk11_9 ho) flX11_174 rfl h (fun q11 hq11 h => ?_)
      refine J_aload_n (pc := 33) 0 dX11_ratio_33 rfl ?_
      refine J_getT (pc := 34) dX11_ratio_34 ho flX11_50 rfl ?_
      refine J_getT (pc := 37) dX11_ratio_37 (tk11_9 ho) flX11_177 rfl ?_
      refine J_getI (pc := 40) dX11_ratio_40 (tk7_1 (tk11_9 ho)) flX11_211 rfl h (fun x12 h => ?_)
      refine J_iload_n (pc := 43) 1 dX11_ratio_43 rfl ?_
      obtain ⟨σ13, hc14, h⟩ := cV_t h
      refine J_cVv (pc := 44) (ctX0_search l E (tg o 16) q11 x12 a1 (tk11_16 ho) hq11 σ8 hc14) dX11_ratio_44 mlX11_291 mvX0_search (tk11_16 ho) rfl (by decide) rfl (Nat.le_of_ble_eq_true rfl) ?_
      refine J_aload_n (pc := 47) 0 dX11_ratio_47 rfl ?_
      refine J_getT (pc := 48) dX11_ratio_48 ho flX11_89 rfl ?_
      refine J_getI (pc := 51) dX11_ratio_51 (tk11_16 ho) flX11_295 rfl h (fun x15 h => ?_)
      refine J_iload_n (pc := 54) 2 dX11_ratio_54 rfl ?_
      obtain ⟨x18, σ16, hc17, h⟩ := cI_t h
      refine J_cSi (pc := 55) (ctX11_has l E x15 a2 σ13 hc17) dX11_ratio_55 mlX11_298 msX11_has rfl (by decide) rfl (Nat.le_of_ble_eq_true rfl) ?_
      refine J_if_ne (pc := 58) 68 dX11_ratio_58 (by decide) h (fun h => ?_) (fun h => ?_)
      · refine J_aload_n (pc := 68) 0 dX11_ratio_68 rfl ?_
        refine J_aload_n (pc := 69) 0 dX11_ratio_69 rfl ?_
        refine J_getT (pc := 70) dX11_ratio_70 ho flX11_89 rfl ?_
        refine J_getA (pc := 73) dX11_ratio_73 (tk11_16 ho) flX11_301 rfl ?_
        refine J_iload_n (pc := 76) 2 dX11_ratio_76 rfl ?_
        refine J_iald (pc := 77) dX11_ratio_77 (tk11_16 ho) ha0_0 h (fun x19 h => ?_)
        refine J_i2l (pc := 78) dX11_ratio_78 ?_
        refine J_aload_n (pc := 79) 0 dX11_ratio_79 rfl ?_
        refine J_getT (pc := 80) dX11_ratio_80 ho flX11_50 rfl ?_
        refine J_getR (pc := 83) dX11_ratio_83 (tk11_9 ho) flX11_174 rfl h (fun q20 hq20 h => ?_)
        refine J_getA (pc := 86) dX11_ratio_86 hq20 flX11_220 rfl ?_
        refine J_iload_n (pc := 89) 1 dX11_ratio_89 rfl ?_
        refine J_iald (pc := 90) dX11_ratio_90 hq20 ha2_3 h (fun x21 h => ?_)
        refine J_i2l (pc := 91) dX11_ratio_91 ?_
        refine J_lmul (pc := 92) dX11_ratio_92 ?_
        refine J_aload_n (pc := 93) 0 dX11_ratio_93 rfl ?_
        refine J_getT (pc := 94) dX11_ratio_94 ho flX11_50 rfl ?_
        refine J_getR (pc := 97) dX11_ratio_97 (tk11_9 ho) flX11_174 rfl h (fun q22 hq22 h => ?_)
        refine J_getA (pc := 100) dX11_ratio_100 hq22 flX11_220 rfl ?_
        refine J_iload_n (pc := 103) 2 dX11_ratio_103 rfl ?_
        refine J_iald (pc := 104) dX11_ratio_104 hq22 ha2_3 h (fun x23 h => ?_)
        refine J_i2l (pc := 105) dX11_ratio_105 ?_
        obtain ⟨σ24, hc25, h⟩ := cV_t h
        refine J_cVv (pc := 106) (ctX11_tellFraction l E o (x19.toInt64 * x21.toInt64) x23.toInt64 ho σ16 hc25) dX11_ratio_106 mlX11_304 mvX11_tellFraction ho rfl (by decide) rfl (Nat.le_of_ble_eq_true rfl) ?_
        refine J_aload_n (pc := 109) 0 dX11_ratio_109 rfl ?_
        obtain ⟨x28, σ26, hc27, h⟩ := cI_t h
        refine J_cVi (pc := 110) (ctX11_agree l E o ho σ24 hc27) dX11_ratio_110 mlX11_118 mvX11_agree ho rfl (by decide) rfl (Nat.le_of_ble_eq_true rfl) ?_
        obtain ⟨hz29, h⟩ := bz_t h
        cases h
        exact J_iret (pc := 113) dX11_ratio_113 rfl hz29
      · refine J_aload_n (pc := 61) 0 dX11_ratio_61 rfl ?_
        refine J_bipush (pc := 62) (7 : Int32) dX11_ratio_62 (by decide) ?_
        obtain ⟨x32, σ30, hc31, h⟩ := cI_t h
        refine J_cVi (pc := 64) (ctX11_refuse l E o (7 : Int32) ho σ16 hc31) dX11_ratio_64 mlX11_111 mvX11_refuse ho rfl (by decide) rfl (Nat.le_of_ble_eq_true rfl) ?_
        obtain ⟨hz33, h⟩ := bz_t h
        cases h
        exact J_iret (pc := 67) dX11_ratio_67 rfl hz33
    · refine J_aload_n (pc := 16) 0 dX11_ratio_16 rfl ?_
      refine J_iconst (pc := 17) (1 : Int32) dX11_ratio_17 (by decide) ?_
      obtain ⟨x36, σ34, hc35, h⟩ := cI_t h
      refine J_cVi (pc := 18) (ctX11_refuse l E o (1 : Int32) ho σ8 hc35) dX11_ratio_18 mlX11_111 mvX11_refuse ho rfl (by decide) rfl (Nat.le_of_ble_eq_true rfl) ?_
      obtain ⟨hz37, h⟩ := bz_t h
      cases h
      exact J_iret (pc := 21) dX11_ratio_21 rfl hz37
def fX11_locked (o : Nat) (σ : Mm) : Option (Int32 × Mm) := r_rf σ (tg o 9) 0 2 (fun q1 => r_sc σ (tg (tg o 9) 1) 6 (fun x2 => c_I (fX0_lockedVanes (tg o 16) q1 x2 σ) (fun x5 σ3 => c_I (fX11_answer o x5 σ3) (fun x8 σ6 => some (x8, σ6)))))
set_option maxRecDepth 100000 in
set_option maxHeartbeats 4000000 in
theorem ctX11_locked (l : Launch) (E : EV) (o : Nat) (ho : KD o = 11) (σ : Mm) {xr : Int32} {τ : Mm} (h : fX11_locked o σ = some (xr, τ)) : Ct l E mX11_locked 5 [.ref (e_a E o 0)] σ (some (.int xr), τ) := by
  refine Ct.of (by decide +kernel) (Nat.le_of_ble_eq_true rfl) ?_
  show Jd l E mX11_locked 5 (some (.int xr), τ) σ 0 [(0, .ref (e_a E o 0))] []
  unfold fX11_locked at h
  refine J_aload_n (pc := 0) 0 dX11_locked_0 rfl ?_
  refine J_aload_n (pc := 1) 0 dX11_locked_1 rfl ?_
  refine J_getT (pc := 2) dX11_locked_2 ho flX11_89 rfl ?_
  refine J_aload_n (pc := 5) 0 dX11_locked_5 rfl ?_
  refine J_getT (pc := 6) dX11_locked_6 ho flX11_50 rfl ?_
  refine J_getR (pc := 9) dX11_locked_9 (tk11_9 ho) flX11_174 rfl h (fun q1 hq1 h => ?_)
  refine J_aload_n (pc := 12) 0 dX11_locked_12 rfl ?_
  refine J_getT (pc := 13) dX11_locked_13 ho flX11_50 rfl ?_
  refine J_getT (pc := 16) dX11_locked_16 (tk11_9 ho) flX11_177 rfl ?_
  refine J_getI (pc := 19) dX11_locked_19 (tk7_1 (tk11_9 ho)) flX11_211 rfl h (fun x2 h => ?_)
  obtain ⟨x5, σ3, hc4, h⟩ := cI_t h
  refine J_cVi (pc := 22) (ctX0_lockedVanes l E (tg o 16) q1 x2 (tk11_16 ho) hq1 σ hc4) dX11_locked_22 mlX11_308 mvX0_lockedVanes (tk11_16 ho) rfl (by decide) rfl (Nat.le_of_ble_eq_true rfl) ?_
  obtain ⟨x8, σ6, hc7, h⟩ := cI_t h
  refine J_cVi (pc := 25) (ctX11_answer l E o x5 ho σ3 hc7) dX11_locked_25 mlX11_193 mvX11_answer ho rfl (by decide) rfl (Nat.le_of_ble_eq_true rfl) ?_
  cases h
  exact J_iret (pc := 28) dX11_locked_28 rfl rfl
def fX11_leastMultiple (a1 : Int64) (a2 : Int64) (σ : Mm) : Option (Int64 × Mm) := c_L (fX11_greatestDivisor a1 a2 σ) (fun x3 σ1 => if (lg_cmp x3 (0 : Int64)) = 0 then (some ((0 : Int64), σ1)) else (n_zl x3 (some (((a1 / x3) * a2), σ1))))
set_option maxRecDepth 100000 in
set_option maxHeartbeats 4000000 in
theorem ctX11_leastMultiple (l : Launch) (E : EV) (a1 : Int64) (a2 : Int64) (σ : Mm) {xr : Int64} {τ : Mm} (h : fX11_leastMultiple a1 a2 σ = some (xr, τ)) : Ct l E mX11_leastMultiple 1 [.long a1, .long a2] σ (some (.long xr), τ) := by
  refine Ct.of (by decide +kernel) (Nat.le_of_ble_eq_true rfl) ?_
  show Jd l E mX11_leastMultiple 1 (some (.long xr), τ) σ 0 [(0, .long a1), (2, .long a2)] []
  unfold fX11_leastMultiple at h
  refine J_lload_n (pc := 0) 0 dX11_leastMultiple_0 rfl ?_
  refine J_lload_n (pc := 1) 1 dX11_leastMultiple_1 rfl ?_
  obtain ⟨x3, σ1, hc2, h⟩ := cL_t h
  refine J_cSl (pc := 2) (ctX11_greatestDivisor l E a1 a2 σ hc2) dX11_leastMultiple_2 mlX11_436 msX11_greatestDivisor rfl (by decide) rfl (Nat.le_of_ble_eq_true rfl) ?_
  refine J_lstore (pc := 5) (L' := [(4, .long x3), (0, .long a1), (2, .long a2)]) dX11_leastMultiple_5 (by decide) rfl ?_
  refine J_lload (pc := 7) 0 dX11_leastMultiple_7 rfl ?_
  refine J_lconst (pc := 9) (0 : Int64) dX11_leastMultiple_9 (by decide) ?_
  refine J_lcmp (pc := 10) dX11_leastMultiple_10 ?_
  refine J_if_ne (pc := 11) 18 dX11_leastMultiple_11 (by decide) h (fun h => ?_) (fun h => ?_)
  · refine J_lload_n (pc := 18) 1 dX11_leastMultiple_18 rfl ?_
    refine J_lload (pc := 19) 0 dX11_leastMultiple_19 rfl ?_
    obtain ⟨hz4, h⟩ := nzl_t h
    refine J_ldiv (pc := 21) dX11_leastMultiple_21 hz4 ?_
    refine J_lload_n (pc := 22) 2 dX11_leastMultiple_22 rfl ?_
    refine J_lmul (pc := 23) dX11_leastMultiple_23 ?_
    cases h
    exact J_lret (pc := 24) dX11_leastMultiple_24 rfl
  · refine J_lconst (pc := 14) (0 : Int64) dX11_leastMultiple_14 (by decide) ?_
    refine J_goto (pc := 15) 24 dX11_leastMultiple_15 (by decide) ?_
    cases h
    exact J_lret (pc := 24) dX11_leastMultiple_24 rfl
def fX11_common_32 (o : Nat) (a1 : Int32) : Nat → Int64 → Int32 → Mm → Option (Int64 × Mm)
  | 0, _, _, _ => none
  | n + 1, v2, v4, σ => r_rf σ (tg o 9) 0 2 (fun q9 => r_sc σ q9 1 (fun x10 => if x10 ≤ v4 then (p_sc σ o 0 (0 : Int32) (fun σ11 => some (v2, σ11))) else (c_I (fX11_has a1 v4 σ) (fun x14 σ12 => if x14 = 0 then ((fX11_common_32 o a1 n) v2 (v4 + (1 : Int32)) σ12) else (r_rf σ12 (tg o 9) 0 2 (fun q15 => g_ar σ12 q15 3 8 v4 (fun x16 => c_L (fX11_leastMultiple v2 x16.toInt64 σ12) (fun x19 σ17 => (fX11_common_32 o a1 n) x19 (v4 + (1 : Int32)) σ17))))))))
set_option maxRecDepth 100000 in
set_option maxHeartbeats 4000000 in
theorem tX11_common_32 (l : Launch) (E : EV) {xr : Int64} {τ : Mm} (o : Nat) (a1 : Int32) (ho : KD o = 11) : ∀ (n : Nat) (v2 : Int64) (v4 : Int32) (σ : Mm), fX11_common_32 o a1 n v2 v4 σ = some (xr, τ) → Jd l E mX11_common 2 (some (.long xr), τ) σ 32 [(0, .ref (e_a E o 0)), (1, .int a1), (2, .long v2), (4, .int v4)] [] := by
  intro n
  induction n with
  | zero => intro v2 v4 σ h; rw [fX11_common_32] at h; cases h
  | succ n ih =>
    intro v2 v4 σ h
    rw [fX11_common_32] at h
    refine J_iload (pc := 32) 3 dX11_common_32 rfl ?_
    refine J_aload_n (pc := 34) 0 dX11_common_34 rfl ?_
    refine J_getT (pc := 35) dX11_common_35 ho flX11_50 rfl ?_
    refine J_getR (pc := 38) dX11_common_38 (tk11_9 ho) flX11_174 rfl h (fun q9 hq9 h => ?_)
    refine J_getI (pc := 41) dX11_common_41 hq9 flX11_190 rfl h (fun x10 h => ?_)
    refine J_icmp_ge (pc := 44) 81 dX11_common_44 (by decide) h (fun h => ?_) (fun h => ?_)
    · refine J_aload_n (pc := 81) 0 dX11_common_81 rfl ?_
      refine J_iconst (pc := 82) (0 : Int32) dX11_common_82 (by decide) ?_
      refine J_putI (pc := 83) dX11_common_83 ho flX11_101 rfl h (fun σ11 h => ?_)
      refine J_lload_n (pc := 86) 2 dX11_common_86 rfl ?_
      cases h
      exact J_lret (pc := 87) dX11_common_87 rfl
    · refine J_iload_n (pc := 47) 1 dX11_common_47 rfl ?_
      refine J_iload (pc := 48) 3 dX11_common_48 rfl ?_
      obtain ⟨x14, σ12, hc13, h⟩ := cI_t h
      refine J_cSi (pc := 50) (ctX11_has l E a1 v4 σ hc13) dX11_common_50 mlX11_298 msX11_has rfl (by decide) rfl (Nat.le_of_ble_eq_true rfl) ?_
      refine J_if_eq (pc := 53) 75 dX11_common_53 (by decide) h (fun h => ?_) (fun h => ?_)
      · refine J_iinc (pc := 75) (L' := [(4, .int (v4 + (1 : Int32))), (0, .ref (e_a E o 0)), (1, .int a1), (2, .long v2)]) 3 (v4 + (1 : Int32)) dX11_common_75 rfl (by rfl) (by decide) rfl ?_
        refine J_goto (pc := 78) 32 dX11_common_78 (by decide) ?_
        refine J_sub (L' := [(0, .ref (e_a E o 0)), (1, .int a1), (2, .long v2), (4, .int (v4 + (1 : Int32)))]) [1, 2, 3, 0] rfl ?_
        exact ih v2 (v4 + (1 : Int32)) σ12 h
      · refine J_lload_n (pc := 56) 2 dX11_common_56 rfl ?_
        refine J_aload_n (pc := 57) 0 dX11_common_57 rfl ?_
        refine J_getT (pc := 58) dX11_common_58 ho flX11_50 rfl ?_
        refine J_getR (pc := 61) dX11_common_61 (tk11_9 ho) flX11_174 rfl h (fun q15 hq15 h => ?_)
        refine J_getA (pc := 64) dX11_common_64 hq15 flX11_220 rfl ?_
        refine J_iload (pc := 67) 3 dX11_common_67 rfl ?_
        refine J_iald (pc := 69) dX11_common_69 hq15 ha2_3 h (fun x16 h => ?_)
        refine J_i2l (pc := 70) dX11_common_70 ?_
        obtain ⟨x19, σ17, hc18, h⟩ := cL_t h
        refine J_cSl (pc := 71) (ctX11_leastMultiple l E v2 x16.toInt64 σ12 hc18) dX11_common_71 mlX11_312 msX11_leastMultiple rfl (by decide) rfl (Nat.le_of_ble_eq_true rfl) ?_
        refine J_lstore_n (pc := 74) (L' := [(2, .long x19), (0, .ref (e_a E o 0)), (1, .int a1), (4, .int v4)]) dX11_common_74 (by decide) rfl ?_
        refine J_iinc (pc := 75) (L' := [(4, .int (v4 + (1 : Int32))), (2, .long x19), (0, .ref (e_a E o 0)), (1, .int a1)]) 3 (v4 + (1 : Int32)) dX11_common_75 rfl (by rfl) (by decide) rfl ?_
        refine J_goto (pc := 78) 32 dX11_common_78 (by decide) ?_
        refine J_sub (L' := [(0, .ref (e_a E o 0)), (1, .int a1), (2, .long x19), (4, .int (v4 + (1 : Int32)))]) [2, 3, 1, 0] rfl ?_
        exact ih x19 (v4 + (1 : Int32)) σ17 h
def fX11_common (o : Nat) (a1 : Int32) (σ : Mm) : Option (Int64 × Mm) := if a1 ≤ 0 then (c_I (fX11_none o (1 : Int32) σ) (fun x3 σ1 => some (x3.toInt64, σ1))) else (r_rf σ (tg o 9) 0 2 (fun q4 => r_sc σ q4 1 (fun x5 => if a1 < ((1 : Int32) <<< (x5 &&& 31)) then (fX11_common_32 o a1 FU (1 : Int64) (0 : Int32) σ) else (c_I (fX11_none o (1 : Int32) σ) (fun x8 σ6 => some (x8.toInt64, σ6))))))
set_option maxRecDepth 100000 in
set_option maxHeartbeats 4000000 in
theorem ctX11_common (l : Launch) (E : EV) (o : Nat) (a1 : Int32) (ho : KD o = 11) (σ : Mm) {xr : Int64} {τ : Mm} (h : fX11_common o a1 σ = some (xr, τ)) : Ct l E mX11_common 2 [.ref (e_a E o 0), .int a1] σ (some (.long xr), τ) := by
  refine Ct.of (by decide +kernel) (Nat.le_of_ble_eq_true rfl) ?_
  show Jd l E mX11_common 2 (some (.long xr), τ) σ 0 [(0, .ref (e_a E o 0)), (1, .int a1)] []
  unfold fX11_common at h
  refine J_iload_n (pc := 0) 1 dX11_common_0 rfl ?_
  refine J_if_le (pc := 1) 20 dX11_common_1 (by decide) h (fun h => ?_) (fun h => ?_)
  · refine J_aload_n (pc := 20) 0 dX11_common_20 rfl ?_
    refine J_iconst (pc := 21) (1 : Int32) dX11_common_21 (by decide) ?_
    obtain ⟨x3, σ1, hc2, h⟩ := cI_t h
    refine J_cVi (pc := 22) (ctX11_none l E o (1 : Int32) ho σ hc2) dX11_common_22 mlX11_130 mvX11_none ho rfl (by decide) rfl (Nat.le_of_ble_eq_true rfl) ?_
    refine J_i2l (pc := 25) dX11_common_25 ?_
    cases h
    exact J_lret (pc := 26) dX11_common_26 rfl
  · refine J_iload_n (pc := 4) 1 dX11_common_4 rfl ?_
    refine J_iconst (pc := 5) (1 : Int32) dX11_common_5 (by decide) ?_
    refine J_aload_n (pc := 6) 0 dX11_common_6 rfl ?_
    refine J_getT (pc := 7) dX11_common_7 ho flX11_50 rfl ?_
    refine J_getR (pc := 10) dX11_common_10 (tk11_9 ho) flX11_174 rfl h (fun q4 hq4 h => ?_)
    refine J_getI (pc := 13) dX11_common_13 hq4 flX11_190 rfl h (fun x5 h => ?_)
    refine J_ishl (pc := 16) dX11_common_16 ?_
    refine J_icmp_lt (pc := 17) 27 dX11_common_17 (by decide) h (fun h => ?_) (fun h => ?_)
    · refine J_lconst (pc := 27) (1 : Int64) dX11_common_27 (by decide) ?_
      refine J_lstore_n (pc := 28) (L' := [(2, .long (1 : Int64)), (0, .ref (e_a E o 0)), (1, .int a1)]) dX11_common_28 (by decide) rfl ?_
      refine J_iconst (pc := 29) (0 : Int32) dX11_common_29 (by decide) ?_
      refine J_istore (pc := 30) (L' := [(4, .int (0 : Int32)), (2, .long (1 : Int64)), (0, .ref (e_a E o 0)), (1, .int a1)]) dX11_common_30 (by decide) rfl ?_
      refine J_sub (L' := [(0, .ref (e_a E o 0)), (1, .int a1), (2, .long (1 : Int64)), (4, .int (0 : Int32))]) [2, 3, 1, 0] rfl ?_
      exact tX11_common_32 l E o a1 ho FU (1 : Int64) (0 : Int32) σ h
    · refine J_aload_n (pc := 20) 0 dX11_common_20 rfl ?_
      refine J_iconst (pc := 21) (1 : Int32) dX11_common_21 (by decide) ?_
      obtain ⟨x8, σ6, hc7, h⟩ := cI_t h
      refine J_cVi (pc := 22) (ctX11_none l E o (1 : Int32) ho σ hc7) dX11_common_22 mlX11_130 mvX11_none ho rfl (by decide) rfl (Nat.le_of_ble_eq_true rfl) ?_
      refine J_i2l (pc := 25) dX11_common_25 ?_
      cases h
      exact J_lret (pc := 26) dX11_common_26 rfl
def fX11_sway (o : Nat) (a1 : Int32) (a2 : Int32) (σ : Mm) : Option (Int32 × Mm) := c_I (fX11_isVane o a1 σ) (fun x3 σ1 => if x3 = 0 then (c_I (fX11_none o (1 : Int32) σ1) (fun x6 σ4 => some (x6, σ4))) else (c_I (fX11_isVane o a2 σ1) (fun x9 σ7 => if x9 = 0 then (c_I (fX11_none o (1 : Int32) σ7) (fun x23 σ21 => some (x23, σ21))) else (r_rf σ7 (tg o 9) 0 2 (fun q10 => r_sc σ7 (tg (tg o 9) 1) 6 (fun x11 => c_I (fX0_leastSlack (tg o 16) q10 x11 a1 a2 σ7) (fun x14 σ12 => if x14 = (-1 : Int32) then (c_I (fX11_none o (7 : Int32) σ12) (fun x20 σ18 => some (x20, σ18))) else (c_I (fX11_answer o x14 σ12) (fun x17 σ15 => some (x17, σ15))))))))))
set_option maxRecDepth 100000 in
set_option maxHeartbeats 4000000 in
theorem ctX11_sway (l : Launch) (E : EV) (o : Nat) (a1 : Int32) (a2 : Int32) (ho : KD o = 11) (σ : Mm) {xr : Int32} {τ : Mm} (h : fX11_sway o a1 a2 σ = some (xr, τ)) : Ct l E mX11_sway 3 [.ref (e_a E o 0), .int a1, .int a2] σ (some (.int xr), τ) := by
  refine Ct.of (by decide +kernel) (Nat.le_of_ble_eq_true rfl) ?_
  show Jd l E mX11_sway 3 (some (.int xr), τ) σ 0 [(0, .ref (e_a E o 0)), (1, .int a1), (2, .int a2)] []
  unfold fX11_sway at h
  refine J_aload_n (pc := 0) 0 dX11_sway_0 rfl ?_
  refine J_iload_n (pc := 1) 1 dX11_sway_1 rfl ?_
  obtain ⟨x3, σ1, hc2, h⟩ := cI_t h
  refine J_cVi (pc := 2) (ctX11_isVane l E o a1 ho σ hc2) dX11_sway_2 mlX11_217 mvX11_isVane ho rfl (by decide) rfl (Nat.le_of_ble_eq_true rfl) ?_
  refine J_if_eq (pc := 5) 16 dX11_sway_5 (by decide) h (fun h => ?_) (fun h => ?_)
  · refine J_aload_n (pc := 16) 0 dX11_sway_16 rfl ?_
    refine J_iconst (pc := 17) (1 : Int32) dX11_sway_17 (by decide) ?_
    obtain ⟨x6, σ4, hc5, h⟩ := cI_t h
    refine J_cVi (pc := 18) (ctX11_none l E o (1 : Int32) ho σ1 hc5) dX11_sway_18 mlX11_130 mvX11_none ho rfl (by decide) rfl (Nat.le_of_ble_eq_true rfl) ?_
    cases h
    exact J_iret (pc := 21) dX11_sway_21 rfl rfl
  · refine J_aload_n (pc := 8) 0 dX11_sway_8 rfl ?_
    refine J_iload_n (pc := 9) 2 dX11_sway_9 rfl ?_
    obtain ⟨x9, σ7, hc8, h⟩ := cI_t h
    refine J_cVi (pc := 10) (ctX11_isVane l E o a2 ho σ1 hc8) dX11_sway_10 mlX11_217 mvX11_isVane ho rfl (by decide) rfl (Nat.le_of_ble_eq_true rfl) ?_
    refine J_if_ne (pc := 13) 22 dX11_sway_13 (by decide) h (fun h => ?_) (fun h => ?_)
    · refine J_aload_n (pc := 22) 0 dX11_sway_22 rfl ?_
      refine J_getT (pc := 23) dX11_sway_23 ho flX11_89 rfl ?_
      refine J_aload_n (pc := 26) 0 dX11_sway_26 rfl ?_
      refine J_getT (pc := 27) dX11_sway_27 ho flX11_50 rfl ?_
      refine J_getR (pc := 30) dX11_sway_30 (tk11_9 ho) flX11_174 rfl h (fun q10 hq10 h => ?_)
      refine J_aload_n (pc := 33) 0 dX11_sway_33 rfl ?_
      refine J_getT (pc := 34) dX11_sway_34 ho flX11_50 rfl ?_
      refine J_getT (pc := 37) dX11_sway_37 (tk11_9 ho) flX11_177 rfl ?_
      refine J_getI (pc := 40) dX11_sway_40 (tk7_1 (tk11_9 ho)) flX11_211 rfl h (fun x11 h => ?_)
      refine J_iload_n (pc := 43) 1 dX11_sway_43 rfl ?_
      refine J_iload_n (pc := 44) 2 dX11_sway_44 rfl ?_
      obtain ⟨x14, σ12, hc13, h⟩ := cI_t h
      refine J_cVi (pc := 45) (ctX0_leastSlack l E (tg o 16) q10 x11 a1 a2 (tk11_16 ho) hq10 σ7 hc13) dX11_sway_45 mlX11_316 mvX0_leastSlack (tk11_16 ho) rfl (by decide) rfl (Nat.le_of_ble_eq_true rfl) ?_
      refine J_istore_n (pc := 48) (L' := [(3, .int x14), (0, .ref (e_a E o 0)), (1, .int a1), (2, .int a2)]) dX11_sway_48 (by decide) rfl ?_
      refine J_iload_n (pc := 49) 0 dX11_sway_49 rfl ?_
      refine J_iconst (pc := 50) (-1 : Int32) dX11_sway_50 (by decide) ?_
      refine J_icmp_ne (pc := 51) 63 dX11_sway_51 (by decide) h (fun h => ?_) (fun h => ?_)
      · refine J_aload_n (pc := 63) 1 dX11_sway_63 rfl ?_
        refine J_iload_n (pc := 64) 0 dX11_sway_64 rfl ?_
        obtain ⟨x17, σ15, hc16, h⟩ := cI_t h
        refine J_cVi (pc := 65) (ctX11_answer l E o x14 ho σ12 hc16) dX11_sway_65 mlX11_193 mvX11_answer ho rfl (by decide) rfl (Nat.le_of_ble_eq_true rfl) ?_
        cases h
        exact J_iret (pc := 68) dX11_sway_68 rfl rfl
      · refine J_aload_n (pc := 54) 1 dX11_sway_54 rfl ?_
        refine J_bipush (pc := 55) (7 : Int32) dX11_sway_55 (by decide) ?_
        obtain ⟨x20, σ18, hc19, h⟩ := cI_t h
        refine J_cVi (pc := 57) (ctX11_none l E o (7 : Int32) ho σ12 hc19) dX11_sway_57 mlX11_130 mvX11_none ho rfl (by decide) rfl (Nat.le_of_ble_eq_true rfl) ?_
        refine J_goto (pc := 60) 68 dX11_sway_60 (by decide) ?_
        cases h
        exact J_iret (pc := 68) dX11_sway_68 rfl rfl
    · refine J_aload_n (pc := 16) 0 dX11_sway_16 rfl ?_
      refine J_iconst (pc := 17) (1 : Int32) dX11_sway_17 (by decide) ?_
      obtain ⟨x23, σ21, hc22, h⟩ := cI_t h
      refine J_cVi (pc := 18) (ctX11_none l E o (1 : Int32) ho σ7 hc22) dX11_sway_18 mlX11_130 mvX11_none ho rfl (by decide) rfl (Nat.le_of_ble_eq_true rfl) ?_
      cases h
      exact J_iret (pc := 21) dX11_sway_21 rfl rfl
def fX11_isAhead (o : Nat) (a1 : Int32) (σ : Mm) : Option (Int32 × Mm) := if a1 < 0 then (some ((0 : Int32), σ)) else (if (400 : Int32) < a1 then (some ((0 : Int32), σ)) else (some ((1 : Int32), σ)))
set_option maxRecDepth 100000 in
set_option maxHeartbeats 4000000 in
theorem ctX11_isAhead (l : Launch) (E : EV) (o : Nat) (a1 : Int32) (ho : KD o = 11) (σ : Mm) {xr : Int32} {τ : Mm} (h : fX11_isAhead o a1 σ = some (xr, τ)) : Ct l E mX11_isAhead 0 [.ref (e_a E o 0), .int a1] σ (some (.int xr), τ) := by
  refine Ct.of (by decide +kernel) (Nat.le_of_ble_eq_true rfl) ?_
  show Jd l E mX11_isAhead 0 (some (.int xr), τ) σ 0 [(0, .ref (e_a E o 0)), (1, .int a1)] []
  unfold fX11_isAhead at h
  refine J_iload_n (pc := 0) 1 dX11_isAhead_0 rfl ?_
  refine J_if_lt (pc := 1) 15 dX11_isAhead_1 (by decide) h (fun h => ?_) (fun h => ?_)
  · refine J_iconst (pc := 15) (0 : Int32) dX11_isAhead_15 (by decide) ?_
    cases h
    exact J_iret (pc := 16) dX11_isAhead_16 rfl rfl
  · refine J_iload_n (pc := 4) 1 dX11_isAhead_4 rfl ?_
    refine J_sipush (pc := 5) (400 : Int32) dX11_isAhead_5 (by decide) ?_
    refine J_icmp_gt (pc := 8) 15 dX11_isAhead_8 (by decide) h (fun h => ?_) (fun h => ?_)
    · refine J_iconst (pc := 15) (0 : Int32) dX11_isAhead_15 (by decide) ?_
      cases h
      exact J_iret (pc := 16) dX11_isAhead_16 rfl rfl
    · refine J_iconst (pc := 11) (1 : Int32) dX11_isAhead_11 (by decide) ?_
      refine J_goto (pc := 12) 16 dX11_isAhead_12 (by decide) ?_
      cases h
      exact J_iret (pc := 16) dX11_isAhead_16 rfl rfl
def fX11_look (o : Nat) (σ : Mm) : Option (Mm) := c_V (fX4_copyFrom (tg o 15) (tg (tg o 9) 1) σ) (fun σ1 => r_rf σ1 (tg o 9) 0 2 (fun q3 => c_V (fX10_use (tg o 14) q3 (tg o 15) σ1) (fun σ4 => some σ4)))
set_option maxRecDepth 100000 in
set_option maxHeartbeats 4000000 in
theorem ctX11_look (l : Launch) (E : EV) (o : Nat) (ho : KD o = 11) (σ : Mm) {τ : Mm} (h : fX11_look o σ = some τ) : Ct l E mX11_look 2 [.ref (e_a E o 0)] σ (none, τ) := by
  refine Ct.of (by decide +kernel) (Nat.le_of_ble_eq_true rfl) ?_
  show Jd l E mX11_look 2 (none, τ) σ 0 [(0, .ref (e_a E o 0))] []
  unfold fX11_look at h
  refine J_aload_n (pc := 0) 0 dX11_look_0 rfl ?_
  refine J_getT (pc := 1) dX11_look_1 ho flX11_82 rfl ?_
  refine J_aload_n (pc := 4) 0 dX11_look_4 rfl ?_
  refine J_getT (pc := 5) dX11_look_5 ho flX11_50 rfl ?_
  refine J_getT (pc := 8) dX11_look_8 (tk11_9 ho) flX11_177 rfl ?_
  obtain ⟨σ1, hc2, h⟩ := cV_t h
  refine J_cVv (pc := 11) (ctX4_copyFrom l E (tg o 15) (tg (tg o 9) 1) (tk11_15 ho) (tk7_1 (tk11_9 ho)) σ hc2) dX11_look_11 mlX11_451 mvX4_copyFrom (tk11_15 ho) rfl (by decide) rfl (Nat.le_of_ble_eq_true rfl) ?_
  refine J_aload_n (pc := 14) 0 dX11_look_14 rfl ?_
  refine J_getT (pc := 15) dX11_look_15 ho flX11_75 rfl ?_
  refine J_aload_n (pc := 18) 0 dX11_look_18 rfl ?_
  refine J_getT (pc := 19) dX11_look_19 ho flX11_50 rfl ?_
  refine J_getR (pc := 22) dX11_look_22 (tk11_9 ho) flX11_174 rfl h (fun q3 hq3 h => ?_)
  refine J_aload_n (pc := 25) 0 dX11_look_25 rfl ?_
  refine J_getT (pc := 26) dX11_look_26 ho flX11_82 rfl ?_
  obtain ⟨σ4, hc5, h⟩ := cV_t h
  refine J_cVv (pc := 29) (ctX10_use l E (tg o 14) q3 (tg o 15) (tk11_14 ho) hq3 (tk11_15 ho) σ1 hc5) dX11_look_29 mlX11_447 mvX10_use (tk11_14 ho) rfl (by decide) rfl (Nat.le_of_ble_eq_true rfl) ?_
  cases h
  exact J_vret (pc := 32) dX11_look_32 rfl
def fX11_points (o : Nat) (a1 : Int32) (a2 : Int32) (σ : Mm) : Option (Int32 × Mm) := c_I (fX11_isVane o a1 σ) (fun x3 σ1 => if x3 = 0 then (c_I (fX11_none o (1 : Int32) σ1) (fun x6 σ4 => some (x6, σ4))) else (c_I (fX11_isAhead o a2 σ1) (fun x9 σ7 => if x9 = 0 then (c_I (fX11_none o (1 : Int32) σ7) (fun x21 σ19 => some (x21, σ19))) else (c_V (fX11_look o σ7) (fun σ10 => c_I (fX10_goOn (tg o 14) a2 σ10) (fun x14 σ12 => g_ar σ12 (tg o 15) 2 8 a1 (fun x15 => c_I (fX11_answer o x15 σ12) (fun x18 σ16 => some (x18, σ16)))))))))
set_option maxRecDepth 100000 in
set_option maxHeartbeats 4000000 in
theorem ctX11_points (l : Launch) (E : EV) (o : Nat) (a1 : Int32) (a2 : Int32) (ho : KD o = 11) (σ : Mm) {xr : Int32} {τ : Mm} (h : fX11_points o a1 a2 σ = some (xr, τ)) : Ct l E mX11_points 5 [.ref (e_a E o 0), .int a1, .int a2] σ (some (.int xr), τ) := by
  refine Ct.of (by decide +kernel) (Nat.le_of_ble_eq_true rfl) ?_
  show Jd l E mX11_points 5 (some (.int xr), τ) σ 0 [(0, .ref (e_a E o 0)), (1, .int a1), (2, .int a2)] []
  unfold fX11_points at h
  refine J_aload_n (pc := 0) 0 dX11_points_0 rfl ?_
  refine J_iload_n (pc := 1) 1 dX11_points_1 rfl ?_
  obtain ⟨x3, σ1, hc2, h⟩ := cI_t h
  refine J_cVi (pc := 2) (ctX11_isVane l E o a1 ho σ hc2) dX11_points_2 mlX11_217 mvX11_isVane ho rfl (by decide) rfl (Nat.le_of_ble_eq_true rfl) ?_
  refine J_if_eq (pc := 5) 16 dX11_points_5 (by decide) h (fun h => ?_) (fun h => ?_)
  · refine J_aload_n (pc := 16) 0 dX11_points_16 rfl ?_
    refine J_iconst (pc := 17) (1 : Int32) dX11_points_17 (by decide) ?_
    obtain ⟨x6, σ4, hc5, h⟩ := cI_t h
    refine J_cVi (pc := 18) (ctX11_none l E o (1 : Int32) ho σ1 hc5) dX11_points_18 mlX11_130 mvX11_none ho rfl (by decide) rfl (Nat.le_of_ble_eq_true rfl) ?_
    cases h
    exact J_iret (pc := 21) dX11_points_21 rfl rfl
  · refine J_aload_n (pc := 8) 0 dX11_points_8 rfl ?_
    refine J_iload_n (pc := 9) 2 dX11_points_9 rfl ?_
    obtain ⟨x9, σ7, hc8, h⟩ := cI_t h
    refine J_cVi (pc := 10) (ctX11_isAhead l E o a2 ho σ1 hc8) dX11_points_10 mlX11_320 mvX11_isAhead ho rfl (by decide) rfl (Nat.le_of_ble_eq_true rfl) ?_
    refine J_if_ne (pc := 13) 22 dX11_points_13 (by decide) h (fun h => ?_) (fun h => ?_)
    · refine J_aload_n (pc := 22) 0 dX11_points_22 rfl ?_
      obtain ⟨σ10, hc11, h⟩ := cV_t h
      refine J_cVv (pc := 23) (ctX11_look l E o ho σ7 hc11) dX11_points_23 mlX11_323 mvX11_look ho rfl (by decide) rfl (Nat.le_of_ble_eq_true rfl) ?_
      refine J_aload_n (pc := 26) 0 dX11_points_26 rfl ?_
      refine J_getT (pc := 27) dX11_points_27 ho flX11_75 rfl ?_
      refine J_iload_n (pc := 30) 2 dX11_points_30 rfl ?_
      obtain ⟨x14, σ12, hc13, h⟩ := cI_t h
      refine J_cVi (pc := 31) (ctX10_goOn l E (tg o 14) a2 (tk11_14 ho) σ10 hc13) dX11_points_31 mlX11_279 mvX10_goOn (tk11_14 ho) rfl (by decide) rfl (Nat.le_of_ble_eq_true rfl) ?_
      refine J_pop (pc := 34) dX11_points_34 rfl ?_
      refine J_aload_n (pc := 35) 0 dX11_points_35 rfl ?_
      refine J_aload_n (pc := 36) 0 dX11_points_36 rfl ?_
      refine J_getT (pc := 37) dX11_points_37 ho flX11_82 rfl ?_
      refine J_getA (pc := 40) dX11_points_40 (tk11_15 ho) flX11_230 rfl ?_
      refine J_iload_n (pc := 43) 1 dX11_points_43 rfl ?_
      refine J_iald (pc := 44) dX11_points_44 (tk11_15 ho) ha4_2 h (fun x15 h => ?_)
      obtain ⟨x18, σ16, hc17, h⟩ := cI_t h
      refine J_cVi (pc := 45) (ctX11_answer l E o x15 ho σ12 hc17) dX11_points_45 mlX11_193 mvX11_answer ho rfl (by decide) rfl (Nat.le_of_ble_eq_true rfl) ?_
      cases h
      exact J_iret (pc := 48) dX11_points_48 rfl rfl
    · refine J_aload_n (pc := 16) 0 dX11_points_16 rfl ?_
      refine J_iconst (pc := 17) (1 : Int32) dX11_points_17 (by decide) ?_
      obtain ⟨x21, σ19, hc20, h⟩ := cI_t h
      refine J_cVi (pc := 18) (ctX11_none l E o (1 : Int32) ho σ7 hc20) dX11_points_18 mlX11_130 mvX11_none ho rfl (by decide) rfl (Nat.le_of_ble_eq_true rfl) ?_
      cases h
      exact J_iret (pc := 21) dX11_points_21 rfl rfl
def fX11_rights (o : Nat) (a1 : Int32) (σ : Mm) : Option (Int32 × Mm) := c_I (fX11_isAhead o a1 σ) (fun x3 σ1 => if x3 = 0 then (c_I (fX11_none o (1 : Int32) σ1) (fun x17 σ15 => some (x17, σ15))) else (c_V (fX11_look o σ1) (fun σ4 => c_I (fX10_goOn (tg o 14) a1 σ4) (fun x8 σ6 => c_I (fX10_rightSet (tg o 14) σ6) (fun x11 σ9 => c_I (fX11_answer o x11 σ9) (fun x14 σ12 => some (x14, σ12)))))))
set_option maxRecDepth 100000 in
set_option maxHeartbeats 4000000 in
theorem ctX11_rights (l : Launch) (E : EV) (o : Nat) (a1 : Int32) (ho : KD o = 11) (σ : Mm) {xr : Int32} {τ : Mm} (h : fX11_rights o a1 σ = some (xr, τ)) : Ct l E mX11_rights 5 [.ref (e_a E o 0), .int a1] σ (some (.int xr), τ) := by
  refine Ct.of (by decide +kernel) (Nat.le_of_ble_eq_true rfl) ?_
  show Jd l E mX11_rights 5 (some (.int xr), τ) σ 0 [(0, .ref (e_a E o 0)), (1, .int a1)] []
  unfold fX11_rights at h
  refine J_aload_n (pc := 0) 0 dX11_rights_0 rfl ?_
  refine J_iload_n (pc := 1) 1 dX11_rights_1 rfl ?_
  obtain ⟨x3, σ1, hc2, h⟩ := cI_t h
  refine J_cVi (pc := 2) (ctX11_isAhead l E o a1 ho σ hc2) dX11_rights_2 mlX11_320 mvX11_isAhead ho rfl (by decide) rfl (Nat.le_of_ble_eq_true rfl) ?_
  refine J_if_ne (pc := 5) 14 dX11_rights_5 (by decide) h (fun h => ?_) (fun h => ?_)
  · refine J_aload_n (pc := 14) 0 dX11_rights_14 rfl ?_
    obtain ⟨σ4, hc5, h⟩ := cV_t h
    refine J_cVv (pc := 15) (ctX11_look l E o ho σ1 hc5) dX11_rights_15 mlX11_323 mvX11_look ho rfl (by decide) rfl (Nat.le_of_ble_eq_true rfl) ?_
    refine J_aload_n (pc := 18) 0 dX11_rights_18 rfl ?_
    refine J_getT (pc := 19) dX11_rights_19 ho flX11_75 rfl ?_
    refine J_iload_n (pc := 22) 1 dX11_rights_22 rfl ?_
    obtain ⟨x8, σ6, hc7, h⟩ := cI_t h
    refine J_cVi (pc := 23) (ctX10_goOn l E (tg o 14) a1 (tk11_14 ho) σ4 hc7) dX11_rights_23 mlX11_279 mvX10_goOn (tk11_14 ho) rfl (by decide) rfl (Nat.le_of_ble_eq_true rfl) ?_
    refine J_pop (pc := 26) dX11_rights_26 rfl ?_
    refine J_aload_n (pc := 27) 0 dX11_rights_27 rfl ?_
    refine J_aload_n (pc := 28) 0 dX11_rights_28 rfl ?_
    refine J_getT (pc := 29) dX11_rights_29 ho flX11_75 rfl ?_
    obtain ⟨x11, σ9, hc10, h⟩ := cI_t h
    refine J_cVi (pc := 32) (ctX10_rightSet l E (tg o 14) (tk11_14 ho) σ6 hc10) dX11_rights_32 mlX11_326 mvX10_rightSet (tk11_14 ho) rfl (by decide) rfl (Nat.le_of_ble_eq_true rfl) ?_
    obtain ⟨x14, σ12, hc13, h⟩ := cI_t h
    refine J_cVi (pc := 35) (ctX11_answer l E o x11 ho σ9 hc13) dX11_rights_35 mlX11_193 mvX11_answer ho rfl (by decide) rfl (Nat.le_of_ble_eq_true rfl) ?_
    cases h
    exact J_iret (pc := 38) dX11_rights_38 rfl rfl
  · refine J_aload_n (pc := 8) 0 dX11_rights_8 rfl ?_
    refine J_iconst (pc := 9) (1 : Int32) dX11_rights_9 (by decide) ?_
    obtain ⟨x17, σ15, hc16, h⟩ := cI_t h
    refine J_cVi (pc := 10) (ctX11_none l E o (1 : Int32) ho σ1 hc16) dX11_rights_10 mlX11_130 mvX11_none ho rfl (by decide) rfl (Nat.le_of_ble_eq_true rfl) ?_
    cases h
    exact J_iret (pc := 13) dX11_rights_13 rfl rfl
def fX11_quartersToCalm (o : Nat) (σ : Mm) : Option (Int32 × Mm) := c_V (fX11_look o σ) (fun σ1 => c_I (fX10_goOn (tg o 14) (400 : Int32) σ1) (fun x5 σ3 => if x5 = (400 : Int32) then (some ((-1 : Int32), σ3)) else (some (x5, σ3))))
set_option maxRecDepth 100000 in
set_option maxHeartbeats 4000000 in
theorem ctX11_quartersToCalm (l : Launch) (E : EV) (o : Nat) (ho : KD o = 11) (σ : Mm) {xr : Int32} {τ : Mm} (h : fX11_quartersToCalm o σ = some (xr, τ)) : Ct l E mX11_quartersToCalm 5 [.ref (e_a E o 0)] σ (some (.int xr), τ) := by
  refine Ct.of (by decide +kernel) (Nat.le_of_ble_eq_true rfl) ?_
  show Jd l E mX11_quartersToCalm 5 (some (.int xr), τ) σ 0 [(0, .ref (e_a E o 0))] []
  unfold fX11_quartersToCalm at h
  refine J_aload_n (pc := 0) 0 dX11_quartersToCalm_0 rfl ?_
  obtain ⟨σ1, hc2, h⟩ := cV_t h
  refine J_cVv (pc := 1) (ctX11_look l E o ho σ hc2) dX11_quartersToCalm_1 mlX11_323 mvX11_look ho rfl (by decide) rfl (Nat.le_of_ble_eq_true rfl) ?_
  refine J_aload_n (pc := 4) 0 dX11_quartersToCalm_4 rfl ?_
  refine J_getT (pc := 5) dX11_quartersToCalm_5 ho flX11_75 rfl ?_
  refine J_sipush (pc := 8) (400 : Int32) dX11_quartersToCalm_8 (by decide) ?_
  obtain ⟨x5, σ3, hc4, h⟩ := cI_t h
  refine J_cVi (pc := 11) (ctX10_goOn l E (tg o 14) (400 : Int32) (tk11_14 ho) σ1 hc4) dX11_quartersToCalm_11 mlX11_279 mvX10_goOn (tk11_14 ho) rfl (by decide) rfl (Nat.le_of_ble_eq_true rfl) ?_
  refine J_istore_n (pc := 14) (L' := [(1, .int x5), (0, .ref (e_a E o 0))]) dX11_quartersToCalm_14 (by decide) rfl ?_
  refine J_iload_n (pc := 15) 0 dX11_quartersToCalm_15 rfl ?_
  refine J_sipush (pc := 16) (400 : Int32) dX11_quartersToCalm_16 (by decide) ?_
  refine J_icmp_ne (pc := 19) 26 dX11_quartersToCalm_19 (by decide) h (fun h => ?_) (fun h => ?_)
  · refine J_iload_n (pc := 26) 0 dX11_quartersToCalm_26 rfl ?_
    cases h
    exact J_iret (pc := 27) dX11_quartersToCalm_27 rfl rfl
  · refine J_iconst (pc := 22) (-1 : Int32) dX11_quartersToCalm_22 (by decide) ?_
    refine J_goto (pc := 23) 27 dX11_quartersToCalm_23 (by decide) ?_
    cases h
    exact J_iret (pc := 27) dX11_quartersToCalm_27 rfl rfl
def fX11_again (o : Nat) (a1 : Int32) (σ : Mm) : Option (Int32 × Mm) := if a1 < 0 then (c_I (fX11_none o (1 : Int32) σ) (fun x3 σ1 => some (x3, σ1))) else (if a1 ≤ (1 : Int32) then (c_I (fX11_quartersToCalm o σ) (fun x6 σ4 => if x6 = (-1 : Int32) then (c_I (fX11_none o (6 : Int32) σ4) (fun x15 σ13 => some (x15, σ13))) else (if a1 = 0 then (c_I (fX11_answer o x6 σ4) (fun x12 σ10 => some (x12, σ10))) else (c_I (fX11_answer o (1 : Int32) σ4) (fun x9 σ7 => some (x9, σ7)))))) else (c_I (fX11_none o (1 : Int32) σ) (fun x18 σ16 => some (x18, σ16))))
set_option maxRecDepth 100000 in
set_option maxHeartbeats 4000000 in
theorem ctX11_again (l : Launch) (E : EV) (o : Nat) (a1 : Int32) (ho : KD o = 11) (σ : Mm) {xr : Int32} {τ : Mm} (h : fX11_again o a1 σ = some (xr, τ)) : Ct l E mX11_again 6 [.ref (e_a E o 0), .int a1] σ (some (.int xr), τ) := by
  refine Ct.of (by decide +kernel) (Nat.le_of_ble_eq_true rfl) ?_
  show Jd l E mX11_again 6 (some (.int xr), τ) σ 0 [(0, .ref (e_a E o 0)), (1, .int a1)] []
  unfold fX11_again at h
  refine J_iload_n (pc := 0) 1 dX11_again_0 rfl ?_
  refine J_if_lt (pc := 1) 9 dX11_again_1 (by decide) h (fun h => ?_) (fun h => ?_)
  · refine J_aload_n (pc := 9) 0 dX11_again_9 rfl ?_
    refine J_iconst (pc := 10) (1 : Int32) dX11_again_10 (by decide) ?_
    obtain ⟨x3, σ1, hc2, h⟩ := cI_t h
    refine J_cVi (pc := 11) (ctX11_none l E o (1 : Int32) ho σ hc2) dX11_again_11 mlX11_130 mvX11_none ho rfl (by decide) rfl (Nat.le_of_ble_eq_true rfl) ?_
    cases h
    exact J_iret (pc := 14) dX11_again_14 rfl rfl
  · refine J_iload_n (pc := 4) 1 dX11_again_4 rfl ?_
    refine J_iconst (pc := 5) (1 : Int32) dX11_again_5 (by decide) ?_
    refine J_icmp_le (pc := 6) 15 dX11_again_6 (by decide) h (fun h => ?_) (fun h => ?_)
    · refine J_aload_n (pc := 15) 0 dX11_again_15 rfl ?_
      obtain ⟨x6, σ4, hc5, h⟩ := cI_t h
      refine J_cVi (pc := 16) (ctX11_quartersToCalm l E o ho σ hc5) dX11_again_16 mlX11_330 mvX11_quartersToCalm ho rfl (by decide) rfl (Nat.le_of_ble_eq_true rfl) ?_
      refine J_istore_n (pc := 19) (L' := [(2, .int x6), (0, .ref (e_a E o 0)), (1, .int a1)]) dX11_again_19 (by decide) rfl ?_
      refine J_iload_n (pc := 20) 0 dX11_again_20 rfl ?_
      refine J_iconst (pc := 21) (-1 : Int32) dX11_again_21 (by decide) ?_
      refine J_icmp_ne (pc := 22) 32 dX11_again_22 (by decide) h (fun h => ?_) (fun h => ?_)
      · refine J_aload_n (pc := 32) 1 dX11_again_32 rfl ?_
        refine J_iload_n (pc := 33) 2 dX11_again_33 rfl ?_
        refine J_if_ne (pc := 34) 41 dX11_again_34 (by decide) h (fun h => ?_) (fun h => ?_)
        · refine J_iconst (pc := 41) (1 : Int32) dX11_again_41 (by decide) ?_
          obtain ⟨x9, σ7, hc8, h⟩ := cI_t h
          refine J_cVi (pc := 42) (ctX11_answer l E o (1 : Int32) ho σ4 hc8) dX11_again_42 mlX11_193 mvX11_answer ho rfl (by decide) rfl (Nat.le_of_ble_eq_true rfl) ?_
          cases h
          exact J_iret (pc := 45) dX11_again_45 rfl rfl
        · refine J_iload_n (pc := 37) 0 dX11_again_37 rfl ?_
          refine J_goto (pc := 38) 42 dX11_again_38 (by decide) ?_
          obtain ⟨x12, σ10, hc11, h⟩ := cI_t h
          refine J_cVi (pc := 42) (ctX11_answer l E o x6 ho σ4 hc11) dX11_again_42 mlX11_193 mvX11_answer ho rfl (by decide) rfl (Nat.le_of_ble_eq_true rfl) ?_
          cases h
          exact J_iret (pc := 45) dX11_again_45 rfl rfl
      · refine J_aload_n (pc := 25) 1 dX11_again_25 rfl ?_
        refine J_bipush (pc := 26) (6 : Int32) dX11_again_26 (by decide) ?_
        obtain ⟨x15, σ13, hc14, h⟩ := cI_t h
        refine J_cVi (pc := 28) (ctX11_none l E o (6 : Int32) ho σ4 hc14) dX11_again_28 mlX11_130 mvX11_none ho rfl (by decide) rfl (Nat.le_of_ble_eq_true rfl) ?_
        cases h
        exact J_iret (pc := 31) dX11_again_31 rfl rfl
    · refine J_aload_n (pc := 9) 0 dX11_again_9 rfl ?_
      refine J_iconst (pc := 10) (1 : Int32) dX11_again_10 (by decide) ?_
      obtain ⟨x18, σ16, hc17, h⟩ := cI_t h
      refine J_cVi (pc := 11) (ctX11_none l E o (1 : Int32) ho σ hc17) dX11_again_11 mlX11_130 mvX11_none ho rfl (by decide) rfl (Nat.le_of_ble_eq_true rfl) ?_
      cases h
      exact J_iret (pc := 14) dX11_again_14 rfl rfl
def fX11_isSpan (o : Nat) (a1 : Int32) (σ : Mm) : Option (Int32 × Mm) := if a1 < (1 : Int32) then (some ((0 : Int32), σ)) else (if (400 : Int32) < a1 then (some ((0 : Int32), σ)) else (some ((1 : Int32), σ)))
set_option maxRecDepth 100000 in
set_option maxHeartbeats 4000000 in
theorem ctX11_isSpan (l : Launch) (E : EV) (o : Nat) (a1 : Int32) (ho : KD o = 11) (σ : Mm) {xr : Int32} {τ : Mm} (h : fX11_isSpan o a1 σ = some (xr, τ)) : Ct l E mX11_isSpan 0 [.ref (e_a E o 0), .int a1] σ (some (.int xr), τ) := by
  refine Ct.of (by decide +kernel) (Nat.le_of_ble_eq_true rfl) ?_
  show Jd l E mX11_isSpan 0 (some (.int xr), τ) σ 0 [(0, .ref (e_a E o 0)), (1, .int a1)] []
  unfold fX11_isSpan at h
  refine J_iload_n (pc := 0) 1 dX11_isSpan_0 rfl ?_
  refine J_iconst (pc := 1) (1 : Int32) dX11_isSpan_1 (by decide) ?_
  refine J_icmp_lt (pc := 2) 16 dX11_isSpan_2 (by decide) h (fun h => ?_) (fun h => ?_)
  · refine J_iconst (pc := 16) (0 : Int32) dX11_isSpan_16 (by decide) ?_
    cases h
    exact J_iret (pc := 17) dX11_isSpan_17 rfl rfl
  · refine J_iload_n (pc := 5) 1 dX11_isSpan_5 rfl ?_
    refine J_sipush (pc := 6) (400 : Int32) dX11_isSpan_6 (by decide) ?_
    refine J_icmp_gt (pc := 9) 16 dX11_isSpan_9 (by decide) h (fun h => ?_) (fun h => ?_)
    · refine J_iconst (pc := 16) (0 : Int32) dX11_isSpan_16 (by decide) ?_
      cases h
      exact J_iret (pc := 17) dX11_isSpan_17 rfl rfl
    · refine J_iconst (pc := 12) (1 : Int32) dX11_isSpan_12 (by decide) ?_
      refine J_goto (pc := 13) 17 dX11_isSpan_13 (by decide) ?_
      cases h
      exact J_iret (pc := 17) dX11_isSpan_17 rfl rfl
def fX11_strikes (o : Nat) (a1 : Int32) (a2 : Int32) (σ : Mm) : Option (Int32 × Mm) := c_I (fX11_isVane o a1 σ) (fun x3 σ1 => if x3 = 0 then (c_I (fX11_none o (1 : Int32) σ1) (fun x6 σ4 => some (x6, σ4))) else (c_I (fX11_isSpan o a2 σ1) (fun x9 σ7 => if x9 = 0 then (c_I (fX11_none o (1 : Int32) σ7) (fun x22 σ20 => some (x22, σ20))) else (c_V (fX11_look o σ7) (fun σ10 => c_I (fX10_goOn (tg o 14) a2 σ10) (fun x14 σ12 => g_ar σ12 (tg o 15) 4 8 a1 (fun x15 => g_ar σ12 (tg (tg o 9) 1) 4 8 a1 (fun x16 => c_I (fX11_answer o (x15 - x16) σ12) (fun x19 σ17 => some (x19, σ17))))))))))
set_option maxRecDepth 100000 in
set_option maxHeartbeats 4000000 in
theorem ctX11_strikes (l : Launch) (E : EV) (o : Nat) (a1 : Int32) (a2 : Int32) (ho : KD o = 11) (σ : Mm) {xr : Int32} {τ : Mm} (h : fX11_strikes o a1 a2 σ = some (xr, τ)) : Ct l E mX11_strikes 5 [.ref (e_a E o 0), .int a1, .int a2] σ (some (.int xr), τ) := by
  refine Ct.of (by decide +kernel) (Nat.le_of_ble_eq_true rfl) ?_
  show Jd l E mX11_strikes 5 (some (.int xr), τ) σ 0 [(0, .ref (e_a E o 0)), (1, .int a1), (2, .int a2)] []
  unfold fX11_strikes at h
  refine J_aload_n (pc := 0) 0 dX11_strikes_0 rfl ?_
  refine J_iload_n (pc := 1) 1 dX11_strikes_1 rfl ?_
  obtain ⟨x3, σ1, hc2, h⟩ := cI_t h
  refine J_cVi (pc := 2) (ctX11_isVane l E o a1 ho σ hc2) dX11_strikes_2 mlX11_217 mvX11_isVane ho rfl (by decide) rfl (Nat.le_of_ble_eq_true rfl) ?_
  refine J_if_eq (pc := 5) 16 dX11_strikes_5 (by decide) h (fun h => ?_) (fun h => ?_)
  · refine J_aload_n (pc := 16) 0 dX11_strikes_16 rfl ?_
    refine J_iconst (pc := 17) (1 : Int32) dX11_strikes_17 (by decide) ?_
    obtain ⟨x6, σ4, hc5, h⟩ := cI_t h
    refine J_cVi (pc := 18) (ctX11_none l E o (1 : Int32) ho σ1 hc5) dX11_strikes_18 mlX11_130 mvX11_none ho rfl (by decide) rfl (Nat.le_of_ble_eq_true rfl) ?_
    cases h
    exact J_iret (pc := 21) dX11_strikes_21 rfl rfl
  · refine J_aload_n (pc := 8) 0 dX11_strikes_8 rfl ?_
    refine J_iload_n (pc := 9) 2 dX11_strikes_9 rfl ?_
    obtain ⟨x9, σ7, hc8, h⟩ := cI_t h
    refine J_cVi (pc := 10) (ctX11_isSpan l E o a2 ho σ1 hc8) dX11_strikes_10 mlX11_333 mvX11_isSpan ho rfl (by decide) rfl (Nat.le_of_ble_eq_true rfl) ?_
    refine J_if_ne (pc := 13) 22 dX11_strikes_13 (by decide) h (fun h => ?_) (fun h => ?_)
    · refine J_aload_n (pc := 22) 0 dX11_strikes_22 rfl ?_
      obtain ⟨σ10, hc11, h⟩ := cV_t h
      refine J_cVv (pc := 23) (ctX11_look l E o ho σ7 hc11) dX11_strikes_23 mlX11_323 mvX11_look ho rfl (by decide) rfl (Nat.le_of_ble_eq_true rfl) ?_
      refine J_aload_n (pc := 26) 0 dX11_strikes_26 rfl ?_
      refine J_getT (pc := 27) dX11_strikes_27 ho flX11_75 rfl ?_
      refine J_iload_n (pc := 30) 2 dX11_strikes_30 rfl ?_
      obtain ⟨x14, σ12, hc13, h⟩ := cI_t h
      refine J_cVi (pc := 31) (ctX10_goOn l E (tg o 14) a2 (tk11_14 ho) σ10 hc13) dX11_strikes_31 mlX11_279 mvX10_goOn (tk11_14 ho) rfl (by decide) rfl (Nat.le_of_ble_eq_true rfl) ?_
      refine J_pop (pc := 34) dX11_strikes_34 rfl ?_
      refine J_aload_n (pc := 35) 0 dX11_strikes_35 rfl ?_
      refine J_aload_n (pc := 36) 0 dX11_strikes_36 rfl ?_
      refine J_getT (pc := 37) dX11_strikes_37 ho flX11_82 rfl ?_
      refine J_getA (pc := 40) dX11_strikes_40 (tk11_15 ho) flX11_236 rfl ?_
      refine J_iload_n (pc := 43) 1 dX11_strikes_43 rfl ?_
      refine J_iald (pc := 44) dX11_strikes_44 (tk11_15 ho) ha4_4 h (fun x15 h => ?_)
      refine J_aload_n (pc := 45) 0 dX11_strikes_45 rfl ?_
      refine J_getT (pc := 46) dX11_strikes_46 ho flX11_50 rfl ?_
      refine J_getT (pc := 49) dX11_strikes_49 (tk11_9 ho) flX11_177 rfl ?_
      refine J_getA (pc := 52) dX11_strikes_52 (tk7_1 (tk11_9 ho)) flX11_236 rfl ?_
      refine J_iload_n (pc := 55) 1 dX11_strikes_55 rfl ?_
      refine J_iald (pc := 56) dX11_strikes_56 (tk7_1 (tk11_9 ho)) ha4_4 h (fun x16 h => ?_)
      refine J_isub (pc := 57) dX11_strikes_57 ?_
      obtain ⟨x19, σ17, hc18, h⟩ := cI_t h
      refine J_cVi (pc := 58) (ctX11_answer l E o (x15 - x16) ho σ12 hc18) dX11_strikes_58 mlX11_193 mvX11_answer ho rfl (by decide) rfl (Nat.le_of_ble_eq_true rfl) ?_
      cases h
      exact J_iret (pc := 61) dX11_strikes_61 rfl rfl
    · refine J_aload_n (pc := 16) 0 dX11_strikes_16 rfl ?_
      refine J_iconst (pc := 17) (1 : Int32) dX11_strikes_17 (by decide) ?_
      obtain ⟨x22, σ20, hc21, h⟩ := cI_t h
      refine J_cVi (pc := 18) (ctX11_none l E o (1 : Int32) ho σ7 hc21) dX11_strikes_18 mlX11_130 mvX11_none ho rfl (by decide) rfl (Nat.le_of_ble_eq_true rfl) ?_
      cases h
      exact J_iret (pc := 21) dX11_strikes_21 rfl rfl
def fX11_bell (o : Nat) (a1 : Int32) (a2 : Int32) (σ : Mm) : Option (Int32 × Mm) := if a1 < 0 then (c_I (fX11_none o (1 : Int32) σ) (fun x3 σ1 => some (x3, σ1))) else (c_I (fX11_isSpan o a2 σ) (fun x6 σ4 => if x6 = 0 then (c_I (fX11_none o (1 : Int32) σ4) (fun x24 σ22 => some (x24, σ22))) else (c_V (fX11_look o σ4) (fun σ7 => c_V (fX10_listenFor (tg o 14) a1 σ7) (fun σ9 => c_I (fX10_goOn (tg o 14) a2 σ9) (fun x13 σ11 => r_sc σ11 (tg o 14) 8 (fun x14 => if x14 = (-1 : Int32) then (c_I (fX11_none o (6 : Int32) σ11) (fun x21 σ19 => some (x21, σ19))) else (r_sc σ11 (tg o 14) 8 (fun x15 => c_I (fX11_answer o x15 σ11) (fun x18 σ16 => some (x18, σ16)))))))))))
set_option maxRecDepth 100000 in
set_option maxHeartbeats 4000000 in
theorem ctX11_bell (l : Launch) (E : EV) (o : Nat) (a1 : Int32) (a2 : Int32) (ho : KD o = 11) (σ : Mm) {xr : Int32} {τ : Mm} (h : fX11_bell o a1 a2 σ = some (xr, τ)) : Ct l E mX11_bell 5 [.ref (e_a E o 0), .int a1, .int a2] σ (some (.int xr), τ) := by
  refine Ct.of (by decide +kernel) (Nat.le_of_ble_eq_true rfl) ?_
  show Jd l E mX11_bell 5 (some (.int xr), τ) σ 0 [(0, .ref (e_a E o 0)), (1, .int a1), (2, .int a2)] []
  unfold fX11_bell at h
  refine J_iload_n (pc := 0) 1 dX11_bell_0 rfl ?_
  refine J_if_lt (pc := 1) 12 dX11_bell_1 (by decide) h (fun h => ?_) (fun h => ?_)
  · refine J_aload_n (pc := 12) 0 dX11_bell_12 rfl ?_
    refine J_iconst (pc := 13) (1 : Int32) dX11_bell_13 (by decide) ?_
    obtain ⟨x3, σ1, hc2, h⟩ := cI_t h
    refine J_cVi (pc := 14) (ctX11_none l E o (1 : Int32) ho σ hc2) dX11_bell_14 mlX11_130 mvX11_none ho rfl (by decide) rfl (Nat.le_of_ble_eq_true rfl) ?_
    cases h
    exact J_iret (pc := 17) dX11_bell_17 rfl rfl
  · refine J_aload_n (pc := 4) 0 dX11_bell_4 rfl ?_
    refine J_iload_n (pc := 5) 2 dX11_bell_5 rfl ?_
    obtain ⟨x6, σ4, hc5, h⟩ := cI_t h
    refine J_cVi (pc := 6) (ctX11_isSpan l E o a2 ho σ hc5) dX11_bell_6 mlX11_333 mvX11_isSpan ho rfl (by decide) rfl (Nat.le_of_ble_eq_true rfl) ?_
    refine J_if_ne (pc := 9) 18 dX11_bell_9 (by decide) h (fun h => ?_) (fun h => ?_)
    · refine J_aload_n (pc := 18) 0 dX11_bell_18 rfl ?_
      obtain ⟨σ7, hc8, h⟩ := cV_t h
      refine J_cVv (pc := 19) (ctX11_look l E o ho σ4 hc8) dX11_bell_19 mlX11_323 mvX11_look ho rfl (by decide) rfl (Nat.le_of_ble_eq_true rfl) ?_
      refine J_aload_n (pc := 22) 0 dX11_bell_22 rfl ?_
      refine J_getT (pc := 23) dX11_bell_23 ho flX11_75 rfl ?_
      refine J_iload_n (pc := 26) 1 dX11_bell_26 rfl ?_
      obtain ⟨σ9, hc10, h⟩ := cV_t h
      refine J_cVv (pc := 27) (ctX10_listenFor l E (tg o 14) a1 (tk11_14 ho) σ7 hc10) dX11_bell_27 mlX11_336 mvX10_listenFor (tk11_14 ho) rfl (by decide) rfl (Nat.le_of_ble_eq_true rfl) ?_
      refine J_aload_n (pc := 30) 0 dX11_bell_30 rfl ?_
      refine J_getT (pc := 31) dX11_bell_31 ho flX11_75 rfl ?_
      refine J_iload_n (pc := 34) 2 dX11_bell_34 rfl ?_
      obtain ⟨x13, σ11, hc12, h⟩ := cI_t h
      refine J_cVi (pc := 35) (ctX10_goOn l E (tg o 14) a2 (tk11_14 ho) σ9 hc12) dX11_bell_35 mlX11_279 mvX10_goOn (tk11_14 ho) rfl (by decide) rfl (Nat.le_of_ble_eq_true rfl) ?_
      refine J_pop (pc := 38) dX11_bell_38 rfl ?_
      refine J_aload_n (pc := 39) 0 dX11_bell_39 rfl ?_
      refine J_getT (pc := 40) dX11_bell_40 ho flX11_75 rfl ?_
      refine J_getI (pc := 43) dX11_bell_43 (tk11_14 ho) flX11_339 rfl h (fun x14 h => ?_)
      refine J_iconst (pc := 46) (-1 : Int32) dX11_bell_46 (by decide) ?_
      refine J_icmp_ne (pc := 47) 59 dX11_bell_47 (by decide) h (fun h => ?_) (fun h => ?_)
      · refine J_aload_n (pc := 59) 0 dX11_bell_59 rfl ?_
        refine J_aload_n (pc := 60) 0 dX11_bell_60 rfl ?_
        refine J_getT (pc := 61) dX11_bell_61 ho flX11_75 rfl ?_
        refine J_getI (pc := 64) dX11_bell_64 (tk11_14 ho) flX11_339 rfl h (fun x15 h => ?_)
        obtain ⟨x18, σ16, hc17, h⟩ := cI_t h
        refine J_cVi (pc := 67) (ctX11_answer l E o x15 ho σ11 hc17) dX11_bell_67 mlX11_193 mvX11_answer ho rfl (by decide) rfl (Nat.le_of_ble_eq_true rfl) ?_
        cases h
        exact J_iret (pc := 70) dX11_bell_70 rfl rfl
      · refine J_aload_n (pc := 50) 0 dX11_bell_50 rfl ?_
        refine J_bipush (pc := 51) (6 : Int32) dX11_bell_51 (by decide) ?_
        obtain ⟨x21, σ19, hc20, h⟩ := cI_t h
        refine J_cVi (pc := 53) (ctX11_none l E o (6 : Int32) ho σ11 hc20) dX11_bell_53 mlX11_130 mvX11_none ho rfl (by decide) rfl (Nat.le_of_ble_eq_true rfl) ?_
        refine J_goto (pc := 56) 70 dX11_bell_56 (by decide) ?_
        cases h
        exact J_iret (pc := 70) dX11_bell_70 rfl rfl
    · refine J_aload_n (pc := 12) 0 dX11_bell_12 rfl ?_
      refine J_iconst (pc := 13) (1 : Int32) dX11_bell_13 (by decide) ?_
      obtain ⟨x24, σ22, hc23, h⟩ := cI_t h
      refine J_cVi (pc := 14) (ctX11_none l E o (1 : Int32) ho σ4 hc23) dX11_bell_14 mlX11_130 mvX11_none ho rfl (by decide) rfl (Nat.le_of_ble_eq_true rfl) ?_
      cases h
      exact J_iret (pc := 17) dX11_bell_17 rfl rfl
def fX11_wrong (o : Nat) (a1 : Int32) (a2 : Int32) (σ : Mm) : Option (Int32 × Mm) := c_I (fX11_isVane o a1 σ) (fun x3 σ1 => if x3 = 0 then (c_I (fX11_none o (1 : Int32) σ1) (fun x6 σ4 => some (x6, σ4))) else (c_I (fX11_isSpan o a2 σ1) (fun x9 σ7 => if x9 = 0 then (c_I (fX11_none o (1 : Int32) σ7) (fun x20 σ18 => some (x20, σ18))) else (c_V (fX11_look o σ7) (fun σ10 => c_I (fX10_wrongQuarters (tg o 14) ((1 : Int32) <<< (a1 &&& 31)) a2 σ10) (fun x14 σ12 => c_I (fX11_answer o x14 σ12) (fun x17 σ15 => some (x17, σ15))))))))
set_option maxRecDepth 100000 in
set_option maxHeartbeats 4000000 in
theorem ctX11_wrong (l : Launch) (E : EV) (o : Nat) (a1 : Int32) (a2 : Int32) (ho : KD o = 11) (σ : Mm) {xr : Int32} {τ : Mm} (h : fX11_wrong o a1 a2 σ = some (xr, τ)) : Ct l E mX11_wrong 6 [.ref (e_a E o 0), .int a1, .int a2] σ (some (.int xr), τ) := by
  refine Ct.of (by decide +kernel) (Nat.le_of_ble_eq_true rfl) ?_
  show Jd l E mX11_wrong 6 (some (.int xr), τ) σ 0 [(0, .ref (e_a E o 0)), (1, .int a1), (2, .int a2)] []
  unfold fX11_wrong at h
  refine J_aload_n (pc := 0) 0 dX11_wrong_0 rfl ?_
  refine J_iload_n (pc := 1) 1 dX11_wrong_1 rfl ?_
  obtain ⟨x3, σ1, hc2, h⟩ := cI_t h
  refine J_cVi (pc := 2) (ctX11_isVane l E o a1 ho σ hc2) dX11_wrong_2 mlX11_217 mvX11_isVane ho rfl (by decide) rfl (Nat.le_of_ble_eq_true rfl) ?_
  refine J_if_eq (pc := 5) 16 dX11_wrong_5 (by decide) h (fun h => ?_) (fun h => ?_)
  · refine J_aload_n (pc := 16) 0 dX11_wrong_16 rfl ?_
    refine J_iconst (pc := 17) (1 : Int32) dX11_wrong_17 (by decide) ?_
    obtain ⟨x6, σ4, hc5, h⟩ := cI_t h
    refine J_cVi (pc := 18) (ctX11_none l E o (1 : Int32) ho σ1 hc5) dX11_wrong_18 mlX11_130 mvX11_none ho rfl (by decide) rfl (Nat.le_of_ble_eq_true rfl) ?_
    cases h
    exact J_iret (pc := 21) dX11_wrong_21 rfl rfl
  · refine J_aload_n (pc := 8) 0 dX11_wrong_8 rfl ?_
    refine J_iload_n (pc := 9) 2 dX11_wrong_9 rfl ?_
    obtain ⟨x9, σ7, hc8, h⟩ := cI_t h
    refine J_cVi (pc := 10) (ctX11_isSpan l E o a2 ho σ1 hc8) dX11_wrong_10 mlX11_333 mvX11_isSpan ho rfl (by decide) rfl (Nat.le_of_ble_eq_true rfl) ?_
    refine J_if_ne (pc := 13) 22 dX11_wrong_13 (by decide) h (fun h => ?_) (fun h => ?_)
    · refine J_aload_n (pc := 22) 0 dX11_wrong_22 rfl ?_
      obtain ⟨σ10, hc11, h⟩ := cV_t h
      refine J_cVv (pc := 23) (ctX11_look l E o ho σ7 hc11) dX11_wrong_23 mlX11_323 mvX11_look ho rfl (by decide) rfl (Nat.le_of_ble_eq_true rfl) ?_
      refine J_aload_n (pc := 26) 0 dX11_wrong_26 rfl ?_
      refine J_aload_n (pc := 27) 0 dX11_wrong_27 rfl ?_
      refine J_getT (pc := 28) dX11_wrong_28 ho flX11_75 rfl ?_
      refine J_iconst (pc := 31) (1 : Int32) dX11_wrong_31 (by decide) ?_
      refine J_iload_n (pc := 32) 1 dX11_wrong_32 rfl ?_
      refine J_ishl (pc := 33) dX11_wrong_33 ?_
      refine J_iload_n (pc := 34) 2 dX11_wrong_34 rfl ?_
      obtain ⟨x14, σ12, hc13, h⟩ := cI_t h
      refine J_cVi (pc := 35) (ctX10_wrongQuarters l E (tg o 14) ((1 : Int32) <<< (a1 &&& 31)) a2 (tk11_14 ho) σ10 hc13) dX11_wrong_35 mlX11_342 mvX10_wrongQuarters (tk11_14 ho) rfl (by decide) rfl (Nat.le_of_ble_eq_true rfl) ?_
      obtain ⟨x17, σ15, hc16, h⟩ := cI_t h
      refine J_cVi (pc := 38) (ctX11_answer l E o x14 ho σ12 hc16) dX11_wrong_38 mlX11_193 mvX11_answer ho rfl (by decide) rfl (Nat.le_of_ble_eq_true rfl) ?_
      cases h
      exact J_iret (pc := 41) dX11_wrong_41 rfl rfl
    · refine J_aload_n (pc := 16) 0 dX11_wrong_16 rfl ?_
      refine J_iconst (pc := 17) (1 : Int32) dX11_wrong_17 (by decide) ?_
      obtain ⟨x20, σ18, hc19, h⟩ := cI_t h
      refine J_cVi (pc := 18) (ctX11_none l E o (1 : Int32) ho σ7 hc19) dX11_wrong_18 mlX11_130 mvX11_none ho rfl (by decide) rfl (Nat.le_of_ble_eq_true rfl) ?_
      cases h
      exact J_iret (pc := 21) dX11_wrong_21 rfl rfl
def fX11_allVanes (o : Nat) (σ : Mm) : Option (Int32 × Mm) := r_rf σ (tg o 9) 0 2 (fun q1 => r_sc σ q1 1 (fun x2 => some ((((1 : Int32) <<< (x2 &&& 31)) - (1 : Int32)), σ)))
set_option maxRecDepth 100000 in
set_option maxHeartbeats 4000000 in
theorem ctX11_allVanes (l : Launch) (E : EV) (o : Nat) (ho : KD o = 11) (σ : Mm) {xr : Int32} {τ : Mm} (h : fX11_allVanes o σ = some (xr, τ)) : Ct l E mX11_allVanes 0 [.ref (e_a E o 0)] σ (some (.int xr), τ) := by
  refine Ct.of (by decide +kernel) (Nat.le_of_ble_eq_true rfl) ?_
  show Jd l E mX11_allVanes 0 (some (.int xr), τ) σ 0 [(0, .ref (e_a E o 0))] []
  unfold fX11_allVanes at h
  refine J_iconst (pc := 0) (1 : Int32) dX11_allVanes_0 (by decide) ?_
  refine J_aload_n (pc := 1) 0 dX11_allVanes_1 rfl ?_
  refine J_getT (pc := 2) dX11_allVanes_2 ho flX11_50 rfl ?_
  refine J_getR (pc := 5) dX11_allVanes_5 (tk11_9 ho) flX11_174 rfl h (fun q1 hq1 h => ?_)
  refine J_getI (pc := 8) dX11_allVanes_8 hq1 flX11_190 rfl h (fun x2 h => ?_)
  refine J_ishl (pc := 11) dX11_allVanes_11 ?_
  refine J_iconst (pc := 12) (1 : Int32) dX11_allVanes_12 (by decide) ?_
  refine J_isub (pc := 13) dX11_allVanes_13 ?_
  cases h
  exact J_iret (pc := 14) dX11_allVanes_14 rfl rfl
def fX11_holding (o : Nat) (a1 : Int32) (a2 : Int32) (σ : Mm) : Option (Int32 × Mm) := c_I (fX11_isVane o a1 σ) (fun x3 σ1 => if x3 = 0 then (c_I (fX11_none o (1 : Int32) σ1) (fun x6 σ4 => some (x6, σ4))) else (c_I (fX11_isSpan o a2 σ1) (fun x9 σ7 => if x9 = 0 then (c_I (fX11_none o (1 : Int32) σ7) (fun x36 σ34 => some (x36, σ34))) else (c_I (fX11_allVanes o σ7) (fun x12 σ10 => c_I (fX11_with x12 a1 (0 : Int32) σ10) (fun x15 σ13 => c_V (fX11_look o σ13) (fun σ16 => c_I (fX10_wrongQuarters (tg o 14) x15 a2 σ16) (fun x20 σ18 => c_V (fX11_look o σ18) (fun σ21 => r_sc σ21 (tg o 15) 7 (fun x23 => c_I (fX11_with x23 a1 (1 : Int32) σ21) (fun x26 σ24 => p_sc σ24 (tg o 15) 7 x26 (fun σ27 => c_I (fX10_wrongQuarters (tg o 14) x15 a2 σ27) (fun x30 σ28 => c_I (fX11_answer o (x30 - x20) σ28) (fun x33 σ31 => some (x33, σ31)))))))))))))))
set_option maxRecDepth 100000 in
set_option maxHeartbeats 4000000 in
theorem ctX11_holding (l : Launch) (E : EV) (o : Nat) (a1 : Int32) (a2 : Int32) (ho : KD o = 11) (σ : Mm) {xr : Int32} {τ : Mm} (h : fX11_holding o a1 a2 σ = some (xr, τ)) : Ct l E mX11_holding 6 [.ref (e_a E o 0), .int a1, .int a2] σ (some (.int xr), τ) := by
  refine Ct.of (by decide +kernel) (Nat.le_of_ble_eq_true rfl) ?_
  show Jd l E mX11_holding 6 (some (.int xr), τ) σ 0 [(0, .ref (e_a E o 0)), (1, .int a1), (2, .int a2)] []
  unfold fX11_holding at h
  refine J_aload_n (pc := 0) 0 dX11_holding_0 rfl ?_
  refine J_iload_n (pc := 1) 1 dX11_holding_1 rfl ?_
  obtain ⟨x3, σ1, hc2, h⟩ := cI_t h
  refine J_cVi (pc := 2) (ctX11_isVane l E o a1 ho σ hc2) dX11_holding_2 mlX11_217 mvX11_isVane ho rfl (by decide) rfl (Nat.le_of_ble_eq_true rfl) ?_
  refine J_if_eq (pc := 5) 16 dX11_holding_5 (by decide) h (fun h => ?_) (fun h => ?_)
  · refine J_aload_n (pc := 16) 0 dX11_holding_16 rfl ?_
    refine J_iconst (pc := 17) (1 : Int32) dX11_holding_17 (by decide) ?_
    obtain ⟨x6, σ4, hc5, h⟩ := cI_t h
    refine J_cVi (pc := 18) (ctX11_none l E o (1 : Int32) ho σ1 hc5) dX11_holding_18 mlX11_130 mvX11_none ho rfl (by decide) rfl (Nat.le_of_ble_eq_true rfl) ?_
    cases h
    exact J_iret (pc := 21) dX11_holding_21 rfl rfl
  · refine J_aload_n (pc := 8) 0 dX11_holding_8 rfl ?_
    refine J_iload_n (pc := 9) 2 dX11_holding_9 rfl ?_
    obtain ⟨x9, σ7, hc8, h⟩ := cI_t h
    refine J_cVi (pc := 10) (ctX11_isSpan l E o a2 ho σ1 hc8) dX11_holding_10 mlX11_333 mvX11_isSpan ho rfl (by decide) rfl (Nat.le_of_ble_eq_true rfl) ?_
    refine J_if_ne (pc := 13) 22 dX11_holding_13 (by decide) h (fun h => ?_) (fun h => ?_)
    · refine J_aload_n (pc := 22) 0 dX11_holding_22 rfl ?_
      obtain ⟨x12, σ10, hc11, h⟩ := cI_t h
      refine J_cVi (pc := 23) (ctX11_allVanes l E o ho σ7 hc11) dX11_holding_23 mlX11_345 mvX11_allVanes ho rfl (by decide) rfl (Nat.le_of_ble_eq_true rfl) ?_
      refine J_iload_n (pc := 26) 1 dX11_holding_26 rfl ?_
      refine J_iconst (pc := 27) (0 : Int32) dX11_holding_27 (by decide) ?_
      obtain ⟨x15, σ13, hc14, h⟩ := cI_t h
      refine J_cSi (pc := 28) (ctX11_with l E x12 a1 (0 : Int32) σ10 hc14) dX11_holding_28 mlX11_275 msX11_with rfl (by decide) rfl (Nat.le_of_ble_eq_true rfl) ?_
      refine J_istore_n (pc := 31) (L' := [(3, .int x15), (0, .ref (e_a E o 0)), (1, .int a1), (2, .int a2)]) dX11_holding_31 (by decide) rfl ?_
      refine J_aload_n (pc := 32) 1 dX11_holding_32 rfl ?_
      obtain ⟨σ16, hc17, h⟩ := cV_t h
      refine J_cVv (pc := 33) (ctX11_look l E o ho σ13 hc17) dX11_holding_33 mlX11_323 mvX11_look ho rfl (by decide) rfl (Nat.le_of_ble_eq_true rfl) ?_
      refine J_aload_n (pc := 36) 1 dX11_holding_36 rfl ?_
      refine J_getT (pc := 37) dX11_holding_37 ho flX11_75 rfl ?_
      refine J_iload_n (pc := 40) 0 dX11_holding_40 rfl ?_
      refine J_iload_n (pc := 41) 3 dX11_holding_41 rfl ?_
      obtain ⟨x20, σ18, hc19, h⟩ := cI_t h
      refine J_cVi (pc := 42) (ctX10_wrongQuarters l E (tg o 14) x15 a2 (tk11_14 ho) σ16 hc19) dX11_holding_42 mlX11_342 mvX10_wrongQuarters (tk11_14 ho) rfl (by decide) rfl (Nat.le_of_ble_eq_true rfl) ?_
      refine J_istore (pc := 45) (L' := [(4, .int x20), (3, .int x15), (0, .ref (e_a E o 0)), (1, .int a1), (2, .int a2)]) dX11_holding_45 (by decide) rfl ?_
      refine J_aload_n (pc := 47) 2 dX11_holding_47 rfl ?_
      obtain ⟨σ21, hc22, h⟩ := cV_t h
      refine J_cVv (pc := 48) (ctX11_look l E o ho σ18 hc22) dX11_holding_48 mlX11_323 mvX11_look ho rfl (by decide) rfl (Nat.le_of_ble_eq_true rfl) ?_
      refine J_aload_n (pc := 51) 2 dX11_holding_51 rfl ?_
      refine J_getT (pc := 52) dX11_holding_52 ho flX11_82 rfl ?_
      refine J_aload_n (pc := 55) 2 dX11_holding_55 rfl ?_
      refine J_getT (pc := 56) dX11_holding_56 ho flX11_82 rfl ?_
      refine J_getI (pc := 59) dX11_holding_59 (tk11_15 ho) flX11_214 rfl h (fun x23 h => ?_)
      refine J_iload_n (pc := 62) 3 dX11_holding_62 rfl ?_
      refine J_iconst (pc := 63) (1 : Int32) dX11_holding_63 (by decide) ?_
      obtain ⟨x26, σ24, hc25, h⟩ := cI_t h
      refine J_cSi (pc := 64) (ctX11_with l E x23 a1 (1 : Int32) σ21 hc25) dX11_holding_64 mlX11_275 msX11_with rfl (by decide) rfl (Nat.le_of_ble_eq_true rfl) ?_
      refine J_putI (pc := 67) dX11_holding_67 (tk11_15 ho) flX11_214 rfl h (fun σ27 h => ?_)
      refine J_aload_n (pc := 70) 2 dX11_holding_70 rfl ?_
      refine J_aload_n (pc := 71) 2 dX11_holding_71 rfl ?_
      refine J_getT (pc := 72) dX11_holding_72 ho flX11_75 rfl ?_
      refine J_iload_n (pc := 75) 1 dX11_holding_75 rfl ?_
      refine J_iload_n (pc := 76) 4 dX11_holding_76 rfl ?_
      obtain ⟨x30, σ28, hc29, h⟩ := cI_t h
      refine J_cVi (pc := 77) (ctX10_wrongQuarters l E (tg o 14) x15 a2 (tk11_14 ho) σ27 hc29) dX11_holding_77 mlX11_342 mvX10_wrongQuarters (tk11_14 ho) rfl (by decide) rfl (Nat.le_of_ble_eq_true rfl) ?_
      refine J_iload (pc := 80) 0 dX11_holding_80 rfl ?_
      refine J_isub (pc := 82) dX11_holding_82 ?_
      obtain ⟨x33, σ31, hc32, h⟩ := cI_t h
      refine J_cVi (pc := 83) (ctX11_answer l E o (x30 - x20) ho σ28 hc32) dX11_holding_83 mlX11_193 mvX11_answer ho rfl (by decide) rfl (Nat.le_of_ble_eq_true rfl) ?_
      cases h
      exact J_iret (pc := 86) dX11_holding_86 rfl rfl
    · refine J_aload_n (pc := 16) 0 dX11_holding_16 rfl ?_
      refine J_iconst (pc := 17) (1 : Int32) dX11_holding_17 (by decide) ?_
      obtain ⟨x36, σ34, hc35, h⟩ := cI_t h
      refine J_cVi (pc := 18) (ctX11_none l E o (1 : Int32) ho σ7 hc35) dX11_holding_18 mlX11_130 mvX11_none ho rfl (by decide) rfl (Nat.le_of_ble_eq_true rfl) ?_
      cases h
      exact J_iret (pc := 21) dX11_holding_21 rfl rfl
def fX11_helpers (o : Nat) (a1 : Int32) (σ : Mm) : Option (Int32 × Mm) := c_I (fX11_isVane o a1 σ) (fun x3 σ1 => if x3 = 0 then (c_I (fX11_none o (1 : Int32) σ1) (fun x29 σ27 => some (x29, σ27))) else (c_V (fX11_workOnNow o σ1) (fun σ4 => c_I (fX10_isRight (tg o 14) a1 σ4) (fun x8 σ6 => if x8 = 0 then (c_I (fX10_shorterWay (tg o 14) a1 σ6) (fun x11 σ9 => c_I (fX10_engage (tg o 14) a1 x11 σ9) (fun x14 σ12 => if x14 = 0 then (c_I (fX11_none o (7 : Int32) σ12) (fun x23 σ21 => some (x23, σ21))) else (c_I (fX10_comingNearer (tg o 14) a1 σ12) (fun x17 σ15 => c_I (fX11_answer o x17 σ15) (fun x20 σ18 => some (x20, σ18))))))) else (c_I (fX11_none o (6 : Int32) σ6) (fun x26 σ24 => some (x26, σ24)))))))
set_option maxRecDepth 100000 in
set_option maxHeartbeats 4000000 in
theorem ctX11_helpers (l : Launch) (E : EV) (o : Nat) (a1 : Int32) (ho : KD o = 11) (σ : Mm) {xr : Int32} {τ : Mm} (h : fX11_helpers o a1 σ = some (xr, τ)) : Ct l E mX11_helpers 3 [.ref (e_a E o 0), .int a1] σ (some (.int xr), τ) := by
  refine Ct.of (by decide +kernel) (Nat.le_of_ble_eq_true rfl) ?_
  show Jd l E mX11_helpers 3 (some (.int xr), τ) σ 0 [(0, .ref (e_a E o 0)), (1, .int a1)] []
  unfold fX11_helpers at h
  refine J_aload_n (pc := 0) 0 dX11_helpers_0 rfl ?_
  refine J_iload_n (pc := 1) 1 dX11_helpers_1 rfl ?_
  obtain ⟨x3, σ1, hc2, h⟩ := cI_t h
  refine J_cVi (pc := 2) (ctX11_isVane l E o a1 ho σ hc2) dX11_helpers_2 mlX11_217 mvX11_isVane ho rfl (by decide) rfl (Nat.le_of_ble_eq_true rfl) ?_
  refine J_if_ne (pc := 5) 14 dX11_helpers_5 (by decide) h (fun h => ?_) (fun h => ?_)
  · refine J_aload_n (pc := 14) 0 dX11_helpers_14 rfl ?_
    obtain ⟨σ4, hc5, h⟩ := cV_t h
    refine J_cVv (pc := 15) (ctX11_workOnNow l E o ho σ1 hc5) dX11_helpers_15 mlX11_257 mvX11_workOnNow ho rfl (by decide) rfl (Nat.le_of_ble_eq_true rfl) ?_
    refine J_aload_n (pc := 18) 0 dX11_helpers_18 rfl ?_
    refine J_getT (pc := 19) dX11_helpers_19 ho flX11_75 rfl ?_
    refine J_iload_n (pc := 22) 1 dX11_helpers_22 rfl ?_
    obtain ⟨x8, σ6, hc7, h⟩ := cI_t h
    refine J_cVi (pc := 23) (ctX10_isRight l E (tg o 14) a1 (tk11_14 ho) σ4 hc7) dX11_helpers_23 mlX11_263 mvX10_isRight (tk11_14 ho) rfl (by decide) rfl (Nat.le_of_ble_eq_true rfl) ?_
    refine J_if_eq (pc := 26) 36 dX11_helpers_26 (by decide) h (fun h => ?_) (fun h => ?_)
    · refine J_aload_n (pc := 36) 0 dX11_helpers_36 rfl ?_
      refine J_getT (pc := 37) dX11_helpers_37 ho flX11_75 rfl ?_
      refine J_iload_n (pc := 40) 1 dX11_helpers_40 rfl ?_
      refine J_aload_n (pc := 41) 0 dX11_helpers_41 rfl ?_
      refine J_getT (pc := 42) dX11_helpers_42 ho flX11_75 rfl ?_
      refine J_iload_n (pc := 45) 1 dX11_helpers_45 rfl ?_
      obtain ⟨x11, σ9, hc10, h⟩ := cI_t h
      refine J_cVi (pc := 46) (ctX10_shorterWay l E (tg o 14) a1 (tk11_14 ho) σ6 hc10) dX11_helpers_46 mlX11_348 mvX10_shorterWay (tk11_14 ho) rfl (by decide) rfl (Nat.le_of_ble_eq_true rfl) ?_
      obtain ⟨x14, σ12, hc13, h⟩ := cI_t h
      refine J_cVi (pc := 49) (ctX10_engage l E (tg o 14) a1 x11 (tk11_14 ho) σ9 hc13) dX11_helpers_49 mlX11_285 mvX10_engage (tk11_14 ho) rfl (by decide) rfl (Nat.le_of_ble_eq_true rfl) ?_
      refine J_if_ne (pc := 52) 62 dX11_helpers_52 (by decide) h (fun h => ?_) (fun h => ?_)
      · refine J_aload_n (pc := 62) 0 dX11_helpers_62 rfl ?_
        refine J_aload_n (pc := 63) 0 dX11_helpers_63 rfl ?_
        refine J_getT (pc := 64) dX11_helpers_64 ho flX11_75 rfl ?_
        refine J_iload_n (pc := 67) 1 dX11_helpers_67 rfl ?_
        obtain ⟨x17, σ15, hc16, h⟩ := cI_t h
        refine J_cVi (pc := 68) (ctX10_comingNearer l E (tg o 14) a1 (tk11_14 ho) σ12 hc16) dX11_helpers_68 mlX11_351 mvX10_comingNearer (tk11_14 ho) rfl (by decide) rfl (Nat.le_of_ble_eq_true rfl) ?_
        obtain ⟨x20, σ18, hc19, h⟩ := cI_t h
        refine J_cVi (pc := 71) (ctX11_answer l E o x17 ho σ15 hc19) dX11_helpers_71 mlX11_193 mvX11_answer ho rfl (by decide) rfl (Nat.le_of_ble_eq_true rfl) ?_
        cases h
        exact J_iret (pc := 74) dX11_helpers_74 rfl rfl
      · refine J_aload_n (pc := 55) 0 dX11_helpers_55 rfl ?_
        refine J_bipush (pc := 56) (7 : Int32) dX11_helpers_56 (by decide) ?_
        obtain ⟨x23, σ21, hc22, h⟩ := cI_t h
        refine J_cVi (pc := 58) (ctX11_none l E o (7 : Int32) ho σ12 hc22) dX11_helpers_58 mlX11_130 mvX11_none ho rfl (by decide) rfl (Nat.le_of_ble_eq_true rfl) ?_
        cases h
        exact J_iret (pc := 61) dX11_helpers_61 rfl rfl
    · refine J_aload_n (pc := 29) 0 dX11_helpers_29 rfl ?_
      refine J_bipush (pc := 30) (6 : Int32) dX11_helpers_30 (by decide) ?_
      obtain ⟨x26, σ24, hc25, h⟩ := cI_t h
      refine J_cVi (pc := 32) (ctX11_none l E o (6 : Int32) ho σ6 hc25) dX11_helpers_32 mlX11_130 mvX11_none ho rfl (by decide) rfl (Nat.le_of_ble_eq_true rfl) ?_
      cases h
      exact J_iret (pc := 35) dX11_helpers_35 rfl rfl
  · refine J_aload_n (pc := 8) 0 dX11_helpers_8 rfl ?_
    refine J_iconst (pc := 9) (1 : Int32) dX11_helpers_9 (by decide) ?_
    obtain ⟨x29, σ27, hc28, h⟩ := cI_t h
    refine J_cVi (pc := 10) (ctX11_none l E o (1 : Int32) ho σ1 hc28) dX11_helpers_10 mlX11_130 mvX11_none ho rfl (by decide) rfl (Nat.le_of_ble_eq_true rfl) ?_
    cases h
    exact J_iret (pc := 13) dX11_helpers_13 rfl rfl
def fX11_firstToTurn (o : Nat) (σ : Mm) : Option (Int32 × Mm) := c_V (fX11_workOnNow o σ) (fun σ1 => c_I (fX10_firstDriven (tg o 14) σ1) (fun x5 σ3 => if x5 = (-1 : Int32) then (c_I (fX11_none o (6 : Int32) σ3) (fun x11 σ9 => some (x11, σ9))) else (c_I (fX11_answer o x5 σ3) (fun x8 σ6 => some (x8, σ6)))))
set_option maxRecDepth 100000 in
set_option maxHeartbeats 4000000 in
theorem ctX11_firstToTurn (l : Launch) (E : EV) (o : Nat) (ho : KD o = 11) (σ : Mm) {xr : Int32} {τ : Mm} (h : fX11_firstToTurn o σ = some (xr, τ)) : Ct l E mX11_firstToTurn 5 [.ref (e_a E o 0)] σ (some (.int xr), τ) := by
  refine Ct.of (by decide +kernel) (Nat.le_of_ble_eq_true rfl) ?_
  show Jd l E mX11_firstToTurn 5 (some (.int xr), τ) σ 0 [(0, .ref (e_a E o 0))] []
  unfold fX11_firstToTurn at h
  refine J_aload_n (pc := 0) 0 dX11_firstToTurn_0 rfl ?_
  obtain ⟨σ1, hc2, h⟩ := cV_t h
  refine J_cVv (pc := 1) (ctX11_workOnNow l E o ho σ hc2) dX11_firstToTurn_1 mlX11_257 mvX11_workOnNow ho rfl (by decide) rfl (Nat.le_of_ble_eq_true rfl) ?_
  refine J_aload_n (pc := 4) 0 dX11_firstToTurn_4 rfl ?_
  refine J_getT (pc := 5) dX11_firstToTurn_5 ho flX11_75 rfl ?_
  obtain ⟨x5, σ3, hc4, h⟩ := cI_t h
  refine J_cVi (pc := 8) (ctX10_firstDriven l E (tg o 14) (tk11_14 ho) σ1 hc4) dX11_firstToTurn_8 mlX11_354 mvX10_firstDriven (tk11_14 ho) rfl (by decide) rfl (Nat.le_of_ble_eq_true rfl) ?_
  refine J_istore_n (pc := 11) (L' := [(1, .int x5), (0, .ref (e_a E o 0))]) dX11_firstToTurn_11 (by decide) rfl ?_
  refine J_iload_n (pc := 12) 0 dX11_firstToTurn_12 rfl ?_
  refine J_iconst (pc := 13) (-1 : Int32) dX11_firstToTurn_13 (by decide) ?_
  refine J_icmp_ne (pc := 14) 26 dX11_firstToTurn_14 (by decide) h (fun h => ?_) (fun h => ?_)
  · refine J_aload_n (pc := 26) 1 dX11_firstToTurn_26 rfl ?_
    refine J_iload_n (pc := 27) 0 dX11_firstToTurn_27 rfl ?_
    obtain ⟨x8, σ6, hc7, h⟩ := cI_t h
    refine J_cVi (pc := 28) (ctX11_answer l E o x5 ho σ3 hc7) dX11_firstToTurn_28 mlX11_193 mvX11_answer ho rfl (by decide) rfl (Nat.le_of_ble_eq_true rfl) ?_
    cases h
    exact J_iret (pc := 31) dX11_firstToTurn_31 rfl rfl
  · refine J_aload_n (pc := 17) 1 dX11_firstToTurn_17 rfl ?_
    refine J_bipush (pc := 18) (6 : Int32) dX11_firstToTurn_18 (by decide) ?_
    obtain ⟨x11, σ9, hc10, h⟩ := cI_t h
    refine J_cVi (pc := 20) (ctX11_none l E o (6 : Int32) ho σ3 hc10) dX11_firstToTurn_20 mlX11_130 mvX11_none ho rfl (by decide) rfl (Nat.le_of_ble_eq_true rfl) ?_
    refine J_goto (pc := 23) 31 dX11_firstToTurn_23 (by decide) ?_
    cases h
    exact J_iret (pc := 31) dX11_firstToTurn_31 rfl rfl
def fX11_heaviest_64 (o : Nat) (v1 : Int32) (σ : Mm) : Option (Int32 × Mm) := if v1 = (-1 : Int32) then (c_I (fX11_none o (6 : Int32) σ) (fun x16 σ14 => some (x16, σ14))) else (c_I (fX11_answer o v1 σ) (fun x13 σ11 => some (x13, σ11)))
set_option maxRecDepth 100000 in
set_option maxHeartbeats 4000000 in
theorem tX11_heaviest_64 (l : Launch) (E : EV) {xr : Int32} {τ : Mm} (o : Nat) (ho : KD o = 11) (v1 : Int32) (σ : Mm) (h : fX11_heaviest_64 o v1 σ = some (xr, τ)) : Jd l E mX11_heaviest 4 (some (.int xr), τ) σ 64 [(0, .ref (e_a E o 0)), (1, .int v1)] [] := by
  unfold fX11_heaviest_64 at h
  refine J_iload_n (pc := 64) 1 dX11_heaviest_64 rfl ?_
  refine J_iconst (pc := 65) (-1 : Int32) dX11_heaviest_65 (by decide) ?_
  refine J_icmp_ne (pc := 66) 78 dX11_heaviest_66 (by decide) h (fun h => ?_) (fun h => ?_)
  · refine J_aload_n (pc := 78) 0 dX11_heaviest_78 rfl ?_
    refine J_iload_n (pc := 79) 1 dX11_heaviest_79 rfl ?_
    obtain ⟨x13, σ11, hc12, h⟩ := cI_t h
    refine J_cVi (pc := 80) (ctX11_answer l E o v1 ho σ hc12) dX11_heaviest_80 mlX11_193 mvX11_answer ho rfl (by decide) rfl (Nat.le_of_ble_eq_true rfl) ?_
    cases h
    exact J_iret (pc := 83) dX11_heaviest_83 rfl rfl
  · refine J_aload_n (pc := 69) 0 dX11_heaviest_69 rfl ?_
    refine J_bipush (pc := 70) (6 : Int32) dX11_heaviest_70 (by decide) ?_
    obtain ⟨x16, σ14, hc15, h⟩ := cI_t h
    refine J_cVi (pc := 72) (ctX11_none l E o (6 : Int32) ho σ hc15) dX11_heaviest_72 mlX11_130 mvX11_none ho rfl (by decide) rfl (Nat.le_of_ble_eq_true rfl) ?_
    refine J_goto (pc := 75) 83 dX11_heaviest_75 (by decide) ?_
    cases h
    exact J_iret (pc := 83) dX11_heaviest_83 rfl rfl
def fX11_heaviest_10 (o : Nat) : Nat → Int32 → Int32 → Int32 → Mm → Option (Int32 × Mm)
  | 0, _, _, _, _ => none
  | n + 1, v1, v2, v3, σ => r_rf σ (tg o 9) 0 2 (fun q3 => r_sc σ q3 1 (fun x4 => if x4 ≤ v3 then (fX11_heaviest_64 o v1 σ) else (c_I (fX10_loadOf (tg o 14) v3 (1 : Int32) σ) (fun x7 σ5 => c_I (fX10_loadOf (tg o 14) v3 (-1 : Int32) σ5) (fun x10 σ8 => if (if x7 < x10 then x10 else x7) ≤ v2 then ((fX11_heaviest_10 o n) v1 v2 (v3 + (1 : Int32)) σ8) else ((fX11_heaviest_10 o n) v3 (if x7 < x10 then x10 else x7) (v3 + (1 : Int32)) σ8))))))
set_option maxRecDepth 100000 in
set_option maxHeartbeats 4000000 in
theorem tX11_heaviest_10 (l : Launch) (E : EV) {xr : Int32} {τ : Mm} (o : Nat) (ho : KD o = 11) : ∀ (n : Nat) (v1 : Int32) (v2 : Int32) (v3 : Int32) (σ : Mm), fX11_heaviest_10 o n v1 v2 v3 σ = some (xr, τ) → Jd l E mX11_heaviest 4 (some (.int xr), τ) σ 10 [(0, .ref (e_a E o 0)), (1, .int v1), (2, .int v2), (3, .int v3)] [] := by
  intro n
  induction n with
  | zero => intro v1 v2 v3 σ h; rw [fX11_heaviest_10] at h; cases h
  | succ n ih =>
    intro v1 v2 v3 σ h
    rw [fX11_heaviest_10] at h
    refine J_iload_n (pc := 10) 3 dX11_heaviest_10 rfl ?_
    refine J_aload_n (pc := 11) 0 dX11_heaviest_11 rfl ?_
    refine J_getT (pc := 12) dX11_heaviest_12 ho flX11_50 rfl ?_
    refine J_getR (pc := 15) dX11_heaviest_15 (tk11_9 ho) flX11_174 rfl h (fun q3 hq3 h => ?_)
    refine J_getI (pc := 18) dX11_heaviest_18 hq3 flX11_190 rfl h (fun x4 h => ?_)
    refine J_icmp_ge (pc := 21) 64 dX11_heaviest_21 (by decide) h (fun h => ?_) (fun h => ?_)
    · refine J_sub (L' := [(0, .ref (e_a E o 0)), (1, .int v1)]) [0, 1] rfl ?_
      exact tX11_heaviest_64 l E o ho v1 σ h
    · refine J_aload_n (pc := 24) 0 dX11_heaviest_24 rfl ?_
      refine J_getT (pc := 25) dX11_heaviest_25 ho flX11_75 rfl ?_
      refine J_iload_n (pc := 28) 3 dX11_heaviest_28 rfl ?_
      refine J_iconst (pc := 29) (1 : Int32) dX11_heaviest_29 (by decide) ?_
      obtain ⟨x7, σ5, hc6, h⟩ := cI_t h
      refine J_cVi (pc := 30) (ctX10_loadOf l E (tg o 14) v3 (1 : Int32) (tk11_14 ho) σ hc6) dX11_heaviest_30 mlX11_357 mvX10_loadOf (tk11_14 ho) rfl (by decide) rfl (Nat.le_of_ble_eq_true rfl) ?_
      refine J_aload_n (pc := 33) 0 dX11_heaviest_33 rfl ?_
      refine J_getT (pc := 34) dX11_heaviest_34 ho flX11_75 rfl ?_
      refine J_iload_n (pc := 37) 3 dX11_heaviest_37 rfl ?_
      refine J_iconst (pc := 38) (-1 : Int32) dX11_heaviest_38 (by decide) ?_
      obtain ⟨x10, σ8, hc9, h⟩ := cI_t h
      refine J_cVi (pc := 39) (ctX10_loadOf l E (tg o 14) v3 (-1 : Int32) (tk11_14 ho) σ5 hc9) dX11_heaviest_39 mlX11_357 mvX10_loadOf (tk11_14 ho) rfl (by decide) rfl (Nat.le_of_ble_eq_true rfl) ?_
      refine J_mmax (pc := 42) dX11_heaviest_42 mmX11_360 (by decide) (Nat.le_of_ble_eq_true rfl) ?_
      refine J_istore (pc := 45) (L' := [(4, .int (if x7 < x10 then x10 else x7)), (0, .ref (e_a E o 0)), (1, .int v1), (2, .int v2), (3, .int v3)]) dX11_heaviest_45 (by decide) rfl ?_
      refine J_iload (pc := 47) 0 dX11_heaviest_47 rfl ?_
      refine J_iload_n (pc := 49) 3 dX11_heaviest_49 rfl ?_
      refine J_icmp_le (pc := 50) 58 dX11_heaviest_50 (by decide) h (fun h => ?_) (fun h => ?_)
      · refine J_iinc (pc := 58) (L' := [(3, .int (v3 + (1 : Int32))), (4, .int (if x7 < x10 then x10 else x7)), (0, .ref (e_a E o 0)), (1, .int v1), (2, .int v2)]) 4 (v3 + (1 : Int32)) dX11_heaviest_58 rfl (by rfl) (by decide) rfl ?_
        refine J_goto (pc := 61) 10 dX11_heaviest_61 (by decide) ?_
        refine J_sub (L' := [(0, .ref (e_a E o 0)), (1, .int v1), (2, .int v2), (3, .int (v3 + (1 : Int32)))]) [2, 3, 4, 0] rfl ?_
        exact ih v1 v2 (v3 + (1 : Int32)) σ8 h
      · refine J_iload (pc := 53) 0 dX11_heaviest_53 rfl ?_
        refine J_istore_n (pc := 55) (L' := [(2, .int (if x7 < x10 then x10 else x7)), (4, .int (if x7 < x10 then x10 else x7)), (0, .ref (e_a E o 0)), (1, .int v1), (3, .int v3)]) dX11_heaviest_55 (by decide) rfl ?_
        refine J_iload_n (pc := 56) 4 dX11_heaviest_56 rfl ?_
        refine J_istore_n (pc := 57) (L' := [(1, .int v3), (2, .int (if x7 < x10 then x10 else x7)), (4, .int (if x7 < x10 then x10 else x7)), (0, .ref (e_a E o 0)), (3, .int v3)]) dX11_heaviest_57 (by decide) rfl ?_
        refine J_iinc (pc := 58) (L' := [(3, .int (v3 + (1 : Int32))), (1, .int v3), (2, .int (if x7 < x10 then x10 else x7)), (4, .int (if x7 < x10 then x10 else x7)), (0, .ref (e_a E o 0))]) 4 (v3 + (1 : Int32)) dX11_heaviest_58 rfl (by rfl) (by decide) rfl ?_
        refine J_goto (pc := 61) 10 dX11_heaviest_61 (by decide) ?_
        refine J_sub (L' := [(0, .ref (e_a E o 0)), (1, .int v3), (2, .int (if x7 < x10 then x10 else x7)), (3, .int (v3 + (1 : Int32)))]) [4, 1, 2, 0] rfl ?_
        exact ih v3 (if x7 < x10 then x10 else x7) (v3 + (1 : Int32)) σ8 h
def fX11_heaviest (o : Nat) (σ : Mm) : Option (Int32 × Mm) := c_V (fX11_workOnNow o σ) (fun σ1 => fX11_heaviest_10 o FU (-1 : Int32) (0 : Int32) (0 : Int32) σ1)
set_option maxRecDepth 100000 in
set_option maxHeartbeats 4000000 in
theorem ctX11_heaviest (l : Launch) (E : EV) (o : Nat) (ho : KD o = 11) (σ : Mm) {xr : Int32} {τ : Mm} (h : fX11_heaviest o σ = some (xr, τ)) : Ct l E mX11_heaviest 4 [.ref (e_a E o 0)] σ (some (.int xr), τ) := by
  refine Ct.of (by decide +kernel) (Nat.le_of_ble_eq_true rfl) ?_
  show Jd l E mX11_heaviest 4 (some (.int xr), τ) σ 0 [(0, .ref (e_a E o 0))] []
  unfold fX11_heaviest at h
  refine J_aload_n (pc := 0) 0 dX11_heaviest_0 rfl ?_
  obtain ⟨σ1, hc2, h⟩ := cV_t h
  refine J_cVv (pc := 1) (ctX11_workOnNow l E o ho σ hc2) dX11_heaviest_1 mlX11_257 mvX11_workOnNow ho rfl (by decide) rfl (Nat.le_of_ble_eq_true rfl) ?_
  refine J_iconst (pc := 4) (-1 : Int32) dX11_heaviest_4 (by decide) ?_
  refine J_istore_n (pc := 5) (L' := [(1, .int (-1 : Int32)), (0, .ref (e_a E o 0))]) dX11_heaviest_5 (by decide) rfl ?_
  refine J_iconst (pc := 6) (0 : Int32) dX11_heaviest_6 (by decide) ?_
  refine J_istore_n (pc := 7) (L' := [(2, .int (0 : Int32)), (1, .int (-1 : Int32)), (0, .ref (e_a E o 0))]) dX11_heaviest_7 (by decide) rfl ?_
  refine J_iconst (pc := 8) (0 : Int32) dX11_heaviest_8 (by decide) ?_
  refine J_istore_n (pc := 9) (L' := [(3, .int (0 : Int32)), (2, .int (0 : Int32)), (1, .int (-1 : Int32)), (0, .ref (e_a E o 0))]) dX11_heaviest_9 (by decide) rfl ?_
  refine J_sub (L' := [(0, .ref (e_a E o 0)), (1, .int (-1 : Int32)), (2, .int (0 : Int32)), (3, .int (0 : Int32))]) [3, 2, 1, 0] rfl ?_
  exact tX11_heaviest_10 l E o ho FU (-1 : Int32) (0 : Int32) (0 : Int32) σ1 h
def fX11_farthest_51 (o : Nat) (v1 : Int32) (σ : Mm) : Option (Int32 × Mm) := if v1 = (-1 : Int32) then (c_I (fX11_none o (6 : Int32) σ) (fun x13 σ11 => some (x13, σ11))) else (c_I (fX11_answer o v1 σ) (fun x10 σ8 => some (x10, σ8)))
set_option maxRecDepth 100000 in
set_option maxHeartbeats 4000000 in
theorem tX11_farthest_51 (l : Launch) (E : EV) {xr : Int32} {τ : Mm} (o : Nat) (ho : KD o = 11) (v1 : Int32) (σ : Mm) (h : fX11_farthest_51 o v1 σ = some (xr, τ)) : Jd l E mX11_farthest 3 (some (.int xr), τ) σ 51 [(0, .ref (e_a E o 0)), (1, .int v1)] [] := by
  unfold fX11_farthest_51 at h
  refine J_iload_n (pc := 51) 1 dX11_farthest_51 rfl ?_
  refine J_iconst (pc := 52) (-1 : Int32) dX11_farthest_52 (by decide) ?_
  refine J_icmp_ne (pc := 53) 65 dX11_farthest_53 (by decide) h (fun h => ?_) (fun h => ?_)
  · refine J_aload_n (pc := 65) 0 dX11_farthest_65 rfl ?_
    refine J_iload_n (pc := 66) 1 dX11_farthest_66 rfl ?_
    obtain ⟨x10, σ8, hc9, h⟩ := cI_t h
    refine J_cVi (pc := 67) (ctX11_answer l E o v1 ho σ hc9) dX11_farthest_67 mlX11_193 mvX11_answer ho rfl (by decide) rfl (Nat.le_of_ble_eq_true rfl) ?_
    cases h
    exact J_iret (pc := 70) dX11_farthest_70 rfl rfl
  · refine J_aload_n (pc := 56) 0 dX11_farthest_56 rfl ?_
    refine J_bipush (pc := 57) (6 : Int32) dX11_farthest_57 (by decide) ?_
    obtain ⟨x13, σ11, hc12, h⟩ := cI_t h
    refine J_cVi (pc := 59) (ctX11_none l E o (6 : Int32) ho σ hc12) dX11_farthest_59 mlX11_130 mvX11_none ho rfl (by decide) rfl (Nat.le_of_ble_eq_true rfl) ?_
    refine J_goto (pc := 62) 70 dX11_farthest_62 (by decide) ?_
    cases h
    exact J_iret (pc := 70) dX11_farthest_70 rfl rfl
def fX11_farthest_10 (o : Nat) : Nat → Int32 → Int32 → Int32 → Mm → Option (Int32 × Mm)
  | 0, _, _, _, _ => none
  | n + 1, v1, v2, v3, σ => r_rf σ (tg o 9) 0 2 (fun q3 => r_sc σ q3 1 (fun x4 => if x4 ≤ v3 then (fX11_farthest_51 o v1 σ) else (c_I (fX10_gapNow (tg o 14) v3 σ) (fun x7 σ5 => if x7 ≤ v2 then ((fX11_farthest_10 o n) v1 v2 (v3 + (1 : Int32)) σ5) else ((fX11_farthest_10 o n) v3 x7 (v3 + (1 : Int32)) σ5)))))
set_option maxRecDepth 100000 in
set_option maxHeartbeats 4000000 in
theorem tX11_farthest_10 (l : Launch) (E : EV) {xr : Int32} {τ : Mm} (o : Nat) (ho : KD o = 11) : ∀ (n : Nat) (v1 : Int32) (v2 : Int32) (v3 : Int32) (σ : Mm), fX11_farthest_10 o n v1 v2 v3 σ = some (xr, τ) → Jd l E mX11_farthest 3 (some (.int xr), τ) σ 10 [(0, .ref (e_a E o 0)), (1, .int v1), (2, .int v2), (3, .int v3)] [] := by
  intro n
  induction n with
  | zero => intro v1 v2 v3 σ h; rw [fX11_farthest_10] at h; cases h
  | succ n ih =>
    intro v1 v2 v3 σ h
    rw [fX11_farthest_10] at h
    refine J_iload_n (pc := 10) 3 dX11_farthest_10 rfl ?_
    refine J_aload_n (pc := 11) 0 dX11_farthest_11 rfl ?_
    refine J_getT (pc := 12) dX11_farthest_12 ho flX11_50 rfl ?_
    refine J_getR (pc := 15) dX11_farthest_15 (tk11_9 ho) flX11_174 rfl h (fun q3 hq3 h => ?_)
    refine J_getI (pc := 18) dX11_farthest_18 hq3 flX11_190 rfl h (fun x4 h => ?_)
    refine J_icmp_ge (pc := 21) 51 dX11_farthest_21 (by decide) h (fun h => ?_) (fun h => ?_)
    · refine J_sub (L' := [(0, .ref (e_a E o 0)), (1, .int v1)]) [0, 1] rfl ?_
      exact tX11_farthest_51 l E o ho v1 σ h
    · refine J_aload_n (pc := 24) 0 dX11_farthest_24 rfl ?_
      refine J_getT (pc := 25) dX11_farthest_25 ho flX11_75 rfl ?_
      refine J_iload_n (pc := 28) 3 dX11_farthest_28 rfl ?_
      obtain ⟨x7, σ5, hc6, h⟩ := cI_t h
      refine J_cVi (pc := 29) (ctX10_gapNow l E (tg o 14) v3 (tk11_14 ho) σ hc6) dX11_farthest_29 mlX11_365 mvX10_gapNow (tk11_14 ho) rfl (by decide) rfl (Nat.le_of_ble_eq_true rfl) ?_
      refine J_istore (pc := 32) (L' := [(4, .int x7), (0, .ref (e_a E o 0)), (1, .int v1), (2, .int v2), (3, .int v3)]) dX11_farthest_32 (by decide) rfl ?_
      refine J_iload (pc := 34) 0 dX11_farthest_34 rfl ?_
      refine J_iload_n (pc := 36) 3 dX11_farthest_36 rfl ?_
      refine J_icmp_le (pc := 37) 45 dX11_farthest_37 (by decide) h (fun h => ?_) (fun h => ?_)
      · refine J_iinc (pc := 45) (L' := [(3, .int (v3 + (1 : Int32))), (4, .int x7), (0, .ref (e_a E o 0)), (1, .int v1), (2, .int v2)]) 4 (v3 + (1 : Int32)) dX11_farthest_45 rfl (by rfl) (by decide) rfl ?_
        refine J_goto (pc := 48) 10 dX11_farthest_48 (by decide) ?_
        refine J_sub (L' := [(0, .ref (e_a E o 0)), (1, .int v1), (2, .int v2), (3, .int (v3 + (1 : Int32)))]) [2, 3, 4, 0] rfl ?_
        exact ih v1 v2 (v3 + (1 : Int32)) σ5 h
      · refine J_iload (pc := 40) 0 dX11_farthest_40 rfl ?_
        refine J_istore_n (pc := 42) (L' := [(2, .int x7), (4, .int x7), (0, .ref (e_a E o 0)), (1, .int v1), (3, .int v3)]) dX11_farthest_42 (by decide) rfl ?_
        refine J_iload_n (pc := 43) 4 dX11_farthest_43 rfl ?_
        refine J_istore_n (pc := 44) (L' := [(1, .int v3), (2, .int x7), (4, .int x7), (0, .ref (e_a E o 0)), (3, .int v3)]) dX11_farthest_44 (by decide) rfl ?_
        refine J_iinc (pc := 45) (L' := [(3, .int (v3 + (1 : Int32))), (1, .int v3), (2, .int x7), (4, .int x7), (0, .ref (e_a E o 0))]) 4 (v3 + (1 : Int32)) dX11_farthest_45 rfl (by rfl) (by decide) rfl ?_
        refine J_goto (pc := 48) 10 dX11_farthest_48 (by decide) ?_
        refine J_sub (L' := [(0, .ref (e_a E o 0)), (1, .int v3), (2, .int x7), (3, .int (v3 + (1 : Int32)))]) [4, 1, 2, 0] rfl ?_
        exact ih v3 x7 (v3 + (1 : Int32)) σ5 h
def fX11_farthest (o : Nat) (σ : Mm) : Option (Int32 × Mm) := c_V (fX11_workOnNow o σ) (fun σ1 => fX11_farthest_10 o FU (-1 : Int32) (0 : Int32) (0 : Int32) σ1)
set_option maxRecDepth 100000 in
set_option maxHeartbeats 4000000 in
theorem ctX11_farthest (l : Launch) (E : EV) (o : Nat) (ho : KD o = 11) (σ : Mm) {xr : Int32} {τ : Mm} (h : fX11_farthest o σ = some (xr, τ)) : Ct l E mX11_farthest 3 [.ref (e_a E o 0)] σ (some (.int xr), τ) := by
  refine Ct.of (by decide +kernel) (Nat.le_of_ble_eq_true rfl) ?_
  show Jd l E mX11_farthest 3 (some (.int xr), τ) σ 0 [(0, .ref (e_a E o 0))] []
  unfold fX11_farthest at h
  refine J_aload_n (pc := 0) 0 dX11_farthest_0 rfl ?_
  obtain ⟨σ1, hc2, h⟩ := cV_t h
  refine J_cVv (pc := 1) (ctX11_workOnNow l E o ho σ hc2) dX11_farthest_1 mlX11_257 mvX11_workOnNow ho rfl (by decide) rfl (Nat.le_of_ble_eq_true rfl) ?_
  refine J_iconst (pc := 4) (-1 : Int32) dX11_farthest_4 (by decide) ?_
  refine J_istore_n (pc := 5) (L' := [(1, .int (-1 : Int32)), (0, .ref (e_a E o 0))]) dX11_farthest_5 (by decide) rfl ?_
  refine J_iconst (pc := 6) (0 : Int32) dX11_farthest_6 (by decide) ?_
  refine J_istore_n (pc := 7) (L' := [(2, .int (0 : Int32)), (1, .int (-1 : Int32)), (0, .ref (e_a E o 0))]) dX11_farthest_7 (by decide) rfl ?_
  refine J_iconst (pc := 8) (0 : Int32) dX11_farthest_8 (by decide) ?_
  refine J_istore_n (pc := 9) (L' := [(3, .int (0 : Int32)), (2, .int (0 : Int32)), (1, .int (-1 : Int32)), (0, .ref (e_a E o 0))]) dX11_farthest_9 (by decide) rfl ?_
  refine J_sub (L' := [(0, .ref (e_a E o 0)), (1, .int (-1 : Int32)), (2, .int (0 : Int32)), (3, .int (0 : Int32))]) [3, 2, 1, 0] rfl ?_
  exact tX11_farthest_10 l E o ho FU (-1 : Int32) (0 : Int32) (0 : Int32) σ1 h
def fX11_calmed (o : Nat) (σ : Mm) : Option (Int32 × Mm) := c_I (fX11_quartersToCalm o σ) (fun x3 σ1 => if x3 = (-1 : Int32) then (c_I (fX11_none o (6 : Int32) σ1) (fun x9 σ7 => some (x9, σ7))) else (c_I (fX11_answer o x3 σ1) (fun x6 σ4 => some (x6, σ4))))
set_option maxRecDepth 100000 in
set_option maxHeartbeats 4000000 in
theorem ctX11_calmed (l : Launch) (E : EV) (o : Nat) (ho : KD o = 11) (σ : Mm) {xr : Int32} {τ : Mm} (h : fX11_calmed o σ = some (xr, τ)) : Ct l E mX11_calmed 6 [.ref (e_a E o 0)] σ (some (.int xr), τ) := by
  refine Ct.of (by decide +kernel) (Nat.le_of_ble_eq_true rfl) ?_
  show Jd l E mX11_calmed 6 (some (.int xr), τ) σ 0 [(0, .ref (e_a E o 0))] []
  unfold fX11_calmed at h
  refine J_aload_n (pc := 0) 0 dX11_calmed_0 rfl ?_
  obtain ⟨x3, σ1, hc2, h⟩ := cI_t h
  refine J_cVi (pc := 1) (ctX11_quartersToCalm l E o ho σ hc2) dX11_calmed_1 mlX11_330 mvX11_quartersToCalm ho rfl (by decide) rfl (Nat.le_of_ble_eq_true rfl) ?_
  refine J_istore_n (pc := 4) (L' := [(1, .int x3), (0, .ref (e_a E o 0))]) dX11_calmed_4 (by decide) rfl ?_
  refine J_iload_n (pc := 5) 0 dX11_calmed_5 rfl ?_
  refine J_iconst (pc := 6) (-1 : Int32) dX11_calmed_6 (by decide) ?_
  refine J_icmp_ne (pc := 7) 19 dX11_calmed_7 (by decide) h (fun h => ?_) (fun h => ?_)
  · refine J_aload_n (pc := 19) 1 dX11_calmed_19 rfl ?_
    refine J_iload_n (pc := 20) 0 dX11_calmed_20 rfl ?_
    obtain ⟨x6, σ4, hc5, h⟩ := cI_t h
    refine J_cVi (pc := 21) (ctX11_answer l E o x3 ho σ1 hc5) dX11_calmed_21 mlX11_193 mvX11_answer ho rfl (by decide) rfl (Nat.le_of_ble_eq_true rfl) ?_
    cases h
    exact J_iret (pc := 24) dX11_calmed_24 rfl rfl
  · refine J_aload_n (pc := 10) 1 dX11_calmed_10 rfl ?_
    refine J_bipush (pc := 11) (6 : Int32) dX11_calmed_11 (by decide) ?_
    obtain ⟨x9, σ7, hc8, h⟩ := cI_t h
    refine J_cVi (pc := 13) (ctX11_none l E o (6 : Int32) ho σ1 hc8) dX11_calmed_13 mlX11_130 mvX11_none ho rfl (by decide) rfl (Nat.le_of_ble_eq_true rfl) ?_
    refine J_goto (pc := 16) 24 dX11_calmed_16 (by decide) ?_
    cases h
    exact J_iret (pc := 24) dX11_calmed_24 rfl rfl
def fX11_teeth (o : Nat) (a1 : Int32) (σ : Mm) : Option (Int32 × Mm) := c_I (fX11_isSpan o a1 σ) (fun x3 σ1 => if x3 = 0 then (c_I (fX11_none o (1 : Int32) σ1) (fun x15 σ13 => some (x15, σ13))) else (c_V (fX11_look o σ1) (fun σ4 => c_I (fX10_goOn (tg o 14) a1 σ4) (fun x8 σ6 => r_sc σ6 (tg o 14) 5 (fun x9 => c_I (fX11_answer o x9 σ6) (fun x12 σ10 => some (x12, σ10)))))))
set_option maxRecDepth 100000 in
set_option maxHeartbeats 4000000 in
theorem ctX11_teeth (l : Launch) (E : EV) (o : Nat) (a1 : Int32) (ho : KD o = 11) (σ : Mm) {xr : Int32} {τ : Mm} (h : fX11_teeth o a1 σ = some (xr, τ)) : Ct l E mX11_teeth 5 [.ref (e_a E o 0), .int a1] σ (some (.int xr), τ) := by
  refine Ct.of (by decide +kernel) (Nat.le_of_ble_eq_true rfl) ?_
  show Jd l E mX11_teeth 5 (some (.int xr), τ) σ 0 [(0, .ref (e_a E o 0)), (1, .int a1)] []
  unfold fX11_teeth at h
  refine J_aload_n (pc := 0) 0 dX11_teeth_0 rfl ?_
  refine J_iload_n (pc := 1) 1 dX11_teeth_1 rfl ?_
  obtain ⟨x3, σ1, hc2, h⟩ := cI_t h
  refine J_cVi (pc := 2) (ctX11_isSpan l E o a1 ho σ hc2) dX11_teeth_2 mlX11_333 mvX11_isSpan ho rfl (by decide) rfl (Nat.le_of_ble_eq_true rfl) ?_
  refine J_if_ne (pc := 5) 14 dX11_teeth_5 (by decide) h (fun h => ?_) (fun h => ?_)
  · refine J_aload_n (pc := 14) 0 dX11_teeth_14 rfl ?_
    obtain ⟨σ4, hc5, h⟩ := cV_t h
    refine J_cVv (pc := 15) (ctX11_look l E o ho σ1 hc5) dX11_teeth_15 mlX11_323 mvX11_look ho rfl (by decide) rfl (Nat.le_of_ble_eq_true rfl) ?_
    refine J_aload_n (pc := 18) 0 dX11_teeth_18 rfl ?_
    refine J_getT (pc := 19) dX11_teeth_19 ho flX11_75 rfl ?_
    refine J_iload_n (pc := 22) 1 dX11_teeth_22 rfl ?_
    obtain ⟨x8, σ6, hc7, h⟩ := cI_t h
    refine J_cVi (pc := 23) (ctX10_goOn l E (tg o 14) a1 (tk11_14 ho) σ4 hc7) dX11_teeth_23 mlX11_279 mvX10_goOn (tk11_14 ho) rfl (by decide) rfl (Nat.le_of_ble_eq_true rfl) ?_
    refine J_pop (pc := 26) dX11_teeth_26 rfl ?_
    refine J_aload_n (pc := 27) 0 dX11_teeth_27 rfl ?_
    refine J_aload_n (pc := 28) 0 dX11_teeth_28 rfl ?_
    refine J_getT (pc := 29) dX11_teeth_29 ho flX11_75 rfl ?_
    refine J_getI (pc := 32) dX11_teeth_32 (tk11_14 ho) flX11_368 rfl h (fun x9 h => ?_)
    obtain ⟨x12, σ10, hc11, h⟩ := cI_t h
    refine J_cVi (pc := 35) (ctX11_answer l E o x9 ho σ6 hc11) dX11_teeth_35 mlX11_193 mvX11_answer ho rfl (by decide) rfl (Nat.le_of_ble_eq_true rfl) ?_
    cases h
    exact J_iret (pc := 38) dX11_teeth_38 rfl rfl
  · refine J_aload_n (pc := 8) 0 dX11_teeth_8 rfl ?_
    refine J_iconst (pc := 9) (1 : Int32) dX11_teeth_9 (by decide) ?_
    obtain ⟨x15, σ13, hc14, h⟩ := cI_t h
    refine J_cVi (pc := 10) (ctX11_none l E o (1 : Int32) ho σ1 hc14) dX11_teeth_10 mlX11_130 mvX11_none ho rfl (by decide) rfl (Nat.le_of_ble_eq_true rfl) ?_
    cases h
    exact J_iret (pc := 13) dX11_teeth_13 rfl rfl
def fX11_isBlowing (o : Nat) (a1 : Int32) (σ : Mm) : Option (Int32 × Mm) := if a1 < (1 : Int32) then (some ((0 : Int32), σ)) else (if (99 : Int32) < a1 then (some ((0 : Int32), σ)) else (some ((1 : Int32), σ)))
set_option maxRecDepth 100000 in
set_option maxHeartbeats 4000000 in
theorem ctX11_isBlowing (l : Launch) (E : EV) (o : Nat) (a1 : Int32) (ho : KD o = 11) (σ : Mm) {xr : Int32} {τ : Mm} (h : fX11_isBlowing o a1 σ = some (xr, τ)) : Ct l E mX11_isBlowing 0 [.ref (e_a E o 0), .int a1] σ (some (.int xr), τ) := by
  refine Ct.of (by decide +kernel) (Nat.le_of_ble_eq_true rfl) ?_
  show Jd l E mX11_isBlowing 0 (some (.int xr), τ) σ 0 [(0, .ref (e_a E o 0)), (1, .int a1)] []
  unfold fX11_isBlowing at h
  refine J_iload_n (pc := 0) 1 dX11_isBlowing_0 rfl ?_
  refine J_iconst (pc := 1) (1 : Int32) dX11_isBlowing_1 (by decide) ?_
  refine J_icmp_lt (pc := 2) 15 dX11_isBlowing_2 (by decide) h (fun h => ?_) (fun h => ?_)
  · refine J_iconst (pc := 15) (0 : Int32) dX11_isBlowing_15 (by decide) ?_
    cases h
    exact J_iret (pc := 16) dX11_isBlowing_16 rfl rfl
  · refine J_iload_n (pc := 5) 1 dX11_isBlowing_5 rfl ?_
    refine J_bipush (pc := 6) (99 : Int32) dX11_isBlowing_6 (by decide) ?_
    refine J_icmp_gt (pc := 8) 15 dX11_isBlowing_8 (by decide) h (fun h => ?_) (fun h => ?_)
    · refine J_iconst (pc := 15) (0 : Int32) dX11_isBlowing_15 (by decide) ?_
      cases h
      exact J_iret (pc := 16) dX11_isBlowing_16 rfl rfl
    · refine J_iconst (pc := 11) (1 : Int32) dX11_isBlowing_11 (by decide) ?_
      refine J_goto (pc := 12) 16 dX11_isBlowing_12 (by decide) ?_
      cases h
      exact J_iret (pc := 16) dX11_isBlowing_16 rfl rfl
def fX11_rightsBehind (o : Nat) (a1 : Int32) (σ : Mm) : Option (Int32 × Mm) := c_I (fX10_goOn (tg o 14) a1 σ) (fun x3 σ1 => c_I (fX10_rightSet (tg o 14) σ1) (fun x6 σ4 => c_I (fJ6_bitCount_0f7a4 x6 σ4) (fun x9 σ7 => some (x9, σ7))))
set_option maxRecDepth 100000 in
set_option maxHeartbeats 4000000 in
theorem ctX11_rightsBehind (l : Launch) (E : EV) (o : Nat) (a1 : Int32) (ho : KD o = 11) (σ : Mm) {xr : Int32} {τ : Mm} (h : fX11_rightsBehind o a1 σ = some (xr, τ)) : Ct l E mX11_rightsBehind 5 [.ref (e_a E o 0), .int a1] σ (some (.int xr), τ) := by
  refine Ct.of (by decide +kernel) (Nat.le_of_ble_eq_true rfl) ?_
  show Jd l E mX11_rightsBehind 5 (some (.int xr), τ) σ 0 [(0, .ref (e_a E o 0)), (1, .int a1)] []
  unfold fX11_rightsBehind at h
  refine J_aload_n (pc := 0) 0 dX11_rightsBehind_0 rfl ?_
  refine J_getT (pc := 1) dX11_rightsBehind_1 ho flX11_75 rfl ?_
  refine J_iload_n (pc := 4) 1 dX11_rightsBehind_4 rfl ?_
  obtain ⟨x3, σ1, hc2, h⟩ := cI_t h
  refine J_cVi (pc := 5) (ctX10_goOn l E (tg o 14) a1 (tk11_14 ho) σ hc2) dX11_rightsBehind_5 mlX11_279 mvX10_goOn (tk11_14 ho) rfl (by decide) rfl (Nat.le_of_ble_eq_true rfl) ?_
  refine J_pop (pc := 8) dX11_rightsBehind_8 rfl ?_
  refine J_aload_n (pc := 9) 0 dX11_rightsBehind_9 rfl ?_
  refine J_getT (pc := 10) dX11_rightsBehind_10 ho flX11_75 rfl ?_
  obtain ⟨x6, σ4, hc5, h⟩ := cI_t h
  refine J_cVi (pc := 13) (ctX10_rightSet l E (tg o 14) (tk11_14 ho) σ1 hc5) dX11_rightsBehind_13 mlX11_326 mvX10_rightSet (tk11_14 ho) rfl (by decide) rfl (Nat.le_of_ble_eq_true rfl) ?_
  obtain ⟨x9, σ7, hc8, h⟩ := cI_t h
  refine J_cSi (pc := 16) (ctJ6_bitCount_0f7a4 l E x6 σ4 hc8) dX11_rightsBehind_16 mlX11_386 msJ6_bitCount_0f7a4 rfl (by decide) rfl (Nat.le_of_ble_eq_true rfl) ?_
  cases h
  exact J_iret (pc := 19) dX11_rightsBehind_19 rfl rfl
