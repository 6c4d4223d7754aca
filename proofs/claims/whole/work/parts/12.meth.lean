def fX10_force_4 (o : Nat) : Nat → Int32 → Int32 → Mm → Option (Int32 × Mm)
  | 0, _, _, _ => none
  | n + 1, v1, v2, σ => r_rf σ o 0 2 (fun q1 => r_sc σ q1 1 (fun x2 => if x2 ≤ v2 then (some (v1, σ)) else (r_sc σ o 4 (fun x3 => c_I (fX11_has x3 v2 σ) (fun x6 σ4 => if x6 = 0 then ((fX10_force_4 o n) v1 (v2 + (1 : Int32)) σ4) else (c_I (fX10_gain o v2 σ4) (fun x9 σ7 => r_rf σ7 o 1 4 (fun q10 => r_rf σ7 o 0 2 (fun q11 => g_ar σ7 q11 4 8 v2 (fun x12 => g_ar σ7 q10 1 4 x12 (fun x13 => r_rf σ7 o 0 2 (fun q14 => g_ar σ7 q14 5 8 v2 (fun x15 => (fX10_force_4 o n) (v1 + ((x9 * x13) - x15)) (v2 + (1 : Int32)) σ7)))))))))))))
set_option maxRecDepth 100000 in
set_option maxHeartbeats 4000000 in
theorem tX10_force_4 (l : Launch) (E : EV) {xr : Int32} {τ : Mm} (o : Nat) (ho : KD o = 10) : ∀ (n : Nat) (v1 : Int32) (v2 : Int32) (σ : Mm), fX10_force_4 o n v1 v2 σ = some (xr, τ) → Jd l E mX10_force 2 (some (.int xr), τ) σ 4 [(0, .ref (e_a E o 0)), (1, .int v1), (2, .int v2)] [] := by
  intro n
  induction n with
  | zero => intro v1 v2 σ h; rw [fX10_force_4] at h; cases h
  | succ n ih =>
    intro v1 v2 σ h
    rw [fX10_force_4] at h
    refine J_iload_n (pc := 4) 2 dX10_force_4 rfl ?_
    refine J_aload_n (pc := 5) 0 dX10_force_5 rfl ?_
    refine J_getR (pc := 6) dX10_force_6 ho flX10_18 rfl h (fun q1 hq1 h => ?_)
    refine J_getI (pc := 9) dX10_force_9 hq1 flX10_58 rfl h (fun x2 h => ?_)
    refine J_icmp_ge (pc := 12) 68 dX10_force_12 (by decide) h (fun h => ?_) (fun h => ?_)
    · refine J_iload_n (pc := 68) 1 dX10_force_68 rfl ?_
      cases h
      exact J_iret (pc := 69) dX10_force_69 rfl rfl
    · refine J_aload_n (pc := 15) 0 dX10_force_15 rfl ?_
      refine J_getI (pc := 16) dX10_force_16 ho flX10_84 rfl h (fun x3 h => ?_)
      refine J_iload_n (pc := 19) 2 dX10_force_19 rfl ?_
      obtain ⟨x6, σ4, hc5, h⟩ := cI_t h
      refine J_cNi (pc := 20) (host := "VaneTown") (ctX11_has l E x3 v2 σ hc5) dX10_force_20 mnX10_113 msX11_has rfl (by decide) rfl (Nat.le_of_ble_eq_true rfl) ?_
      refine J_if_eq (pc := 23) 62 dX10_force_23 (by decide) h (fun h => ?_) (fun h => ?_)
      · refine J_iinc (pc := 62) (L' := [(2, .int (v2 + (1 : Int32))), (0, .ref (e_a E o 0)), (1, .int v1)]) 2 (v2 + (1 : Int32)) dX10_force_62 rfl (by rfl) (by decide) rfl ?_
        refine J_goto (pc := 65) 4 dX10_force_65 (by decide) ?_
        refine J_sub (L' := [(0, .ref (e_a E o 0)), (1, .int v1), (2, .int (v2 + (1 : Int32)))]) [1, 2, 0] rfl ?_
        exact ih v1 (v2 + (1 : Int32)) σ4 h
      · refine J_iload_n (pc := 26) 1 dX10_force_26 rfl ?_
        refine J_aload_n (pc := 27) 0 dX10_force_27 rfl ?_
        refine J_iload_n (pc := 28) 2 dX10_force_28 rfl ?_
        obtain ⟨x9, σ7, hc8, h⟩ := cI_t h
        refine J_cVi (pc := 29) (ctX10_gain l E o v2 ho σ4 hc8) dX10_force_29 mlX10_142 mvX10_gain ho rfl (by decide) rfl (Nat.le_of_ble_eq_true rfl) ?_
        refine J_aload_n (pc := 32) 0 dX10_force_32 rfl ?_
        refine J_getR (pc := 33) dX10_force_33 ho flX10_22 rfl h (fun q10 hq10 h => ?_)
        refine J_getA (pc := 36) dX10_force_36 hq10 flX10_51 rfl ?_
        refine J_aload_n (pc := 39) 0 dX10_force_39 rfl ?_
        refine J_getR (pc := 40) dX10_force_40 ho flX10_18 rfl h (fun q11 hq11 h => ?_)
        refine J_getA (pc := 43) dX10_force_43 hq11 flX10_66 rfl ?_
        refine J_iload_n (pc := 46) 2 dX10_force_46 rfl ?_
        refine J_iald (pc := 47) dX10_force_47 hq11 ha2_4 h (fun x12 h => ?_)
        refine J_iald (pc := 48) dX10_force_48 hq10 ha4_1 h (fun x13 h => ?_)
        refine J_imul (pc := 49) dX10_force_49 ?_
        refine J_aload_n (pc := 50) 0 dX10_force_50 rfl ?_
        refine J_getR (pc := 51) dX10_force_51 ho flX10_18 rfl h (fun q14 hq14 h => ?_)
        refine J_getA (pc := 54) dX10_force_54 hq14 flX10_159 rfl ?_
        refine J_iload_n (pc := 57) 2 dX10_force_57 rfl ?_
        refine J_iald (pc := 58) dX10_force_58 hq14 ha2_5 h (fun x15 h => ?_)
        refine J_isub (pc := 59) dX10_force_59 ?_
        refine J_iadd (pc := 60) dX10_force_60 ?_
        refine J_istore_n (pc := 61) (L' := [(1, .int (v1 + ((x9 * x13) - x15))), (0, .ref (e_a E o 0)), (2, .int v2)]) dX10_force_61 (by decide) rfl ?_
        refine J_iinc (pc := 62) (L' := [(2, .int (v2 + (1 : Int32))), (1, .int (v1 + ((x9 * x13) - x15))), (0, .ref (e_a E o 0))]) 2 (v2 + (1 : Int32)) dX10_force_62 rfl (by rfl) (by decide) rfl ?_
        refine J_goto (pc := 65) 4 dX10_force_65 (by decide) ?_
        refine J_sub (L' := [(0, .ref (e_a E o 0)), (1, .int (v1 + ((x9 * x13) - x15))), (2, .int (v2 + (1 : Int32)))]) [2, 1, 0] rfl ?_
        exact ih (v1 + ((x9 * x13) - x15)) (v2 + (1 : Int32)) σ7 h
def fX10_force (o : Nat) (σ : Mm) : Option (Int32 × Mm) := fX10_force_4 o FU (0 : Int32) (0 : Int32) σ
set_option maxRecDepth 100000 in
set_option maxHeartbeats 4000000 in
theorem ctX10_force (l : Launch) (E : EV) (o : Nat) (ho : KD o = 10) (σ : Mm) {xr : Int32} {τ : Mm} (h : fX10_force o σ = some (xr, τ)) : Ct l E mX10_force 2 [.ref (e_a E o 0)] σ (some (.int xr), τ) := by
  refine Ct.of (by decide +kernel) (Nat.le_of_ble_eq_true rfl) ?_
  show Jd l E mX10_force 2 (some (.int xr), τ) σ 0 [(0, .ref (e_a E o 0))] []
  unfold fX10_force at h
  refine J_iconst (pc := 0) (0 : Int32) dX10_force_0 (by decide) ?_
  refine J_istore_n (pc := 1) (L' := [(1, .int (0 : Int32)), (0, .ref (e_a E o 0))]) dX10_force_1 (by decide) rfl ?_
  refine J_iconst (pc := 2) (0 : Int32) dX10_force_2 (by decide) ?_
  refine J_istore_n (pc := 3) (L' := [(2, .int (0 : Int32)), (1, .int (0 : Int32)), (0, .ref (e_a E o 0))]) dX10_force_3 (by decide) rfl ?_
  refine J_sub (L' := [(0, .ref (e_a E o 0)), (1, .int (0 : Int32)), (2, .int (0 : Int32))]) [2, 1, 0] rfl ?_
  exact tX10_force_4 l E o ho FU (0 : Int32) (0 : Int32) σ h
def fX10_isDriven (o : Nat) (a1 : Int32) (σ : Mm) : Option (Int32 × Mm) := r_rf σ o 1 4 (fun q1 => r_sc σ q1 7 (fun x2 => c_I (fX11_has x2 a1 σ) (fun x5 σ3 => if x5 = 0 then (c_I (fX10_isRight o a1 σ3) (fun x8 σ6 => if x8 = 0 then (c_I (fX10_shorterWay o a1 σ6) (fun x11 σ9 => c_I (fX10_engage o a1 x11 σ9) (fun x14 σ12 => if x14 = 0 then (some ((0 : Int32), σ12)) else (c_I (fX10_force o σ12) (fun x17 σ15 => if x17 ≤ 0 then (some ((0 : Int32), σ15)) else (some ((1 : Int32), σ15))))))) else (some ((0 : Int32), σ6)))) else (some ((0 : Int32), σ3)))))
set_option maxRecDepth 100000 in
set_option maxHeartbeats 4000000 in
theorem ctX10_isDriven (l : Launch) (E : EV) (o : Nat) (a1 : Int32) (ho : KD o = 10) (σ : Mm) {xr : Int32} {τ : Mm} (h : fX10_isDriven o a1 σ = some (xr, τ)) : Ct l E mX10_isDriven 3 [.ref (e_a E o 0), .int a1] σ (some (.int xr), τ) := by
  refine Ct.of (by decide +kernel) (Nat.le_of_ble_eq_true rfl) ?_
  show Jd l E mX10_isDriven 3 (some (.int xr), τ) σ 0 [(0, .ref (e_a E o 0)), (1, .int a1)] []
  unfold fX10_isDriven at h
  refine J_aload_n (pc := 0) 0 dX10_isDriven_0 rfl ?_
  refine J_getR (pc := 1) dX10_isDriven_1 ho flX10_22 rfl h (fun q1 hq1 h => ?_)
  refine J_getI (pc := 4) dX10_isDriven_4 hq1 flX10_100 rfl h (fun x2 h => ?_)
  refine J_iload_n (pc := 7) 1 dX10_isDriven_7 rfl ?_
  obtain ⟨x5, σ3, hc4, h⟩ := cI_t h
  refine J_cNi (pc := 8) (host := "VaneTown") (ctX11_has l E x2 a1 σ hc4) dX10_isDriven_8 mnX10_113 msX11_has rfl (by decide) rfl (Nat.le_of_ble_eq_true rfl) ?_
  refine J_if_ne (pc := 11) 22 dX10_isDriven_11 (by decide) h (fun h => ?_) (fun h => ?_)
  · refine J_iconst (pc := 22) (0 : Int32) dX10_isDriven_22 (by decide) ?_
    cases h
    exact J_iret (pc := 23) dX10_isDriven_23 rfl rfl
  · refine J_aload_n (pc := 14) 0 dX10_isDriven_14 rfl ?_
    refine J_iload_n (pc := 15) 1 dX10_isDriven_15 rfl ?_
    obtain ⟨x8, σ6, hc7, h⟩ := cI_t h
    refine J_cVi (pc := 16) (ctX10_isRight l E o a1 ho σ3 hc7) dX10_isDriven_16 mlX10_72 mvX10_isRight ho rfl (by decide) rfl (Nat.le_of_ble_eq_true rfl) ?_
    refine J_if_eq (pc := 19) 24 dX10_isDriven_19 (by decide) h (fun h => ?_) (fun h => ?_)
    · refine J_aload_n (pc := 24) 0 dX10_isDriven_24 rfl ?_
      refine J_iload_n (pc := 25) 1 dX10_isDriven_25 rfl ?_
      refine J_aload_n (pc := 26) 0 dX10_isDriven_26 rfl ?_
      refine J_iload_n (pc := 27) 1 dX10_isDriven_27 rfl ?_
      obtain ⟨x11, σ9, hc10, h⟩ := cI_t h
      refine J_cVi (pc := 28) (ctX10_shorterWay l E o a1 ho σ6 hc10) dX10_isDriven_28 mlX10_153 mvX10_shorterWay ho rfl (by decide) rfl (Nat.le_of_ble_eq_true rfl) ?_
      obtain ⟨x14, σ12, hc13, h⟩ := cI_t h
      refine J_cVi (pc := 31) (ctX10_engage l E o a1 x11 ho σ9 hc13) dX10_isDriven_31 mlX10_145 mvX10_engage ho rfl (by decide) rfl (Nat.le_of_ble_eq_true rfl) ?_
      refine J_if_eq (pc := 34) 48 dX10_isDriven_34 (by decide) h (fun h => ?_) (fun h => ?_)
      · refine J_iconst (pc := 48) (0 : Int32) dX10_isDriven_48 (by decide) ?_
        cases h
        exact J_iret (pc := 49) dX10_isDriven_49 rfl rfl
      · refine J_aload_n (pc := 37) 0 dX10_isDriven_37 rfl ?_
        obtain ⟨x17, σ15, hc16, h⟩ := cI_t h
        refine J_cVi (pc := 38) (ctX10_force l E o ho σ12 hc16) dX10_isDriven_38 mlX10_156 mvX10_force ho rfl (by decide) rfl (Nat.le_of_ble_eq_true rfl) ?_
        refine J_if_le (pc := 41) 48 dX10_isDriven_41 (by decide) h (fun h => ?_) (fun h => ?_)
        · refine J_iconst (pc := 48) (0 : Int32) dX10_isDriven_48 (by decide) ?_
          cases h
          exact J_iret (pc := 49) dX10_isDriven_49 rfl rfl
        · refine J_iconst (pc := 44) (1 : Int32) dX10_isDriven_44 (by decide) ?_
          refine J_goto (pc := 45) 49 dX10_isDriven_45 (by decide) ?_
          cases h
          exact J_iret (pc := 49) dX10_isDriven_49 rfl rfl
    · refine J_iconst (pc := 22) (0 : Int32) dX10_isDriven_22 (by decide) ?_
      cases h
      exact J_iret (pc := 23) dX10_isDriven_23 rfl rfl
def fX10_moveVane (o : Nat) (a1 : Int32) (σ : Mm) : Option (Mm) := r_rf σ o 1 4 (fun q1 => c_I (fX10_toothBehindStep o a1 σ) (fun x4 σ2 => s_ar σ2 q1 2 8 a1 x4 (fun σ5 => r_rf σ5 o 1 4 (fun q6 => g_ar σ5 q6 3 8 a1 (fun x7 => s_ar σ5 q6 3 8 a1 (x7 + (1 : Int32)) (fun σ8 => r_sc σ8 o 5 (fun x9 => p_sc σ8 o 5 (x9 + (1 : Int32)) (fun σ10 => r_rf σ10 o 1 4 (fun q11 => g_ar σ10 q11 2 8 a1 (fun x12 => if x12 = 0 then (r_rf σ10 o 1 4 (fun q13 => g_ar σ10 q13 4 8 a1 (fun x14 => s_ar σ10 q13 4 8 a1 (x14 + (1 : Int32)) (fun σ15 => r_sc σ15 o 6 (fun x16 => r_sc σ15 o 7 (fun x17 => if x16 = x17 then (p_sc σ15 o 8 a1 (fun σ20 => r_sc σ20 o 6 (fun x21 => p_sc σ20 o 6 (x21 + (1 : Int32)) (fun σ22 => some σ22)))) else (r_sc σ15 o 6 (fun x18 => p_sc σ15 o 6 (x18 + (1 : Int32)) (fun σ19 => some σ19))))))))) else (some σ10)))))))))))
set_option maxRecDepth 100000 in
set_option maxHeartbeats 4000000 in
theorem ctX10_moveVane (l : Launch) (E : EV) (o : Nat) (a1 : Int32) (ho : KD o = 10) (σ : Mm) {τ : Mm} (h : fX10_moveVane o a1 σ = some τ) : Ct l E mX10_moveVane 1 [.ref (e_a E o 0), .int a1] σ (none, τ) := by
  refine Ct.of (by decide +kernel) (Nat.le_of_ble_eq_true rfl) ?_
  show Jd l E mX10_moveVane 1 (none, τ) σ 0 [(0, .ref (e_a E o 0)), (1, .int a1)] []
  unfold fX10_moveVane at h
  refine J_aload_n (pc := 0) 0 dX10_moveVane_0 rfl ?_
  refine J_getR (pc := 1) dX10_moveVane_1 ho flX10_22 rfl h (fun q1 hq1 h => ?_)
  refine J_getA (pc := 4) dX10_moveVane_4 hq1 flX10_69 rfl ?_
  refine J_iload_n (pc := 7) 1 dX10_moveVane_7 rfl ?_
  refine J_aload_n (pc := 8) 0 dX10_moveVane_8 rfl ?_
  refine J_iload_n (pc := 9) 1 dX10_moveVane_9 rfl ?_
  obtain ⟨x4, σ2, hc3, h⟩ := cI_t h
  refine J_cVi (pc := 10) (ctX10_toothBehindStep l E o a1 ho σ hc3) dX10_moveVane_10 mlX10_133 mvX10_toothBehindStep ho rfl (by decide) rfl (Nat.le_of_ble_eq_true rfl) ?_
  refine J_iast (pc := 13) dX10_moveVane_13 hq1 ha4_2 h (fun σ5 h => ?_)
  refine J_aload_n (pc := 14) 0 dX10_moveVane_14 rfl ?_
  refine J_getR (pc := 15) dX10_moveVane_15 ho flX10_22 rfl h (fun q6 hq6 h => ?_)
  refine J_getA (pc := 18) dX10_moveVane_18 hq6 flX10_136 rfl ?_
  refine J_iload_n (pc := 21) 1 dX10_moveVane_21 rfl ?_
  refine J_dup2 (pc := 22) dX10_moveVane_22 rfl rfl ?_
  refine J_iald (pc := 23) dX10_moveVane_23 hq6 ha4_3 h (fun x7 h => ?_)
  refine J_iconst (pc := 24) (1 : Int32) dX10_moveVane_24 (by decide) ?_
  refine J_iadd (pc := 25) dX10_moveVane_25 ?_
  refine J_iast (pc := 26) dX10_moveVane_26 hq6 ha4_3 h (fun σ8 h => ?_)
  refine J_aload_n (pc := 27) 0 dX10_moveVane_27 rfl ?_
  refine J_dup (pc := 28) dX10_moveVane_28 rfl ?_
  refine J_getI (pc := 29) dX10_moveVane_29 ho flX10_26 rfl h (fun x9 h => ?_)
  refine J_iconst (pc := 32) (1 : Int32) dX10_moveVane_32 (by decide) ?_
  refine J_iadd (pc := 33) dX10_moveVane_33 ?_
  refine J_putI (pc := 34) dX10_moveVane_34 ho flX10_26 rfl h (fun σ10 h => ?_)
  refine J_aload_n (pc := 37) 0 dX10_moveVane_37 rfl ?_
  refine J_getR (pc := 38) dX10_moveVane_38 ho flX10_22 rfl h (fun q11 hq11 h => ?_)
  refine J_getA (pc := 41) dX10_moveVane_41 hq11 flX10_69 rfl ?_
  refine J_iload_n (pc := 44) 1 dX10_moveVane_44 rfl ?_
  refine J_iald (pc := 45) dX10_moveVane_45 hq11 ha4_2 h (fun x12 h => ?_)
  refine J_if_ne (pc := 46) 88 dX10_moveVane_46 (by decide) h (fun h => ?_) (fun h => ?_)
  · cases h
    exact J_vret (pc := 88) dX10_moveVane_88 rfl
  · refine J_aload_n (pc := 49) 0 dX10_moveVane_49 rfl ?_
    refine J_getR (pc := 50) dX10_moveVane_50 ho flX10_22 rfl h (fun q13 hq13 h => ?_)
    refine J_getA (pc := 53) dX10_moveVane_53 hq13 flX10_139 rfl ?_
    refine J_iload_n (pc := 56) 1 dX10_moveVane_56 rfl ?_
    refine J_dup2 (pc := 57) dX10_moveVane_57 rfl rfl ?_
    refine J_iald (pc := 58) dX10_moveVane_58 hq13 ha4_4 h (fun x14 h => ?_)
    refine J_iconst (pc := 59) (1 : Int32) dX10_moveVane_59 (by decide) ?_
    refine J_iadd (pc := 60) dX10_moveVane_60 ?_
    refine J_iast (pc := 61) dX10_moveVane_61 hq13 ha4_4 h (fun σ15 h => ?_)
    refine J_aload_n (pc := 62) 0 dX10_moveVane_62 rfl ?_
    refine J_getI (pc := 63) dX10_moveVane_63 ho flX10_30 rfl h (fun x16 h => ?_)
    refine J_aload_n (pc := 66) 0 dX10_moveVane_66 rfl ?_
    refine J_getI (pc := 67) dX10_moveVane_67 ho flX10_40 rfl h (fun x17 h => ?_)
    refine J_icmp_ne (pc := 70) 78 dX10_moveVane_70 (by decide) h (fun h => ?_) (fun h => ?_)
    · refine J_aload_n (pc := 78) 0 dX10_moveVane_78 rfl ?_
      refine J_dup (pc := 79) dX10_moveVane_79 rfl ?_
      refine J_getI (pc := 80) dX10_moveVane_80 ho flX10_30 rfl h (fun x18 h => ?_)
      refine J_iconst (pc := 83) (1 : Int32) dX10_moveVane_83 (by decide) ?_
      refine J_iadd (pc := 84) dX10_moveVane_84 ?_
      refine J_putI (pc := 85) dX10_moveVane_85 ho flX10_30 rfl h (fun σ19 h => ?_)
      cases h
      exact J_vret (pc := 88) dX10_moveVane_88 rfl
    · refine J_aload_n (pc := 73) 0 dX10_moveVane_73 rfl ?_
      refine J_iload_n (pc := 74) 1 dX10_moveVane_74 rfl ?_
      refine J_putI (pc := 75) dX10_moveVane_75 ho flX10_43 rfl h (fun σ20 h => ?_)
      refine J_aload_n (pc := 78) 0 dX10_moveVane_78 rfl ?_
      refine J_dup (pc := 79) dX10_moveVane_79 rfl ?_
      refine J_getI (pc := 80) dX10_moveVane_80 ho flX10_30 rfl h (fun x21 h => ?_)
      refine J_iconst (pc := 83) (1 : Int32) dX10_moveVane_83 (by decide) ?_
      refine J_iadd (pc := 84) dX10_moveVane_84 ?_
      refine J_putI (pc := 85) dX10_moveVane_85 ho flX10_30 rfl h (fun σ22 h => ?_)
      cases h
      exact J_vret (pc := 88) dX10_moveVane_88 rfl
def fX10_move_52 (o : Nat) : Nat → Int32 → Mm → Option (Mm)
  | 0, _, _ => none
  | n + 1, v1, σ => r_rf σ o 0 2 (fun q14 => r_sc σ q14 1 (fun x15 => if x15 ≤ v1 then (some σ) else (r_sc σ o 4 (fun x16 => c_I (fX11_has x16 v1 σ) (fun x19 σ17 => if x19 = 0 then ((fX10_move_52 o n) (v1 + (1 : Int32)) σ17) else (c_V (fX10_moveVane o v1 σ17) (fun σ20 => (fX10_move_52 o n) (v1 + (1 : Int32)) σ20)))))))
set_option maxRecDepth 100000 in
set_option maxHeartbeats 4000000 in
theorem tX10_move_52 (l : Launch) (E : EV) {τ : Mm} (o : Nat) (ho : KD o = 10) : ∀ (n : Nat) (v1 : Int32) (σ : Mm), fX10_move_52 o n v1 σ = some τ → Jd l E mX10_move 2 (none, τ) σ 52 [(0, .ref (e_a E o 0)), (1, .int v1)] [] := by
  intro n
  induction n with
  | zero => intro v1 σ h; rw [fX10_move_52] at h; cases h
  | succ n ih =>
    intro v1 σ h
    rw [fX10_move_52] at h
    refine J_iload_n (pc := 52) 1 dX10_move_52 rfl ?_
    refine J_aload_n (pc := 53) 0 dX10_move_53 rfl ?_
    refine J_getR (pc := 54) dX10_move_54 ho flX10_18 rfl h (fun q14 hq14 h => ?_)
    refine J_getI (pc := 57) dX10_move_57 hq14 flX10_58 rfl h (fun x15 h => ?_)
    refine J_icmp_ge (pc := 60) 85 dX10_move_60 (by decide) h (fun h => ?_) (fun h => ?_)
    · cases h
      exact J_vret (pc := 85) dX10_move_85 rfl
    · refine J_aload_n (pc := 63) 0 dX10_move_63 rfl ?_
      refine J_getI (pc := 64) dX10_move_64 ho flX10_84 rfl h (fun x16 h => ?_)
      refine J_iload_n (pc := 67) 1 dX10_move_67 rfl ?_
      obtain ⟨x19, σ17, hc18, h⟩ := cI_t h
      refine J_cNi (pc := 68) (host := "VaneTown") (ctX11_has l E x16 v1 σ hc18) dX10_move_68 mnX10_113 msX11_has rfl (by decide) rfl (Nat.le_of_ble_eq_true rfl) ?_
      refine J_if_eq (pc := 71) 79 dX10_move_71 (by decide) h (fun h => ?_) (fun h => ?_)
      · refine J_iinc (pc := 79) (L' := [(1, .int (v1 + (1 : Int32))), (0, .ref (e_a E o 0))]) 1 (v1 + (1 : Int32)) dX10_move_79 rfl (by rfl) (by decide) rfl ?_
        refine J_goto (pc := 82) 52 dX10_move_82 (by decide) ?_
        refine J_sub (L' := [(0, .ref (e_a E o 0)), (1, .int (v1 + (1 : Int32)))]) [1, 0] rfl ?_
        exact ih (v1 + (1 : Int32)) σ17 h
      · refine J_aload_n (pc := 74) 0 dX10_move_74 rfl ?_
        refine J_iload_n (pc := 75) 1 dX10_move_75 rfl ?_
        obtain ⟨σ20, hc21, h⟩ := cV_t h
        refine J_cVv (pc := 76) (ctX10_moveVane l E o v1 ho σ17 hc21) dX10_move_76 mlX10_130 mvX10_moveVane ho rfl (by decide) rfl (Nat.le_of_ble_eq_true rfl) ?_
        refine J_iinc (pc := 79) (L' := [(1, .int (v1 + (1 : Int32))), (0, .ref (e_a E o 0))]) 1 (v1 + (1 : Int32)) dX10_move_79 rfl (by rfl) (by decide) rfl ?_
        refine J_goto (pc := 82) 52 dX10_move_82 (by decide) ?_
        refine J_sub (L' := [(0, .ref (e_a E o 0)), (1, .int (v1 + (1 : Int32)))]) [1, 0] rfl ?_
        exact ih (v1 + (1 : Int32)) σ20 h
def fX10_move_2 (o : Nat) : Nat → Int32 → Mm → Option (Mm)
  | 0, _, _ => none
  | n + 1, v1, σ => r_rf σ o 0 2 (fun q1 => r_sc σ q1 2 (fun x2 => if x2 ≤ v1 then (fX10_move_52 o FU (0 : Int32) σ) else (r_rf σ o 1 4 (fun q3 => r_sc σ q3 6 (fun x4 => c_I (fX11_has x4 v1 σ) (fun x7 σ5 => if x7 = 0 then (r_rf σ5 o 1 4 (fun q8 => g_ar σ5 q8 5 10 v1 (fun x9 => c_I (fX10_playChange o v1 σ5) (fun x12 σ10 => s_ar σ10 q8 5 10 v1 (x9 + x12) (fun σ13 => (fX10_move_2 o n) (v1 + (1 : Int32)) σ13))))) else ((fX10_move_2 o n) (v1 + (1 : Int32)) σ5)))))))
set_option maxRecDepth 100000 in
set_option maxHeartbeats 4000000 in
theorem tX10_move_2 (l : Launch) (E : EV) {τ : Mm} (o : Nat) (ho : KD o = 10) : ∀ (n : Nat) (v1 : Int32) (σ : Mm), fX10_move_2 o n v1 σ = some τ → Jd l E mX10_move 2 (none, τ) σ 2 [(0, .ref (e_a E o 0)), (1, .int v1)] [] := by
  intro n
  induction n with
  | zero => intro v1 σ h; rw [fX10_move_2] at h; cases h
  | succ n ih =>
    intro v1 σ h
    rw [fX10_move_2] at h
    refine J_iload_n (pc := 2) 1 dX10_move_2 rfl ?_
    refine J_aload_n (pc := 3) 0 dX10_move_3 rfl ?_
    refine J_getR (pc := 4) dX10_move_4 ho flX10_18 rfl h (fun q1 hq1 h => ?_)
    refine J_getI (pc := 7) dX10_move_7 hq1 flX10_107 rfl h (fun x2 h => ?_)
    refine J_icmp_ge (pc := 10) 50 dX10_move_10 (by decide) h (fun h => ?_) (fun h => ?_)
    · refine J_iconst (pc := 50) (0 : Int32) dX10_move_50 (by decide) ?_
      refine J_istore_n (pc := 51) (L' := [(1, .int (0 : Int32)), (0, .ref (e_a E o 0))]) dX10_move_51 (by decide) rfl ?_
      refine J_sub (L' := [(0, .ref (e_a E o 0)), (1, .int (0 : Int32))]) [1, 0] rfl ?_
      exact tX10_move_52 l E o ho FU (0 : Int32) σ h
    · refine J_aload_n (pc := 13) 0 dX10_move_13 rfl ?_
      refine J_getR (pc := 14) dX10_move_14 ho flX10_22 rfl h (fun q3 hq3 h => ?_)
      refine J_getI (pc := 17) dX10_move_17 hq3 flX10_110 rfl h (fun x4 h => ?_)
      refine J_iload_n (pc := 20) 1 dX10_move_20 rfl ?_
      obtain ⟨x7, σ5, hc6, h⟩ := cI_t h
      refine J_cNi (pc := 21) (host := "VaneTown") (ctX11_has l E x4 v1 σ hc6) dX10_move_21 mnX10_113 msX11_has rfl (by decide) rfl (Nat.le_of_ble_eq_true rfl) ?_
      refine J_if_ne (pc := 24) 44 dX10_move_24 (by decide) h (fun h => ?_) (fun h => ?_)
      · refine J_iinc (pc := 44) (L' := [(1, .int (v1 + (1 : Int32))), (0, .ref (e_a E o 0))]) 1 (v1 + (1 : Int32)) dX10_move_44 rfl (by rfl) (by decide) rfl ?_
        refine J_goto (pc := 47) 2 dX10_move_47 (by decide) ?_
        refine J_sub (L' := [(0, .ref (e_a E o 0)), (1, .int (v1 + (1 : Int32)))]) [1, 0] rfl ?_
        exact ih (v1 + (1 : Int32)) σ5 h
      · refine J_aload_n (pc := 27) 0 dX10_move_27 rfl ?_
        refine J_getR (pc := 28) dX10_move_28 ho flX10_22 rfl h (fun q8 hq8 h => ?_)
        refine J_getA (pc := 31) dX10_move_31 hq8 flX10_117 rfl ?_
        refine J_iload_n (pc := 34) 1 dX10_move_34 rfl ?_
        refine J_dup2 (pc := 35) dX10_move_35 rfl rfl ?_
        refine J_iald (pc := 36) dX10_move_36 hq8 ha4_5 h (fun x9 h => ?_)
        refine J_aload_n (pc := 37) 0 dX10_move_37 rfl ?_
        refine J_iload_n (pc := 38) 1 dX10_move_38 rfl ?_
        obtain ⟨x12, σ10, hc11, h⟩ := cI_t h
        refine J_cVi (pc := 39) (ctX10_playChange l E o v1 ho σ5 hc11) dX10_move_39 mlX10_120 mvX10_playChange ho rfl (by decide) rfl (Nat.le_of_ble_eq_true rfl) ?_
        refine J_iadd (pc := 42) dX10_move_42 ?_
        refine J_iast (pc := 43) dX10_move_43 hq8 ha4_5 h (fun σ13 h => ?_)
        refine J_iinc (pc := 44) (L' := [(1, .int (v1 + (1 : Int32))), (0, .ref (e_a E o 0))]) 1 (v1 + (1 : Int32)) dX10_move_44 rfl (by rfl) (by decide) rfl ?_
        refine J_goto (pc := 47) 2 dX10_move_47 (by decide) ?_
        refine J_sub (L' := [(0, .ref (e_a E o 0)), (1, .int (v1 + (1 : Int32)))]) [1, 0] rfl ?_
        exact ih (v1 + (1 : Int32)) σ13 h
def fX10_move (o : Nat) (σ : Mm) : Option (Mm) := fX10_move_2 o FU (0 : Int32) σ
set_option maxRecDepth 100000 in
set_option maxHeartbeats 4000000 in
theorem ctX10_move (l : Launch) (E : EV) (o : Nat) (ho : KD o = 10) (σ : Mm) {τ : Mm} (h : fX10_move o σ = some τ) : Ct l E mX10_move 2 [.ref (e_a E o 0)] σ (none, τ) := by
  refine Ct.of (by decide +kernel) (Nat.le_of_ble_eq_true rfl) ?_
  show Jd l E mX10_move 2 (none, τ) σ 0 [(0, .ref (e_a E o 0))] []
  unfold fX10_move at h
  refine J_iconst (pc := 0) (0 : Int32) dX10_move_0 (by decide) ?_
  refine J_istore_n (pc := 1) (L' := [(1, .int (0 : Int32)), (0, .ref (e_a E o 0))]) dX10_move_1 (by decide) rfl ?_
  refine J_sub (L' := [(0, .ref (e_a E o 0)), (1, .int (0 : Int32))]) [1, 0] rfl ?_
  exact tX10_move_2 l E o ho FU (0 : Int32) σ h
def fX10_goOn_46 (o : Nat) (a1 : Int32) (k2 : Int32 → Mm → Option (Int32 × Mm)) (v2 : Int32) (v3 : Int32) (σ : Mm) : Option (Int32 × Mm) := r_sc σ o 5 (fun x9 => if x9 = v3 then (some (v2, σ)) else (k2 (v2 + (1 : Int32)) σ))
set_option maxRecDepth 100000 in
set_option maxHeartbeats 4000000 in
theorem tX10_goOn_46 (l : Launch) (E : EV) {xr : Int32} {τ : Mm} (o : Nat) (a1 : Int32) (ho : KD o = 10) (k2 : Int32 → Mm → Option (Int32 × Mm)) (hk2 : ∀ (v2 : Int32) (σ : Mm), k2 v2 σ = some (xr, τ) → Jd l E mX10_goOn 4 (some (.int xr), τ) σ 2 [(0, .ref (e_a E o 0)), (1, .int a1), (2, .int v2)] []) (v2 : Int32) (v3 : Int32) (σ : Mm) (h : fX10_goOn_46 o a1 k2 v2 v3 σ = some (xr, τ)) : Jd l E mX10_goOn 4 (some (.int xr), τ) σ 46 [(0, .ref (e_a E o 0)), (1, .int a1), (2, .int v2), (3, .int v3)] [] := by
  unfold fX10_goOn_46 at h
  refine J_aload_n (pc := 46) 0 dX10_goOn_46 rfl ?_
  refine J_getI (pc := 47) dX10_goOn_47 ho flX10_26 rfl h (fun x9 h => ?_)
  refine J_iload_n (pc := 50) 3 dX10_goOn_50 rfl ?_
  refine J_icmp_ne (pc := 51) 56 dX10_goOn_51 (by decide) h (fun h => ?_) (fun h => ?_)
  · refine J_iinc (pc := 56) (L' := [(2, .int (v2 + (1 : Int32))), (0, .ref (e_a E o 0)), (1, .int a1), (3, .int v3)]) 2 (v2 + (1 : Int32)) dX10_goOn_56 rfl (by rfl) (by decide) rfl ?_
    refine J_goto (pc := 59) 2 dX10_goOn_59 (by decide) ?_
    refine J_sub (L' := [(0, .ref (e_a E o 0)), (1, .int a1), (2, .int (v2 + (1 : Int32)))]) [1, 2, 0] rfl ?_
    exact hk2 (v2 + (1 : Int32)) σ h
  · refine J_iload_n (pc := 54) 2 dX10_goOn_54 rfl ?_
    cases h
    exact J_iret (pc := 55) dX10_goOn_55 rfl rfl
def fX10_goOn_15 (o : Nat) (a1 : Int32) (k2 : Int32 → Mm → Option (Int32 × Mm)) : Nat → Int32 → Int32 → Int32 → Mm → Option (Int32 × Mm)
  | 0, _, _, _, _ => none
  | n + 1, v2, v3, v4, σ => r_rf σ o 0 2 (fun q2 => r_sc σ q2 1 (fun x3 => if x3 ≤ v4 then (fX10_goOn_46 o a1 k2 v2 v3 σ) else (c_I (fX10_isDriven o v4 σ) (fun x6 σ4 => if x6 = 0 then ((fX10_goOn_15 o a1 k2 n) v2 v3 (v4 + (1 : Int32)) σ4) else (c_V (fX10_move o σ4) (fun σ7 => (fX10_goOn_15 o a1 k2 n) v2 v3 (v4 + (1 : Int32)) σ7))))))
set_option maxRecDepth 100000 in
set_option maxHeartbeats 4000000 in
theorem tX10_goOn_15 (l : Launch) (E : EV) {xr : Int32} {τ : Mm} (o : Nat) (a1 : Int32) (ho : KD o = 10) (k2 : Int32 → Mm → Option (Int32 × Mm)) (hk2 : ∀ (v2 : Int32) (σ : Mm), k2 v2 σ = some (xr, τ) → Jd l E mX10_goOn 4 (some (.int xr), τ) σ 2 [(0, .ref (e_a E o 0)), (1, .int a1), (2, .int v2)] []) : ∀ (n : Nat) (v2 : Int32) (v3 : Int32) (v4 : Int32) (σ : Mm), fX10_goOn_15 o a1 k2 n v2 v3 v4 σ = some (xr, τ) → Jd l E mX10_goOn 4 (some (.int xr), τ) σ 15 [(0, .ref (e_a E o 0)), (1, .int a1), (2, .int v2), (3, .int v3), (4, .int v4)] [] := by
  intro n
  induction n with
  | zero => intro v2 v3 v4 σ h; rw [fX10_goOn_15] at h; cases h
  | succ n ih =>
    intro v2 v3 v4 σ h
    rw [fX10_goOn_15] at h
    refine J_iload (pc := 15) 4 dX10_goOn_15 rfl ?_
    refine J_aload_n (pc := 17) 0 dX10_goOn_17 rfl ?_
    refine J_getR (pc := 18) dX10_goOn_18 ho flX10_18 rfl h (fun q2 hq2 h => ?_)
    refine J_getI (pc := 21) dX10_goOn_21 hq2 flX10_58 rfl h (fun x3 h => ?_)
    refine J_icmp_ge (pc := 24) 46 dX10_goOn_24 (by decide) h (fun h => ?_) (fun h => ?_)
    · refine J_sub (L' := [(0, .ref (e_a E o 0)), (1, .int a1), (2, .int v2), (3, .int v3)]) [0, 1, 2, 3] rfl ?_
      exact tX10_goOn_46 l E o a1 ho k2 hk2 v2 v3 σ h
    · refine J_aload_n (pc := 27) 0 dX10_goOn_27 rfl ?_
      refine J_iload (pc := 28) 4 dX10_goOn_28 rfl ?_
      obtain ⟨x6, σ4, hc5, h⟩ := cI_t h
      refine J_cVi (pc := 30) (ctX10_isDriven l E o v4 ho σ hc5) dX10_goOn_30 mlX10_162 mvX10_isDriven ho rfl (by decide) rfl (Nat.le_of_ble_eq_true rfl) ?_
      refine J_if_eq (pc := 33) 40 dX10_goOn_33 (by decide) h (fun h => ?_) (fun h => ?_)
      · refine J_iinc (pc := 40) (L' := [(4, .int (v4 + (1 : Int32))), (0, .ref (e_a E o 0)), (1, .int a1), (2, .int v2), (3, .int v3)]) 4 (v4 + (1 : Int32)) dX10_goOn_40 rfl (by rfl) (by decide) rfl ?_
        refine J_goto (pc := 43) 15 dX10_goOn_43 (by decide) ?_
        refine J_sub (L' := [(0, .ref (e_a E o 0)), (1, .int a1), (2, .int v2), (3, .int v3), (4, .int (v4 + (1 : Int32)))]) [1, 2, 3, 4, 0] rfl ?_
        exact ih v2 v3 (v4 + (1 : Int32)) σ4 h
      · refine J_aload_n (pc := 36) 0 dX10_goOn_36 rfl ?_
        obtain ⟨σ7, hc8, h⟩ := cV_t h
        refine J_cVv (pc := 37) (ctX10_move l E o ho σ4 hc8) dX10_goOn_37 mlX10_165 mvX10_move ho rfl (by decide) rfl (Nat.le_of_ble_eq_true rfl) ?_
        refine J_iinc (pc := 40) (L' := [(4, .int (v4 + (1 : Int32))), (0, .ref (e_a E o 0)), (1, .int a1), (2, .int v2), (3, .int v3)]) 4 (v4 + (1 : Int32)) dX10_goOn_40 rfl (by rfl) (by decide) rfl ?_
        refine J_goto (pc := 43) 15 dX10_goOn_43 (by decide) ?_
        refine J_sub (L' := [(0, .ref (e_a E o 0)), (1, .int a1), (2, .int v2), (3, .int v3), (4, .int (v4 + (1 : Int32)))]) [1, 2, 3, 4, 0] rfl ?_
        exact ih v2 v3 (v4 + (1 : Int32)) σ7 h
def fX10_goOn_2 (o : Nat) (a1 : Int32) : Nat → Int32 → Mm → Option (Int32 × Mm)
  | 0, _, _ => none
  | n + 1, v2, σ => if a1 ≤ v2 then (some (a1, σ)) else (r_sc σ o 5 (fun x1 => fX10_goOn_15 o a1 (fX10_goOn_2 o a1 n) FU v2 x1 (0 : Int32) σ))
set_option maxRecDepth 100000 in
set_option maxHeartbeats 4000000 in
theorem tX10_goOn_2 (l : Launch) (E : EV) {xr : Int32} {τ : Mm} (o : Nat) (a1 : Int32) (ho : KD o = 10) : ∀ (n : Nat) (v2 : Int32) (σ : Mm), fX10_goOn_2 o a1 n v2 σ = some (xr, τ) → Jd l E mX10_goOn 4 (some (.int xr), τ) σ 2 [(0, .ref (e_a E o 0)), (1, .int a1), (2, .int v2)] [] := by
  intro n
  induction n with
  | zero => intro v2 σ h; rw [fX10_goOn_2] at h; cases h
  | succ n ih =>
    intro v2 σ h
    rw [fX10_goOn_2] at h
    refine J_iload_n (pc := 2) 2 dX10_goOn_2 rfl ?_
    refine J_iload_n (pc := 3) 1 dX10_goOn_3 rfl ?_
    refine J_icmp_ge (pc := 4) 62 dX10_goOn_4 (by decide) h (fun h => ?_) (fun h => ?_)
    · refine J_iload_n (pc := 62) 1 dX10_goOn_62 rfl ?_
      cases h
      exact J_iret (pc := 63) dX10_goOn_63 rfl rfl
    · refine J_aload_n (pc := 7) 0 dX10_goOn_7 rfl ?_
      refine J_getI (pc := 8) dX10_goOn_8 ho flX10_26 rfl h (fun x1 h => ?_)
      refine J_istore_n (pc := 11) (L' := [(3, .int x1), (0, .ref (e_a E o 0)), (1, .int a1), (2, .int v2)]) dX10_goOn_11 (by decide) rfl ?_
      refine J_iconst (pc := 12) (0 : Int32) dX10_goOn_12 (by decide) ?_
      refine J_istore (pc := 13) (L' := [(4, .int (0 : Int32)), (3, .int x1), (0, .ref (e_a E o 0)), (1, .int a1), (2, .int v2)]) dX10_goOn_13 (by decide) rfl ?_
      refine J_sub (L' := [(0, .ref (e_a E o 0)), (1, .int a1), (2, .int v2), (3, .int x1), (4, .int (0 : Int32))]) [2, 3, 4, 1, 0] rfl ?_
      exact tX10_goOn_15 l E o a1 ho (fX10_goOn_2 o a1 n) ih FU v2 x1 (0 : Int32) σ h
def fX10_goOn (o : Nat) (a1 : Int32) (σ : Mm) : Option (Int32 × Mm) := fX10_goOn_2 o a1 FU (0 : Int32) σ
set_option maxRecDepth 100000 in
set_option maxHeartbeats 4000000 in
theorem ctX10_goOn (l : Launch) (E : EV) (o : Nat) (a1 : Int32) (ho : KD o = 10) (σ : Mm) {xr : Int32} {τ : Mm} (h : fX10_goOn o a1 σ = some (xr, τ)) : Ct l E mX10_goOn 4 [.ref (e_a E o 0), .int a1] σ (some (.int xr), τ) := by
  refine Ct.of (by decide +kernel) (Nat.le_of_ble_eq_true rfl) ?_
  show Jd l E mX10_goOn 4 (some (.int xr), τ) σ 0 [(0, .ref (e_a E o 0)), (1, .int a1)] []
  unfold fX10_goOn at h
  refine J_iconst (pc := 0) (0 : Int32) dX10_goOn_0 (by decide) ?_
  refine J_istore_n (pc := 1) (L' := [(2, .int (0 : Int32)), (0, .ref (e_a E o 0)), (1, .int a1)]) dX10_goOn_1 (by decide) rfl ?_
  refine J_sub (L' := [(0, .ref (e_a E o 0)), (1, .int a1), (2, .int (0 : Int32))]) [1, 2, 0] rfl ?_
  exact tX10_goOn_2 l E o a1 ho FU (0 : Int32) σ h
def fX10_turnByHand_19 (o : Nat) (a1 : Int32) (a2 : Int32) : Nat → Int32 → Int32 → Int32 → Mm → Option (Int32 × Mm)
  | 0, _, _, _, _ => none
  | n + 1, v3, v4, v5, σ => if v4 ≤ v5 then (some (v4, σ)) else (c_I (fX10_engage o a1 v3 σ) (fun x3 σ1 => if x3 = 0 then (some (v5, σ1)) else (c_V (fX10_move o σ1) (fun σ4 => (fX10_turnByHand_19 o a1 a2 n) v3 v4 (v5 + (1 : Int32)) σ4))))
set_option maxRecDepth 100000 in
set_option maxHeartbeats 4000000 in
theorem tX10_turnByHand_19 (l : Launch) (E : EV) {xr : Int32} {τ : Mm} (o : Nat) (a1 : Int32) (a2 : Int32) (ho : KD o = 10) : ∀ (n : Nat) (v3 : Int32) (v4 : Int32) (v5 : Int32) (σ : Mm), fX10_turnByHand_19 o a1 a2 n v3 v4 v5 σ = some (xr, τ) → Jd l E mX10_turnByHand 3 (some (.int xr), τ) σ 19 [(0, .ref (e_a E o 0)), (1, .int a1), (3, .int v3), (4, .int v4), (5, .int v5)] [] := by
  intro n
  induction n with
  | zero => intro v3 v4 v5 σ h; rw [fX10_turnByHand_19] at h; cases h
  | succ n ih =>
    intro v3 v4 v5 σ h
    rw [fX10_turnByHand_19] at h
    refine J_iload (pc := 19) 4 dX10_turnByHand_19 rfl ?_
    refine J_iload (pc := 21) 3 dX10_turnByHand_21 rfl ?_
    refine J_icmp_ge (pc := 23) 48 dX10_turnByHand_23 (by decide) h (fun h => ?_) (fun h => ?_)
    · refine J_iload (pc := 48) 3 dX10_turnByHand_48 rfl ?_
      cases h
      exact J_iret (pc := 50) dX10_turnByHand_50 rfl rfl
    · refine J_aload_n (pc := 26) 0 dX10_turnByHand_26 rfl ?_
      refine J_iload_n (pc := 27) 1 dX10_turnByHand_27 rfl ?_
      refine J_iload_n (pc := 28) 2 dX10_turnByHand_28 rfl ?_
      obtain ⟨x3, σ1, hc2, h⟩ := cI_t h
      refine J_cVi (pc := 29) (ctX10_engage l E o a1 v3 ho σ hc2) dX10_turnByHand_29 mlX10_145 mvX10_engage ho rfl (by decide) rfl (Nat.le_of_ble_eq_true rfl) ?_
      refine J_if_ne (pc := 32) 38 dX10_turnByHand_32 (by decide) h (fun h => ?_) (fun h => ?_)
      · refine J_aload_n (pc := 38) 0 dX10_turnByHand_38 rfl ?_
        obtain ⟨σ4, hc5, h⟩ := cV_t h
        refine J_cVv (pc := 39) (ctX10_move l E o ho σ1 hc5) dX10_turnByHand_39 mlX10_165 mvX10_move ho rfl (by decide) rfl (Nat.le_of_ble_eq_true rfl) ?_
        refine J_iinc (pc := 42) (L' := [(5, .int (v5 + (1 : Int32))), (0, .ref (e_a E o 0)), (1, .int a1), (3, .int v3), (4, .int v4)]) 4 (v5 + (1 : Int32)) dX10_turnByHand_42 rfl (by rfl) (by decide) rfl ?_
        refine J_goto (pc := 45) 19 dX10_turnByHand_45 (by decide) ?_
        refine J_sub (L' := [(0, .ref (e_a E o 0)), (1, .int a1), (3, .int v3), (4, .int v4), (5, .int (v5 + (1 : Int32)))]) [1, 2, 3, 4, 0] rfl ?_
        exact ih v3 v4 (v5 + (1 : Int32)) σ4 h
      · refine J_iload (pc := 35) 4 dX10_turnByHand_35 rfl ?_
        cases h
        exact J_iret (pc := 37) dX10_turnByHand_37 rfl rfl
def fX10_turnByHand (o : Nat) (a1 : Int32) (a2 : Int32) (σ : Mm) : Option (Int32 × Mm) := if 0 ≤ a2 then (fX10_turnByHand_19 o a1 a2 FU (1 : Int32) (if 0 ≤ a2 then a2 else 0 - a2) (0 : Int32) σ) else (fX10_turnByHand_19 o a1 a2 FU (-1 : Int32) (if 0 ≤ a2 then a2 else 0 - a2) (0 : Int32) σ)
set_option maxRecDepth 100000 in
set_option maxHeartbeats 4000000 in
theorem ctX10_turnByHand (l : Launch) (E : EV) (o : Nat) (a1 : Int32) (a2 : Int32) (ho : KD o = 10) (σ : Mm) {xr : Int32} {τ : Mm} (h : fX10_turnByHand o a1 a2 σ = some (xr, τ)) : Ct l E mX10_turnByHand 3 [.ref (e_a E o 0), .int a1, .int a2] σ (some (.int xr), τ) := by
  refine Ct.of (by decide +kernel) (Nat.le_of_ble_eq_true rfl) ?_
  show Jd l E mX10_turnByHand 3 (some (.int xr), τ) σ 0 [(0, .ref (e_a E o 0)), (1, .int a1), (2, .int a2)] []
  unfold fX10_turnByHand at h
  refine J_iload_n (pc := 0) 2 dX10_turnByHand_0 rfl ?_
  refine J_if_ge (pc := 1) 8 dX10_turnByHand_1 (by decide) h (fun h => ?_) (fun h => ?_)
  · refine J_iconst (pc := 8) (1 : Int32) dX10_turnByHand_8 (by decide) ?_
    refine J_istore_n (pc := 9) (L' := [(3, .int (1 : Int32)), (0, .ref (e_a E o 0)), (1, .int a1), (2, .int a2)]) dX10_turnByHand_9 (by decide) rfl ?_
    refine J_iload_n (pc := 10) 3 dX10_turnByHand_10 rfl ?_
    refine J_mabs (pc := 11) dX10_turnByHand_11 mmX10_168 (by decide) (Nat.le_of_ble_eq_true rfl) ?_
    refine J_istore (pc := 14) (L' := [(4, .int (if 0 ≤ a2 then a2 else 0 - a2)), (3, .int (1 : Int32)), (0, .ref (e_a E o 0)), (1, .int a1), (2, .int a2)]) dX10_turnByHand_14 (by decide) rfl ?_
    refine J_iconst (pc := 16) (0 : Int32) dX10_turnByHand_16 (by decide) ?_
    refine J_istore (pc := 17) (L' := [(5, .int (0 : Int32)), (4, .int (if 0 ≤ a2 then a2 else 0 - a2)), (3, .int (1 : Int32)), (0, .ref (e_a E o 0)), (1, .int a1), (2, .int a2)]) dX10_turnByHand_17 (by decide) rfl ?_
    refine J_sub (L' := [(0, .ref (e_a E o 0)), (1, .int a1), (3, .int (1 : Int32)), (4, .int (if 0 ≤ a2 then a2 else 0 - a2)), (5, .int (0 : Int32))]) [3, 4, 2, 1, 0] rfl ?_
    exact tX10_turnByHand_19 l E o a1 a2 ho FU (1 : Int32) (if 0 ≤ a2 then a2 else 0 - a2) (0 : Int32) σ h
  · refine J_iconst (pc := 4) (-1 : Int32) dX10_turnByHand_4 (by decide) ?_
    refine J_goto (pc := 5) 9 dX10_turnByHand_5 (by decide) ?_
    refine J_istore_n (pc := 9) (L' := [(3, .int (-1 : Int32)), (0, .ref (e_a E o 0)), (1, .int a1), (2, .int a2)]) dX10_turnByHand_9 (by decide) rfl ?_
    refine J_iload_n (pc := 10) 3 dX10_turnByHand_10 rfl ?_
    refine J_mabs (pc := 11) dX10_turnByHand_11 mmX10_168 (by decide) (Nat.le_of_ble_eq_true rfl) ?_
    refine J_istore (pc := 14) (L' := [(4, .int (if 0 ≤ a2 then a2 else 0 - a2)), (3, .int (-1 : Int32)), (0, .ref (e_a E o 0)), (1, .int a1), (2, .int a2)]) dX10_turnByHand_14 (by decide) rfl ?_
    refine J_iconst (pc := 16) (0 : Int32) dX10_turnByHand_16 (by decide) ?_
    refine J_istore (pc := 17) (L' := [(5, .int (0 : Int32)), (4, .int (if 0 ≤ a2 then a2 else 0 - a2)), (3, .int (-1 : Int32)), (0, .ref (e_a E o 0)), (1, .int a1), (2, .int a2)]) dX10_turnByHand_17 (by decide) rfl ?_
    refine J_sub (L' := [(0, .ref (e_a E o 0)), (1, .int a1), (3, .int (-1 : Int32)), (4, .int (if 0 ≤ a2 then a2 else 0 - a2)), (5, .int (0 : Int32))]) [3, 4, 2, 1, 0] rfl ?_
    exact tX10_turnByHand_19 l E o a1 a2 ho FU (-1 : Int32) (if 0 ≤ a2 then a2 else 0 - a2) (0 : Int32) σ h
def fX3_perform (o : Nat) (a1 : Int32) (σ : Mm) : Option (Mm) := r_rf σ o 2 5 (fun q1 => g_ar σ q1 1 60 a1 (fun x2 => r_rf σ o 2 5 (fun q3 => g_ar σ q3 3 60 a1 (fun x4 => r_rf σ o 2 5 (fun q5 => g_ar σ q5 0 60 a1 (fun x6 => if x6 = (10 : Int32) then (r_rf σ o 3 10 (fun q8 => r_rf σ o 2 5 (fun q9 => g_ar σ q9 2 60 a1 (fun x10 => c_V (fX10_blow q8 x2 x10 x4 σ) (fun σ11 => some σ11))))) else if x6 = (11 : Int32) then (r_rf σ o 3 10 (fun q14 => c_I (fX10_goOn q14 x4 σ) (fun x17 σ15 => r_sc σ15 o 6 (fun x18 => p_sc σ15 o 6 (x18 + x4) (fun σ19 => some σ19))))) else if x6 = (12 : Int32) then (r_sc σ (tg o 0) 6 (fun x21 => r_rf σ o 2 5 (fun q22 => g_ar σ q22 0 60 a1 (fun x23 => if x23 = (12 : Int32) then (c_I (fX11_with x21 x2 (1 : Int32) σ) (fun x30 σ28 => p_sc σ28 (tg o 0) 6 x30 (fun σ31 => some σ31))) else (c_I (fX11_with x21 x2 (0 : Int32) σ) (fun x26 σ24 => p_sc σ24 (tg o 0) 6 x26 (fun σ27 => some σ27))))))) else if x6 = (13 : Int32) then (r_sc σ (tg o 0) 6 (fun x33 => r_rf σ o 2 5 (fun q34 => g_ar σ q34 0 60 a1 (fun x35 => if x35 = (12 : Int32) then (c_I (fX11_with x33 x2 (1 : Int32) σ) (fun x42 σ40 => p_sc σ40 (tg o 0) 6 x42 (fun σ43 => some σ43))) else (c_I (fX11_with x33 x2 (0 : Int32) σ) (fun x38 σ36 => p_sc σ36 (tg o 0) 6 x38 (fun σ39 => some σ39))))))) else if x6 = (14 : Int32) then (r_sc σ (tg o 0) 7 (fun x45 => r_rf σ o 2 5 (fun q46 => g_ar σ q46 0 60 a1 (fun x47 => if x47 = (14 : Int32) then (c_I (fX11_with x45 x2 (1 : Int32) σ) (fun x54 σ52 => p_sc σ52 (tg o 0) 7 x54 (fun σ55 => some σ55))) else (c_I (fX11_with x45 x2 (0 : Int32) σ) (fun x50 σ48 => p_sc σ48 (tg o 0) 7 x50 (fun σ51 => some σ51))))))) else if x6 = (15 : Int32) then (r_sc σ (tg o 0) 7 (fun x57 => r_rf σ o 2 5 (fun q58 => g_ar σ q58 0 60 a1 (fun x59 => if x59 = (14 : Int32) then (c_I (fX11_with x57 x2 (1 : Int32) σ) (fun x66 σ64 => p_sc σ64 (tg o 0) 7 x66 (fun σ67 => some σ67))) else (c_I (fX11_with x57 x2 (0 : Int32) σ) (fun x62 σ60 => p_sc σ60 (tg o 0) 7 x62 (fun σ63 => some σ63))))))) else if x6 = (16 : Int32) then (r_rf σ o 3 10 (fun q69 => c_I (fX10_turnByHand q69 x2 x4 σ) (fun x72 σ70 => some σ70))) else if x6 = (17 : Int32) then (c_V (fX3_drawWinds o x4 σ) (fun σ74 => some σ74)) else if x6 = (20 : Int32) then (s_ar σ o 0 60 a1 x4 (fun σ77 => some σ77)) else (some σ)))))))
set_option maxRecDepth 100000 in
set_option maxHeartbeats 4000000 in
theorem ctX3_perform (l : Launch) (E : EV) (o : Nat) (a1 : Int32) (ho : KD o = 3) (σ : Mm) {τ : Mm} (h : fX3_perform o a1 σ = some τ) : Ct l E mX3_perform 5 [.ref (e_a E o 0), .int a1] σ (none, τ) := by
  refine Ct.of (by decide +kernel) (Nat.le_of_ble_eq_true rfl) ?_
  show Jd l E mX3_perform 5 (none, τ) σ 0 [(0, .ref (e_a E o 0)), (1, .int a1)] []
  unfold fX3_perform at h
  refine J_aload_n (pc := 0) 0 dX3_perform_0 rfl ?_
  refine J_getR (pc := 1) dX3_perform_1 ho flX3_46 rfl h (fun q1 hq1 h => ?_)
  refine J_getA (pc := 4) dX3_perform_4 hq1 flX3_130 rfl ?_
  refine J_iload_n (pc := 7) 1 dX3_perform_7 rfl ?_
  refine J_iald (pc := 8) dX3_perform_8 hq1 ha5_1 h (fun x2 h => ?_)
  refine J_istore_n (pc := 9) (L' := [(2, .int x2), (0, .ref (e_a E o 0)), (1, .int a1)]) dX3_perform_9 (by decide) rfl ?_
  refine J_aload_n (pc := 10) 1 dX3_perform_10 rfl ?_
  refine J_getR (pc := 11) dX3_perform_11 ho flX3_46 rfl h (fun q3 hq3 h => ?_)
  refine J_getA (pc := 14) dX3_perform_14 hq3 flX3_136 rfl ?_
  refine J_iload_n (pc := 17) 2 dX3_perform_17 rfl ?_
  refine J_iald (pc := 18) dX3_perform_18 hq3 ha5_3 h (fun x4 h => ?_)
  refine J_istore_n (pc := 19) (L' := [(3, .int x4), (2, .int x2), (0, .ref (e_a E o 0)), (1, .int a1)]) dX3_perform_19 (by decide) rfl ?_
  refine J_aload_n (pc := 20) 2 dX3_perform_20 rfl ?_
  refine J_getR (pc := 21) dX3_perform_21 ho flX3_46 rfl h (fun q5 hq5 h => ?_)
  refine J_getA (pc := 24) dX3_perform_24 hq5 flX3_77 rfl ?_
  refine J_iload_n (pc := 27) 3 dX3_perform_27 rfl ?_
  refine J_iald (pc := 28) dX3_perform_28 hq5 ha5_0 h (fun x6 h => ?_)
  by_cases hs7 : x6 = (10 : Int32)
  · rw [if_pos hs7] at h
    refine J_tableIn (pc := 29) 88 dX3_perform_29 (by rw [hs7]; decide) (by rw [hs7]; decide) (by rw [hs7]; rfl) (by decide) ?_
    refine J_aload_n (pc := 88) 2 dX3_perform_88 rfl ?_
    refine J_getR (pc := 89) dX3_perform_89 ho flX3_49 rfl h (fun q8 hq8 h => ?_)
    refine J_iload_n (pc := 92) 1 dX3_perform_92 rfl ?_
    refine J_aload_n (pc := 93) 2 dX3_perform_93 rfl ?_
    refine J_getR (pc := 94) dX3_perform_94 ho flX3_46 rfl h (fun q9 hq9 h => ?_)
    refine J_getA (pc := 97) dX3_perform_97 hq9 flX3_133 rfl ?_
    refine J_iload_n (pc := 100) 3 dX3_perform_100 rfl ?_
    refine J_iald (pc := 101) dX3_perform_101 hq9 ha5_2 h (fun x10 h => ?_)
    refine J_iload_n (pc := 102) 0 dX3_perform_102 rfl ?_
    obtain ⟨σ11, hc12, h⟩ := cV_t h
    refine J_cVv (pc := 103) (ctX10_blow l E q8 x2 x10 x4 hq8 σ hc12) dX3_perform_103 mlX3_142 mvX10_blow hq8 rfl (by decide) rfl (Nat.le_of_ble_eq_true rfl) ?_
    refine J_goto (pc := 106) 242 dX3_perform_106 (by decide) ?_
    cases h
    exact J_vret (pc := 242) dX3_perform_242 rfl
  rw [if_neg hs7] at h
  by_cases hs13 : x6 = (11 : Int32)
  · rw [if_pos hs13] at h
    refine J_tableIn (pc := 29) 117 dX3_perform_29 (by rw [hs13]; decide) (by rw [hs13]; decide) (by rw [hs13]; rfl) (by decide) ?_
    refine J_aload_n (pc := 117) 2 dX3_perform_117 rfl ?_
    refine J_getR (pc := 118) dX3_perform_118 ho flX3_49 rfl h (fun q14 hq14 h => ?_)
    refine J_iload_n (pc := 121) 0 dX3_perform_121 rfl ?_
    obtain ⟨x17, σ15, hc16, h⟩ := cI_t h
    refine J_cVi (pc := 122) (ctX10_goOn l E q14 x4 hq14 σ hc16) dX3_perform_122 mlX3_149 mvX10_goOn hq14 rfl (by decide) rfl (Nat.le_of_ble_eq_true rfl) ?_
    refine J_pop (pc := 125) dX3_perform_125 rfl ?_
    refine J_aload_n (pc := 126) 2 dX3_perform_126 rfl ?_
    refine J_dup (pc := 127) dX3_perform_127 rfl ?_
    refine J_getI (pc := 128) dX3_perform_128 ho flX3_63 rfl h (fun x18 h => ?_)
    refine J_iload_n (pc := 131) 0 dX3_perform_131 rfl ?_
    refine J_iadd (pc := 132) dX3_perform_132 ?_
    refine J_putI (pc := 133) dX3_perform_133 ho flX3_63 rfl h (fun σ19 h => ?_)
    refine J_goto (pc := 136) 242 dX3_perform_136 (by decide) ?_
    cases h
    exact J_vret (pc := 242) dX3_perform_242 rfl
  rw [if_neg hs13] at h
  by_cases hs20 : x6 = (12 : Int32)
  · rw [if_pos hs20] at h
    refine J_tableIn (pc := 29) 139 dX3_perform_29 (by rw [hs20]; decide) (by rw [hs20]; decide) (by rw [hs20]; rfl) (by decide) ?_
    refine J_aload_n (pc := 139) 2 dX3_perform_139 rfl ?_
    refine J_getT (pc := 140) dX3_perform_140 ho flX3_12 rfl ?_
    refine J_aload_n (pc := 143) 2 dX3_perform_143 rfl ?_
    refine J_getT (pc := 144) dX3_perform_144 ho flX3_12 rfl ?_
    refine J_getI (pc := 147) dX3_perform_147 (tk3_0 ho) flX3_152 rfl h (fun x21 h => ?_)
    refine J_iload_n (pc := 150) 1 dX3_perform_150 rfl ?_
    refine J_aload_n (pc := 151) 2 dX3_perform_151 rfl ?_
    refine J_getR (pc := 152) dX3_perform_152 ho flX3_46 rfl h (fun q22 hq22 h => ?_)
    refine J_getA (pc := 155) dX3_perform_155 hq22 flX3_77 rfl ?_
    refine J_iload_n (pc := 158) 3 dX3_perform_158 rfl ?_
    refine J_iald (pc := 159) dX3_perform_159 hq22 ha5_0 h (fun x23 h => ?_)
    refine J_bipush (pc := 160) (12 : Int32) dX3_perform_160 (by decide) ?_
    refine J_icmp_ne (pc := 162) 169 dX3_perform_162 (by decide) h (fun h => ?_) (fun h => ?_)
    · refine J_iconst (pc := 169) (0 : Int32) dX3_perform_169 (by decide) ?_
      obtain ⟨x26, σ24, hc25, h⟩ := cI_t h
      refine J_cNi (pc := 170) (host := "VaneTown") (ctX11_with l E x21 x2 (0 : Int32) σ hc25) dX3_perform_170 mnX3_155 msX11_with rfl (by decide) rfl (Nat.le_of_ble_eq_true rfl) ?_
      refine J_putI (pc := 173) dX3_perform_173 (tk3_0 ho) flX3_152 rfl h (fun σ27 h => ?_)
      refine J_goto (pc := 176) 242 dX3_perform_176 (by decide) ?_
      cases h
      exact J_vret (pc := 242) dX3_perform_242 rfl
    · refine J_iconst (pc := 165) (1 : Int32) dX3_perform_165 (by decide) ?_
      refine J_goto (pc := 166) 170 dX3_perform_166 (by decide) ?_
      obtain ⟨x30, σ28, hc29, h⟩ := cI_t h
      refine J_cNi (pc := 170) (host := "VaneTown") (ctX11_with l E x21 x2 (1 : Int32) σ hc29) dX3_perform_170 mnX3_155 msX11_with rfl (by decide) rfl (Nat.le_of_ble_eq_true rfl) ?_
      refine J_putI (pc := 173) dX3_perform_173 (tk3_0 ho) flX3_152 rfl h (fun σ31 h => ?_)
      refine J_goto (pc := 176) 242 dX3_perform_176 (by decide) ?_
      cases h
      exact J_vret (pc := 242) dX3_perform_242 rfl
  rw [if_neg hs20] at h
  by_cases hs32 : x6 = (13 : Int32)
  · rw [if_pos hs32] at h
    refine J_tableIn (pc := 29) 139 dX3_perform_29 (by rw [hs32]; decide) (by rw [hs32]; decide) (by rw [hs32]; rfl) (by decide) ?_
    refine J_aload_n (pc := 139) 2 dX3_perform_139 rfl ?_
    refine J_getT (pc := 140) dX3_perform_140 ho flX3_12 rfl ?_
    refine J_aload_n (pc := 143) 2 dX3_perform_143 rfl ?_
    refine J_getT (pc := 144) dX3_perform_144 ho flX3_12 rfl ?_
    refine J_getI (pc := 147) dX3_perform_147 (tk3_0 ho) flX3_152 rfl h (fun x33 h => ?_)
    refine J_iload_n (pc := 150) 1 dX3_perform_150 rfl ?_
    refine J_aload_n (pc := 151) 2 dX3_perform_151 rfl ?_
    refine J_getR (pc := 152) dX3_perform_152 ho flX3_46 rfl h (fun q34 hq34 h => ?_)
    refine J_getA (pc := 155) dX3_perform_155 hq34 flX3_77 rfl ?_
    refine J_iload_n (pc := 158) 3 dX3_perform_158 rfl ?_
    refine J_iald (pc := 159) dX3_perform_159 hq34 ha5_0 h (fun x35 h => ?_)
    refine J_bipush (pc := 160) (12 : Int32) dX3_perform_160 (by decide) ?_
    refine J_icmp_ne (pc := 162) 169 dX3_perform_162 (by decide) h (fun h => ?_) (fun h => ?_)
    · refine J_iconst (pc := 169) (0 : Int32) dX3_perform_169 (by decide) ?_
      obtain ⟨x38, σ36, hc37, h⟩ := cI_t h
      refine J_cNi (pc := 170) (host := "VaneTown") (ctX11_with l E x33 x2 (0 : Int32) σ hc37) dX3_perform_170 mnX3_155 msX11_with rfl (by decide) rfl (Nat.le_of_ble_eq_true rfl) ?_
      refine J_putI (pc := 173) dX3_perform_173 (tk3_0 ho) flX3_152 rfl h (fun σ39 h => ?_)
      refine J_goto (pc := 176) 242 dX3_perform_176 (by decide) ?_
      cases h
      exact J_vret (pc := 242) dX3_perform_242 rfl
    · refine J_iconst (pc := 165) (1 : Int32) dX3_perform_165 (by decide) ?_
      refine J_goto (pc := 166) 170 dX3_perform_166 (by decide) ?_
      obtain ⟨x42, σ40, hc41, h⟩ := cI_t h
      refine J_cNi (pc := 170) (host := "VaneTown") (ctX11_with l E x33 x2 (1 : Int32) σ hc41) dX3_perform_170 mnX3_155 msX11_with rfl (by decide) rfl (Nat.le_of_ble_eq_true rfl) ?_
      refine J_putI (pc := 173) dX3_perform_173 (tk3_0 ho) flX3_152 rfl h (fun σ43 h => ?_)
      refine J_goto (pc := 176) 242 dX3_perform_176 (by decide) ?_
      cases h
      exact J_vret (pc := 242) dX3_perform_242 rfl
  rw [if_neg hs32] at h
  by_cases hs44 : x6 = (14 : Int32)
  · rw [if_pos hs44] at h
    refine J_tableIn (pc := 29) 179 dX3_perform_29 (by rw [hs44]; decide) (by rw [hs44]; decide) (by rw [hs44]; rfl) (by decide) ?_
    refine J_aload_n (pc := 179) 2 dX3_perform_179 rfl ?_
    refine J_getT (pc := 180) dX3_perform_180 ho flX3_12 rfl ?_
    refine J_aload_n (pc := 183) 2 dX3_perform_183 rfl ?_
    refine J_getT (pc := 184) dX3_perform_184 ho flX3_12 rfl ?_
    refine J_getI (pc := 187) dX3_perform_187 (tk3_0 ho) flX3_159 rfl h (fun x45 h => ?_)
    refine J_iload_n (pc := 190) 1 dX3_perform_190 rfl ?_
    refine J_aload_n (pc := 191) 2 dX3_perform_191 rfl ?_
    refine J_getR (pc := 192) dX3_perform_192 ho flX3_46 rfl h (fun q46 hq46 h => ?_)
    refine J_getA (pc := 195) dX3_perform_195 hq46 flX3_77 rfl ?_
    refine J_iload_n (pc := 198) 3 dX3_perform_198 rfl ?_
    refine J_iald (pc := 199) dX3_perform_199 hq46 ha5_0 h (fun x47 h => ?_)
    refine J_bipush (pc := 200) (14 : Int32) dX3_perform_200 (by decide) ?_
    refine J_icmp_ne (pc := 202) 209 dX3_perform_202 (by decide) h (fun h => ?_) (fun h => ?_)
    · refine J_iconst (pc := 209) (0 : Int32) dX3_perform_209 (by decide) ?_
      obtain ⟨x50, σ48, hc49, h⟩ := cI_t h
      refine J_cNi (pc := 210) (host := "VaneTown") (ctX11_with l E x45 x2 (0 : Int32) σ hc49) dX3_perform_210 mnX3_155 msX11_with rfl (by decide) rfl (Nat.le_of_ble_eq_true rfl) ?_
      refine J_putI (pc := 213) dX3_perform_213 (tk3_0 ho) flX3_159 rfl h (fun σ51 h => ?_)
      refine J_goto (pc := 216) 242 dX3_perform_216 (by decide) ?_
      cases h
      exact J_vret (pc := 242) dX3_perform_242 rfl
    · refine J_iconst (pc := 205) (1 : Int32) dX3_perform_205 (by decide) ?_
      refine J_goto (pc := 206) 210 dX3_perform_206 (by decide) ?_
      obtain ⟨x54, σ52, hc53, h⟩ := cI_t h
      refine J_cNi (pc := 210) (host := "VaneTown") (ctX11_with l E x45 x2 (1 : Int32) σ hc53) dX3_perform_210 mnX3_155 msX11_with rfl (by decide) rfl (Nat.le_of_ble_eq_true rfl) ?_
      refine J_putI (pc := 213) dX3_perform_213 (tk3_0 ho) flX3_159 rfl h (fun σ55 h => ?_)
      refine J_goto (pc := 216) 242 dX3_perform_216 (by decide) ?_
      cases h
      exact J_vret (pc := 242) dX3_perform_242 rfl
  rw [if_neg hs44] at h
  by_cases hs56 : x6 = (15 : Int32)
  · rw [if_pos hs56] at h
    refine J_tableIn (pc := 29) 179 dX3_perform_29 (by rw [hs56]; decide) (by rw [hs56]; decide) (by rw [hs56]; rfl) (by decide) ?_
    refine J_aload_n (pc := 179) 2 dX3_perform_179 rfl ?_
    refine J_getT (pc := 180) dX3_perform_180 ho flX3_12 rfl ?_
    refine J_aload_n (pc := 183) 2 dX3_perform_183 rfl ?_
    refine J_getT (pc := 184) dX3_perform_184 ho flX3_12 rfl ?_
    refine J_getI (pc := 187) dX3_perform_187 (tk3_0 ho) flX3_159 rfl h (fun x57 h => ?_)
    refine J_iload_n (pc := 190) 1 dX3_perform_190 rfl ?_
    refine J_aload_n (pc := 191) 2 dX3_perform_191 rfl ?_
    refine J_getR (pc := 192) dX3_perform_192 ho flX3_46 rfl h (fun q58 hq58 h => ?_)
    refine J_getA (pc := 195) dX3_perform_195 hq58 flX3_77 rfl ?_
    refine J_iload_n (pc := 198) 3 dX3_perform_198 rfl ?_
    refine J_iald (pc := 199) dX3_perform_199 hq58 ha5_0 h (fun x59 h => ?_)
    refine J_bipush (pc := 200) (14 : Int32) dX3_perform_200 (by decide) ?_
    refine J_icmp_ne (pc := 202) 209 dX3_perform_202 (by decide) h (fun h => ?_) (fun h => ?_)
    · refine J_iconst (pc := 209) (0 : Int32) dX3_perform_209 (by decide) ?_
      obtain ⟨x62, σ60, hc61, h⟩ := cI_t h
      refine J_cNi (pc := 210) (host := "VaneTown") (ctX11_with l E x57 x2 (0 : Int32) σ hc61) dX3_perform_210 mnX3_155 msX11_with rfl (by decide) rfl (Nat.le_of_ble_eq_true rfl) ?_
      refine J_putI (pc := 213) dX3_perform_213 (tk3_0 ho) flX3_159 rfl h (fun σ63 h => ?_)
      refine J_goto (pc := 216) 242 dX3_perform_216 (by decide) ?_
      cases h
      exact J_vret (pc := 242) dX3_perform_242 rfl
    · refine J_iconst (pc := 205) (1 : Int32) dX3_perform_205 (by decide) ?_
      refine J_goto (pc := 206) 210 dX3_perform_206 (by decide) ?_
      obtain ⟨x66, σ64, hc65, h⟩ := cI_t h
      refine J_cNi (pc := 210) (host := "VaneTown") (ctX11_with l E x57 x2 (1 : Int32) σ hc65) dX3_perform_210 mnX3_155 msX11_with rfl (by decide) rfl (Nat.le_of_ble_eq_true rfl) ?_
      refine J_putI (pc := 213) dX3_perform_213 (tk3_0 ho) flX3_159 rfl h (fun σ67 h => ?_)
      refine J_goto (pc := 216) 242 dX3_perform_216 (by decide) ?_
      cases h
      exact J_vret (pc := 242) dX3_perform_242 rfl
  rw [if_neg hs56] at h
  by_cases hs68 : x6 = (16 : Int32)
  · rw [if_pos hs68] at h
    refine J_tableIn (pc := 29) 219 dX3_perform_29 (by rw [hs68]; decide) (by rw [hs68]; decide) (by rw [hs68]; rfl) (by decide) ?_
    refine J_aload_n (pc := 219) 2 dX3_perform_219 rfl ?_
    refine J_getR (pc := 220) dX3_perform_220 ho flX3_49 rfl h (fun q69 hq69 h => ?_)
    refine J_iload_n (pc := 223) 1 dX3_perform_223 rfl ?_
    refine J_iload_n (pc := 224) 0 dX3_perform_224 rfl ?_
    obtain ⟨x72, σ70, hc71, h⟩ := cI_t h
    refine J_cVi (pc := 225) (ctX10_turnByHand l E q69 x2 x4 hq69 σ hc71) dX3_perform_225 mlX3_162 mvX10_turnByHand hq69 rfl (by decide) rfl (Nat.le_of_ble_eq_true rfl) ?_
    refine J_pop (pc := 228) dX3_perform_228 rfl ?_
    refine J_goto (pc := 229) 242 dX3_perform_229 (by decide) ?_
    cases h
    exact J_vret (pc := 242) dX3_perform_242 rfl
  rw [if_neg hs68] at h
  by_cases hs73 : x6 = (17 : Int32)
  · rw [if_pos hs73] at h
    refine J_tableIn (pc := 29) 109 dX3_perform_29 (by rw [hs73]; decide) (by rw [hs73]; decide) (by rw [hs73]; rfl) (by decide) ?_
    refine J_aload_n (pc := 109) 2 dX3_perform_109 rfl ?_
    refine J_iload_n (pc := 110) 0 dX3_perform_110 rfl ?_
    obtain ⟨σ74, hc75, h⟩ := cV_t h
    refine J_cVv (pc := 111) (ctX3_drawWinds l E o x4 ho σ hc75) dX3_perform_111 mlX3_146 mvX3_drawWinds ho rfl (by decide) rfl (Nat.le_of_ble_eq_true rfl) ?_
    refine J_goto (pc := 114) 242 dX3_perform_114 (by decide) ?_
    cases h
    exact J_vret (pc := 242) dX3_perform_242 rfl
  rw [if_neg hs73] at h
  by_cases hs76 : x6 = (20 : Int32)
  · rw [if_pos hs76] at h
    refine J_tableIn (pc := 29) 232 dX3_perform_29 (by rw [hs76]; decide) (by rw [hs76]; decide) (by rw [hs76]; rfl) (by decide) ?_
    refine J_aload_n (pc := 232) 2 dX3_perform_232 rfl ?_
    refine J_getA (pc := 233) dX3_perform_233 ho flX3_20 rfl ?_
    refine J_iload_n (pc := 236) 3 dX3_perform_236 rfl ?_
    refine J_iload_n (pc := 237) 0 dX3_perform_237 rfl ?_
    refine J_iast (pc := 238) dX3_perform_238 ho ha3_0 h (fun σ77 h => ?_)
    refine J_goto (pc := 239) 242 dX3_perform_239 (by decide) ?_
    cases h
    exact J_vret (pc := 242) dX3_perform_242 rfl
  rw [if_neg hs76] at h
  refine J_tableD (pc := 29) 242 dX3_perform_29 (by decide) (fun h1 h2 => by have := ne_i hs7 (k := 10) (by decide); have := ne_i hs13 (k := 11) (by decide); have := ne_i hs20 (k := 12) (by decide); have := ne_i hs32 (k := 13) (by decide); have := ne_i hs44 (k := 14) (by decide); have := ne_i hs56 (k := 15) (by decide); have := ne_i hs68 (k := 16) (by decide); have := ne_i hs73 (k := 17) (by decide); have := ne_i hs76 (k := 20) (by decide); rcases (show x6.toInt = 18 ∨ x6.toInt = 19 by omega) with q | q <;> rw [q] <;> rfl) ?_
  cases h
  exact J_vret (pc := 242) dX3_perform_242 rfl
def fX3_isSo (o : Nat) (a1 : Int32) (σ : Mm) : Option (Int32 × Mm) := r_rf σ o 2 5 (fun q1 => g_ar σ q1 1 60 a1 (fun x2 => g_ar σ (tg o 0) 2 8 x2 (fun x3 => r_rf σ o 2 5 (fun q4 => g_ar σ q4 2 60 a1 (fun x5 => if x5 = (60 : Int32) then (r_rf σ o 2 5 (fun q7 => g_ar σ q7 3 60 a1 (fun x8 => if x8 ≤ x3 then (some ((0 : Int32), σ)) else (some ((1 : Int32), σ))))) else if x5 = (61 : Int32) then (r_rf σ o 2 5 (fun q10 => g_ar σ q10 3 60 a1 (fun x11 => if x3 = x11 then (some ((1 : Int32), σ)) else (some ((0 : Int32), σ))))) else if x5 = (62 : Int32) then (r_rf σ o 2 5 (fun q13 => g_ar σ q13 3 60 a1 (fun x14 => if x3 ≤ x14 then (some ((0 : Int32), σ)) else (some ((1 : Int32), σ))))) else (r_rf σ o 3 10 (fun q15 => c_I (fX10_isRight q15 x2 σ) (fun x18 σ16 => b_z x18 σ16))))))))
set_option maxRecDepth 100000 in
set_option maxHeartbeats 4000000 in
theorem ctX3_isSo (l : Launch) (E : EV) (o : Nat) (a1 : Int32) (ho : KD o = 3) (σ : Mm) {xr : Int32} {τ : Mm} (h : fX3_isSo o a1 σ = some (xr, τ)) : Ct l E mX3_isSo 1 [.ref (e_a E o 0), .int a1] σ (some (.int xr), τ) := by
  refine Ct.of (by decide +kernel) (Nat.le_of_ble_eq_true rfl) ?_
  show Jd l E mX3_isSo 1 (some (.int xr), τ) σ 0 [(0, .ref (e_a E o 0)), (1, .int a1)] []
  unfold fX3_isSo at h
  refine J_aload_n (pc := 0) 0 dX3_isSo_0 rfl ?_
  refine J_getR (pc := 1) dX3_isSo_1 ho flX3_46 rfl h (fun q1 hq1 h => ?_)
  refine J_getA (pc := 4) dX3_isSo_4 hq1 flX3_130 rfl ?_
  refine J_iload_n (pc := 7) 1 dX3_isSo_7 rfl ?_
  refine J_iald (pc := 8) dX3_isSo_8 hq1 ha5_1 h (fun x2 h => ?_)
  refine J_istore_n (pc := 9) (L' := [(2, .int x2), (0, .ref (e_a E o 0)), (1, .int a1)]) dX3_isSo_9 (by decide) rfl ?_
  refine J_aload_n (pc := 10) 1 dX3_isSo_10 rfl ?_
  refine J_getT (pc := 11) dX3_isSo_11 ho flX3_12 rfl ?_
  refine J_getA (pc := 14) dX3_isSo_14 (tk3_0 ho) flX3_114 rfl ?_
  refine J_iload_n (pc := 17) 0 dX3_isSo_17 rfl ?_
  refine J_iald (pc := 18) dX3_isSo_18 (tk3_0 ho) ha4_2 h (fun x3 h => ?_)
  refine J_istore_n (pc := 19) (L' := [(3, .int x3), (2, .int x2), (0, .ref (e_a E o 0)), (1, .int a1)]) dX3_isSo_19 (by decide) rfl ?_
  refine J_aload_n (pc := 20) 2 dX3_isSo_20 rfl ?_
  refine J_getR (pc := 21) dX3_isSo_21 ho flX3_46 rfl h (fun q4 hq4 h => ?_)
  refine J_getA (pc := 24) dX3_isSo_24 hq4 flX3_133 rfl ?_
  refine J_iload_n (pc := 27) 3 dX3_isSo_27 rfl ?_
  refine J_iald (pc := 28) dX3_isSo_28 hq4 ha5_2 h (fun x5 h => ?_)
  by_cases hs6 : x5 = (60 : Int32)
  · rw [if_pos hs6] at h
    refine J_tableIn (pc := 29) 56 dX3_isSo_29 (by rw [hs6]; decide) (by rw [hs6]; decide) (by rw [hs6]; rfl) (by decide) ?_
    refine J_iload_n (pc := 56) 0 dX3_isSo_56 rfl ?_
    refine J_aload_n (pc := 57) 2 dX3_isSo_57 rfl ?_
    refine J_getR (pc := 58) dX3_isSo_58 ho flX3_46 rfl h (fun q7 hq7 h => ?_)
    refine J_getA (pc := 61) dX3_isSo_61 hq7 flX3_136 rfl ?_
    refine J_iload_n (pc := 64) 3 dX3_isSo_64 rfl ?_
    refine J_iald (pc := 65) dX3_isSo_65 hq7 ha5_3 h (fun x8 h => ?_)
    refine J_icmp_ge (pc := 66) 73 dX3_isSo_66 (by decide) h (fun h => ?_) (fun h => ?_)
    · refine J_iconst (pc := 73) (0 : Int32) dX3_isSo_73 (by decide) ?_
      cases h
      exact J_iret (pc := 74) dX3_isSo_74 rfl rfl
    · refine J_iconst (pc := 69) (1 : Int32) dX3_isSo_69 (by decide) ?_
      refine J_goto (pc := 70) 74 dX3_isSo_70 (by decide) ?_
      cases h
      exact J_iret (pc := 74) dX3_isSo_74 rfl rfl
  rw [if_neg hs6] at h
  by_cases hs9 : x5 = (61 : Int32)
  · rw [if_pos hs9] at h
    refine J_tableIn (pc := 29) 94 dX3_isSo_29 (by rw [hs9]; decide) (by rw [hs9]; decide) (by rw [hs9]; rfl) (by decide) ?_
    refine J_iload_n (pc := 94) 0 dX3_isSo_94 rfl ?_
    refine J_aload_n (pc := 95) 2 dX3_isSo_95 rfl ?_
    refine J_getR (pc := 96) dX3_isSo_96 ho flX3_46 rfl h (fun q10 hq10 h => ?_)
    refine J_getA (pc := 99) dX3_isSo_99 hq10 flX3_136 rfl ?_
    refine J_iload_n (pc := 102) 3 dX3_isSo_102 rfl ?_
    refine J_iald (pc := 103) dX3_isSo_103 hq10 ha5_3 h (fun x11 h => ?_)
    refine J_icmp_ne (pc := 104) 111 dX3_isSo_104 (by decide) h (fun h => ?_) (fun h => ?_)
    · refine J_iconst (pc := 111) (0 : Int32) dX3_isSo_111 (by decide) ?_
      cases h
      exact J_iret (pc := 112) dX3_isSo_112 rfl rfl
    · refine J_iconst (pc := 107) (1 : Int32) dX3_isSo_107 (by decide) ?_
      refine J_goto (pc := 108) 112 dX3_isSo_108 (by decide) ?_
      cases h
      exact J_iret (pc := 112) dX3_isSo_112 rfl rfl
  rw [if_neg hs9] at h
  by_cases hs12 : x5 = (62 : Int32)
  · rw [if_pos hs12] at h
    refine J_tableIn (pc := 29) 75 dX3_isSo_29 (by rw [hs12]; decide) (by rw [hs12]; decide) (by rw [hs12]; rfl) (by decide) ?_
    refine J_iload_n (pc := 75) 0 dX3_isSo_75 rfl ?_
    refine J_aload_n (pc := 76) 2 dX3_isSo_76 rfl ?_
    refine J_getR (pc := 77) dX3_isSo_77 ho flX3_46 rfl h (fun q13 hq13 h => ?_)
    refine J_getA (pc := 80) dX3_isSo_80 hq13 flX3_136 rfl ?_
    refine J_iload_n (pc := 83) 3 dX3_isSo_83 rfl ?_
    refine J_iald (pc := 84) dX3_isSo_84 hq13 ha5_3 h (fun x14 h => ?_)
    refine J_icmp_le (pc := 85) 92 dX3_isSo_85 (by decide) h (fun h => ?_) (fun h => ?_)
    · refine J_iconst (pc := 92) (0 : Int32) dX3_isSo_92 (by decide) ?_
      cases h
      exact J_iret (pc := 93) dX3_isSo_93 rfl rfl
    · refine J_iconst (pc := 88) (1 : Int32) dX3_isSo_88 (by decide) ?_
      refine J_goto (pc := 89) 93 dX3_isSo_89 (by decide) ?_
      cases h
      exact J_iret (pc := 93) dX3_isSo_93 rfl rfl
  rw [if_neg hs12] at h
  refine J_tableOut (pc := 29) 113 dX3_isSo_29 (by have := ne_i hs6 (k := 60) (by decide); have := ne_i hs9 (k := 61) (by decide); have := ne_i hs12 (k := 62) (by decide); omega) (by decide) ?_
  refine J_aload_n (pc := 113) 2 dX3_isSo_113 rfl ?_
  refine J_getR (pc := 114) dX3_isSo_114 ho flX3_49 rfl h (fun q15 hq15 h => ?_)
  refine J_iload_n (pc := 117) 1 dX3_isSo_117 rfl ?_
  obtain ⟨x18, σ16, hc17, h⟩ := cI_t h
  refine J_cVi (pc := 118) (ctX10_isRight l E q15 x2 hq15 σ hc17) dX3_isSo_118 mlX3_139 mvX10_isRight hq15 rfl (by decide) rfl (Nat.le_of_ble_eq_true rfl) ?_
  obtain ⟨hz19, h⟩ := bz_t h
  cases h
  exact J_iret (pc := 121) dX3_isSo_121 rfl hz19
def fX3_rowBehindStep (o : Nat) (a1 : Int32) (σ : Mm) : Option (Int32 × Mm) := r_rf σ o 2 5 (fun q1 => g_ar σ q1 0 60 a1 (fun x2 => if x2 = (22 : Int32) then (r_rf σ o 2 5 (fun q10 => r_sc σ q10 2 (fun x11 => some (x11, σ)))) else (r_rf σ o 2 5 (fun q3 => g_ar σ q3 0 60 a1 (fun x4 => if x4 = (18 : Int32) then (c_I (fX3_isSo o a1 σ) (fun x7 σ5 => if x7 = 0 then (r_rf σ5 o 2 5 (fun q8 => g_ar σ5 q8 4 60 a1 (fun x9 => some ((x9 + (1 : Int32)), σ5)))) else (some ((a1 + (1 : Int32)), σ5)))) else (some ((a1 + (1 : Int32)), σ)))))))
set_option maxRecDepth 100000 in
set_option maxHeartbeats 4000000 in
theorem ctX3_rowBehindStep (l : Launch) (E : EV) (o : Nat) (a1 : Int32) (ho : KD o = 3) (σ : Mm) {xr : Int32} {τ : Mm} (h : fX3_rowBehindStep o a1 σ = some (xr, τ)) : Ct l E mX3_rowBehindStep 2 [.ref (e_a E o 0), .int a1] σ (some (.int xr), τ) := by
  refine Ct.of (by decide +kernel) (Nat.le_of_ble_eq_true rfl) ?_
  show Jd l E mX3_rowBehindStep 2 (some (.int xr), τ) σ 0 [(0, .ref (e_a E o 0)), (1, .int a1)] []
  unfold fX3_rowBehindStep at h
  refine J_aload_n (pc := 0) 0 dX3_rowBehindStep_0 rfl ?_
  refine J_getR (pc := 1) dX3_rowBehindStep_1 ho flX3_46 rfl h (fun q1 hq1 h => ?_)
  refine J_getA (pc := 4) dX3_rowBehindStep_4 hq1 flX3_77 rfl ?_
  refine J_iload_n (pc := 7) 1 dX3_rowBehindStep_7 rfl ?_
  refine J_iald (pc := 8) dX3_rowBehindStep_8 hq1 ha5_0 h (fun x2 h => ?_)
  refine J_bipush (pc := 9) (22 : Int32) dX3_rowBehindStep_9 (by decide) ?_
  refine J_icmp_ne (pc := 11) 22 dX3_rowBehindStep_11 (by decide) h (fun h => ?_) (fun h => ?_)
  · refine J_aload_n (pc := 22) 0 dX3_rowBehindStep_22 rfl ?_
    refine J_getR (pc := 23) dX3_rowBehindStep_23 ho flX3_46 rfl h (fun q3 hq3 h => ?_)
    refine J_getA (pc := 26) dX3_rowBehindStep_26 hq3 flX3_77 rfl ?_
    refine J_iload_n (pc := 29) 1 dX3_rowBehindStep_29 rfl ?_
    refine J_iald (pc := 30) dX3_rowBehindStep_30 hq3 ha5_0 h (fun x4 h => ?_)
    refine J_bipush (pc := 31) (18 : Int32) dX3_rowBehindStep_31 (by decide) ?_
    refine J_icmp_ne (pc := 33) 56 dX3_rowBehindStep_33 (by decide) h (fun h => ?_) (fun h => ?_)
    · refine J_iload_n (pc := 56) 1 dX3_rowBehindStep_56 rfl ?_
      refine J_iconst (pc := 57) (1 : Int32) dX3_rowBehindStep_57 (by decide) ?_
      refine J_iadd (pc := 58) dX3_rowBehindStep_58 ?_
      cases h
      exact J_iret (pc := 59) dX3_rowBehindStep_59 rfl rfl
    · refine J_aload_n (pc := 36) 0 dX3_rowBehindStep_36 rfl ?_
      refine J_iload_n (pc := 37) 1 dX3_rowBehindStep_37 rfl ?_
      obtain ⟨x7, σ5, hc6, h⟩ := cI_t h
      refine J_cVi (pc := 38) (ctX3_isSo l E o a1 ho σ hc6) dX3_rowBehindStep_38 mlX3_126 mvX3_isSo ho rfl (by decide) rfl (Nat.le_of_ble_eq_true rfl) ?_
      refine J_if_ne (pc := 41) 56 dX3_rowBehindStep_41 (by decide) h (fun h => ?_) (fun h => ?_)
      · refine J_iload_n (pc := 56) 1 dX3_rowBehindStep_56 rfl ?_
        refine J_iconst (pc := 57) (1 : Int32) dX3_rowBehindStep_57 (by decide) ?_
        refine J_iadd (pc := 58) dX3_rowBehindStep_58 ?_
        cases h
        exact J_iret (pc := 59) dX3_rowBehindStep_59 rfl rfl
      · refine J_aload_n (pc := 44) 0 dX3_rowBehindStep_44 rfl ?_
        refine J_getR (pc := 45) dX3_rowBehindStep_45 ho flX3_46 rfl h (fun q8 hq8 h => ?_)
        refine J_getA (pc := 48) dX3_rowBehindStep_48 hq8 flX3_123 rfl ?_
        refine J_iload_n (pc := 51) 1 dX3_rowBehindStep_51 rfl ?_
        refine J_iald (pc := 52) dX3_rowBehindStep_52 hq8 ha5_4 h (fun x9 h => ?_)
        refine J_iconst (pc := 53) (1 : Int32) dX3_rowBehindStep_53 (by decide) ?_
        refine J_iadd (pc := 54) dX3_rowBehindStep_54 ?_
        cases h
        exact J_iret (pc := 55) dX3_rowBehindStep_55 rfl rfl
  · refine J_aload_n (pc := 14) 0 dX3_rowBehindStep_14 rfl ?_
    refine J_getR (pc := 15) dX3_rowBehindStep_15 ho flX3_46 rfl h (fun q10 hq10 h => ?_)
    refine J_getI (pc := 18) dX3_rowBehindStep_18 hq10 flX3_74 rfl h (fun x11 h => ?_)
    cases h
    exact J_iret (pc := 21) dX3_rowBehindStep_21 rfl rfl
def fX3_carryOut_73 (o : Nat) (a1 : Nat) (a2 : Int32) (a3 : Nat) : Nat → Int32 → Int32 → Mm → Option (Mm)
  | 0, _, _, _ => none
  | n + 1, v4, v5, σ => if (1000000 : Int32) ≤ v5 then (some σ) else (r_rf σ o 2 5 (fun q16 => r_sc σ q16 2 (fun x17 => if x17 ≤ v4 then (some σ) else (r_rf σ o 2 5 (fun q18 => g_ar σ q18 0 60 v4 (fun x19 => if x19 = (21 : Int32) then (c_I (fX3_rowBehindEnd o v4 σ) (fun x33 σ31 => (fX3_carryOut_73 o a1 a2 a3 n) x33 (v5 + (1 : Int32)) σ31)) else (r_sc σ o 8 (fun x20 => if (400 : Int32) ≤ x20 then (p_bz σ o 7 (1 : Int32) (fun σ21 => r_rf σ21 o 2 5 (fun q22 => r_sc σ21 q22 2 (fun x23 => (fX3_carryOut_73 o a1 a2 a3 n) x23 (v5 + (1 : Int32)) σ21)))) else (r_sc σ o 8 (fun x24 => p_sc σ o 8 (x24 + (1 : Int32)) (fun σ25 => c_V (fX3_perform o v4 σ25) (fun σ26 => c_I (fX3_rowBehindStep o v4 σ26) (fun x30 σ28 => (fX3_carryOut_73 o a1 a2 a3 n) x30 (v5 + (1 : Int32)) σ28)))))))))))))
set_option maxRecDepth 100000 in
set_option maxHeartbeats 4000000 in
theorem tX3_carryOut_73 (l : Launch) (E : EV) {τ : Mm} (o : Nat) (a1 : Nat) (a2 : Int32) (a3 : Nat) (ho : KD o = 3) (ha1 : KD a1 = 7) (ha3 : KD a3 = 10) : ∀ (n : Nat) (v4 : Int32) (v5 : Int32) (σ : Mm), fX3_carryOut_73 o a1 a2 a3 n v4 v5 σ = some τ → Jd l E mX3_carryOut 6 (none, τ) σ 73 [(0, .ref (e_a E o 0)), (4, .int v4), (5, .int v5)] [] := by
  intro n
  induction n with
  | zero => intro v4 v5 σ h; rw [fX3_carryOut_73] at h; cases h
  | succ n ih =>
    intro v4 v5 σ h
    rw [fX3_carryOut_73] at h
    refine J_iload (pc := 73) 2 dX3_carryOut_73 rfl ?_
    refine J_ldc (pc := 75) (1000000 : Int32) dX3_carryOut_75 kcX3_73 ?_
    refine J_icmp_ge (pc := 77) 175 dX3_carryOut_77 (by decide) h (fun h => ?_) (fun h => ?_)
    · cases h
      exact J_vret (pc := 175) dX3_carryOut_175 rfl
    · refine J_iload (pc := 80) 1 dX3_carryOut_80 rfl ?_
      refine J_aload_n (pc := 82) 0 dX3_carryOut_82 rfl ?_
      refine J_getR (pc := 83) dX3_carryOut_83 ho flX3_46 rfl h (fun q16 hq16 h => ?_)
      refine J_getI (pc := 86) dX3_carryOut_86 hq16 flX3_74 rfl h (fun x17 h => ?_)
      refine J_icmp_ge (pc := 89) 175 dX3_carryOut_89 (by decide) h (fun h => ?_) (fun h => ?_)
      · cases h
        exact J_vret (pc := 175) dX3_carryOut_175 rfl
      · refine J_aload_n (pc := 92) 0 dX3_carryOut_92 rfl ?_
        refine J_getR (pc := 93) dX3_carryOut_93 ho flX3_46 rfl h (fun q18 hq18 h => ?_)
        refine J_getA (pc := 96) dX3_carryOut_96 hq18 flX3_77 rfl ?_
        refine J_iload (pc := 99) 1 dX3_carryOut_99 rfl ?_
        refine J_iald (pc := 101) dX3_carryOut_101 hq18 ha5_0 h (fun x19 h => ?_)
        refine J_bipush (pc := 102) (21 : Int32) dX3_carryOut_102 (by decide) ?_
        refine J_icmp_ne (pc := 104) 118 dX3_carryOut_104 (by decide) h (fun h => ?_) (fun h => ?_)
        · refine J_aload_n (pc := 118) 0 dX3_carryOut_118 rfl ?_
          refine J_getI (pc := 119) dX3_carryOut_119 ho flX3_66 rfl h (fun x20 h => ?_)
          refine J_sipush (pc := 122) (400 : Int32) dX3_carryOut_122 (by decide) ?_
          refine J_icmp_ge (pc := 125) 155 dX3_carryOut_125 (by decide) h (fun h => ?_) (fun h => ?_)
          · refine J_aload_n (pc := 155) 0 dX3_carryOut_155 rfl ?_
            refine J_iconst (pc := 156) (1 : Int32) dX3_carryOut_156 (by decide) ?_
            refine J_putZ (pc := 157) dX3_carryOut_157 ho flX3_69 rfl h (fun σ21 h => ?_)
            refine J_aload_n (pc := 160) 0 dX3_carryOut_160 rfl ?_
            refine J_getR (pc := 161) dX3_carryOut_161 ho flX3_46 rfl h (fun q22 hq22 h => ?_)
            refine J_getI (pc := 164) dX3_carryOut_164 hq22 flX3_74 rfl h (fun x23 h => ?_)
            refine J_istore (pc := 167) (L' := [(4, .int x23), (0, .ref (e_a E o 0)), (5, .int v5)]) dX3_carryOut_167 (by decide) rfl ?_
            refine J_iinc (pc := 169) (L' := [(5, .int (v5 + (1 : Int32))), (4, .int x23), (0, .ref (e_a E o 0))]) 2 (v5 + (1 : Int32)) dX3_carryOut_169 rfl (by rfl) (by decide) rfl ?_
            refine J_goto (pc := 172) 73 dX3_carryOut_172 (by decide) ?_
            refine J_sub (L' := [(0, .ref (e_a E o 0)), (4, .int x23), (5, .int (v5 + (1 : Int32)))]) [2, 1, 0] rfl ?_
            exact ih x23 (v5 + (1 : Int32)) σ21 h
          · refine J_aload_n (pc := 128) 0 dX3_carryOut_128 rfl ?_
            refine J_dup (pc := 129) dX3_carryOut_129 rfl ?_
            refine J_getI (pc := 130) dX3_carryOut_130 ho flX3_66 rfl h (fun x24 h => ?_)
            refine J_iconst (pc := 133) (1 : Int32) dX3_carryOut_133 (by decide) ?_
            refine J_iadd (pc := 134) dX3_carryOut_134 ?_
            refine J_putI (pc := 135) dX3_carryOut_135 ho flX3_66 rfl h (fun σ25 h => ?_)
            refine J_aload_n (pc := 138) 0 dX3_carryOut_138 rfl ?_
            refine J_iload (pc := 139) 1 dX3_carryOut_139 rfl ?_
            obtain ⟨σ26, hc27, h⟩ := cV_t h
            refine J_cVv (pc := 141) (ctX3_perform l E o v4 ho σ25 hc27) dX3_carryOut_141 mlX3_86 mvX3_perform ho rfl (by decide) rfl (Nat.le_of_ble_eq_true rfl) ?_
            refine J_aload_n (pc := 144) 0 dX3_carryOut_144 rfl ?_
            refine J_iload (pc := 145) 1 dX3_carryOut_145 rfl ?_
            obtain ⟨x30, σ28, hc29, h⟩ := cI_t h
            refine J_cVi (pc := 147) (ctX3_rowBehindStep l E o v4 ho σ26 hc29) dX3_carryOut_147 mlX3_90 mvX3_rowBehindStep ho rfl (by decide) rfl (Nat.le_of_ble_eq_true rfl) ?_
            refine J_istore (pc := 150) (L' := [(4, .int x30), (0, .ref (e_a E o 0)), (5, .int v5)]) dX3_carryOut_150 (by decide) rfl ?_
            refine J_goto (pc := 152) 169 dX3_carryOut_152 (by decide) ?_
            refine J_iinc (pc := 169) (L' := [(5, .int (v5 + (1 : Int32))), (4, .int x30), (0, .ref (e_a E o 0))]) 2 (v5 + (1 : Int32)) dX3_carryOut_169 rfl (by rfl) (by decide) rfl ?_
            refine J_goto (pc := 172) 73 dX3_carryOut_172 (by decide) ?_
            refine J_sub (L' := [(0, .ref (e_a E o 0)), (4, .int x30), (5, .int (v5 + (1 : Int32)))]) [2, 1, 0] rfl ?_
            exact ih x30 (v5 + (1 : Int32)) σ28 h
        · refine J_aload_n (pc := 107) 0 dX3_carryOut_107 rfl ?_
          refine J_iload (pc := 108) 1 dX3_carryOut_108 rfl ?_
          obtain ⟨x33, σ31, hc32, h⟩ := cI_t h
          refine J_cVi (pc := 110) (ctX3_rowBehindEnd l E o v4 ho σ hc32) dX3_carryOut_110 mlX3_82 mvX3_rowBehindEnd ho rfl (by decide) rfl (Nat.le_of_ble_eq_true rfl) ?_
          refine J_istore (pc := 113) (L' := [(4, .int x33), (0, .ref (e_a E o 0)), (5, .int v5)]) dX3_carryOut_113 (by decide) rfl ?_
          refine J_goto (pc := 115) 169 dX3_carryOut_115 (by decide) ?_
          refine J_iinc (pc := 169) (L' := [(5, .int (v5 + (1 : Int32))), (4, .int x33), (0, .ref (e_a E o 0))]) 2 (v5 + (1 : Int32)) dX3_carryOut_169 rfl (by rfl) (by decide) rfl ?_
          refine J_goto (pc := 172) 73 dX3_carryOut_172 (by decide) ?_
          refine J_sub (L' := [(0, .ref (e_a E o 0)), (4, .int x33), (5, .int (v5 + (1 : Int32)))]) [2, 1, 0] rfl ?_
          exact ih x33 (v5 + (1 : Int32)) σ31 h
def fX3_carryOut (o : Nat) (a1 : Nat) (a2 : Int32) (a3 : Nat) (σ : Mm) : Option (Mm) := c_V (fX4_copyFrom (tg o 0) (tg a1 1) σ) (fun σ1 => r_rf σ1 a1 0 2 (fun q3 => p_rf σ1 o 1 q3 (fun σ4 => r_rf σ4 a1 2 5 (fun q5 => p_rf σ4 o 2 q5 (fun σ6 => p_rf σ6 o 3 a3 (fun σ7 => r_rf σ7 o 3 10 (fun q8 => r_rf σ7 o 1 2 (fun q9 => c_V (fX10_use q8 q9 (tg o 0) σ7) (fun σ10 => p_sc σ10 o 5 a2 (fun σ12 => p_sc σ12 o 6 (0 : Int32) (fun σ13 => p_sc σ13 o 8 (0 : Int32) (fun σ14 => p_bz σ14 o 7 (0 : Int32) (fun σ15 => fX3_carryOut_73 o a1 a2 a3 FU (0 : Int32) (0 : Int32) σ15)))))))))))))
set_option maxRecDepth 100000 in
set_option maxHeartbeats 4000000 in
theorem ctX3_carryOut (l : Launch) (E : EV) (o : Nat) (a1 : Nat) (a2 : Int32) (a3 : Nat) (ho : KD o = 3) (ha1 : KD a1 = 7) (ha3 : KD a3 = 10) (σ : Mm) {τ : Mm} (h : fX3_carryOut o a1 a2 a3 σ = some τ) : Ct l E mX3_carryOut 6 [.ref (e_a E o 0), .ref (e_a E a1 0), .int a2, .ref (e_a E a3 0)] σ (none, τ) := by
  refine Ct.of (by decide +kernel) (Nat.le_of_ble_eq_true rfl) ?_
  show Jd l E mX3_carryOut 6 (none, τ) σ 0 [(0, .ref (e_a E o 0)), (1, .ref (e_a E a1 0)), (2, .int a2), (3, .ref (e_a E a3 0))] []
  unfold fX3_carryOut at h
  refine J_aload_n (pc := 0) 0 dX3_carryOut_0 rfl ?_
  refine J_getT (pc := 1) dX3_carryOut_1 ho flX3_12 rfl ?_
  refine J_aload_n (pc := 4) 1 dX3_carryOut_4 rfl ?_
  refine J_getT (pc := 5) dX3_carryOut_5 ha1 flX3_30 rfl ?_
  obtain ⟨σ1, hc2, h⟩ := cV_t h
  refine J_cVv (pc := 8) (ctX4_copyFrom l E (tg o 0) (tg a1 1) (tk3_0 ho) (tk7_1 ha1) σ hc2) dX3_carryOut_8 mlX3_33 mvX4_copyFrom (tk3_0 ho) rfl (by decide) rfl (Nat.le_of_ble_eq_true rfl) ?_
  refine J_aload_n (pc := 11) 0 dX3_carryOut_11 rfl ?_
  refine J_aload_n (pc := 12) 1 dX3_carryOut_12 rfl ?_
  refine J_getR (pc := 13) dX3_carryOut_13 ha1 flX3_37 rfl h (fun q3 hq3 h => ?_)
  refine J_putR (pc := 16) dX3_carryOut_16 ho flX3_41 rfl h (fun σ4 h => ?_)
  refine J_aload_n (pc := 19) 0 dX3_carryOut_19 rfl ?_
  refine J_aload_n (pc := 20) 1 dX3_carryOut_20 rfl ?_
  refine J_getR (pc := 21) dX3_carryOut_21 ha1 flX3_42 rfl h (fun q5 hq5 h => ?_)
  refine J_putR (pc := 24) dX3_carryOut_24 ho flX3_46 rfl h (fun σ6 h => ?_)
  refine J_aload_n (pc := 27) 0 dX3_carryOut_27 rfl ?_
  refine J_aload_n (pc := 28) 3 dX3_carryOut_28 rfl ?_
  refine J_putR (pc := 29) dX3_carryOut_29 ho flX3_49 rfl h (fun σ7 h => ?_)
  refine J_aload_n (pc := 32) 0 dX3_carryOut_32 rfl ?_
  refine J_getR (pc := 33) dX3_carryOut_33 ho flX3_49 rfl h (fun q8 hq8 h => ?_)
  refine J_aload_n (pc := 36) 0 dX3_carryOut_36 rfl ?_
  refine J_getR (pc := 37) dX3_carryOut_37 ho flX3_41 rfl h (fun q9 hq9 h => ?_)
  refine J_aload_n (pc := 40) 0 dX3_carryOut_40 rfl ?_
  refine J_getT (pc := 41) dX3_carryOut_41 ho flX3_12 rfl ?_
  obtain ⟨σ10, hc11, h⟩ := cV_t h
  refine J_cVv (pc := 44) (ctX10_use l E q8 q9 (tg o 0) hq8 hq9 (tk3_0 ho) σ7 hc11) dX3_carryOut_44 mlX3_53 mvX10_use hq8 rfl (by decide) rfl (Nat.le_of_ble_eq_true rfl) ?_
  refine J_aload_n (pc := 47) 0 dX3_carryOut_47 rfl ?_
  refine J_iload_n (pc := 48) 2 dX3_carryOut_48 rfl ?_
  refine J_putI (pc := 49) dX3_carryOut_49 ho flX3_59 rfl h (fun σ12 h => ?_)
  refine J_aload_n (pc := 52) 0 dX3_carryOut_52 rfl ?_
  refine J_iconst (pc := 53) (0 : Int32) dX3_carryOut_53 (by decide) ?_
  refine J_putI (pc := 54) dX3_carryOut_54 ho flX3_63 rfl h (fun σ13 h => ?_)
  refine J_aload_n (pc := 57) 0 dX3_carryOut_57 rfl ?_
  refine J_iconst (pc := 58) (0 : Int32) dX3_carryOut_58 (by decide) ?_
  refine J_putI (pc := 59) dX3_carryOut_59 ho flX3_66 rfl h (fun σ14 h => ?_)
  refine J_aload_n (pc := 62) 0 dX3_carryOut_62 rfl ?_
  refine J_iconst (pc := 63) (0 : Int32) dX3_carryOut_63 (by decide) ?_
  refine J_putZ (pc := 64) dX3_carryOut_64 ho flX3_69 rfl h (fun σ15 h => ?_)
  refine J_iconst (pc := 67) (0 : Int32) dX3_carryOut_67 (by decide) ?_
  refine J_istore (pc := 68) (L' := [(4, .int (0 : Int32)), (0, .ref (e_a E o 0)), (1, .ref (e_a E a1 0)), (2, .int a2), (3, .ref (e_a E a3 0))]) dX3_carryOut_68 (by decide) rfl ?_
  refine J_iconst (pc := 70) (0 : Int32) dX3_carryOut_70 (by decide) ?_
  refine J_istore (pc := 71) (L' := [(5, .int (0 : Int32)), (4, .int (0 : Int32)), (0, .ref (e_a E o 0)), (1, .ref (e_a E a1 0)), (2, .int a2), (3, .ref (e_a E a3 0))]) dX3_carryOut_71 (by decide) rfl ?_
  refine J_sub (L' := [(0, .ref (e_a E o 0)), (4, .int (0 : Int32)), (5, .int (0 : Int32))]) [2, 1, 0] rfl ?_
  exact tX3_carryOut_73 l E o a1 a2 a3 ho ha1 ha3 FU (0 : Int32) (0 : Int32) σ15 h
def fX10_rightSet_4 (o : Nat) : Nat → Int32 → Int32 → Mm → Option (Int32 × Mm)
  | 0, _, _, _ => none
  | n + 1, v1, v2, σ => r_rf σ o 0 2 (fun q1 => r_sc σ q1 1 (fun x2 => if x2 ≤ v2 then (some (v1, σ)) else (c_I (fX10_isRight o v2 σ) (fun x5 σ3 => c_I (fX11_with v1 v2 x5 σ3) (fun x8 σ6 => (fX10_rightSet_4 o n) x8 (v2 + (1 : Int32)) σ6)))))
set_option maxRecDepth 100000 in
set_option maxHeartbeats 4000000 in
theorem tX10_rightSet_4 (l : Launch) (E : EV) {xr : Int32} {τ : Mm} (o : Nat) (ho : KD o = 10) : ∀ (n : Nat) (v1 : Int32) (v2 : Int32) (σ : Mm), fX10_rightSet_4 o n v1 v2 σ = some (xr, τ) → Jd l E mX10_rightSet 1 (some (.int xr), τ) σ 4 [(0, .ref (e_a E o 0)), (1, .int v1), (2, .int v2)] [] := by
  intro n
  induction n with
  | zero => intro v1 v2 σ h; rw [fX10_rightSet_4] at h; cases h
  | succ n ih =>
    intro v1 v2 σ h
    rw [fX10_rightSet_4] at h
    refine J_iload_n (pc := 4) 2 dX10_rightSet_4 rfl ?_
    refine J_aload_n (pc := 5) 0 dX10_rightSet_5 rfl ?_
    refine J_getR (pc := 6) dX10_rightSet_6 ho flX10_18 rfl h (fun q1 hq1 h => ?_)
    refine J_getI (pc := 9) dX10_rightSet_9 hq1 flX10_58 rfl h (fun x2 h => ?_)
    refine J_icmp_ge (pc := 12) 32 dX10_rightSet_12 (by decide) h (fun h => ?_) (fun h => ?_)
    · refine J_iload_n (pc := 32) 1 dX10_rightSet_32 rfl ?_
      cases h
      exact J_iret (pc := 33) dX10_rightSet_33 rfl rfl
    · refine J_iload_n (pc := 15) 1 dX10_rightSet_15 rfl ?_
      refine J_iload_n (pc := 16) 2 dX10_rightSet_16 rfl ?_
      refine J_aload_n (pc := 17) 0 dX10_rightSet_17 rfl ?_
      refine J_iload_n (pc := 18) 2 dX10_rightSet_18 rfl ?_
      obtain ⟨x5, σ3, hc4, h⟩ := cI_t h
      refine J_cVi (pc := 19) (ctX10_isRight l E o v2 ho σ hc4) dX10_rightSet_19 mlX10_72 mvX10_isRight ho rfl (by decide) rfl (Nat.le_of_ble_eq_true rfl) ?_
      obtain ⟨x8, σ6, hc7, h⟩ := cI_t h
      refine J_cNi (pc := 22) (host := "VaneTown") (ctX11_with l E v1 v2 x5 σ3 hc7) dX10_rightSet_22 mnX10_76 msX11_with rfl (by decide) rfl (Nat.le_of_ble_eq_true rfl) ?_
      refine J_istore_n (pc := 25) (L' := [(1, .int x8), (0, .ref (e_a E o 0)), (2, .int v2)]) dX10_rightSet_25 (by decide) rfl ?_
      refine J_iinc (pc := 26) (L' := [(2, .int (v2 + (1 : Int32))), (1, .int x8), (0, .ref (e_a E o 0))]) 2 (v2 + (1 : Int32)) dX10_rightSet_26 rfl (by rfl) (by decide) rfl ?_
      refine J_goto (pc := 29) 4 dX10_rightSet_29 (by decide) ?_
      refine J_sub (L' := [(0, .ref (e_a E o 0)), (1, .int x8), (2, .int (v2 + (1 : Int32)))]) [2, 1, 0] rfl ?_
      exact ih x8 (v2 + (1 : Int32)) σ6 h
def fX10_rightSet (o : Nat) (σ : Mm) : Option (Int32 × Mm) := fX10_rightSet_4 o FU (0 : Int32) (0 : Int32) σ
set_option maxRecDepth 100000 in
set_option maxHeartbeats 4000000 in
theorem ctX10_rightSet (l : Launch) (E : EV) (o : Nat) (ho : KD o = 10) (σ : Mm) {xr : Int32} {τ : Mm} (h : fX10_rightSet o σ = some (xr, τ)) : Ct l E mX10_rightSet 1 [.ref (e_a E o 0)] σ (some (.int xr), τ) := by
  refine Ct.of (by decide +kernel) (Nat.le_of_ble_eq_true rfl) ?_
  show Jd l E mX10_rightSet 1 (some (.int xr), τ) σ 0 [(0, .ref (e_a E o 0))] []
  unfold fX10_rightSet at h
  refine J_iconst (pc := 0) (0 : Int32) dX10_rightSet_0 (by decide) ?_
  refine J_istore_n (pc := 1) (L' := [(1, .int (0 : Int32)), (0, .ref (e_a E o 0))]) dX10_rightSet_1 (by decide) rfl ?_
  refine J_iconst (pc := 2) (0 : Int32) dX10_rightSet_2 (by decide) ?_
  refine J_istore_n (pc := 3) (L' := [(2, .int (0 : Int32)), (1, .int (0 : Int32)), (0, .ref (e_a E o 0))]) dX10_rightSet_3 (by decide) rfl ?_
  refine J_sub (L' := [(0, .ref (e_a E o 0)), (1, .int (0 : Int32)), (2, .int (0 : Int32))]) [2, 1, 0] rfl ?_
  exact tX10_rightSet_4 l E o ho FU (0 : Int32) (0 : Int32) σ h
def fX3_report (o : Nat) (a1 : Nat) (σ : Mm) : Option (Mm) := p_bz σ o 9 (1 : Int32) (fun σ1 => r_sc σ1 o 6 (fun x2 => s_ar σ1 o 1 5 (0 : Int32) x2 (fun σ3 => r_sc σ3 a1 5 (fun x4 => s_ar σ3 o 1 5 (1 : Int32) x4 (fun σ5 => r_sc σ5 a1 6 (fun x6 => s_ar σ5 o 1 5 (2 : Int32) x6 (fun σ7 => c_I (fX10_rightSet a1 σ7) (fun x10 σ8 => s_ar σ8 o 1 5 (3 : Int32) x10 (fun σ11 => r_sc σ11 o 7 (fun x12 => if x12 = 0 then (s_ar σ11 o 1 5 (4 : Int32) (0 : Int32) (fun σ13 => r_rf σ13 o 1 2 (fun q14 => r_sc σ13 q14 1 (fun x15 => p_sc σ13 o 11 x15 (fun σ16 => a_ci σ16 (tg o 0) 2 8 (0 : Int32) o 2 8 (0 : Int32) (8 : Int32) (fun σ17 => some σ17)))))) else (s_ar σ11 o 1 5 (4 : Int32) (1 : Int32) (fun σ18 => r_rf σ18 o 1 2 (fun q19 => r_sc σ18 q19 1 (fun x20 => p_sc σ18 o 11 x20 (fun σ21 => a_ci σ21 (tg o 0) 2 8 (0 : Int32) o 2 8 (0 : Int32) (8 : Int32) (fun σ22 => some σ22))))))))))))))))
set_option maxRecDepth 100000 in
set_option maxHeartbeats 4000000 in
theorem ctX3_report (l : Launch) (E : EV) (o : Nat) (a1 : Nat) (ho : KD o = 3) (ha1 : KD a1 = 10) (σ : Mm) {τ : Mm} (h : fX3_report o a1 σ = some τ) : Ct l E mX3_report 2 [.ref (e_a E o 0), .ref (e_a E a1 0)] σ (none, τ) := by
  refine Ct.of (by decide +kernel) (Nat.le_of_ble_eq_true rfl) ?_
  show Jd l E mX3_report 2 (none, τ) σ 0 [(0, .ref (e_a E o 0)), (1, .ref (e_a E a1 0))] []
  unfold fX3_report at h
  refine J_aload_n (pc := 0) 0 dX3_report_0 rfl ?_
  refine J_iconst (pc := 1) (1 : Int32) dX3_report_1 (by decide) ?_
  refine J_putZ (pc := 2) dX3_report_2 ho flX3_93 rfl h (fun σ1 h => ?_)
  refine J_aload_n (pc := 5) 0 dX3_report_5 rfl ?_
  refine J_getA (pc := 6) dX3_report_6 ho flX3_24 rfl ?_
  refine J_iconst (pc := 9) (0 : Int32) dX3_report_9 (by decide) ?_
  refine J_aload_n (pc := 10) 0 dX3_report_10 rfl ?_
  refine J_getI (pc := 11) dX3_report_11 ho flX3_63 rfl h (fun x2 h => ?_)
  refine J_iast (pc := 14) dX3_report_14 ho ha3_1 h (fun σ3 h => ?_)
  refine J_aload_n (pc := 15) 0 dX3_report_15 rfl ?_
  refine J_getA (pc := 16) dX3_report_16 ho flX3_24 rfl ?_
  refine J_iconst (pc := 19) (1 : Int32) dX3_report_19 (by decide) ?_
  refine J_aload_n (pc := 20) 1 dX3_report_20 rfl ?_
  refine J_getI (pc := 21) dX3_report_21 ha1 flX3_96 rfl h (fun x4 h => ?_)
  refine J_iast (pc := 24) dX3_report_24 ho ha3_1 h (fun σ5 h => ?_)
  refine J_aload_n (pc := 25) 0 dX3_report_25 rfl ?_
  refine J_getA (pc := 26) dX3_report_26 ho flX3_24 rfl ?_
  refine J_iconst (pc := 29) (2 : Int32) dX3_report_29 (by decide) ?_
  refine J_aload_n (pc := 30) 1 dX3_report_30 rfl ?_
  refine J_getI (pc := 31) dX3_report_31 ha1 flX3_99 rfl h (fun x6 h => ?_)
  refine J_iast (pc := 34) dX3_report_34 ho ha3_1 h (fun σ7 h => ?_)
  refine J_aload_n (pc := 35) 0 dX3_report_35 rfl ?_
  refine J_getA (pc := 36) dX3_report_36 ho flX3_24 rfl ?_
  refine J_iconst (pc := 39) (3 : Int32) dX3_report_39 (by decide) ?_
  refine J_aload_n (pc := 40) 1 dX3_report_40 rfl ?_
  obtain ⟨x10, σ8, hc9, h⟩ := cI_t h
  refine J_cVi (pc := 41) (ctX10_rightSet l E a1 ha1 σ7 hc9) dX3_report_41 mlX3_102 mvX10_rightSet ha1 rfl (by decide) rfl (Nat.le_of_ble_eq_true rfl) ?_
  refine J_iast (pc := 44) dX3_report_44 ho ha3_1 h (fun σ11 h => ?_)
  refine J_aload_n (pc := 45) 0 dX3_report_45 rfl ?_
  refine J_getA (pc := 46) dX3_report_46 ho flX3_24 rfl ?_
  refine J_iconst (pc := 49) (4 : Int32) dX3_report_49 (by decide) ?_
  refine J_aload_n (pc := 50) 0 dX3_report_50 rfl ?_
  refine J_getI (pc := 51) dX3_report_51 ho flX3_69 rfl h (fun x12 h => ?_)
  refine J_if_eq (pc := 54) 61 dX3_report_54 (by decide) h (fun h => ?_) (fun h => ?_)
  · refine J_iconst (pc := 61) (0 : Int32) dX3_report_61 (by decide) ?_
    refine J_iast (pc := 62) dX3_report_62 ho ha3_1 h (fun σ13 h => ?_)
    refine J_aload_n (pc := 63) 0 dX3_report_63 rfl ?_
    refine J_aload_n (pc := 64) 0 dX3_report_64 rfl ?_
    refine J_getR (pc := 65) dX3_report_65 ho flX3_41 rfl h (fun q14 hq14 h => ?_)
    refine J_getI (pc := 68) dX3_report_68 hq14 flX3_106 rfl h (fun x15 h => ?_)
    refine J_putI (pc := 71) dX3_report_71 ho flX3_111 rfl h (fun σ16 h => ?_)
    refine J_aload_n (pc := 74) 0 dX3_report_74 rfl ?_
    refine J_getT (pc := 75) dX3_report_75 ho flX3_12 rfl ?_
    refine J_getA (pc := 78) dX3_report_78 (tk3_0 ho) flX3_114 rfl ?_
    refine J_iconst (pc := 81) (0 : Int32) dX3_report_81 (by decide) ?_
    refine J_aload_n (pc := 82) 0 dX3_report_82 rfl ?_
    refine J_getA (pc := 83) dX3_report_83 ho flX3_27 rfl ?_
    refine J_iconst (pc := 86) (0 : Int32) dX3_report_86 (by decide) ?_
    refine J_bipush (pc := 87) (8 : Int32) dX3_report_87 (by decide) ?_
    refine J_cpI (pc := 89) dX3_report_89 mcX3_117 (tk3_0 ho) ha4_2 ho ha3_2 (by decide) (Nat.le_of_ble_eq_true rfl) h (fun σ17 h => ?_)
    cases h
    exact J_vret (pc := 92) dX3_report_92 rfl
  · refine J_iconst (pc := 57) (1 : Int32) dX3_report_57 (by decide) ?_
    refine J_goto (pc := 58) 62 dX3_report_58 (by decide) ?_
    refine J_iast (pc := 62) dX3_report_62 ho ha3_1 h (fun σ18 h => ?_)
    refine J_aload_n (pc := 63) 0 dX3_report_63 rfl ?_
    refine J_aload_n (pc := 64) 0 dX3_report_64 rfl ?_
    refine J_getR (pc := 65) dX3_report_65 ho flX3_41 rfl h (fun q19 hq19 h => ?_)
    refine J_getI (pc := 68) dX3_report_68 hq19 flX3_106 rfl h (fun x20 h => ?_)
    refine J_putI (pc := 71) dX3_report_71 ho flX3_111 rfl h (fun σ21 h => ?_)
    refine J_aload_n (pc := 74) 0 dX3_report_74 rfl ?_
    refine J_getT (pc := 75) dX3_report_75 ho flX3_12 rfl ?_
    refine J_getA (pc := 78) dX3_report_78 (tk3_0 ho) flX3_114 rfl ?_
    refine J_iconst (pc := 81) (0 : Int32) dX3_report_81 (by decide) ?_
    refine J_aload_n (pc := 82) 0 dX3_report_82 rfl ?_
    refine J_getA (pc := 83) dX3_report_83 ho flX3_27 rfl ?_
    refine J_iconst (pc := 86) (0 : Int32) dX3_report_86 (by decide) ?_
    refine J_bipush (pc := 87) (8 : Int32) dX3_report_87 (by decide) ?_
    refine J_cpI (pc := 89) dX3_report_89 mcX3_117 (tk3_0 ho) ha4_2 ho ha3_2 (by decide) (Nat.le_of_ble_eq_true rfl) h (fun σ22 h => ?_)
    cases h
    exact J_vret (pc := 92) dX3_report_92 rfl
def fX4_blowEverywhere_2 (o : Nat) (a1 : Int32) (a2 : Int32) : Nat → Int32 → Mm → Option (Mm)
  | 0, _, _ => none
  | n + 1, v3, σ => if (4 : Int32) ≤ v3 then (some σ) else (s_ar σ o 0 4 v3 a1 (fun σ1 => s_ar σ1 o 1 4 v3 a2 (fun σ2 => (fX4_blowEverywhere_2 o a1 a2 n) (v3 + (1 : Int32)) σ2)))
set_option maxRecDepth 100000 in
set_option maxHeartbeats 4000000 in
theorem tX4_blowEverywhere_2 (l : Launch) (E : EV) {τ : Mm} (o : Nat) (a1 : Int32) (a2 : Int32) (ho : KD o = 4) : ∀ (n : Nat) (v3 : Int32) (σ : Mm), fX4_blowEverywhere_2 o a1 a2 n v3 σ = some τ → Jd l E mX4_blowEverywhere 0 (none, τ) σ 2 [(0, .ref (e_a E o 0)), (1, .int a1), (2, .int a2), (3, .int v3)] [] := by
  intro n
  induction n with
  | zero => intro v3 σ h; rw [fX4_blowEverywhere_2] at h; cases h
  | succ n ih =>
    intro v3 σ h
    rw [fX4_blowEverywhere_2] at h
    refine J_iload_n (pc := 2) 3 dX4_blowEverywhere_2 rfl ?_
    refine J_iconst (pc := 3) (4 : Int32) dX4_blowEverywhere_3 (by decide) ?_
    refine J_icmp_ge (pc := 4) 27 dX4_blowEverywhere_4 (by decide) h (fun h => ?_) (fun h => ?_)
    · cases h
      exact J_vret (pc := 27) dX4_blowEverywhere_27 rfl
    · refine J_aload_n (pc := 7) 0 dX4_blowEverywhere_7 rfl ?_
      refine J_getA (pc := 8) dX4_blowEverywhere_8 ho flX4_9 rfl ?_
      refine J_iload_n (pc := 11) 3 dX4_blowEverywhere_11 rfl ?_
      refine J_iload_n (pc := 12) 1 dX4_blowEverywhere_12 rfl ?_
      refine J_iast (pc := 13) dX4_blowEverywhere_13 ho ha4_0 h (fun σ1 h => ?_)
      refine J_aload_n (pc := 14) 0 dX4_blowEverywhere_14 rfl ?_
      refine J_getA (pc := 15) dX4_blowEverywhere_15 ho flX4_15 rfl ?_
      refine J_iload_n (pc := 18) 3 dX4_blowEverywhere_18 rfl ?_
      refine J_iload_n (pc := 19) 2 dX4_blowEverywhere_19 rfl ?_
      refine J_iast (pc := 20) dX4_blowEverywhere_20 ho ha4_1 h (fun σ2 h => ?_)
      refine J_iinc (pc := 21) (L' := [(3, .int (v3 + (1 : Int32))), (0, .ref (e_a E o 0)), (1, .int a1), (2, .int a2)]) 3 (v3 + (1 : Int32)) dX4_blowEverywhere_21 rfl (by rfl) (by decide) rfl ?_
      refine J_goto (pc := 24) 2 dX4_blowEverywhere_24 (by decide) ?_
      refine J_sub (L' := [(0, .ref (e_a E o 0)), (1, .int a1), (2, .int a2), (3, .int (v3 + (1 : Int32)))]) [1, 2, 3, 0] rfl ?_
      exact ih (v3 + (1 : Int32)) σ2 h
def fX4_blowEverywhere (o : Nat) (a1 : Int32) (a2 : Int32) (σ : Mm) : Option (Mm) := fX4_blowEverywhere_2 o a1 a2 FU (0 : Int32) σ
set_option maxRecDepth 100000 in
set_option maxHeartbeats 4000000 in
theorem ctX4_blowEverywhere (l : Launch) (E : EV) (o : Nat) (a1 : Int32) (a2 : Int32) (ho : KD o = 4) (σ : Mm) {τ : Mm} (h : fX4_blowEverywhere o a1 a2 σ = some τ) : Ct l E mX4_blowEverywhere 0 [.ref (e_a E o 0), .int a1, .int a2] σ (none, τ) := by
  refine Ct.of (by decide +kernel) (Nat.le_of_ble_eq_true rfl) ?_
  show Jd l E mX4_blowEverywhere 0 (none, τ) σ 0 [(0, .ref (e_a E o 0)), (1, .int a1), (2, .int a2)] []
  unfold fX4_blowEverywhere at h
  refine J_iconst (pc := 0) (0 : Int32) dX4_blowEverywhere_0 (by decide) ?_
  refine J_istore_n (pc := 1) (L' := [(3, .int (0 : Int32)), (0, .ref (e_a E o 0)), (1, .int a1), (2, .int a2)]) dX4_blowEverywhere_1 (by decide) rfl ?_
  refine J_sub (L' := [(0, .ref (e_a E o 0)), (1, .int a1), (2, .int a2), (3, .int (0 : Int32))]) [1, 2, 3, 0] rfl ?_
  exact tX4_blowEverywhere_2 l E o a1 a2 ho FU (0 : Int32) σ h
def fX4_begin_79 (o : Nat) (a1 : Nat) (σ : Mm) : Option (Mm) := p_sc σ o 6 (0 : Int32) (fun σ12 => p_sc σ12 o 7 (0 : Int32) (fun σ13 => p_sc σ13 o 8 (0 : Int32) (fun σ14 => some σ14)))
set_option maxRecDepth 100000 in
set_option maxHeartbeats 4000000 in
theorem tX4_begin_79 (l : Launch) (E : EV) {τ : Mm} (o : Nat) (a1 : Nat) (ho : KD o = 4) (ha1 : KD a1 = 2) (σ : Mm) (h : fX4_begin_79 o a1 σ = some τ) : Jd l E mX4_begin 1 (none, τ) σ 79 [(0, .ref (e_a E o 0))] [] := by
  unfold fX4_begin_79 at h
  refine J_aload_n (pc := 79) 0 dX4_begin_79 rfl ?_
  refine J_iconst (pc := 80) (0 : Int32) dX4_begin_80 (by decide) ?_
  refine J_putI (pc := 81) dX4_begin_81 ho flX4_43 rfl h (fun σ12 h => ?_)
  refine J_aload_n (pc := 84) 0 dX4_begin_84 rfl ?_
  refine J_iconst (pc := 85) (0 : Int32) dX4_begin_85 (by decide) ?_
  refine J_putI (pc := 86) dX4_begin_86 ho flX4_46 rfl h (fun σ13 h => ?_)
  refine J_aload_n (pc := 89) 0 dX4_begin_89 rfl ?_
  refine J_iconst (pc := 90) (0 : Int32) dX4_begin_90 (by decide) ?_
  refine J_putI (pc := 91) dX4_begin_91 ho flX4_49 rfl h (fun σ14 h => ?_)
  cases h
  exact J_vret (pc := 94) dX4_begin_94 rfl
def fX4_begin_60 (o : Nat) (a1 : Nat) : Nat → Int32 → Mm → Option (Mm)
  | 0, _, _ => none
  | n + 1, v2, σ => if (10 : Int32) ≤ v2 then (fX4_begin_79 o a1 σ) else (s_ar σ o 5 10 v2 (0 : Int32) (fun σ11 => (fX4_begin_60 o a1 n) (v2 + (1 : Int32)) σ11))
set_option maxRecDepth 100000 in
set_option maxHeartbeats 4000000 in
theorem tX4_begin_60 (l : Launch) (E : EV) {τ : Mm} (o : Nat) (a1 : Nat) (ho : KD o = 4) (ha1 : KD a1 = 2) : ∀ (n : Nat) (v2 : Int32) (σ : Mm), fX4_begin_60 o a1 n v2 σ = some τ → Jd l E mX4_begin 1 (none, τ) σ 60 [(0, .ref (e_a E o 0)), (2, .int v2)] [] := by
  intro n
  induction n with
  | zero => intro v2 σ h; rw [fX4_begin_60] at h; cases h
  | succ n ih =>
    intro v2 σ h
    rw [fX4_begin_60] at h
    refine J_iload_n (pc := 60) 1 dX4_begin_60 rfl ?_
    refine J_bipush (pc := 61) (10 : Int32) dX4_begin_61 (by decide) ?_
    refine J_icmp_ge (pc := 63) 79 dX4_begin_63 (by decide) h (fun h => ?_) (fun h => ?_)
    · refine J_sub (L' := [(0, .ref (e_a E o 0))]) [0] rfl ?_
      exact tX4_begin_79 l E o a1 ho ha1 σ h
    · refine J_aload_n (pc := 66) 0 dX4_begin_66 rfl ?_
      refine J_getA (pc := 67) dX4_begin_67 ho flX4_27 rfl ?_
      refine J_iload_n (pc := 70) 1 dX4_begin_70 rfl ?_
      refine J_iconst (pc := 71) (0 : Int32) dX4_begin_71 (by decide) ?_
      refine J_iast (pc := 72) dX4_begin_72 ho ha4_5 h (fun σ11 h => ?_)
      refine J_iinc (pc := 73) (L' := [(2, .int (v2 + (1 : Int32))), (0, .ref (e_a E o 0))]) 1 (v2 + (1 : Int32)) dX4_begin_73 rfl (by rfl) (by decide) rfl ?_
      refine J_goto (pc := 76) 60 dX4_begin_76 (by decide) ?_
      refine J_sub (L' := [(0, .ref (e_a E o 0)), (2, .int (v2 + (1 : Int32)))]) [1, 0] rfl ?_
      exact ih (v2 + (1 : Int32)) σ11 h
def fX4_begin_8 (o : Nat) (a1 : Nat) : Nat → Int32 → Mm → Option (Mm)
  | 0, _, _ => none
  | n + 1, v2, σ => if (8 : Int32) ≤ v2 then (fX4_begin_60 o a1 FU (0 : Int32) σ) else (r_sc σ a1 1 (fun x3 => if x3 ≤ v2 then (s_ar σ o 2 8 v2 (0 : Int32) (fun σ4 => s_ar σ4 o 3 8 v2 (0 : Int32) (fun σ5 => s_ar σ5 o 4 8 v2 (0 : Int32) (fun σ6 => (fX4_begin_8 o a1 n) (v2 + (1 : Int32)) σ6)))) else (g_ar σ a1 6 8 v2 (fun x7 => s_ar σ o 2 8 v2 x7 (fun σ8 => s_ar σ8 o 3 8 v2 (0 : Int32) (fun σ9 => s_ar σ9 o 4 8 v2 (0 : Int32) (fun σ10 => (fX4_begin_8 o a1 n) (v2 + (1 : Int32)) σ10)))))))
set_option maxRecDepth 100000 in
set_option maxHeartbeats 4000000 in
theorem tX4_begin_8 (l : Launch) (E : EV) {τ : Mm} (o : Nat) (a1 : Nat) (ho : KD o = 4) (ha1 : KD a1 = 2) : ∀ (n : Nat) (v2 : Int32) (σ : Mm), fX4_begin_8 o a1 n v2 σ = some τ → Jd l E mX4_begin 1 (none, τ) σ 8 [(0, .ref (e_a E o 0)), (1, .ref (e_a E a1 0)), (2, .int v2)] [] := by
  intro n
  induction n with
  | zero => intro v2 σ h; rw [fX4_begin_8] at h; cases h
  | succ n ih =>
    intro v2 σ h
    rw [fX4_begin_8] at h
    refine J_iload_n (pc := 8) 2 dX4_begin_8 rfl ?_
    refine J_bipush (pc := 9) (8 : Int32) dX4_begin_9 (by decide) ?_
    refine J_icmp_ge (pc := 11) 58 dX4_begin_11 (by decide) h (fun h => ?_) (fun h => ?_)
    · refine J_iconst (pc := 58) (0 : Int32) dX4_begin_58 (by decide) ?_
      refine J_istore_n (pc := 59) (L' := [(2, .int (0 : Int32)), (0, .ref (e_a E o 0)), (1, .ref (e_a E a1 0))]) dX4_begin_59 (by decide) rfl ?_
      refine J_sub (L' := [(0, .ref (e_a E o 0)), (2, .int (0 : Int32))]) [1, 0] rfl ?_
      exact tX4_begin_60 l E o a1 ho ha1 FU (0 : Int32) σ h
    · refine J_aload_n (pc := 14) 0 dX4_begin_14 rfl ?_
      refine J_getA (pc := 15) dX4_begin_15 ho flX4_18 rfl ?_
      refine J_iload_n (pc := 18) 2 dX4_begin_18 rfl ?_
      refine J_iload_n (pc := 19) 2 dX4_begin_19 rfl ?_
      refine J_aload_n (pc := 20) 1 dX4_begin_20 rfl ?_
      refine J_getI (pc := 21) dX4_begin_21 ha1 flX4_34 rfl h (fun x3 h => ?_)
      refine J_icmp_ge (pc := 24) 36 dX4_begin_24 (by decide) h (fun h => ?_) (fun h => ?_)
      · refine J_iconst (pc := 36) (0 : Int32) dX4_begin_36 (by decide) ?_
        refine J_iast (pc := 37) dX4_begin_37 ho ha4_2 h (fun σ4 h => ?_)
        refine J_aload_n (pc := 38) 0 dX4_begin_38 rfl ?_
        refine J_getA (pc := 39) dX4_begin_39 ho flX4_21 rfl ?_
        refine J_iload_n (pc := 42) 2 dX4_begin_42 rfl ?_
        refine J_iconst (pc := 43) (0 : Int32) dX4_begin_43 (by decide) ?_
        refine J_iast (pc := 44) dX4_begin_44 ho ha4_3 h (fun σ5 h => ?_)
        refine J_aload_n (pc := 45) 0 dX4_begin_45 rfl ?_
        refine J_getA (pc := 46) dX4_begin_46 ho flX4_24 rfl ?_
        refine J_iload_n (pc := 49) 2 dX4_begin_49 rfl ?_
        refine J_iconst (pc := 50) (0 : Int32) dX4_begin_50 (by decide) ?_
        refine J_iast (pc := 51) dX4_begin_51 ho ha4_4 h (fun σ6 h => ?_)
        refine J_iinc (pc := 52) (L' := [(2, .int (v2 + (1 : Int32))), (0, .ref (e_a E o 0)), (1, .ref (e_a E a1 0))]) 2 (v2 + (1 : Int32)) dX4_begin_52 rfl (by rfl) (by decide) rfl ?_
        refine J_goto (pc := 55) 8 dX4_begin_55 (by decide) ?_
        refine J_sub (L' := [(0, .ref (e_a E o 0)), (1, .ref (e_a E a1 0)), (2, .int (v2 + (1 : Int32)))]) [1, 2, 0] rfl ?_
        exact ih (v2 + (1 : Int32)) σ6 h
      · refine J_aload_n (pc := 27) 1 dX4_begin_27 rfl ?_
        refine J_getA (pc := 28) dX4_begin_28 ha1 flX4_40 rfl ?_
        refine J_iload_n (pc := 31) 2 dX4_begin_31 rfl ?_
        refine J_iald (pc := 32) dX4_begin_32 ha1 ha2_6 h (fun x7 h => ?_)
        refine J_goto (pc := 33) 37 dX4_begin_33 (by decide) ?_
        refine J_iast (pc := 37) dX4_begin_37 ho ha4_2 h (fun σ8 h => ?_)
        refine J_aload_n (pc := 38) 0 dX4_begin_38 rfl ?_
        refine J_getA (pc := 39) dX4_begin_39 ho flX4_21 rfl ?_
        refine J_iload_n (pc := 42) 2 dX4_begin_42 rfl ?_
        refine J_iconst (pc := 43) (0 : Int32) dX4_begin_43 (by decide) ?_
        refine J_iast (pc := 44) dX4_begin_44 ho ha4_3 h (fun σ9 h => ?_)
        refine J_aload_n (pc := 45) 0 dX4_begin_45 rfl ?_
        refine J_getA (pc := 46) dX4_begin_46 ho flX4_24 rfl ?_
        refine J_iload_n (pc := 49) 2 dX4_begin_49 rfl ?_
        refine J_iconst (pc := 50) (0 : Int32) dX4_begin_50 (by decide) ?_
        refine J_iast (pc := 51) dX4_begin_51 ho ha4_4 h (fun σ10 h => ?_)
        refine J_iinc (pc := 52) (L' := [(2, .int (v2 + (1 : Int32))), (0, .ref (e_a E o 0)), (1, .ref (e_a E a1 0))]) 2 (v2 + (1 : Int32)) dX4_begin_52 rfl (by rfl) (by decide) rfl ?_
        refine J_goto (pc := 55) 8 dX4_begin_55 (by decide) ?_
        refine J_sub (L' := [(0, .ref (e_a E o 0)), (1, .ref (e_a E a1 0)), (2, .int (v2 + (1 : Int32)))]) [1, 2, 0] rfl ?_
        exact ih (v2 + (1 : Int32)) σ10 h
def fX4_begin (o : Nat) (a1 : Nat) (σ : Mm) : Option (Mm) := c_V (fX4_blowEverywhere o (0 : Int32) (0 : Int32) σ) (fun σ1 => fX4_begin_8 o a1 FU (0 : Int32) σ1)
set_option maxRecDepth 100000 in
set_option maxHeartbeats 4000000 in
theorem ctX4_begin (l : Launch) (E : EV) (o : Nat) (a1 : Nat) (ho : KD o = 4) (ha1 : KD a1 = 2) (σ : Mm) {τ : Mm} (h : fX4_begin o a1 σ = some τ) : Ct l E mX4_begin 1 [.ref (e_a E o 0), .ref (e_a E a1 0)] σ (none, τ) := by
  refine Ct.of (by decide +kernel) (Nat.le_of_ble_eq_true rfl) ?_
  show Jd l E mX4_begin 1 (none, τ) σ 0 [(0, .ref (e_a E o 0)), (1, .ref (e_a E a1 0))] []
  unfold fX4_begin at h
  refine J_aload_n (pc := 0) 0 dX4_begin_0 rfl ?_
  refine J_iconst (pc := 1) (0 : Int32) dX4_begin_1 (by decide) ?_
  refine J_iconst (pc := 2) (0 : Int32) dX4_begin_2 (by decide) ?_
  obtain ⟨σ1, hc2, h⟩ := cV_t h
  refine J_cVv (pc := 3) (ctX4_blowEverywhere l E o (0 : Int32) (0 : Int32) ho σ hc2) dX4_begin_3 mlX4_30 mvX4_blowEverywhere ho rfl (by decide) rfl (Nat.le_of_ble_eq_true rfl) ?_
  refine J_iconst (pc := 6) (0 : Int32) dX4_begin_6 (by decide) ?_
  refine J_istore_n (pc := 7) (L' := [(2, .int (0 : Int32)), (0, .ref (e_a E o 0)), (1, .ref (e_a E a1 0))]) dX4_begin_7 (by decide) rfl ?_
  refine J_sub (L' := [(0, .ref (e_a E o 0)), (1, .ref (e_a E a1 0)), (2, .int (0 : Int32))]) [1, 2, 0] rfl ?_
  exact tX4_begin_8 l E o a1 ho ha1 FU (0 : Int32) σ1 h
def fX5_copyFrom (o : Nat) (a1 : Nat) (σ : Mm) : Option (Mm) := r_sc σ a1 0 (fun x1 => p_bz σ o 0 x1 (fun σ2 => r_sc σ2 a1 1 (fun x3 => p_sc σ2 o 1 x3 (fun σ4 => r_sc σ4 a1 2 (fun x5 => p_sc σ4 o 2 x5 (fun σ6 => a_ci σ6 a1 0 60 (0 : Int32) o 0 60 (0 : Int32) (60 : Int32) (fun σ7 => a_ci σ7 a1 1 60 (0 : Int32) o 1 60 (0 : Int32) (60 : Int32) (fun σ8 => a_ci σ8 a1 2 60 (0 : Int32) o 2 60 (0 : Int32) (60 : Int32) (fun σ9 => a_ci σ9 a1 3 60 (0 : Int32) o 3 60 (0 : Int32) (60 : Int32) (fun σ10 => a_ci σ10 a1 4 60 (0 : Int32) o 4 60 (0 : Int32) (60 : Int32) (fun σ11 => some σ11)))))))))))
set_option maxRecDepth 100000 in
set_option maxHeartbeats 4000000 in
theorem ctX5_copyFrom (l : Launch) (E : EV) (o : Nat) (a1 : Nat) (ho : KD o = 5) (ha1 : KD a1 = 5) (σ : Mm) {τ : Mm} (h : fX5_copyFrom o a1 σ = some τ) : Ct l E mX5_copyFrom 1 [.ref (e_a E o 0), .ref (e_a E a1 0)] σ (none, τ) := by
  refine Ct.of (by decide +kernel) (Nat.le_of_ble_eq_true rfl) ?_
  show Jd l E mX5_copyFrom 1 (none, τ) σ 0 [(0, .ref (e_a E o 0)), (1, .ref (e_a E a1 0))] []
  unfold fX5_copyFrom at h
  refine J_aload_n (pc := 0) 0 dX5_copyFrom_0 rfl ?_
  refine J_aload_n (pc := 1) 1 dX5_copyFrom_1 rfl ?_
  refine J_getI (pc := 2) dX5_copyFrom_2 ha1 flX5_25 rfl h (fun x1 h => ?_)
  refine J_putZ (pc := 5) dX5_copyFrom_5 ho flX5_25 rfl h (fun σ2 h => ?_)
  refine J_aload_n (pc := 8) 0 dX5_copyFrom_8 rfl ?_
  refine J_aload_n (pc := 9) 1 dX5_copyFrom_9 rfl ?_
  refine J_getI (pc := 10) dX5_copyFrom_10 ha1 flX5_29 rfl h (fun x3 h => ?_)
  refine J_putI (pc := 13) dX5_copyFrom_13 ho flX5_29 rfl h (fun σ4 h => ?_)
  refine J_aload_n (pc := 16) 0 dX5_copyFrom_16 rfl ?_
  refine J_aload_n (pc := 17) 1 dX5_copyFrom_17 rfl ?_
  refine J_getI (pc := 18) dX5_copyFrom_18 ha1 flX5_33 rfl h (fun x5 h => ?_)
  refine J_putI (pc := 21) dX5_copyFrom_21 ho flX5_33 rfl h (fun σ6 h => ?_)
  refine J_aload_n (pc := 24) 1 dX5_copyFrom_24 rfl ?_
  refine J_getA (pc := 25) dX5_copyFrom_25 ha1 flX5_9 rfl ?_
  refine J_iconst (pc := 28) (0 : Int32) dX5_copyFrom_28 (by decide) ?_
  refine J_aload_n (pc := 29) 0 dX5_copyFrom_29 rfl ?_
  refine J_getA (pc := 30) dX5_copyFrom_30 ho flX5_9 rfl ?_
  refine J_iconst (pc := 33) (0 : Int32) dX5_copyFrom_33 (by decide) ?_
  refine J_bipush (pc := 34) (60 : Int32) dX5_copyFrom_34 (by decide) ?_
  refine J_cpI (pc := 36) dX5_copyFrom_36 mcX5_36 ha1 ha5_0 ho ha5_0 (by decide) (Nat.le_of_ble_eq_true rfl) h (fun σ7 h => ?_)
  refine J_aload_n (pc := 39) 1 dX5_copyFrom_39 rfl ?_
  refine J_getA (pc := 40) dX5_copyFrom_40 ha1 flX5_13 rfl ?_
  refine J_iconst (pc := 43) (0 : Int32) dX5_copyFrom_43 (by decide) ?_
  refine J_aload_n (pc := 44) 0 dX5_copyFrom_44 rfl ?_
  refine J_getA (pc := 45) dX5_copyFrom_45 ho flX5_13 rfl ?_
  refine J_iconst (pc := 48) (0 : Int32) dX5_copyFrom_48 (by decide) ?_
  refine J_bipush (pc := 49) (60 : Int32) dX5_copyFrom_49 (by decide) ?_
  refine J_cpI (pc := 51) dX5_copyFrom_51 mcX5_36 ha1 ha5_1 ho ha5_1 (by decide) (Nat.le_of_ble_eq_true rfl) h (fun σ8 h => ?_)
  refine J_aload_n (pc := 54) 1 dX5_copyFrom_54 rfl ?_
  refine J_getA (pc := 55) dX5_copyFrom_55 ha1 flX5_16 rfl ?_
  refine J_iconst (pc := 58) (0 : Int32) dX5_copyFrom_58 (by decide) ?_
  refine J_aload_n (pc := 59) 0 dX5_copyFrom_59 rfl ?_
  refine J_getA (pc := 60) dX5_copyFrom_60 ho flX5_16 rfl ?_
  refine J_iconst (pc := 63) (0 : Int32) dX5_copyFrom_63 (by decide) ?_
  refine J_bipush (pc := 64) (60 : Int32) dX5_copyFrom_64 (by decide) ?_
  refine J_cpI (pc := 66) dX5_copyFrom_66 mcX5_36 ha1 ha5_2 ho ha5_2 (by decide) (Nat.le_of_ble_eq_true rfl) h (fun σ9 h => ?_)
  refine J_aload_n (pc := 69) 1 dX5_copyFrom_69 rfl ?_
  refine J_getA (pc := 70) dX5_copyFrom_70 ha1 flX5_19 rfl ?_
  refine J_iconst (pc := 73) (0 : Int32) dX5_copyFrom_73 (by decide) ?_
  refine J_aload_n (pc := 74) 0 dX5_copyFrom_74 rfl ?_
  refine J_getA (pc := 75) dX5_copyFrom_75 ho flX5_19 rfl ?_
  refine J_iconst (pc := 78) (0 : Int32) dX5_copyFrom_78 (by decide) ?_
  refine J_bipush (pc := 79) (60 : Int32) dX5_copyFrom_79 (by decide) ?_
  refine J_cpI (pc := 81) dX5_copyFrom_81 mcX5_36 ha1 ha5_3 ho ha5_3 (by decide) (Nat.le_of_ble_eq_true rfl) h (fun σ10 h => ?_)
  refine J_aload_n (pc := 84) 1 dX5_copyFrom_84 rfl ?_
  refine J_getA (pc := 85) dX5_copyFrom_85 ha1 flX5_22 rfl ?_
  refine J_iconst (pc := 88) (0 : Int32) dX5_copyFrom_88 (by decide) ?_
  refine J_aload_n (pc := 89) 0 dX5_copyFrom_89 rfl ?_
  refine J_getA (pc := 90) dX5_copyFrom_90 ho flX5_22 rfl ?_
  refine J_iconst (pc := 93) (0 : Int32) dX5_copyFrom_93 (by decide) ?_
  refine J_bipush (pc := 94) (60 : Int32) dX5_copyFrom_94 (by decide) ?_
  refine J_cpI (pc := 96) dX5_copyFrom_96 mcX5_36 ha1 ha5_4 ho ha5_4 (by decide) (Nat.le_of_ble_eq_true rfl) h (fun σ11 h => ?_)
  cases h
  exact J_vret (pc := 99) dX5_copyFrom_99 rfl
def fX6_hasRoomFor (o : Nat) (a1 : Int32) (σ : Mm) : Option (Int32 × Mm) := r_sc σ o 1 (fun x1 => if (900 : Int32) < (x1 + a1) then (some ((0 : Int32), σ)) else (some ((1 : Int32), σ)))
set_option maxRecDepth 100000 in
set_option maxHeartbeats 4000000 in
theorem ctX6_hasRoomFor (l : Launch) (E : EV) (o : Nat) (a1 : Int32) (ho : KD o = 6) (σ : Mm) {xr : Int32} {τ : Mm} (h : fX6_hasRoomFor o a1 σ = some (xr, τ)) : Ct l E mX6_hasRoomFor 0 [.ref (e_a E o 0), .int a1] σ (some (.int xr), τ) := by
  refine Ct.of (by decide +kernel) (Nat.le_of_ble_eq_true rfl) ?_
  show Jd l E mX6_hasRoomFor 0 (some (.int xr), τ) σ 0 [(0, .ref (e_a E o 0)), (1, .int a1)] []
  unfold fX6_hasRoomFor at h
  refine J_aload_n (pc := 0) 0 dX6_hasRoomFor_0 rfl ?_
  refine J_getI (pc := 1) dX6_hasRoomFor_1 ho flX6_15 rfl h (fun x1 h => ?_)
  refine J_iload_n (pc := 4) 1 dX6_hasRoomFor_4 rfl ?_
  refine J_iadd (pc := 5) dX6_hasRoomFor_5 ?_
  refine J_sipush (pc := 6) (900 : Int32) dX6_hasRoomFor_6 (by decide) ?_
  refine J_icmp_gt (pc := 9) 16 dX6_hasRoomFor_9 (by decide) h (fun h => ?_) (fun h => ?_)
  · refine J_iconst (pc := 16) (0 : Int32) dX6_hasRoomFor_16 (by decide) ?_
    cases h
    exact J_iret (pc := 17) dX6_hasRoomFor_17 rfl rfl
  · refine J_iconst (pc := 12) (1 : Int32) dX6_hasRoomFor_12 (by decide) ?_
    refine J_goto (pc := 13) 17 dX6_hasRoomFor_13 (by decide) ?_
    cases h
    exact J_iret (pc := 17) dX6_hasRoomFor_17 rfl rfl
def fX6_append_3 (o : Nat) (a1 : Int32) : Nat → Int32 → Mm → Option (Mm)
  | 0, _, _ => none
  | n + 1, v2, σ => if v2 < 0 then (some σ) else (r_sc σ o 1 (fun x1 => if (900 : Int32) ≤ x1 then (some σ) else (r_sc σ o 1 (fun x2 => s_ar σ o 0 900 x2 (a1 >>> (v2 &&& 31)).toInt8.toInt32.toInt8.toInt32 (fun σ3 => r_sc σ3 o 1 (fun x4 => p_sc σ3 o 1 (x4 + (1 : Int32)) (fun σ5 => (fX6_append_3 o a1 n) (v2 + (-8 : Int32)) σ5)))))))
set_option maxRecDepth 100000 in
set_option maxHeartbeats 4000000 in
theorem tX6_append_3 (l : Launch) (E : EV) {τ : Mm} (o : Nat) (a1 : Int32) (ho : KD o = 6) : ∀ (n : Nat) (v2 : Int32) (σ : Mm), fX6_append_3 o a1 n v2 σ = some τ → Jd l E mX6_append 0 (none, τ) σ 3 [(0, .ref (e_a E o 0)), (1, .int a1), (2, .int v2)] [] := by
  intro n
  induction n with
  | zero => intro v2 σ h; rw [fX6_append_3] at h; cases h
  | succ n ih =>
    intro v2 σ h
    rw [fX6_append_3] at h
    refine J_iload_n (pc := 3) 2 dX6_append_3 rfl ?_
    refine J_if_lt (pc := 4) 46 dX6_append_4 (by decide) h (fun h => ?_) (fun h => ?_)
    · cases h
      exact J_vret (pc := 46) dX6_append_46 rfl
    · refine J_aload_n (pc := 7) 0 dX6_append_7 rfl ?_
      refine J_getI (pc := 8) dX6_append_8 ho flX6_15 rfl h (fun x1 h => ?_)
      refine J_sipush (pc := 11) (900 : Int32) dX6_append_11 (by decide) ?_
      refine J_icmp_ge (pc := 14) 46 dX6_append_14 (by decide) h (fun h => ?_) (fun h => ?_)
      · cases h
        exact J_vret (pc := 46) dX6_append_46 rfl
      · refine J_aload_n (pc := 17) 0 dX6_append_17 rfl ?_
        refine J_getA (pc := 18) dX6_append_18 ho flX6_11 rfl ?_
        refine J_aload_n (pc := 21) 0 dX6_append_21 rfl ?_
        refine J_getI (pc := 22) dX6_append_22 ho flX6_15 rfl h (fun x2 h => ?_)
        refine J_iload_n (pc := 25) 1 dX6_append_25 rfl ?_
        refine J_iload_n (pc := 26) 2 dX6_append_26 rfl ?_
        refine J_ishr (pc := 27) dX6_append_27 ?_
        refine J_i2b (pc := 28) dX6_append_28 ?_
        refine J_bast (pc := 29) dX6_append_29 ho ha6_0 h (fun σ3 h => ?_)
        refine J_aload_n (pc := 30) 0 dX6_append_30 rfl ?_
        refine J_dup (pc := 31) dX6_append_31 rfl ?_
        refine J_getI (pc := 32) dX6_append_32 ho flX6_15 rfl h (fun x4 h => ?_)
        refine J_iconst (pc := 35) (1 : Int32) dX6_append_35 (by decide) ?_
        refine J_iadd (pc := 36) dX6_append_36 ?_
        refine J_putI (pc := 37) dX6_append_37 ho flX6_15 rfl h (fun σ5 h => ?_)
        refine J_iinc (pc := 40) (L' := [(2, .int (v2 + (-8 : Int32))), (0, .ref (e_a E o 0)), (1, .int a1)]) 2 (v2 + (-8 : Int32)) dX6_append_40 rfl (by rfl) (by decide) rfl ?_
        refine J_goto (pc := 43) 3 dX6_append_43 (by decide) ?_
        refine J_sub (L' := [(0, .ref (e_a E o 0)), (1, .int a1), (2, .int (v2 + (-8 : Int32)))]) [1, 2, 0] rfl ?_
        exact ih (v2 + (-8 : Int32)) σ5 h
def fX6_append (o : Nat) (a1 : Int32) (σ : Mm) : Option (Mm) := fX6_append_3 o a1 FU (24 : Int32) σ
set_option maxRecDepth 100000 in
set_option maxHeartbeats 4000000 in
theorem ctX6_append (l : Launch) (E : EV) (o : Nat) (a1 : Int32) (ho : KD o = 6) (σ : Mm) {τ : Mm} (h : fX6_append o a1 σ = some τ) : Ct l E mX6_append 0 [.ref (e_a E o 0), .int a1] σ (none, τ) := by
  refine Ct.of (by decide +kernel) (Nat.le_of_ble_eq_true rfl) ?_
  show Jd l E mX6_append 0 (none, τ) σ 0 [(0, .ref (e_a E o 0)), (1, .int a1)] []
  unfold fX6_append at h
  refine J_bipush (pc := 0) (24 : Int32) dX6_append_0 (by decide) ?_
  refine J_istore_n (pc := 2) (L' := [(2, .int (24 : Int32)), (0, .ref (e_a E o 0)), (1, .int a1)]) dX6_append_2 (by decide) rfl ?_
  refine J_sub (L' := [(0, .ref (e_a E o 0)), (1, .int a1), (2, .int (24 : Int32))]) [1, 2, 0] rfl ?_
  exact tX6_append_3 l E o a1 ho FU (24 : Int32) σ h
def fX6_open (o : Nat) (a1 : Int32) (σ : Mm) : Option (Mm) := p_sc σ o 2 (if (900 : Int32) < a1 then (900 : Int32) else a1) (fun σ1 => p_sc σ1 o 4 (0 : Int32) (fun σ2 => p_sc σ2 o 11 (0 : Int32) (fun σ3 => p_sc σ3 o 12 (-1 : Int32) (fun σ4 => c_V (fX6_advance o σ4) (fun σ5 => some σ5)))))
set_option maxRecDepth 100000 in
set_option maxHeartbeats 4000000 in
theorem ctX6_open (l : Launch) (E : EV) (o : Nat) (a1 : Int32) (ho : KD o = 6) (σ : Mm) {τ : Mm} (h : fX6_open o a1 σ = some τ) : Ct l E mX6_open 2 [.ref (e_a E o 0), .int a1] σ (none, τ) := by
  refine Ct.of (by decide +kernel) (Nat.le_of_ble_eq_true rfl) ?_
  show Jd l E mX6_open 2 (none, τ) σ 0 [(0, .ref (e_a E o 0)), (1, .int a1)] []
  unfold fX6_open at h
  refine J_aload_n (pc := 0) 0 dX6_open_0 rfl ?_
  refine J_iload_n (pc := 1) 1 dX6_open_1 rfl ?_
  refine J_sipush (pc := 2) (900 : Int32) dX6_open_2 (by decide) ?_
  refine J_mmin (pc := 5) dX6_open_5 mmX6_19 (by decide) (Nat.le_of_ble_eq_true rfl) ?_
  refine J_putI (pc := 8) dX6_open_8 ho flX6_25 rfl h (fun σ1 h => ?_)
  refine J_aload_n (pc := 11) 0 dX6_open_11 rfl ?_
  refine J_iconst (pc := 12) (0 : Int32) dX6_open_12 (by decide) ?_
  refine J_putI (pc := 13) dX6_open_13 ho flX6_28 rfl h (fun σ2 h => ?_)
  refine J_aload_n (pc := 16) 0 dX6_open_16 rfl ?_
  refine J_iconst (pc := 17) (0 : Int32) dX6_open_17 (by decide) ?_
  refine J_putI (pc := 18) dX6_open_18 ho flX6_31 rfl h (fun σ3 h => ?_)
  refine J_aload_n (pc := 21) 0 dX6_open_21 rfl ?_
  refine J_iconst (pc := 22) (-1 : Int32) dX6_open_22 (by decide) ?_
  refine J_putI (pc := 23) dX6_open_23 ho flX6_34 rfl h (fun σ4 h => ?_)
  refine J_aload_n (pc := 26) 0 dX6_open_26 rfl ?_
  obtain ⟨σ5, hc6, h⟩ := cV_t h
  refine J_cVv (pc := 27) (ctX6_advance l E o ho σ4 hc6) dX6_open_27 mlX6_37 mvX6_advance ho rfl (by decide) rfl (Nat.le_of_ble_eq_true rfl) ?_
  cases h
  exact J_vret (pc := 30) dX6_open_30 rfl
def fX6_takeOption (o : Nat) (a1 : Int32) (a2 : Int32) (σ : Mm) : Option (Int32 × Mm) := p_sc σ o 10 (0 : Int32) (fun σ1 => r_sc σ1 o 6 (fun x2 => if x2 = a1 then (c_V (fX6_advance o σ1) (fun σ3 => c_I (fX6_takeNumber o (0 : Int32) a2 σ3) (fun x7 σ5 => b_z x7 σ5))) else (some ((1 : Int32), σ1))))
set_option maxRecDepth 100000 in
set_option maxHeartbeats 4000000 in
theorem ctX6_takeOption (l : Launch) (E : EV) (o : Nat) (a1 : Int32) (a2 : Int32) (ho : KD o = 6) (σ : Mm) {xr : Int32} {τ : Mm} (h : fX6_takeOption o a1 a2 σ = some (xr, τ)) : Ct l E mX6_takeOption 3 [.ref (e_a E o 0), .int a1, .int a2] σ (some (.int xr), τ) := by
  refine Ct.of (by decide +kernel) (Nat.le_of_ble_eq_true rfl) ?_
  show Jd l E mX6_takeOption 3 (some (.int xr), τ) σ 0 [(0, .ref (e_a E o 0)), (1, .int a1), (2, .int a2)] []
  unfold fX6_takeOption at h
  refine J_aload_n (pc := 0) 0 dX6_takeOption_0 rfl ?_
  refine J_iconst (pc := 1) (0 : Int32) dX6_takeOption_1 (by decide) ?_
  refine J_putI (pc := 2) dX6_takeOption_2 ho flX6_80 rfl h (fun σ1 h => ?_)
  refine J_aload_n (pc := 5) 0 dX6_takeOption_5 rfl ?_
  refine J_getI (pc := 6) dX6_takeOption_6 ho flX6_43 rfl h (fun x2 h => ?_)
  refine J_iload_n (pc := 9) 1 dX6_takeOption_9 rfl ?_
  refine J_icmp_eq (pc := 10) 15 dX6_takeOption_10 (by decide) h (fun h => ?_) (fun h => ?_)
  · refine J_aload_n (pc := 15) 0 dX6_takeOption_15 rfl ?_
    obtain ⟨σ3, hc4, h⟩ := cV_t h
    refine J_cVv (pc := 16) (ctX6_advance l E o ho σ1 hc4) dX6_takeOption_16 mlX6_37 mvX6_advance ho rfl (by decide) rfl (Nat.le_of_ble_eq_true rfl) ?_
    refine J_aload_n (pc := 19) 0 dX6_takeOption_19 rfl ?_
    refine J_iconst (pc := 20) (0 : Int32) dX6_takeOption_20 (by decide) ?_
    refine J_iload_n (pc := 21) 2 dX6_takeOption_21 rfl ?_
    obtain ⟨x7, σ5, hc6, h⟩ := cI_t h
    refine J_cVi (pc := 22) (ctX6_takeNumber l E o (0 : Int32) a2 ho σ3 hc6) dX6_takeOption_22 mlX6_83 mvX6_takeNumber ho rfl (by decide) rfl (Nat.le_of_ble_eq_true rfl) ?_
    obtain ⟨hz8, h⟩ := bz_t h
    cases h
    exact J_iret (pc := 25) dX6_takeOption_25 rfl hz8
  · refine J_iconst (pc := 13) (1 : Int32) dX6_takeOption_13 (by decide) ?_
    cases h
    exact J_iret (pc := 14) dX6_takeOption_14 rfl rfl
def fX6_takeNewName (o : Nat) (a1 : Nat) (σ : Mm) : Option (Int32 × Mm) := c_I (fX6_seesName o σ) (fun x3 σ1 => if x3 = 0 then (some ((0 : Int32), σ1)) else (r_lg σ1 o 8 (fun x4 => c_I (fX2_isTaken a1 x4 σ1) (fun x7 σ5 => if x7 = 0 then (c_V (fX6_advance o σ5) (fun σ8 => some ((1 : Int32), σ8))) else (c_I (fX6_refuse o (3 : Int32) σ5) (fun x12 σ10 => b_z x12 σ10))))))
set_option maxRecDepth 100000 in
set_option maxHeartbeats 4000000 in
theorem ctX6_takeNewName (l : Launch) (E : EV) (o : Nat) (a1 : Nat) (ho : KD o = 6) (ha1 : KD a1 = 2) (σ : Mm) {xr : Int32} {τ : Mm} (h : fX6_takeNewName o a1 σ = some (xr, τ)) : Ct l E mX6_takeNewName 3 [.ref (e_a E o 0), .ref (e_a E a1 0)] σ (some (.int xr), τ) := by
  refine Ct.of (by decide +kernel) (Nat.le_of_ble_eq_true rfl) ?_
  show Jd l E mX6_takeNewName 3 (some (.int xr), τ) σ 0 [(0, .ref (e_a E o 0)), (1, .ref (e_a E a1 0))] []
  unfold fX6_takeNewName at h
  refine J_aload_n (pc := 0) 0 dX6_takeNewName_0 rfl ?_
  obtain ⟨x3, σ1, hc2, h⟩ := cI_t h
  refine J_cVi (pc := 1) (ctX6_seesName l E o ho σ hc2) dX6_takeNewName_1 mlX6_87 mvX6_seesName ho rfl (by decide) rfl (Nat.le_of_ble_eq_true rfl) ?_
  refine J_if_ne (pc := 4) 9 dX6_takeNewName_4 (by decide) h (fun h => ?_) (fun h => ?_)
  · refine J_aload_n (pc := 9) 1 dX6_takeNewName_9 rfl ?_
    refine J_aload_n (pc := 10) 0 dX6_takeNewName_10 rfl ?_
    refine J_getL (pc := 11) dX6_takeNewName_11 ho flX6_62 rfl h (fun x4 h => ?_)
    obtain ⟨x7, σ5, hc6, h⟩ := cI_t h
    refine J_cVi (pc := 14) (ctX2_isTaken l E a1 x4 ha1 σ1 hc6) dX6_takeNewName_14 mlX6_90 mvX2_isTaken ha1 rfl (by decide) rfl (Nat.le_of_ble_eq_true rfl) ?_
    refine J_if_eq (pc := 17) 26 dX6_takeNewName_17 (by decide) h (fun h => ?_) (fun h => ?_)
    · refine J_aload_n (pc := 26) 0 dX6_takeNewName_26 rfl ?_
      obtain ⟨σ8, hc9, h⟩ := cV_t h
      refine J_cVv (pc := 27) (ctX6_advance l E o ho σ5 hc9) dX6_takeNewName_27 mlX6_37 mvX6_advance ho rfl (by decide) rfl (Nat.le_of_ble_eq_true rfl) ?_
      refine J_iconst (pc := 30) (1 : Int32) dX6_takeNewName_30 (by decide) ?_
      cases h
      exact J_iret (pc := 31) dX6_takeNewName_31 rfl rfl
    · refine J_aload_n (pc := 20) 0 dX6_takeNewName_20 rfl ?_
      refine J_iconst (pc := 21) (3 : Int32) dX6_takeNewName_21 (by decide) ?_
      obtain ⟨x12, σ10, hc11, h⟩ := cI_t h
      refine J_cVi (pc := 22) (ctX6_refuse l E o (3 : Int32) ho σ5 hc11) dX6_takeNewName_22 mlX6_73 mvX6_refuse ho rfl (by decide) rfl (Nat.le_of_ble_eq_true rfl) ?_
      obtain ⟨hz13, h⟩ := bz_t h
      cases h
      exact J_iret (pc := 25) dX6_takeNewName_25 rfl hz13
  · refine J_iconst (pc := 7) (0 : Int32) dX6_takeNewName_7 (by decide) ?_
    cases h
    exact J_iret (pc := 8) dX6_takeNewName_8 rfl rfl
def fX7_copyFrom (o : Nat) (a1 : Nat) (σ : Mm) : Option (Mm) := r_rf σ o 0 2 (fun q1 => r_rf σ a1 0 2 (fun q2 => c_V (fX2_copyFrom q1 q2 σ) (fun σ3 => c_V (fX4_copyFrom (tg o 1) (tg a1 1) σ3) (fun σ5 => r_rf σ5 o 2 5 (fun q7 => r_rf σ5 a1 2 5 (fun q8 => c_V (fX5_copyFrom q7 q8 σ5) (fun σ9 => some σ9)))))))
set_option maxRecDepth 100000 in
set_option maxHeartbeats 4000000 in
theorem ctX7_copyFrom (l : Launch) (E : EV) (o : Nat) (a1 : Nat) (ho : KD o = 7) (ha1 : KD a1 = 7) (σ : Mm) {τ : Mm} (h : fX7_copyFrom o a1 σ = some τ) : Ct l E mX7_copyFrom 2 [.ref (e_a E o 0), .ref (e_a E a1 0)] σ (none, τ) := by
  refine Ct.of (by decide +kernel) (Nat.le_of_ble_eq_true rfl) ?_
  show Jd l E mX7_copyFrom 2 (none, τ) σ 0 [(0, .ref (e_a E o 0)), (1, .ref (e_a E a1 0))] []
  unfold fX7_copyFrom at h
  refine J_aload_n (pc := 0) 0 dX7_copyFrom_0 rfl ?_
  refine J_getR (pc := 1) dX7_copyFrom_1 ho flX7_10 rfl h (fun q1 hq1 h => ?_)
  refine J_aload_n (pc := 4) 1 dX7_copyFrom_4 rfl ?_
  refine J_getR (pc := 5) dX7_copyFrom_5 ha1 flX7_10 rfl h (fun q2 hq2 h => ?_)
  obtain ⟨σ3, hc4, h⟩ := cV_t h
  refine J_cVv (pc := 8) (ctX2_copyFrom l E q1 q2 hq1 hq2 σ hc4) dX7_copyFrom_8 mlX7_30 mvX2_copyFrom hq1 rfl (by decide) rfl (Nat.le_of_ble_eq_true rfl) ?_
  refine J_aload_n (pc := 11) 0 dX7_copyFrom_11 rfl ?_
  refine J_getT (pc := 12) dX7_copyFrom_12 ho flX7_19 rfl ?_
  refine J_aload_n (pc := 15) 1 dX7_copyFrom_15 rfl ?_
  refine J_getT (pc := 16) dX7_copyFrom_16 ha1 flX7_19 rfl ?_
  obtain ⟨σ5, hc6, h⟩ := cV_t h
  refine J_cVv (pc := 19) (ctX4_copyFrom l E (tg o 1) (tg a1 1) (tk7_1 ho) (tk7_1 ha1) σ3 hc6) dX7_copyFrom_19 mlX7_34 mvX4_copyFrom (tk7_1 ho) rfl (by decide) rfl (Nat.le_of_ble_eq_true rfl) ?_
  refine J_aload_n (pc := 22) 0 dX7_copyFrom_22 rfl ?_
  refine J_getR (pc := 23) dX7_copyFrom_23 ho flX7_26 rfl h (fun q7 hq7 h => ?_)
  refine J_aload_n (pc := 26) 1 dX7_copyFrom_26 rfl ?_
  refine J_getR (pc := 27) dX7_copyFrom_27 ha1 flX7_26 rfl h (fun q8 hq8 h => ?_)
  obtain ⟨σ9, hc10, h⟩ := cV_t h
  refine J_cVv (pc := 30) (ctX5_copyFrom l E q7 q8 hq7 hq8 σ5 hc10) dX7_copyFrom_30 mlX7_37 mvX5_copyFrom hq7 rfl (by decide) rfl (Nat.le_of_ble_eq_true rfl) ?_
  cases h
  exact J_vret (pc := 33) dX7_copyFrom_33 rfl
def fX8_isMissing (o : Nat) (σ : Mm) : Option (Int32 × Mm) := r_sc σ o 0 (fun x1 => if x1 = (-1 : Int32) then (some ((1 : Int32), σ)) else (some ((0 : Int32), σ)))
set_option maxRecDepth 100000 in
set_option maxHeartbeats 4000000 in
theorem ctX8_isMissing (l : Launch) (E : EV) (o : Nat) (ho : KD o = 8) (σ : Mm) {xr : Int32} {τ : Mm} (h : fX8_isMissing o σ = some (xr, τ)) : Ct l E mX8_isMissing 0 [.ref (e_a E o 0)] σ (some (.int xr), τ) := by
  refine Ct.of (by decide +kernel) (Nat.le_of_ble_eq_true rfl) ?_
  show Jd l E mX8_isMissing 0 (some (.int xr), τ) σ 0 [(0, .ref (e_a E o 0))] []
  unfold fX8_isMissing at h
  refine J_aload_n (pc := 0) 0 dX8_isMissing_0 rfl ?_
  refine J_getI (pc := 1) dX8_isMissing_1 ho flX8_9 rfl h (fun x1 h => ?_)
  refine J_iconst (pc := 4) (-1 : Int32) dX8_isMissing_4 (by decide) ?_
  refine J_icmp_ne (pc := 5) 12 dX8_isMissing_5 (by decide) h (fun h => ?_) (fun h => ?_)
  · refine J_iconst (pc := 12) (0 : Int32) dX8_isMissing_12 (by decide) ?_
    cases h
    exact J_iret (pc := 13) dX8_isMissing_13 rfl rfl
  · refine J_iconst (pc := 8) (1 : Int32) dX8_isMissing_8 (by decide) ?_
    refine J_goto (pc := 9) 13 dX8_isMissing_9 (by decide) ?_
    cases h
    exact J_iret (pc := 13) dX8_isMissing_13 rfl rfl
def fX8_lay_12 (o : Nat) (a1 : Int32) (a2 : Int32) : Nat → Int32 → Mm → Option (Mm)
  | 0, _, _ => none
  | n + 1, v3, σ => if (60 : Int32) ≤ v3 then (some σ) else (s_la σ o 0 60 v3 (0 : Int64) (fun σ3 => (fX8_lay_12 o a1 a2 n) (v3 + (1 : Int32)) σ3))
set_option maxRecDepth 100000 in
set_option maxHeartbeats 4000000 in
theorem tX8_lay_12 (l : Launch) (E : EV) {τ : Mm} (o : Nat) (a1 : Int32) (a2 : Int32) (ho : KD o = 8) : ∀ (n : Nat) (v3 : Int32) (σ : Mm), fX8_lay_12 o a1 a2 n v3 σ = some τ → Jd l E mX8_lay 0 (none, τ) σ 12 [(0, .ref (e_a E o 0)), (3, .int v3)] [] := by
  intro n
  induction n with
  | zero => intro v3 σ h; rw [fX8_lay_12] at h; cases h
  | succ n ih =>
    intro v3 σ h
    rw [fX8_lay_12] at h
    refine J_iload_n (pc := 12) 1 dX8_lay_12 rfl ?_
    refine J_bipush (pc := 13) (60 : Int32) dX8_lay_13 (by decide) ?_
    refine J_icmp_ge (pc := 15) 31 dX8_lay_15 (by decide) h (fun h => ?_) (fun h => ?_)
    · cases h
      exact J_vret (pc := 31) dX8_lay_31 rfl
    · refine J_aload_n (pc := 18) 0 dX8_lay_18 rfl ?_
      refine J_getA (pc := 19) dX8_lay_19 ho flX8_15 rfl ?_
      refine J_iload_n (pc := 22) 1 dX8_lay_22 rfl ?_
      refine J_lconst (pc := 23) (0 : Int64) dX8_lay_23 (by decide) ?_
      refine J_last (pc := 24) dX8_lay_24 ho ha8_0 h (fun σ3 h => ?_)
      refine J_iinc (pc := 25) (L' := [(3, .int (v3 + (1 : Int32))), (0, .ref (e_a E o 0))]) 1 (v3 + (1 : Int32)) dX8_lay_25 rfl (by rfl) (by decide) rfl ?_
      refine J_goto (pc := 28) 12 dX8_lay_28 (by decide) ?_
      refine J_sub (L' := [(0, .ref (e_a E o 0)), (3, .int (v3 + (1 : Int32)))]) [1, 0] rfl ?_
      exact ih (v3 + (1 : Int32)) σ3 h
def fX8_lay (o : Nat) (a1 : Int32) (a2 : Int32) (σ : Mm) : Option (Mm) := p_sc σ o 0 a1 (fun σ1 => p_sc σ1 o 1 a2 (fun σ2 => fX8_lay_12 o a1 a2 FU (0 : Int32) σ2))
set_option maxRecDepth 100000 in
set_option maxHeartbeats 4000000 in
theorem ctX8_lay (l : Launch) (E : EV) (o : Nat) (a1 : Int32) (a2 : Int32) (ho : KD o = 8) (σ : Mm) {τ : Mm} (h : fX8_lay o a1 a2 σ = some τ) : Ct l E mX8_lay 0 [.ref (e_a E o 0), .int a1, .int a2] σ (none, τ) := by
  refine Ct.of (by decide +kernel) (Nat.le_of_ble_eq_true rfl) ?_
  show Jd l E mX8_lay 0 (none, τ) σ 0 [(0, .ref (e_a E o 0)), (1, .int a1), (2, .int a2)] []
  unfold fX8_lay at h
  refine J_aload_n (pc := 0) 0 dX8_lay_0 rfl ?_
  refine J_iload_n (pc := 1) 1 dX8_lay_1 rfl ?_
  refine J_putI (pc := 2) dX8_lay_2 ho flX8_9 rfl h (fun σ1 h => ?_)
  refine J_aload_n (pc := 5) 0 dX8_lay_5 rfl ?_
  refine J_iload_n (pc := 6) 2 dX8_lay_6 rfl ?_
  refine J_putI (pc := 7) dX8_lay_7 ho flX8_19 rfl h (fun σ2 h => ?_)
  refine J_iconst (pc := 10) (0 : Int32) dX8_lay_10 (by decide) ?_
  refine J_istore_n (pc := 11) (L' := [(3, .int (0 : Int32)), (0, .ref (e_a E o 0)), (1, .int a1), (2, .int a2)]) dX8_lay_11 (by decide) rfl ?_
  refine J_sub (L' := [(0, .ref (e_a E o 0)), (3, .int (0 : Int32))]) [1, 0] rfl ?_
  exact tX8_lay_12 l E o a1 a2 ho FU (0 : Int32) σ2 h
def fX8_put (o : Nat) (a1 : Int32) (a2 : Int64) (σ : Mm) : Option (Mm) := r_sc σ o 0 (fun x1 => if x1 = (0 : Int32) then (s_la σ o 0 60 a1 a2.toInt32.toInt8.toInt32.toInt64 (fun σ3 => some σ3)) else if x1 = (1 : Int32) then (s_la σ o 0 60 a1 a2.toInt32.toInt16.toInt32.toInt64 (fun σ5 => some σ5)) else if x1 = (2 : Int32) then (s_la σ o 0 60 a1 a2.toInt32.toInt64 (fun σ7 => some σ7)) else (s_la σ o 0 60 a1 a2 (fun σ8 => some σ8)))
set_option maxRecDepth 100000 in
set_option maxHeartbeats 4000000 in
theorem ctX8_put (l : Launch) (E : EV) (o : Nat) (a1 : Int32) (a2 : Int64) (ho : KD o = 8) (σ : Mm) {τ : Mm} (h : fX8_put o a1 a2 σ = some τ) : Ct l E mX8_put 0 [.ref (e_a E o 0), .int a1, .long a2] σ (none, τ) := by
  refine Ct.of (by decide +kernel) (Nat.le_of_ble_eq_true rfl) ?_
  show Jd l E mX8_put 0 (none, τ) σ 0 [(0, .ref (e_a E o 0)), (1, .int a1), (2, .long a2)] []
  unfold fX8_put at h
  refine J_aload_n (pc := 0) 0 dX8_put_0 rfl ?_
  refine J_getI (pc := 1) dX8_put_1 ho flX8_9 rfl h (fun x1 h => ?_)
  by_cases hs2 : x1 = (0 : Int32)
  · rw [if_pos hs2] at h
    refine J_tableIn (pc := 4) 32 dX8_put_4 (by rw [hs2]; decide) (by rw [hs2]; decide) (by rw [hs2]; rfl) (by decide) ?_
    refine J_aload_n (pc := 32) 0 dX8_put_32 rfl ?_
    refine J_getA (pc := 33) dX8_put_33 ho flX8_15 rfl ?_
    refine J_iload_n (pc := 36) 1 dX8_put_36 rfl ?_
    refine J_lload_n (pc := 37) 2 dX8_put_37 rfl ?_
    refine J_l2i (pc := 38) dX8_put_38 ?_
    refine J_i2b (pc := 39) dX8_put_39 ?_
    refine J_i2l (pc := 40) dX8_put_40 ?_
    refine J_last (pc := 41) dX8_put_41 ho ha8_0 h (fun σ3 h => ?_)
    refine J_goto (pc := 42) 77 dX8_put_42 (by decide) ?_
    cases h
    exact J_vret (pc := 77) dX8_put_77 rfl
  rw [if_neg hs2] at h
  by_cases hs4 : x1 = (1 : Int32)
  · rw [if_pos hs4] at h
    refine J_tableIn (pc := 4) 45 dX8_put_4 (by rw [hs4]; decide) (by rw [hs4]; decide) (by rw [hs4]; rfl) (by decide) ?_
    refine J_aload_n (pc := 45) 0 dX8_put_45 rfl ?_
    refine J_getA (pc := 46) dX8_put_46 ho flX8_15 rfl ?_
    refine J_iload_n (pc := 49) 1 dX8_put_49 rfl ?_
    refine J_lload_n (pc := 50) 2 dX8_put_50 rfl ?_
    refine J_l2i (pc := 51) dX8_put_51 ?_
    refine J_i2s (pc := 52) dX8_put_52 ?_
    refine J_i2l (pc := 53) dX8_put_53 ?_
    refine J_last (pc := 54) dX8_put_54 ho ha8_0 h (fun σ5 h => ?_)
    refine J_goto (pc := 55) 77 dX8_put_55 (by decide) ?_
    cases h
    exact J_vret (pc := 77) dX8_put_77 rfl
  rw [if_neg hs4] at h
  by_cases hs6 : x1 = (2 : Int32)
  · rw [if_pos hs6] at h
    refine J_tableIn (pc := 4) 58 dX8_put_4 (by rw [hs6]; decide) (by rw [hs6]; decide) (by rw [hs6]; rfl) (by decide) ?_
    refine J_aload_n (pc := 58) 0 dX8_put_58 rfl ?_
    refine J_getA (pc := 59) dX8_put_59 ho flX8_15 rfl ?_
    refine J_iload_n (pc := 62) 1 dX8_put_62 rfl ?_
    refine J_lload_n (pc := 63) 2 dX8_put_63 rfl ?_
    refine J_l2i (pc := 64) dX8_put_64 ?_
    refine J_i2l (pc := 65) dX8_put_65 ?_
    refine J_last (pc := 66) dX8_put_66 ho ha8_0 h (fun σ7 h => ?_)
    refine J_goto (pc := 67) 77 dX8_put_67 (by decide) ?_
    cases h
    exact J_vret (pc := 77) dX8_put_77 rfl
  rw [if_neg hs6] at h
  refine J_tableOut (pc := 4) 70 dX8_put_4 (by have := ne_i hs2 (k := 0) (by decide); have := ne_i hs4 (k := 1) (by decide); have := ne_i hs6 (k := 2) (by decide); omega) (by decide) ?_
  refine J_aload_n (pc := 70) 0 dX8_put_70 rfl ?_
  refine J_getA (pc := 71) dX8_put_71 ho flX8_15 rfl ?_
  refine J_iload_n (pc := 74) 1 dX8_put_74 rfl ?_
  refine J_lload_n (pc := 75) 2 dX8_put_75 rfl ?_
  refine J_last (pc := 76) dX8_put_76 ho ha8_0 h (fun σ8 h => ?_)
  cases h
  exact J_vret (pc := 77) dX8_put_77 rfl
def fX8_hasFrom (o : Nat) (a1 : Int32) (a2 : Int32) (σ : Mm) : Option (Int32 × Mm) := r_sc σ o 1 (fun x1 => if 0 < (lg_cmp (a1.toInt64 + a2.toInt64) x1.toInt64) then (some ((0 : Int32), σ)) else (some ((1 : Int32), σ)))
set_option maxRecDepth 100000 in
set_option maxHeartbeats 4000000 in
theorem ctX8_hasFrom (l : Launch) (E : EV) (o : Nat) (a1 : Int32) (a2 : Int32) (ho : KD o = 8) (σ : Mm) {xr : Int32} {τ : Mm} (h : fX8_hasFrom o a1 a2 σ = some (xr, τ)) : Ct l E mX8_hasFrom 0 [.ref (e_a E o 0), .int a1, .int a2] σ (some (.int xr), τ) := by
  refine Ct.of (by decide +kernel) (Nat.le_of_ble_eq_true rfl) ?_
  show Jd l E mX8_hasFrom 0 (some (.int xr), τ) σ 0 [(0, .ref (e_a E o 0)), (1, .int a1), (2, .int a2)] []
  unfold fX8_hasFrom at h
  refine J_iload_n (pc := 0) 1 dX8_hasFrom_0 rfl ?_
  refine J_i2l (pc := 1) dX8_hasFrom_1 ?_
  refine J_iload_n (pc := 2) 2 dX8_hasFrom_2 rfl ?_
  refine J_i2l (pc := 3) dX8_hasFrom_3 ?_
  refine J_ladd (pc := 4) dX8_hasFrom_4 ?_
  refine J_aload_n (pc := 5) 0 dX8_hasFrom_5 rfl ?_
  refine J_getI (pc := 6) dX8_hasFrom_6 ho flX8_19 rfl h (fun x1 h => ?_)
  refine J_i2l (pc := 9) dX8_hasFrom_9 ?_
  refine J_lcmp (pc := 10) dX8_hasFrom_10 ?_
  refine J_if_gt (pc := 11) 18 dX8_hasFrom_11 (by decide) h (fun h => ?_) (fun h => ?_)
  · refine J_iconst (pc := 18) (0 : Int32) dX8_hasFrom_18 (by decide) ?_
    cases h
    exact J_iret (pc := 19) dX8_hasFrom_19 rfl rfl
  · refine J_iconst (pc := 14) (1 : Int32) dX8_hasFrom_14 (by decide) ?_
    refine J_goto (pc := 15) 19 dX8_hasFrom_15 (by decide) ?_
    cases h
    exact J_iret (pc := 19) dX8_hasFrom_19 rfl rfl
def fX9_readPlace (o : Nat) (σ : Mm) : Option (Int32 × Mm) := r_rf σ o 0 6 (fun q1 => c_V (fX6_advance q1 σ) (fun σ2 => r_rf σ2 o 0 6 (fun q4 => r_lg σ2 q4 8 (fun x5 => r_rf σ2 o 0 6 (fun q6 => r_rf σ2 o 1 2 (fun q7 => c_I (fX6_takeNewName q6 q7 σ2) (fun x10 σ8 => if x10 = 0 then (some ((0 : Int32), σ8)) else (r_rf σ8 o 0 6 (fun q11 => c_I (fX6_takeSemicolon q11 σ8) (fun x14 σ12 => if x14 = 0 then (some ((0 : Int32), σ12)) else (r_rf σ12 o 1 2 (fun q15 => r_rf σ12 o 1 2 (fun q16 => r_sc σ12 q16 0 (fun x17 => s_la σ12 q15 0 4 x17 x5 (fun σ18 => r_rf σ18 o 1 2 (fun q19 => r_sc σ18 q19 0 (fun x20 => p_sc σ18 q19 0 (x20 + (1 : Int32)) (fun σ21 => some ((1 : Int32), σ21)))))))))))))))))))
set_option maxRecDepth 100000 in
set_option maxHeartbeats 4000000 in
theorem ctX9_readPlace (l : Launch) (E : EV) (o : Nat) (ho : KD o = 9) (σ : Mm) {xr : Int32} {τ : Mm} (h : fX9_readPlace o σ = some (xr, τ)) : Ct l E mX9_readPlace 4 [.ref (e_a E o 0)] σ (some (.int xr), τ) := by
  refine Ct.of (by decide +kernel) (Nat.le_of_ble_eq_true rfl) ?_
  show Jd l E mX9_readPlace 4 (some (.int xr), τ) σ 0 [(0, .ref (e_a E o 0))] []
  unfold fX9_readPlace at h
  refine J_aload_n (pc := 0) 0 dX9_readPlace_0 rfl ?_
  refine J_getR (pc := 1) dX9_readPlace_1 ho flX9_9 rfl h (fun q1 hq1 h => ?_)
  obtain ⟨σ2, hc3, h⟩ := cV_t h
  refine J_cVv (pc := 4) (ctX6_advance l E q1 hq1 σ hc3) dX9_readPlace_4 mlX9_62 mvX6_advance hq1 rfl (by decide) rfl (Nat.le_of_ble_eq_true rfl) ?_
  refine J_aload_n (pc := 7) 0 dX9_readPlace_7 rfl ?_
  refine J_getR (pc := 8) dX9_readPlace_8 ho flX9_9 rfl h (fun q4 hq4 h => ?_)
  refine J_getL (pc := 11) dX9_readPlace_11 hq4 flX9_65 rfl h (fun x5 h => ?_)
  refine J_lstore_n (pc := 14) (L' := [(1, .long x5), (0, .ref (e_a E o 0))]) dX9_readPlace_14 (by decide) rfl ?_
  refine J_aload_n (pc := 15) 1 dX9_readPlace_15 rfl ?_
  refine J_getR (pc := 16) dX9_readPlace_16 ho flX9_9 rfl h (fun q6 hq6 h => ?_)
  refine J_aload_n (pc := 19) 1 dX9_readPlace_19 rfl ?_
  refine J_getR (pc := 20) dX9_readPlace_20 ho flX9_15 rfl h (fun q7 hq7 h => ?_)
  obtain ⟨x10, σ8, hc9, h⟩ := cI_t h
  refine J_cVi (pc := 23) (ctX6_takeNewName l E q6 q7 hq6 hq7 σ2 hc9) dX9_readPlace_23 mlX9_69 mvX6_takeNewName hq6 rfl (by decide) rfl (Nat.le_of_ble_eq_true rfl) ?_
  refine J_if_eq (pc := 26) 39 dX9_readPlace_26 (by decide) h (fun h => ?_) (fun h => ?_)
  · refine J_iconst (pc := 39) (0 : Int32) dX9_readPlace_39 (by decide) ?_
    cases h
    exact J_iret (pc := 40) dX9_readPlace_40 rfl rfl
  · refine J_aload_n (pc := 29) 1 dX9_readPlace_29 rfl ?_
    refine J_getR (pc := 30) dX9_readPlace_30 ho flX9_9 rfl h (fun q11 hq11 h => ?_)
    obtain ⟨x14, σ12, hc13, h⟩ := cI_t h
    refine J_cVi (pc := 33) (ctX6_takeSemicolon l E q11 hq11 σ8 hc13) dX9_readPlace_33 mlX9_73 mvX6_takeSemicolon hq11 rfl (by decide) rfl (Nat.le_of_ble_eq_true rfl) ?_
    refine J_if_ne (pc := 36) 41 dX9_readPlace_36 (by decide) h (fun h => ?_) (fun h => ?_)
    · refine J_aload_n (pc := 41) 1 dX9_readPlace_41 rfl ?_
      refine J_getR (pc := 42) dX9_readPlace_42 ho flX9_15 rfl h (fun q15 hq15 h => ?_)
      refine J_getA (pc := 45) dX9_readPlace_45 hq15 flX9_76 rfl ?_
      refine J_aload_n (pc := 48) 1 dX9_readPlace_48 rfl ?_
      refine J_getR (pc := 49) dX9_readPlace_49 ho flX9_15 rfl h (fun q16 hq16 h => ?_)
      refine J_getI (pc := 52) dX9_readPlace_52 hq16 flX9_37 rfl h (fun x17 h => ?_)
      refine J_lload_n (pc := 55) 0 dX9_readPlace_55 rfl ?_
      refine J_last (pc := 56) dX9_readPlace_56 hq15 ha2_0 h (fun σ18 h => ?_)
      refine J_aload_n (pc := 57) 1 dX9_readPlace_57 rfl ?_
      refine J_getR (pc := 58) dX9_readPlace_58 ho flX9_15 rfl h (fun q19 hq19 h => ?_)
      refine J_dup (pc := 61) dX9_readPlace_61 rfl ?_
      refine J_getI (pc := 62) dX9_readPlace_62 hq19 flX9_37 rfl h (fun x20 h => ?_)
      refine J_iconst (pc := 65) (1 : Int32) dX9_readPlace_65 (by decide) ?_
      refine J_iadd (pc := 66) dX9_readPlace_66 ?_
      refine J_putI (pc := 67) dX9_readPlace_67 hq19 flX9_37 rfl h (fun σ21 h => ?_)
      refine J_iconst (pc := 70) (1 : Int32) dX9_readPlace_70 (by decide) ?_
      cases h
      exact J_iret (pc := 71) dX9_readPlace_71 rfl rfl
    · refine J_iconst (pc := 39) (0 : Int32) dX9_readPlace_39 (by decide) ?_
      cases h
      exact J_iret (pc := 40) dX9_readPlace_40 rfl rfl
def fX9_readVane (o : Nat) (σ : Mm) : Option (Int32 × Mm) := r_rf σ o 1 2 (fun q1 => r_sc σ q1 1 (fun x2 => r_rf σ o 0 6 (fun q3 => c_V (fX6_advance q3 σ) (fun σ4 => r_rf σ4 o 1 2 (fun q6 => r_rf σ4 o 0 6 (fun q7 => r_lg σ4 q7 8 (fun x8 => s_la σ4 q6 1 8 x2 x8 (fun σ9 => r_rf σ9 o 0 6 (fun q10 => r_rf σ9 o 1 2 (fun q11 => c_I (fX6_takeNewName q10 q11 σ9) (fun x14 σ12 => if x14 = 0 then (some ((0 : Int32), σ12)) else (r_rf σ12 o 0 6 (fun q15 => c_I (fX6_takeKeyword q15 (2 : Int32) σ12) (fun x18 σ16 => if x18 = 0 then (some ((0 : Int32), σ16)) else (r_rf σ16 o 0 6 (fun q19 => c_I (fX6_takeNumber q19 (4 : Int32) (60 : Int32) σ16) (fun x22 σ20 => if x22 = 0 then (some ((0 : Int32), σ20)) else (r_rf σ20 o 1 2 (fun q23 => r_rf σ20 o 0 6 (fun q24 => r_sc σ20 q24 10 (fun x25 => s_ar σ20 q23 3 8 x2 x25 (fun σ26 => r_rf σ26 o 0 6 (fun q27 => c_I (fX6_takeKeyword q27 (3 : Int32) σ26) (fun x30 σ28 => if x30 = 0 then (some ((0 : Int32), σ28)) else (r_rf σ28 o 0 6 (fun q31 => r_rf σ28 o 1 2 (fun q32 => c_I (fX6_takePlace q31 q32 σ28) (fun x35 σ33 => if x35 = 0 then (some ((0 : Int32), σ33)) else (r_rf σ33 o 1 2 (fun q36 => r_rf σ33 o 0 6 (fun q37 => r_sc σ33 q37 10 (fun x38 => s_ar σ33 q36 4 8 x2 x38 (fun σ39 => r_rf σ39 o 0 6 (fun q40 => c_I (fX6_takeOption q40 (4 : Int32) (99 : Int32) σ39) (fun x43 σ41 => if x43 = 0 then (some ((0 : Int32), σ41)) else (r_rf σ41 o 1 2 (fun q44 => r_rf σ41 o 0 6 (fun q45 => r_sc σ41 q45 10 (fun x46 => s_ar σ41 q44 5 8 x2 x46 (fun σ47 => r_rf σ47 o 0 6 (fun q48 => r_rf σ47 o 1 2 (fun q49 => g_ar σ47 q49 3 8 x2 (fun x50 => c_I (fX6_takeOption q48 (5 : Int32) (x50 - (1 : Int32)) σ47) (fun x53 σ51 => if x53 = 0 then (some ((0 : Int32), σ51)) else (r_rf σ51 o 1 2 (fun q54 => r_rf σ51 o 0 6 (fun q55 => r_sc σ51 q55 10 (fun x56 => s_ar σ51 q54 6 8 x2 x56 (fun σ57 => r_rf σ57 o 1 2 (fun q58 => r_sc σ57 q58 1 (fun x59 => p_sc σ57 q58 1 (x59 + (1 : Int32)) (fun σ60 => r_rf σ60 o 0 6 (fun q61 => c_I (fX6_takeSemicolon q61 σ60) (fun x64 σ62 => b_z x64 σ62))))))))))))))))))))))))))))))))))))))))))))))))))))))
set_option maxRecDepth 100000 in
set_option maxHeartbeats 4000000 in
theorem ctX9_readVane (l : Launch) (E : EV) (o : Nat) (ho : KD o = 9) (σ : Mm) {xr : Int32} {τ : Mm} (h : fX9_readVane o σ = some (xr, τ)) : Ct l E mX9_readVane 4 [.ref (e_a E o 0)] σ (some (.int xr), τ) := by
  refine Ct.of (by decide +kernel) (Nat.le_of_ble_eq_true rfl) ?_
  show Jd l E mX9_readVane 4 (some (.int xr), τ) σ 0 [(0, .ref (e_a E o 0))] []
  unfold fX9_readVane at h
  refine J_aload_n (pc := 0) 0 dX9_readVane_0 rfl ?_
  refine J_getR (pc := 1) dX9_readVane_1 ho flX9_15 rfl h (fun q1 hq1 h => ?_)
  refine J_getI (pc := 4) dX9_readVane_4 hq1 flX9_47 rfl h (fun x2 h => ?_)
  refine J_istore_n (pc := 7) (L' := [(1, .int x2), (0, .ref (e_a E o 0))]) dX9_readVane_7 (by decide) rfl ?_
  refine J_aload_n (pc := 8) 1 dX9_readVane_8 rfl ?_
  refine J_getR (pc := 9) dX9_readVane_9 ho flX9_9 rfl h (fun q3 hq3 h => ?_)
  obtain ⟨σ4, hc5, h⟩ := cV_t h
  refine J_cVv (pc := 12) (ctX6_advance l E q3 hq3 σ hc5) dX9_readVane_12 mlX9_62 mvX6_advance hq3 rfl (by decide) rfl (Nat.le_of_ble_eq_true rfl) ?_
  refine J_aload_n (pc := 15) 1 dX9_readVane_15 rfl ?_
  refine J_getR (pc := 16) dX9_readVane_16 ho flX9_15 rfl h (fun q6 hq6 h => ?_)
  refine J_getA (pc := 19) dX9_readVane_19 hq6 flX9_80 rfl ?_
  refine J_iload_n (pc := 22) 0 dX9_readVane_22 rfl ?_
  refine J_aload_n (pc := 23) 1 dX9_readVane_23 rfl ?_
  refine J_getR (pc := 24) dX9_readVane_24 ho flX9_9 rfl h (fun q7 hq7 h => ?_)
  refine J_getL (pc := 27) dX9_readVane_27 hq7 flX9_65 rfl h (fun x8 h => ?_)
  refine J_last (pc := 30) dX9_readVane_30 hq6 ha2_1 h (fun σ9 h => ?_)
  refine J_aload_n (pc := 31) 1 dX9_readVane_31 rfl ?_
  refine J_getR (pc := 32) dX9_readVane_32 ho flX9_9 rfl h (fun q10 hq10 h => ?_)
  refine J_aload_n (pc := 35) 1 dX9_readVane_35 rfl ?_
  refine J_getR (pc := 36) dX9_readVane_36 ho flX9_15 rfl h (fun q11 hq11 h => ?_)
  obtain ⟨x14, σ12, hc13, h⟩ := cI_t h
  refine J_cVi (pc := 39) (ctX6_takeNewName l E q10 q11 hq10 hq11 σ9 hc13) dX9_readVane_39 mlX9_69 mvX6_takeNewName hq10 rfl (by decide) rfl (Nat.le_of_ble_eq_true rfl) ?_
  refine J_if_eq (pc := 42) 69 dX9_readVane_42 (by decide) h (fun h => ?_) (fun h => ?_)
  · refine J_iconst (pc := 69) (0 : Int32) dX9_readVane_69 (by decide) ?_
    cases h
    exact J_iret (pc := 70) dX9_readVane_70 rfl rfl
  · refine J_aload_n (pc := 45) 1 dX9_readVane_45 rfl ?_
    refine J_getR (pc := 46) dX9_readVane_46 ho flX9_9 rfl h (fun q15 hq15 h => ?_)
    refine J_iconst (pc := 49) (2 : Int32) dX9_readVane_49 (by decide) ?_
    obtain ⟨x18, σ16, hc17, h⟩ := cI_t h
    refine J_cVi (pc := 50) (ctX6_takeKeyword l E q15 (2 : Int32) hq15 σ12 hc17) dX9_readVane_50 mlX9_83 mvX6_takeKeyword hq15 rfl (by decide) rfl (Nat.le_of_ble_eq_true rfl) ?_
    refine J_if_eq (pc := 53) 69 dX9_readVane_53 (by decide) h (fun h => ?_) (fun h => ?_)
    · refine J_iconst (pc := 69) (0 : Int32) dX9_readVane_69 (by decide) ?_
      cases h
      exact J_iret (pc := 70) dX9_readVane_70 rfl rfl
    · refine J_aload_n (pc := 56) 1 dX9_readVane_56 rfl ?_
      refine J_getR (pc := 57) dX9_readVane_57 ho flX9_9 rfl h (fun q19 hq19 h => ?_)
      refine J_iconst (pc := 60) (4 : Int32) dX9_readVane_60 (by decide) ?_
      refine J_bipush (pc := 61) (60 : Int32) dX9_readVane_61 (by decide) ?_
      obtain ⟨x22, σ20, hc21, h⟩ := cI_t h
      refine J_cVi (pc := 63) (ctX6_takeNumber l E q19 (4 : Int32) (60 : Int32) hq19 σ16 hc21) dX9_readVane_63 mlX9_86 mvX6_takeNumber hq19 rfl (by decide) rfl (Nat.le_of_ble_eq_true rfl) ?_
      refine J_if_ne (pc := 66) 71 dX9_readVane_66 (by decide) h (fun h => ?_) (fun h => ?_)
      · refine J_aload_n (pc := 71) 1 dX9_readVane_71 rfl ?_
        refine J_getR (pc := 72) dX9_readVane_72 ho flX9_15 rfl h (fun q23 hq23 h => ?_)
        refine J_getA (pc := 75) dX9_readVane_75 hq23 flX9_90 rfl ?_
        refine J_iload_n (pc := 78) 0 dX9_readVane_78 rfl ?_
        refine J_aload_n (pc := 79) 1 dX9_readVane_79 rfl ?_
        refine J_getR (pc := 80) dX9_readVane_80 ho flX9_9 rfl h (fun q24 hq24 h => ?_)
        refine J_getI (pc := 83) dX9_readVane_83 hq24 flX9_94 rfl h (fun x25 h => ?_)
        refine J_iast (pc := 86) dX9_readVane_86 hq23 ha2_3 h (fun σ26 h => ?_)
        refine J_aload_n (pc := 87) 1 dX9_readVane_87 rfl ?_
        refine J_getR (pc := 88) dX9_readVane_88 ho flX9_9 rfl h (fun q27 hq27 h => ?_)
        refine J_iconst (pc := 91) (3 : Int32) dX9_readVane_91 (by decide) ?_
        obtain ⟨x30, σ28, hc29, h⟩ := cI_t h
        refine J_cVi (pc := 92) (ctX6_takeKeyword l E q27 (3 : Int32) hq27 σ26 hc29) dX9_readVane_92 mlX9_83 mvX6_takeKeyword hq27 rfl (by decide) rfl (Nat.le_of_ble_eq_true rfl) ?_
        refine J_if_eq (pc := 95) 112 dX9_readVane_95 (by decide) h (fun h => ?_) (fun h => ?_)
        · refine J_iconst (pc := 112) (0 : Int32) dX9_readVane_112 (by decide) ?_
          cases h
          exact J_iret (pc := 113) dX9_readVane_113 rfl rfl
        · refine J_aload_n (pc := 98) 1 dX9_readVane_98 rfl ?_
          refine J_getR (pc := 99) dX9_readVane_99 ho flX9_9 rfl h (fun q31 hq31 h => ?_)
          refine J_aload_n (pc := 102) 1 dX9_readVane_102 rfl ?_
          refine J_getR (pc := 103) dX9_readVane_103 ho flX9_15 rfl h (fun q32 hq32 h => ?_)
          obtain ⟨x35, σ33, hc34, h⟩ := cI_t h
          refine J_cVi (pc := 106) (ctX6_takePlace l E q31 q32 hq31 hq32 σ28 hc34) dX9_readVane_106 mlX9_97 mvX6_takePlace hq31 rfl (by decide) rfl (Nat.le_of_ble_eq_true rfl) ?_
          refine J_if_ne (pc := 109) 114 dX9_readVane_109 (by decide) h (fun h => ?_) (fun h => ?_)
          · refine J_aload_n (pc := 114) 1 dX9_readVane_114 rfl ?_
            refine J_getR (pc := 115) dX9_readVane_115 ho flX9_15 rfl h (fun q36 hq36 h => ?_)
            refine J_getA (pc := 118) dX9_readVane_118 hq36 flX9_100 rfl ?_
            refine J_iload_n (pc := 121) 0 dX9_readVane_121 rfl ?_
            refine J_aload_n (pc := 122) 1 dX9_readVane_122 rfl ?_
            refine J_getR (pc := 123) dX9_readVane_123 ho flX9_9 rfl h (fun q37 hq37 h => ?_)
            refine J_getI (pc := 126) dX9_readVane_126 hq37 flX9_94 rfl h (fun x38 h => ?_)
            refine J_iast (pc := 129) dX9_readVane_129 hq36 ha2_4 h (fun σ39 h => ?_)
            refine J_aload_n (pc := 130) 1 dX9_readVane_130 rfl ?_
            refine J_getR (pc := 131) dX9_readVane_131 ho flX9_9 rfl h (fun q40 hq40 h => ?_)
            refine J_iconst (pc := 134) (4 : Int32) dX9_readVane_134 (by decide) ?_
            refine J_bipush (pc := 135) (99 : Int32) dX9_readVane_135 (by decide) ?_
            obtain ⟨x43, σ41, hc42, h⟩ := cI_t h
            refine J_cVi (pc := 137) (ctX6_takeOption l E q40 (4 : Int32) (99 : Int32) hq40 σ39 hc42) dX9_readVane_137 mlX9_103 mvX6_takeOption hq40 rfl (by decide) rfl (Nat.le_of_ble_eq_true rfl) ?_
            refine J_if_ne (pc := 140) 145 dX9_readVane_140 (by decide) h (fun h => ?_) (fun h => ?_)
            · refine J_aload_n (pc := 145) 1 dX9_readVane_145 rfl ?_
              refine J_getR (pc := 146) dX9_readVane_146 ho flX9_15 rfl h (fun q44 hq44 h => ?_)
              refine J_getA (pc := 149) dX9_readVane_149 hq44 flX9_106 rfl ?_
              refine J_iload_n (pc := 152) 0 dX9_readVane_152 rfl ?_
              refine J_aload_n (pc := 153) 1 dX9_readVane_153 rfl ?_
              refine J_getR (pc := 154) dX9_readVane_154 ho flX9_9 rfl h (fun q45 hq45 h => ?_)
              refine J_getI (pc := 157) dX9_readVane_157 hq45 flX9_94 rfl h (fun x46 h => ?_)
              refine J_iast (pc := 160) dX9_readVane_160 hq44 ha2_5 h (fun σ47 h => ?_)
              refine J_aload_n (pc := 161) 1 dX9_readVane_161 rfl ?_
              refine J_getR (pc := 162) dX9_readVane_162 ho flX9_9 rfl h (fun q48 hq48 h => ?_)
              refine J_iconst (pc := 165) (5 : Int32) dX9_readVane_165 (by decide) ?_
              refine J_aload_n (pc := 166) 1 dX9_readVane_166 rfl ?_
              refine J_getR (pc := 167) dX9_readVane_167 ho flX9_15 rfl h (fun q49 hq49 h => ?_)
              refine J_getA (pc := 170) dX9_readVane_170 hq49 flX9_90 rfl ?_
              refine J_iload_n (pc := 173) 0 dX9_readVane_173 rfl ?_
              refine J_iald (pc := 174) dX9_readVane_174 hq49 ha2_3 h (fun x50 h => ?_)
              refine J_iconst (pc := 175) (1 : Int32) dX9_readVane_175 (by decide) ?_
              refine J_isub (pc := 176) dX9_readVane_176 ?_
              obtain ⟨x53, σ51, hc52, h⟩ := cI_t h
              refine J_cVi (pc := 177) (ctX6_takeOption l E q48 (5 : Int32) (x50 - (1 : Int32)) hq48 σ47 hc52) dX9_readVane_177 mlX9_103 mvX6_takeOption hq48 rfl (by decide) rfl (Nat.le_of_ble_eq_true rfl) ?_
              refine J_if_ne (pc := 180) 185 dX9_readVane_180 (by decide) h (fun h => ?_) (fun h => ?_)
              · refine J_aload_n (pc := 185) 1 dX9_readVane_185 rfl ?_
                refine J_getR (pc := 186) dX9_readVane_186 ho flX9_15 rfl h (fun q54 hq54 h => ?_)
                refine J_getA (pc := 189) dX9_readVane_189 hq54 flX9_109 rfl ?_
                refine J_iload_n (pc := 192) 0 dX9_readVane_192 rfl ?_
                refine J_aload_n (pc := 193) 1 dX9_readVane_193 rfl ?_
                refine J_getR (pc := 194) dX9_readVane_194 ho flX9_9 rfl h (fun q55 hq55 h => ?_)
                refine J_getI (pc := 197) dX9_readVane_197 hq55 flX9_94 rfl h (fun x56 h => ?_)
                refine J_iast (pc := 200) dX9_readVane_200 hq54 ha2_6 h (fun σ57 h => ?_)
                refine J_aload_n (pc := 201) 1 dX9_readVane_201 rfl ?_
                refine J_getR (pc := 202) dX9_readVane_202 ho flX9_15 rfl h (fun q58 hq58 h => ?_)
                refine J_dup (pc := 205) dX9_readVane_205 rfl ?_
                refine J_getI (pc := 206) dX9_readVane_206 hq58 flX9_47 rfl h (fun x59 h => ?_)
                refine J_iconst (pc := 209) (1 : Int32) dX9_readVane_209 (by decide) ?_
                refine J_iadd (pc := 210) dX9_readVane_210 ?_
                refine J_putI (pc := 211) dX9_readVane_211 hq58 flX9_47 rfl h (fun σ60 h => ?_)
                refine J_aload_n (pc := 214) 1 dX9_readVane_214 rfl ?_
                refine J_getR (pc := 215) dX9_readVane_215 ho flX9_9 rfl h (fun q61 hq61 h => ?_)
                obtain ⟨x64, σ62, hc63, h⟩ := cI_t h
                refine J_cVi (pc := 218) (ctX6_takeSemicolon l E q61 hq61 σ60 hc63) dX9_readVane_218 mlX9_73 mvX6_takeSemicolon hq61 rfl (by decide) rfl (Nat.le_of_ble_eq_true rfl) ?_
                obtain ⟨hz65, h⟩ := bz_t h
                cases h
                exact J_iret (pc := 221) dX9_readVane_221 rfl hz65
              · refine J_iconst (pc := 183) (0 : Int32) dX9_readVane_183 (by decide) ?_
                cases h
                exact J_iret (pc := 184) dX9_readVane_184 rfl rfl
            · refine J_iconst (pc := 143) (0 : Int32) dX9_readVane_143 (by decide) ?_
              cases h
              exact J_iret (pc := 144) dX9_readVane_144 rfl rfl
          · refine J_iconst (pc := 112) (0 : Int32) dX9_readVane_112 (by decide) ?_
            cases h
            exact J_iret (pc := 113) dX9_readVane_113 rfl rfl
      · refine J_iconst (pc := 69) (0 : Int32) dX9_readVane_69 (by decide) ?_
        cases h
        exact J_iret (pc := 70) dX9_readVane_70 rfl rfl
