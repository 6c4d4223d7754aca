def fX12_villagePart (o : Nat) (σ : Mm) : Option (Int32 × Mm) := c_I (fX12_inWords o σ) (fun x3 σ1 => if x3 = (0 : Int32) then (c_I (fX12_newOne o (0 : Int32) (4 : Int32) (0 : Int32) σ1) (fun x7 σ5 => g_ar σ5 o 0 2950 (1960 : Int32) (fun x8 => if x7 = 0 then (s_ar σ5 o 0 2950 (1960 : Int32) (x8 + (0 : Int32)) (fun σ9 => if x7 = 0 then (some ((0 : Int32), σ9)) else (c_I (fX12_wantSign o (59 : Int32) σ9) (fun x12 σ10 => if x12 = 0 then (some ((0 : Int32), σ10)) else (some ((1 : Int32), σ10)))))) else (s_ar σ5 o 0 2950 (1960 : Int32) (x8 + (1 : Int32)) (fun σ13 => if x7 = 0 then (some ((0 : Int32), σ13)) else (c_I (fX12_wantSign o (59 : Int32) σ13) (fun x16 σ14 => if x16 = 0 then (some ((0 : Int32), σ14)) else (some ((1 : Int32), σ14))))))))) else if x3 = (1 : Int32) then (c_I (fX12_aVane o σ1) (fun x20 σ18 => if x20 = 0 then (some ((0 : Int32), σ18)) else (c_I (fX12_wantSign o (59 : Int32) σ18) (fun x23 σ21 => if x23 = 0 then (some ((0 : Int32), σ21)) else (some ((1 : Int32), σ21)))))) else if x3 = (2 : Int32) then (c_I (fX12_aShaft o (0 : Int32) σ1) (fun x27 σ25 => if x27 = 0 then (some ((0 : Int32), σ25)) else (c_I (fX12_wantSign o (59 : Int32) σ25) (fun x30 σ28 => if x30 = 0 then (some ((0 : Int32), σ28)) else (some ((1 : Int32), σ28)))))) else if x3 = (3 : Int32) then (c_I (fX12_aShaft o (1 : Int32) σ1) (fun x34 σ32 => if x34 = 0 then (some ((0 : Int32), σ32)) else (c_I (fX12_wantSign o (59 : Int32) σ32) (fun x37 σ35 => if x37 = 0 then (some ((0 : Int32), σ35)) else (some ((1 : Int32), σ35)))))) else (c_I (fX12_fails o (2 : Int32) σ1) (fun x40 σ38 => b_z x40 σ38)))
set_option maxRecDepth 100000 in
set_option maxHeartbeats 4000000 in
theorem ctX12_villagePart (l : Launch) (E : EV) (o : Nat) (ho : KD o = 12) (σ : Mm) {xr : Int32} {τ : Mm} (h : fX12_villagePart o σ = some (xr, τ)) : Ct l E mX12_villagePart 9 [.ref (e_a E o 0)] σ (some (.int xr), τ) := by
  refine Ct.of (by decide +kernel) (Nat.le_of_ble_eq_true rfl) ?_
  show Jd l E mX12_villagePart 9 (some (.int xr), τ) σ 0 [(0, .ref (e_a E o 0))] []
  unfold fX12_villagePart at h
  refine J_aload_n (pc := 0) 0 dX12_villagePart_0 rfl ?_
  refine J_ldcS (pc := 1) dX12_villagePart_1 rfl rfl ?_
  obtain ⟨x3, σ1, hc2, h⟩ := cI_t h
  refine J_cVi (pc := 3) (ctX12_inWords l E o ho σ hc2) dX12_villagePart_3 mlX12_169 mvX12_inWords ho rfl (by decide) rfl (Nat.le_of_ble_eq_true rfl) ?_
  by_cases hs4 : x3 = (0 : Int32)
  · rw [if_pos hs4] at h
    refine J_tableIn (pc := 6) 36 dX12_villagePart_6 (by rw [hs4]; decide) (by rw [hs4]; decide) (by rw [hs4]; rfl) (by decide) ?_
    refine J_aload_n (pc := 36) 0 dX12_villagePart_36 rfl ?_
    refine J_iconst (pc := 37) (0 : Int32) dX12_villagePart_37 (by decide) ?_
    refine J_iconst (pc := 38) (4 : Int32) dX12_villagePart_38 (by decide) ?_
    refine J_iconst (pc := 39) (0 : Int32) dX12_villagePart_39 (by decide) ?_
    obtain ⟨x7, σ5, hc6, h⟩ := cI_t h
    refine J_cVi (pc := 40) (ctX12_newOne l E o (0 : Int32) (4 : Int32) (0 : Int32) ho σ1 hc6) dX12_villagePart_40 mlX12_193 mvX12_newOne ho rfl (by decide) rfl (Nat.le_of_ble_eq_true rfl) ?_
    refine J_istore_n (pc := 43) (L' := [(1, .int x7), (0, .ref (e_a E o 0))]) dX12_villagePart_43 (by decide) rfl ?_
    refine J_aload_n (pc := 44) 1 dX12_villagePart_44 rfl ?_
    refine J_getA (pc := 45) dX12_villagePart_45 ho flX12_7 rfl ?_
    refine J_sipush (pc := 48) (1960 : Int32) dX12_villagePart_48 (by decide) ?_
    refine J_dup2 (pc := 51) dX12_villagePart_51 rfl rfl ?_
    refine J_iald (pc := 52) dX12_villagePart_52 ho ha12_0 h (fun x8 h => ?_)
    refine J_iload_n (pc := 53) 0 dX12_villagePart_53 rfl ?_
    refine J_if_eq (pc := 54) 61 dX12_villagePart_54 (by decide) h (fun h => ?_) (fun h => ?_)
    · refine J_iconst (pc := 61) (0 : Int32) dX12_villagePart_61 (by decide) ?_
      refine J_iadd (pc := 62) dX12_villagePart_62 ?_
      refine J_iast (pc := 63) dX12_villagePart_63 ho ha12_0 h (fun σ9 h => ?_)
      refine J_goto (pc := 64) 99 dX12_villagePart_64 (by decide) ?_
      refine J_iload_n (pc := 99) 0 dX12_villagePart_99 rfl ?_
      refine J_if_eq (pc := 100) 116 dX12_villagePart_100 (by decide) h (fun h => ?_) (fun h => ?_)
      · refine J_iconst (pc := 116) (0 : Int32) dX12_villagePart_116 (by decide) ?_
        cases h
        exact J_iret (pc := 117) dX12_villagePart_117 rfl rfl
      · refine J_aload_n (pc := 103) 1 dX12_villagePart_103 rfl ?_
        refine J_bipush (pc := 104) (59 : Int32) dX12_villagePart_104 (by decide) ?_
        obtain ⟨x12, σ10, hc11, h⟩ := cI_t h
        refine J_cVi (pc := 106) (ctX12_wantSign l E o (59 : Int32) ho σ9 hc11) dX12_villagePart_106 mlX12_213 mvX12_wantSign ho rfl (by decide) rfl (Nat.le_of_ble_eq_true rfl) ?_
        refine J_if_eq (pc := 109) 116 dX12_villagePart_109 (by decide) h (fun h => ?_) (fun h => ?_)
        · refine J_iconst (pc := 116) (0 : Int32) dX12_villagePart_116 (by decide) ?_
          cases h
          exact J_iret (pc := 117) dX12_villagePart_117 rfl rfl
        · refine J_iconst (pc := 112) (1 : Int32) dX12_villagePart_112 (by decide) ?_
          refine J_goto (pc := 113) 117 dX12_villagePart_113 (by decide) ?_
          cases h
          exact J_iret (pc := 117) dX12_villagePart_117 rfl rfl
    · refine J_iconst (pc := 57) (1 : Int32) dX12_villagePart_57 (by decide) ?_
      refine J_goto (pc := 58) 62 dX12_villagePart_58 (by decide) ?_
      refine J_iadd (pc := 62) dX12_villagePart_62 ?_
      refine J_iast (pc := 63) dX12_villagePart_63 ho ha12_0 h (fun σ13 h => ?_)
      refine J_goto (pc := 64) 99 dX12_villagePart_64 (by decide) ?_
      refine J_iload_n (pc := 99) 0 dX12_villagePart_99 rfl ?_
      refine J_if_eq (pc := 100) 116 dX12_villagePart_100 (by decide) h (fun h => ?_) (fun h => ?_)
      · refine J_iconst (pc := 116) (0 : Int32) dX12_villagePart_116 (by decide) ?_
        cases h
        exact J_iret (pc := 117) dX12_villagePart_117 rfl rfl
      · refine J_aload_n (pc := 103) 1 dX12_villagePart_103 rfl ?_
        refine J_bipush (pc := 104) (59 : Int32) dX12_villagePart_104 (by decide) ?_
        obtain ⟨x16, σ14, hc15, h⟩ := cI_t h
        refine J_cVi (pc := 106) (ctX12_wantSign l E o (59 : Int32) ho σ13 hc15) dX12_villagePart_106 mlX12_213 mvX12_wantSign ho rfl (by decide) rfl (Nat.le_of_ble_eq_true rfl) ?_
        refine J_if_eq (pc := 109) 116 dX12_villagePart_109 (by decide) h (fun h => ?_) (fun h => ?_)
        · refine J_iconst (pc := 116) (0 : Int32) dX12_villagePart_116 (by decide) ?_
          cases h
          exact J_iret (pc := 117) dX12_villagePart_117 rfl rfl
        · refine J_iconst (pc := 112) (1 : Int32) dX12_villagePart_112 (by decide) ?_
          refine J_goto (pc := 113) 117 dX12_villagePart_113 (by decide) ?_
          cases h
          exact J_iret (pc := 117) dX12_villagePart_117 rfl rfl
  rw [if_neg hs4] at h
  by_cases hs17 : x3 = (1 : Int32)
  · rw [if_pos hs17] at h
    refine J_tableIn (pc := 6) 67 dX12_villagePart_6 (by rw [hs17]; decide) (by rw [hs17]; decide) (by rw [hs17]; rfl) (by decide) ?_
    refine J_aload_n (pc := 67) 0 dX12_villagePart_67 rfl ?_
    obtain ⟨x20, σ18, hc19, h⟩ := cI_t h
    refine J_cVi (pc := 68) (ctX12_aVane l E o ho σ1 hc19) dX12_villagePart_68 mlX12_207 mvX12_aVane ho rfl (by decide) rfl (Nat.le_of_ble_eq_true rfl) ?_
    refine J_istore_n (pc := 71) (L' := [(1, .int x20), (0, .ref (e_a E o 0))]) dX12_villagePart_71 (by decide) rfl ?_
    refine J_goto (pc := 72) 99 dX12_villagePart_72 (by decide) ?_
    refine J_iload_n (pc := 99) 0 dX12_villagePart_99 rfl ?_
    refine J_if_eq (pc := 100) 116 dX12_villagePart_100 (by decide) h (fun h => ?_) (fun h => ?_)
    · refine J_iconst (pc := 116) (0 : Int32) dX12_villagePart_116 (by decide) ?_
      cases h
      exact J_iret (pc := 117) dX12_villagePart_117 rfl rfl
    · refine J_aload_n (pc := 103) 1 dX12_villagePart_103 rfl ?_
      refine J_bipush (pc := 104) (59 : Int32) dX12_villagePart_104 (by decide) ?_
      obtain ⟨x23, σ21, hc22, h⟩ := cI_t h
      refine J_cVi (pc := 106) (ctX12_wantSign l E o (59 : Int32) ho σ18 hc22) dX12_villagePart_106 mlX12_213 mvX12_wantSign ho rfl (by decide) rfl (Nat.le_of_ble_eq_true rfl) ?_
      refine J_if_eq (pc := 109) 116 dX12_villagePart_109 (by decide) h (fun h => ?_) (fun h => ?_)
      · refine J_iconst (pc := 116) (0 : Int32) dX12_villagePart_116 (by decide) ?_
        cases h
        exact J_iret (pc := 117) dX12_villagePart_117 rfl rfl
      · refine J_iconst (pc := 112) (1 : Int32) dX12_villagePart_112 (by decide) ?_
        refine J_goto (pc := 113) 117 dX12_villagePart_113 (by decide) ?_
        cases h
        exact J_iret (pc := 117) dX12_villagePart_117 rfl rfl
  rw [if_neg hs17] at h
  by_cases hs24 : x3 = (2 : Int32)
  · rw [if_pos hs24] at h
    refine J_tableIn (pc := 6) 75 dX12_villagePart_6 (by rw [hs24]; decide) (by rw [hs24]; decide) (by rw [hs24]; rfl) (by decide) ?_
    refine J_aload_n (pc := 75) 0 dX12_villagePart_75 rfl ?_
    refine J_iconst (pc := 76) (0 : Int32) dX12_villagePart_76 (by decide) ?_
    obtain ⟨x27, σ25, hc26, h⟩ := cI_t h
    refine J_cVi (pc := 77) (ctX12_aShaft l E o (0 : Int32) ho σ1 hc26) dX12_villagePart_77 mlX12_210 mvX12_aShaft ho rfl (by decide) rfl (Nat.le_of_ble_eq_true rfl) ?_
    refine J_istore_n (pc := 80) (L' := [(1, .int x27), (0, .ref (e_a E o 0))]) dX12_villagePart_80 (by decide) rfl ?_
    refine J_goto (pc := 81) 99 dX12_villagePart_81 (by decide) ?_
    refine J_iload_n (pc := 99) 0 dX12_villagePart_99 rfl ?_
    refine J_if_eq (pc := 100) 116 dX12_villagePart_100 (by decide) h (fun h => ?_) (fun h => ?_)
    · refine J_iconst (pc := 116) (0 : Int32) dX12_villagePart_116 (by decide) ?_
      cases h
      exact J_iret (pc := 117) dX12_villagePart_117 rfl rfl
    · refine J_aload_n (pc := 103) 1 dX12_villagePart_103 rfl ?_
      refine J_bipush (pc := 104) (59 : Int32) dX12_villagePart_104 (by decide) ?_
      obtain ⟨x30, σ28, hc29, h⟩ := cI_t h
      refine J_cVi (pc := 106) (ctX12_wantSign l E o (59 : Int32) ho σ25 hc29) dX12_villagePart_106 mlX12_213 mvX12_wantSign ho rfl (by decide) rfl (Nat.le_of_ble_eq_true rfl) ?_
      refine J_if_eq (pc := 109) 116 dX12_villagePart_109 (by decide) h (fun h => ?_) (fun h => ?_)
      · refine J_iconst (pc := 116) (0 : Int32) dX12_villagePart_116 (by decide) ?_
        cases h
        exact J_iret (pc := 117) dX12_villagePart_117 rfl rfl
      · refine J_iconst (pc := 112) (1 : Int32) dX12_villagePart_112 (by decide) ?_
        refine J_goto (pc := 113) 117 dX12_villagePart_113 (by decide) ?_
        cases h
        exact J_iret (pc := 117) dX12_villagePart_117 rfl rfl
  rw [if_neg hs24] at h
  by_cases hs31 : x3 = (3 : Int32)
  · rw [if_pos hs31] at h
    refine J_tableIn (pc := 6) 84 dX12_villagePart_6 (by rw [hs31]; decide) (by rw [hs31]; decide) (by rw [hs31]; rfl) (by decide) ?_
    refine J_aload_n (pc := 84) 0 dX12_villagePart_84 rfl ?_
    refine J_iconst (pc := 85) (1 : Int32) dX12_villagePart_85 (by decide) ?_
    obtain ⟨x34, σ32, hc33, h⟩ := cI_t h
    refine J_cVi (pc := 86) (ctX12_aShaft l E o (1 : Int32) ho σ1 hc33) dX12_villagePart_86 mlX12_210 mvX12_aShaft ho rfl (by decide) rfl (Nat.le_of_ble_eq_true rfl) ?_
    refine J_istore_n (pc := 89) (L' := [(1, .int x34), (0, .ref (e_a E o 0))]) dX12_villagePart_89 (by decide) rfl ?_
    refine J_goto (pc := 90) 99 dX12_villagePart_90 (by decide) ?_
    refine J_iload_n (pc := 99) 0 dX12_villagePart_99 rfl ?_
    refine J_if_eq (pc := 100) 116 dX12_villagePart_100 (by decide) h (fun h => ?_) (fun h => ?_)
    · refine J_iconst (pc := 116) (0 : Int32) dX12_villagePart_116 (by decide) ?_
      cases h
      exact J_iret (pc := 117) dX12_villagePart_117 rfl rfl
    · refine J_aload_n (pc := 103) 1 dX12_villagePart_103 rfl ?_
      refine J_bipush (pc := 104) (59 : Int32) dX12_villagePart_104 (by decide) ?_
      obtain ⟨x37, σ35, hc36, h⟩ := cI_t h
      refine J_cVi (pc := 106) (ctX12_wantSign l E o (59 : Int32) ho σ32 hc36) dX12_villagePart_106 mlX12_213 mvX12_wantSign ho rfl (by decide) rfl (Nat.le_of_ble_eq_true rfl) ?_
      refine J_if_eq (pc := 109) 116 dX12_villagePart_109 (by decide) h (fun h => ?_) (fun h => ?_)
      · refine J_iconst (pc := 116) (0 : Int32) dX12_villagePart_116 (by decide) ?_
        cases h
        exact J_iret (pc := 117) dX12_villagePart_117 rfl rfl
      · refine J_iconst (pc := 112) (1 : Int32) dX12_villagePart_112 (by decide) ?_
        refine J_goto (pc := 113) 117 dX12_villagePart_113 (by decide) ?_
        cases h
        exact J_iret (pc := 117) dX12_villagePart_117 rfl rfl
  rw [if_neg hs31] at h
  refine J_tableOut (pc := 6) 93 dX12_villagePart_6 (by have := ne_i hs4 (k := 0) (by decide); have := ne_i hs17 (k := 1) (by decide); have := ne_i hs24 (k := 2) (by decide); have := ne_i hs31 (k := 3) (by decide); omega) (by decide) ?_
  refine J_aload_n (pc := 93) 0 dX12_villagePart_93 rfl ?_
  refine J_iconst (pc := 94) (2 : Int32) dX12_villagePart_94 (by decide) ?_
  obtain ⟨x40, σ38, hc39, h⟩ := cI_t h
  refine J_cVi (pc := 95) (ctX12_fails l E o (2 : Int32) ho σ1 hc39) dX12_villagePart_95 mlX12_166 mvX12_fails ho rfl (by decide) rfl (Nat.le_of_ble_eq_true rfl) ?_
  obtain ⟨hz41, h⟩ := bz_t h
  cases h
  exact J_iret (pc := 98) dX12_villagePart_98 rfl hz41
def fX12_village_113 (o : Nat) (a1 : Int32) : Nat → Int32 → Mm → Option (Int32 × Mm)
  | 0, _, _ => none
  | n + 1, v3, σ => if (22 : Int32) ≤ v3 then (g_ar σ o 0 2950 (1 : Int32) (fun x20 => c_I (fX12_taken o x20 σ) (fun x23 σ21 => some (x23, σ21)))) else (g_la σ o 1 120 ((88 : Int32) + v3) (fun x24 => s_la σ o 1 120 v3 x24 (fun σ25 => (fX12_village_113 o a1 n) (v3 + (1 : Int32)) σ25)))
set_option maxRecDepth 100000 in
set_option maxHeartbeats 4000000 in
theorem tX12_village_113 (l : Launch) (E : EV) {xr : Int32} {τ : Mm} (o : Nat) (a1 : Int32) (ho : KD o = 12) : ∀ (n : Nat) (v3 : Int32) (σ : Mm), fX12_village_113 o a1 n v3 σ = some (xr, τ) → Jd l E mX12_village 10 (some (.int xr), τ) σ 113 [(0, .ref (e_a E o 0)), (3, .int v3)] [] := by
  intro n
  induction n with
  | zero => intro v3 σ h; rw [fX12_village_113] at h; cases h
  | succ n ih =>
    intro v3 σ h
    rw [fX12_village_113] at h
    refine J_iload_n (pc := 113) 1 dX12_village_113 rfl ?_
    refine J_bipush (pc := 114) (22 : Int32) dX12_village_114 (by decide) ?_
    refine J_icmp_ge (pc := 116) 140 dX12_village_116 (by decide) h (fun h => ?_) (fun h => ?_)
    · refine J_aload_n (pc := 140) 0 dX12_village_140 rfl ?_
      refine J_aload_n (pc := 141) 0 dX12_village_141 rfl ?_
      refine J_getA (pc := 142) dX12_village_142 ho flX12_7 rfl ?_
      refine J_iconst (pc := 145) (1 : Int32) dX12_village_145 (by decide) ?_
      refine J_iald (pc := 146) dX12_village_146 ho ha12_0 h (fun x20 h => ?_)
      obtain ⟨x23, σ21, hc22, h⟩ := cI_t h
      refine J_cVi (pc := 147) (ctX12_taken l E o x20 ho σ hc22) dX12_village_147 mlX12_223 mvX12_taken ho rfl (by decide) rfl (Nat.le_of_ble_eq_true rfl) ?_
      cases h
      exact J_iret (pc := 150) dX12_village_150 rfl rfl
    · refine J_aload_n (pc := 119) 0 dX12_village_119 rfl ?_
      refine J_getA (pc := 120) dX12_village_120 ho flX12_13 rfl ?_
      refine J_iload_n (pc := 123) 1 dX12_village_123 rfl ?_
      refine J_aload_n (pc := 124) 0 dX12_village_124 rfl ?_
      refine J_getA (pc := 125) dX12_village_125 ho flX12_13 rfl ?_
      refine J_bipush (pc := 128) (88 : Int32) dX12_village_128 (by decide) ?_
      refine J_iload_n (pc := 130) 1 dX12_village_130 rfl ?_
      refine J_iadd (pc := 131) dX12_village_131 ?_
      refine J_lald (pc := 132) dX12_village_132 ho ha12_1 h (fun x24 h => ?_)
      refine J_last (pc := 133) dX12_village_133 ho ha12_1 h (fun σ25 h => ?_)
      refine J_iinc (pc := 134) (L' := [(3, .int (v3 + (1 : Int32))), (0, .ref (e_a E o 0))]) 1 (v3 + (1 : Int32)) dX12_village_134 rfl (by rfl) (by decide) rfl ?_
      refine J_goto (pc := 137) 113 dX12_village_137 (by decide) ?_
      refine J_sub (L' := [(0, .ref (e_a E o 0)), (3, .int (v3 + (1 : Int32)))]) [1, 0] rfl ?_
      exact ih (v3 + (1 : Int32)) σ25 h
def fX12_village_82 (o : Nat) (a1 : Int32) : Nat → Int32 → Mm → Option (Int32 × Mm)
  | 0, _, _ => none
  | n + 1, v3, σ => if (490 : Int32) ≤ v3 then (fX12_village_113 o a1 FU (0 : Int32) σ) else (g_ar σ o 0 2950 ((1960 : Int32) + v3) (fun x18 => s_ar σ o 0 2950 v3 x18 (fun σ19 => (fX12_village_82 o a1 n) (v3 + (1 : Int32)) σ19)))
set_option maxRecDepth 100000 in
set_option maxHeartbeats 4000000 in
theorem tX12_village_82 (l : Launch) (E : EV) {xr : Int32} {τ : Mm} (o : Nat) (a1 : Int32) (ho : KD o = 12) : ∀ (n : Nat) (v3 : Int32) (σ : Mm), fX12_village_82 o a1 n v3 σ = some (xr, τ) → Jd l E mX12_village 10 (some (.int xr), τ) σ 82 [(0, .ref (e_a E o 0)), (3, .int v3)] [] := by
  intro n
  induction n with
  | zero => intro v3 σ h; rw [fX12_village_82] at h; cases h
  | succ n ih =>
    intro v3 σ h
    rw [fX12_village_82] at h
    refine J_iload_n (pc := 82) 1 dX12_village_82 rfl ?_
    refine J_sipush (pc := 83) (490 : Int32) dX12_village_83 (by decide) ?_
    refine J_icmp_ge (pc := 86) 111 dX12_village_86 (by decide) h (fun h => ?_) (fun h => ?_)
    · refine J_iconst (pc := 111) (0 : Int32) dX12_village_111 (by decide) ?_
      refine J_istore_n (pc := 112) (L' := [(3, .int (0 : Int32)), (0, .ref (e_a E o 0))]) dX12_village_112 (by decide) rfl ?_
      refine J_sub (L' := [(0, .ref (e_a E o 0)), (3, .int (0 : Int32))]) [1, 0] rfl ?_
      exact tX12_village_113 l E o a1 ho FU (0 : Int32) σ h
    · refine J_aload_n (pc := 89) 0 dX12_village_89 rfl ?_
      refine J_getA (pc := 90) dX12_village_90 ho flX12_7 rfl ?_
      refine J_iload_n (pc := 93) 1 dX12_village_93 rfl ?_
      refine J_aload_n (pc := 94) 0 dX12_village_94 rfl ?_
      refine J_getA (pc := 95) dX12_village_95 ho flX12_7 rfl ?_
      refine J_sipush (pc := 98) (1960 : Int32) dX12_village_98 (by decide) ?_
      refine J_iload_n (pc := 101) 1 dX12_village_101 rfl ?_
      refine J_iadd (pc := 102) dX12_village_102 ?_
      refine J_iald (pc := 103) dX12_village_103 ho ha12_0 h (fun x18 h => ?_)
      refine J_iast (pc := 104) dX12_village_104 ho ha12_0 h (fun σ19 h => ?_)
      refine J_iinc (pc := 105) (L' := [(3, .int (v3 + (1 : Int32))), (0, .ref (e_a E o 0))]) 1 (v3 + (1 : Int32)) dX12_village_105 rfl (by rfl) (by decide) rfl ?_
      refine J_goto (pc := 108) 82 dX12_village_108 (by decide) ?_
      refine J_sub (L' := [(0, .ref (e_a E o 0)), (3, .int (v3 + (1 : Int32)))]) [1, 0] rfl ?_
      exact ih (v3 + (1 : Int32)) σ19 h
def fX12_village_73 (o : Nat) (a1 : Int32) (σ : Mm) : Option (Int32 × Mm) := r_sc σ o 18 (fun x13 => if x13 = 0 then (fX12_village_82 o a1 FU (0 : Int32) σ) else (g_ar σ o 0 2950 (1 : Int32) (fun x14 => c_I (fX12_taken o x14 σ) (fun x17 σ15 => some (x17, σ15)))))
set_option maxRecDepth 100000 in
set_option maxHeartbeats 4000000 in
theorem tX12_village_73 (l : Launch) (E : EV) {xr : Int32} {τ : Mm} (o : Nat) (a1 : Int32) (ho : KD o = 12) (σ : Mm) (h : fX12_village_73 o a1 σ = some (xr, τ)) : Jd l E mX12_village 10 (some (.int xr), τ) σ 73 [(0, .ref (e_a E o 0))] [] := by
  unfold fX12_village_73 at h
  refine J_aload_n (pc := 73) 0 dX12_village_73 rfl ?_
  refine J_getI (pc := 74) dX12_village_74 ho flX12_154 rfl h (fun x13 h => ?_)
  refine J_if_ne (pc := 77) 140 dX12_village_77 (by decide) h (fun h => ?_) (fun h => ?_)
  · refine J_aload_n (pc := 140) 0 dX12_village_140 rfl ?_
    refine J_aload_n (pc := 141) 0 dX12_village_141 rfl ?_
    refine J_getA (pc := 142) dX12_village_142 ho flX12_7 rfl ?_
    refine J_iconst (pc := 145) (1 : Int32) dX12_village_145 (by decide) ?_
    refine J_iald (pc := 146) dX12_village_146 ho ha12_0 h (fun x14 h => ?_)
    obtain ⟨x17, σ15, hc16, h⟩ := cI_t h
    refine J_cVi (pc := 147) (ctX12_taken l E o x14 ho σ hc16) dX12_village_147 mlX12_223 mvX12_taken ho rfl (by decide) rfl (Nat.le_of_ble_eq_true rfl) ?_
    cases h
    exact J_iret (pc := 150) dX12_village_150 rfl rfl
  · refine J_iconst (pc := 80) (0 : Int32) dX12_village_80 (by decide) ?_
    refine J_istore_n (pc := 81) (L' := [(3, .int (0 : Int32)), (0, .ref (e_a E o 0))]) dX12_village_81 (by decide) rfl ?_
    refine J_sub (L' := [(0, .ref (e_a E o 0)), (3, .int (0 : Int32))]) [1, 0] rfl ?_
    exact tX12_village_82 l E o a1 ho FU (0 : Int32) σ h
def fX12_village_54 (o : Nat) (a1 : Int32) : Nat → Int32 → Mm → Option (Int32 × Mm)
  | 0, _, _ => none
  | n + 1, v2, σ => if v2 = 0 then (fX12_village_73 o a1 σ) else (r_sc σ o 12 (fun x9 => if x9 = 0 then (fX12_village_73 o a1 σ) else (c_I (fX12_villagePart o σ) (fun x12 σ10 => (fX12_village_54 o a1 n) x12 σ10))))
set_option maxRecDepth 100000 in
set_option maxHeartbeats 4000000 in
theorem tX12_village_54 (l : Launch) (E : EV) {xr : Int32} {τ : Mm} (o : Nat) (a1 : Int32) (ho : KD o = 12) : ∀ (n : Nat) (v2 : Int32) (σ : Mm), fX12_village_54 o a1 n v2 σ = some (xr, τ) → Jd l E mX12_village 10 (some (.int xr), τ) σ 54 [(0, .ref (e_a E o 0)), (2, .int v2)] [] := by
  intro n
  induction n with
  | zero => intro v2 σ h; rw [fX12_village_54] at h; cases h
  | succ n ih =>
    intro v2 σ h
    rw [fX12_village_54] at h
    refine J_iload_n (pc := 54) 1 dX12_village_54 rfl ?_
    refine J_if_eq (pc := 55) 73 dX12_village_55 (by decide) h (fun h => ?_) (fun h => ?_)
    · refine J_sub (L' := [(0, .ref (e_a E o 0))]) [0] rfl ?_
      exact tX12_village_73 l E o a1 ho σ h
    · refine J_aload_n (pc := 58) 0 dX12_village_58 rfl ?_
      refine J_getI (pc := 59) dX12_village_59 ho flX12_129 rfl h (fun x9 h => ?_)
      refine J_if_eq (pc := 62) 73 dX12_village_62 (by decide) h (fun h => ?_) (fun h => ?_)
      · refine J_sub (L' := [(0, .ref (e_a E o 0))]) [0] rfl ?_
        exact tX12_village_73 l E o a1 ho σ h
      · refine J_aload_n (pc := 65) 0 dX12_village_65 rfl ?_
        obtain ⟨x12, σ10, hc11, h⟩ := cI_t h
        refine J_cVi (pc := 66) (ctX12_villagePart l E o ho σ hc11) dX12_village_66 mlX12_220 mvX12_villagePart ho rfl (by decide) rfl (Nat.le_of_ble_eq_true rfl) ?_
        refine J_istore_n (pc := 69) (L' := [(2, .int x12), (0, .ref (e_a E o 0))]) dX12_village_69 (by decide) rfl ?_
        refine J_goto (pc := 70) 54 dX12_village_70 (by decide) ?_
        refine J_sub (L' := [(0, .ref (e_a E o 0)), (2, .int x12)]) [1, 0] rfl ?_
        exact ih x12 σ10 h
def fX12_village_43 (o : Nat) (a1 : Int32) (σ : Mm) : Option (Int32 × Mm) := s_ar σ o 0 2950 (1966 : Int32) (-1 : Int32) (fun σ8 => fX12_village_54 o a1 FU (1 : Int32) σ8)
set_option maxRecDepth 100000 in
set_option maxHeartbeats 4000000 in
theorem tX12_village_43 (l : Launch) (E : EV) {xr : Int32} {τ : Mm} (o : Nat) (a1 : Int32) (ho : KD o = 12) (σ : Mm) (h : fX12_village_43 o a1 σ = some (xr, τ)) : Jd l E mX12_village 10 (some (.int xr), τ) σ 43 [(0, .ref (e_a E o 0))] [] := by
  unfold fX12_village_43 at h
  refine J_aload_n (pc := 43) 0 dX12_village_43 rfl ?_
  refine J_getA (pc := 44) dX12_village_44 ho flX12_7 rfl ?_
  refine J_sipush (pc := 47) (1966 : Int32) dX12_village_47 (by decide) ?_
  refine J_iconst (pc := 50) (-1 : Int32) dX12_village_50 (by decide) ?_
  refine J_iast (pc := 51) dX12_village_51 ho ha12_0 h (fun σ8 h => ?_)
  refine J_iconst (pc := 52) (1 : Int32) dX12_village_52 (by decide) ?_
  refine J_istore_n (pc := 53) (L' := [(2, .int (1 : Int32)), (0, .ref (e_a E o 0))]) dX12_village_53 (by decide) rfl ?_
  refine J_sub (L' := [(0, .ref (e_a E o 0)), (2, .int (1 : Int32))]) [1, 0] rfl ?_
  exact tX12_village_54 l E o a1 ho FU (1 : Int32) σ8 h
def fX12_village_19 (o : Nat) (a1 : Int32) : Nat → Int32 → Mm → Option (Int32 × Mm)
  | 0, _, _ => none
  | n + 1, v2, σ => if (490 : Int32) ≤ v2 then (fX12_village_43 o a1 σ) else (s_ar σ o 0 2950 ((1960 : Int32) + v2) (0 : Int32) (fun σ7 => (fX12_village_19 o a1 n) (v2 + (1 : Int32)) σ7))
set_option maxRecDepth 100000 in
set_option maxHeartbeats 4000000 in
theorem tX12_village_19 (l : Launch) (E : EV) {xr : Int32} {τ : Mm} (o : Nat) (a1 : Int32) (ho : KD o = 12) : ∀ (n : Nat) (v2 : Int32) (σ : Mm), fX12_village_19 o a1 n v2 σ = some (xr, τ) → Jd l E mX12_village 10 (some (.int xr), τ) σ 19 [(0, .ref (e_a E o 0)), (2, .int v2)] [] := by
  intro n
  induction n with
  | zero => intro v2 σ h; rw [fX12_village_19] at h; cases h
  | succ n ih =>
    intro v2 σ h
    rw [fX12_village_19] at h
    refine J_iload_n (pc := 19) 1 dX12_village_19 rfl ?_
    refine J_sipush (pc := 20) (490 : Int32) dX12_village_20 (by decide) ?_
    refine J_icmp_ge (pc := 23) 43 dX12_village_23 (by decide) h (fun h => ?_) (fun h => ?_)
    · refine J_sub (L' := [(0, .ref (e_a E o 0))]) [0] rfl ?_
      exact tX12_village_43 l E o a1 ho σ h
    · refine J_aload_n (pc := 26) 0 dX12_village_26 rfl ?_
      refine J_getA (pc := 27) dX12_village_27 ho flX12_7 rfl ?_
      refine J_sipush (pc := 30) (1960 : Int32) dX12_village_30 (by decide) ?_
      refine J_iload_n (pc := 33) 1 dX12_village_33 rfl ?_
      refine J_iadd (pc := 34) dX12_village_34 ?_
      refine J_iconst (pc := 35) (0 : Int32) dX12_village_35 (by decide) ?_
      refine J_iast (pc := 36) dX12_village_36 ho ha12_0 h (fun σ7 h => ?_)
      refine J_iinc (pc := 37) (L' := [(2, .int (v2 + (1 : Int32))), (0, .ref (e_a E o 0))]) 1 (v2 + (1 : Int32)) dX12_village_37 rfl (by rfl) (by decide) rfl ?_
      refine J_goto (pc := 40) 19 dX12_village_40 (by decide) ?_
      refine J_sub (L' := [(0, .ref (e_a E o 0)), (2, .int (v2 + (1 : Int32)))]) [1, 0] rfl ?_
      exact ih (v2 + (1 : Int32)) σ7 h
def fX12_village (o : Nat) (a1 : Int32) (σ : Mm) : Option (Int32 × Mm) := c_I (fX12_begins o a1 (900 : Int32) σ) (fun x3 σ1 => if x3 = 0 then (c_I (fX12_refuse o (1 : Int32) σ1) (fun x6 σ4 => some (x6, σ4))) else (fX12_village_19 o a1 FU (0 : Int32) σ1))
set_option maxRecDepth 100000 in
set_option maxHeartbeats 4000000 in
theorem ctX12_village (l : Launch) (E : EV) (o : Nat) (a1 : Int32) (ho : KD o = 12) (σ : Mm) {xr : Int32} {τ : Mm} (h : fX12_village o a1 σ = some (xr, τ)) : Ct l E mX12_village 10 [.ref (e_a E o 0), .int a1] σ (some (.int xr), τ) := by
  refine Ct.of (by decide +kernel) (Nat.le_of_ble_eq_true rfl) ?_
  show Jd l E mX12_village 10 (some (.int xr), τ) σ 0 [(0, .ref (e_a E o 0)), (1, .int a1)] []
  unfold fX12_village at h
  refine J_aload_n (pc := 0) 0 dX12_village_0 rfl ?_
  refine J_iload_n (pc := 1) 1 dX12_village_1 rfl ?_
  refine J_sipush (pc := 2) (900 : Int32) dX12_village_2 (by decide) ?_
  obtain ⟨x3, σ1, hc2, h⟩ := cI_t h
  refine J_cVi (pc := 5) (ctX12_begins l E o a1 (900 : Int32) ho σ hc2) dX12_village_5 mlX12_216 mvX12_begins ho rfl (by decide) rfl (Nat.le_of_ble_eq_true rfl) ?_
  refine J_if_ne (pc := 8) 17 dX12_village_8 (by decide) h (fun h => ?_) (fun h => ?_)
  · refine J_iconst (pc := 17) (0 : Int32) dX12_village_17 (by decide) ?_
    refine J_istore_n (pc := 18) (L' := [(2, .int (0 : Int32)), (0, .ref (e_a E o 0)), (1, .int a1)]) dX12_village_18 (by decide) rfl ?_
    refine J_sub (L' := [(0, .ref (e_a E o 0)), (2, .int (0 : Int32))]) [1, 0] rfl ?_
    exact tX12_village_19 l E o a1 ho FU (0 : Int32) σ1 h
  · refine J_aload_n (pc := 11) 0 dX12_village_11 rfl ?_
    refine J_iconst (pc := 12) (1 : Int32) dX12_village_12 (by decide) ?_
    obtain ⟨x6, σ4, hc5, h⟩ := cI_t h
    refine J_cVi (pc := 13) (ctX12_refuse l E o (1 : Int32) ho σ1 hc5) dX12_village_13 mlX12_83 mvX12_refuse ho rfl (by decide) rfl (Nat.le_of_ble_eq_true rfl) ?_
    cases h
    exact J_iret (pc := 16) dX12_village_16 rfl rfl
def fX12_orderName (o : Nat) (a1 : Int32) (a2 : Int32) (a3 : Int32) (σ : Mm) : Option (Int32 × Mm) := g_ar σ o 0 2950 a2 (fun x1 => c_I (fX12_oldOne o (0 : Int32) x1 a3 σ) (fun x4 σ2 => if x4 = 0 then (some ((0 : Int32), σ2)) else (r_sc σ2 o 20 (fun x5 => s_ar σ2 o 0 2950 a1 x5 (fun σ6 => c_V (fX12_ahead o σ6) (fun σ7 => some ((1 : Int32), σ7)))))))
set_option maxRecDepth 100000 in
set_option maxHeartbeats 4000000 in
theorem ctX12_orderName (l : Launch) (E : EV) (o : Nat) (a1 : Int32) (a2 : Int32) (a3 : Int32) (ho : KD o = 12) (σ : Mm) {xr : Int32} {τ : Mm} (h : fX12_orderName o a1 a2 a3 σ = some (xr, τ)) : Ct l E mX12_orderName 8 [.ref (e_a E o 0), .int a1, .int a2, .int a3] σ (some (.int xr), τ) := by
  refine Ct.of (by decide +kernel) (Nat.le_of_ble_eq_true rfl) ?_
  show Jd l E mX12_orderName 8 (some (.int xr), τ) σ 0 [(0, .ref (e_a E o 0)), (1, .int a1), (2, .int a2), (3, .int a3)] []
  unfold fX12_orderName at h
  refine J_aload_n (pc := 0) 0 dX12_orderName_0 rfl ?_
  refine J_iconst (pc := 1) (0 : Int32) dX12_orderName_1 (by decide) ?_
  refine J_aload_n (pc := 2) 0 dX12_orderName_2 rfl ?_
  refine J_getA (pc := 3) dX12_orderName_3 ho flX12_7 rfl ?_
  refine J_iload_n (pc := 6) 2 dX12_orderName_6 rfl ?_
  refine J_iald (pc := 7) dX12_orderName_7 ho ha12_0 h (fun x1 h => ?_)
  refine J_iload_n (pc := 8) 3 dX12_orderName_8 rfl ?_
  obtain ⟨x4, σ2, hc3, h⟩ := cI_t h
  refine J_cVi (pc := 9) (ctX12_oldOne l E o (0 : Int32) x1 a3 ho σ hc3) dX12_orderName_9 mlX12_204 mvX12_oldOne ho rfl (by decide) rfl (Nat.le_of_ble_eq_true rfl) ?_
  refine J_if_ne (pc := 12) 17 dX12_orderName_12 (by decide) h (fun h => ?_) (fun h => ?_)
  · refine J_aload_n (pc := 17) 0 dX12_orderName_17 rfl ?_
    refine J_getA (pc := 18) dX12_orderName_18 ho flX12_7 rfl ?_
    refine J_iload_n (pc := 21) 1 dX12_orderName_21 rfl ?_
    refine J_aload_n (pc := 22) 0 dX12_orderName_22 rfl ?_
    refine J_getI (pc := 23) dX12_orderName_23 ho flX12_190 rfl h (fun x5 h => ?_)
    refine J_iast (pc := 26) dX12_orderName_26 ho ha12_0 h (fun σ6 h => ?_)
    refine J_aload_n (pc := 27) 0 dX12_orderName_27 rfl ?_
    obtain ⟨σ7, hc8, h⟩ := cV_t h
    refine J_cVv (pc := 28) (ctX12_ahead l E o ho σ6 hc8) dX12_orderName_28 mlX12_160 mvX12_ahead ho rfl (by decide) rfl (Nat.le_of_ble_eq_true rfl) ?_
    refine J_iconst (pc := 31) (1 : Int32) dX12_orderName_31 (by decide) ?_
    cases h
    exact J_iret (pc := 32) dX12_orderName_32 rfl rfl
  · refine J_iconst (pc := 15) (0 : Int32) dX12_orderName_15 (by decide) ?_
    cases h
    exact J_iret (pc := 16) dX12_orderName_16 rfl rfl
def fX12_aTest_25 (o : Nat) (a1 : Int32) (v2 : Int32) (σ : Mm) : Option (Int32 × Mm) := s_ar σ o 0 2950 a1 ((1800 : Int32) + v2) (fun σ8 => c_V (fX12_ahead o σ8) (fun σ9 => c_I (fX12_orderName o (a1 + (1 : Int32)) (1 : Int32) (4 : Int32) σ9) (fun x13 σ11 => if x13 = 0 then (r_sc σ11 o 18 (fun x14 => if x14 = 0 then (some ((1 : Int32), σ11)) else (some ((0 : Int32), σ11)))) else (if v2 = (19 : Int32) then (r_sc σ11 o 18 (fun x52 => if x52 = 0 then (some ((1 : Int32), σ11)) else (some ((0 : Int32), σ11)))) else (c_I (fX12_isSign o (60 : Int32) σ11) (fun x17 σ15 => if x17 = 0 then (c_I (fX12_isSign o (62 : Int32) σ15) (fun x28 σ26 => if x28 = 0 then (c_I (fX12_isSign o (61 : Int32) σ26) (fun x39 σ37 => if x39 = 0 then (c_I (fX12_fails o (2 : Int32) σ37) (fun x50 σ48 => b_z x50 σ48)) else (r_sc σ37 o 15 (fun x40 => s_ar σ37 o 0 2950 (a1 + (5 : Int32)) x40 (fun σ41 => c_V (fX12_ahead o σ41) (fun σ42 => c_I (fX12_number o (a1 + (2 : Int32)) (0 : Int32) (60 : Int32) σ42) (fun x46 σ44 => b_z x46 σ44))))))) else (r_sc σ26 o 15 (fun x29 => s_ar σ26 o 0 2950 (a1 + (5 : Int32)) x29 (fun σ30 => c_V (fX12_ahead o σ30) (fun σ31 => c_I (fX12_number o (a1 + (2 : Int32)) (0 : Int32) (60 : Int32) σ31) (fun x35 σ33 => b_z x35 σ33))))))) else (r_sc σ15 o 15 (fun x18 => s_ar σ15 o 0 2950 (a1 + (5 : Int32)) x18 (fun σ19 => c_V (fX12_ahead o σ19) (fun σ20 => c_I (fX12_number o (a1 + (2 : Int32)) (0 : Int32) (60 : Int32) σ20) (fun x24 σ22 => b_z x24 σ22)))))))))))
set_option maxRecDepth 100000 in
set_option maxHeartbeats 4000000 in
theorem tX12_aTest_25 (l : Launch) (E : EV) {xr : Int32} {τ : Mm} (o : Nat) (a1 : Int32) (ho : KD o = 12) (v2 : Int32) (σ : Mm) (h : fX12_aTest_25 o a1 v2 σ = some (xr, τ)) : Jd l E mX12_aTest 9 (some (.int xr), τ) σ 25 [(0, .ref (e_a E o 0)), (1, .int a1), (2, .int v2)] [] := by
  unfold fX12_aTest_25 at h
  refine J_aload_n (pc := 25) 0 dX12_aTest_25 rfl ?_
  refine J_getA (pc := 26) dX12_aTest_26 ho flX12_7 rfl ?_
  refine J_iload_n (pc := 29) 1 dX12_aTest_29 rfl ?_
  refine J_sipush (pc := 30) (1800 : Int32) dX12_aTest_30 (by decide) ?_
  refine J_iload_n (pc := 33) 2 dX12_aTest_33 rfl ?_
  refine J_iadd (pc := 34) dX12_aTest_34 ?_
  refine J_iast (pc := 35) dX12_aTest_35 ho ha12_0 h (fun σ8 h => ?_)
  refine J_aload_n (pc := 36) 0 dX12_aTest_36 rfl ?_
  obtain ⟨σ9, hc10, h⟩ := cV_t h
  refine J_cVv (pc := 37) (ctX12_ahead l E o ho σ8 hc10) dX12_aTest_37 mlX12_160 mvX12_ahead ho rfl (by decide) rfl (Nat.le_of_ble_eq_true rfl) ?_
  refine J_aload_n (pc := 40) 0 dX12_aTest_40 rfl ?_
  refine J_iload_n (pc := 41) 1 dX12_aTest_41 rfl ?_
  refine J_iconst (pc := 42) (1 : Int32) dX12_aTest_42 (by decide) ?_
  refine J_iadd (pc := 43) dX12_aTest_43 ?_
  refine J_iconst (pc := 44) (1 : Int32) dX12_aTest_44 (by decide) ?_
  refine J_iconst (pc := 45) (4 : Int32) dX12_aTest_45 (by decide) ?_
  obtain ⟨x13, σ11, hc12, h⟩ := cI_t h
  refine J_cVi (pc := 46) (ctX12_orderName l E o (a1 + (1 : Int32)) (1 : Int32) (4 : Int32) ho σ9 hc12) dX12_aTest_46 mlX12_226 mvX12_orderName ho rfl (by decide) rfl (Nat.le_of_ble_eq_true rfl) ?_
  refine J_if_eq (pc := 49) 58 dX12_aTest_49 (by decide) h (fun h => ?_) (fun h => ?_)
  · refine J_aload_n (pc := 58) 0 dX12_aTest_58 rfl ?_
    refine J_getI (pc := 59) dX12_aTest_59 ho flX12_154 rfl h (fun x14 h => ?_)
    refine J_if_ne (pc := 62) 69 dX12_aTest_62 (by decide) h (fun h => ?_) (fun h => ?_)
    · refine J_iconst (pc := 69) (0 : Int32) dX12_aTest_69 (by decide) ?_
      cases h
      exact J_iret (pc := 70) dX12_aTest_70 rfl rfl
    · refine J_iconst (pc := 65) (1 : Int32) dX12_aTest_65 (by decide) ?_
      refine J_goto (pc := 66) 70 dX12_aTest_66 (by decide) ?_
      cases h
      exact J_iret (pc := 70) dX12_aTest_70 rfl rfl
  · refine J_iload_n (pc := 52) 2 dX12_aTest_52 rfl ?_
    refine J_bipush (pc := 53) (19 : Int32) dX12_aTest_53 (by decide) ?_
    refine J_icmp_ne (pc := 55) 71 dX12_aTest_55 (by decide) h (fun h => ?_) (fun h => ?_)
    · refine J_aload_n (pc := 71) 0 dX12_aTest_71 rfl ?_
      refine J_bipush (pc := 72) (60 : Int32) dX12_aTest_72 (by decide) ?_
      obtain ⟨x17, σ15, hc16, h⟩ := cI_t h
      refine J_cVi (pc := 74) (ctX12_isSign l E o (60 : Int32) ho σ11 hc16) dX12_aTest_74 mlX12_163 mvX12_isSign ho rfl (by decide) rfl (Nat.le_of_ble_eq_true rfl) ?_
      refine J_if_ne (pc := 77) 104 dX12_aTest_77 (by decide) h (fun h => ?_) (fun h => ?_)
      · refine J_aload_n (pc := 104) 0 dX12_aTest_104 rfl ?_
        refine J_getA (pc := 105) dX12_aTest_105 ho flX12_7 rfl ?_
        refine J_iload_n (pc := 108) 1 dX12_aTest_108 rfl ?_
        refine J_iconst (pc := 109) (5 : Int32) dX12_aTest_109 (by decide) ?_
        refine J_iadd (pc := 110) dX12_aTest_110 ?_
        refine J_aload_n (pc := 111) 0 dX12_aTest_111 rfl ?_
        refine J_getI (pc := 112) dX12_aTest_112 ho flX12_126 rfl h (fun x18 h => ?_)
        refine J_iast (pc := 115) dX12_aTest_115 ho ha12_0 h (fun σ19 h => ?_)
        refine J_aload_n (pc := 116) 0 dX12_aTest_116 rfl ?_
        obtain ⟨σ20, hc21, h⟩ := cV_t h
        refine J_cVv (pc := 117) (ctX12_ahead l E o ho σ19 hc21) dX12_aTest_117 mlX12_160 mvX12_ahead ho rfl (by decide) rfl (Nat.le_of_ble_eq_true rfl) ?_
        refine J_aload_n (pc := 120) 0 dX12_aTest_120 rfl ?_
        refine J_iload_n (pc := 121) 1 dX12_aTest_121 rfl ?_
        refine J_iconst (pc := 122) (2 : Int32) dX12_aTest_122 (by decide) ?_
        refine J_iadd (pc := 123) dX12_aTest_123 ?_
        refine J_iconst (pc := 124) (0 : Int32) dX12_aTest_124 (by decide) ?_
        refine J_bipush (pc := 125) (60 : Int32) dX12_aTest_125 (by decide) ?_
        obtain ⟨x24, σ22, hc23, h⟩ := cI_t h
        refine J_cVi (pc := 127) (ctX12_number l E o (a1 + (2 : Int32)) (0 : Int32) (60 : Int32) ho σ20 hc23) dX12_aTest_127 mlX12_201 mvX12_number ho rfl (by decide) rfl (Nat.le_of_ble_eq_true rfl) ?_
        obtain ⟨hz25, h⟩ := bz_t h
        cases h
        exact J_iret (pc := 130) dX12_aTest_130 rfl hz25
      · refine J_aload_n (pc := 80) 0 dX12_aTest_80 rfl ?_
        refine J_bipush (pc := 81) (62 : Int32) dX12_aTest_81 (by decide) ?_
        obtain ⟨x28, σ26, hc27, h⟩ := cI_t h
        refine J_cVi (pc := 83) (ctX12_isSign l E o (62 : Int32) ho σ15 hc27) dX12_aTest_83 mlX12_163 mvX12_isSign ho rfl (by decide) rfl (Nat.le_of_ble_eq_true rfl) ?_
        refine J_if_ne (pc := 86) 104 dX12_aTest_86 (by decide) h (fun h => ?_) (fun h => ?_)
        · refine J_aload_n (pc := 104) 0 dX12_aTest_104 rfl ?_
          refine J_getA (pc := 105) dX12_aTest_105 ho flX12_7 rfl ?_
          refine J_iload_n (pc := 108) 1 dX12_aTest_108 rfl ?_
          refine J_iconst (pc := 109) (5 : Int32) dX12_aTest_109 (by decide) ?_
          refine J_iadd (pc := 110) dX12_aTest_110 ?_
          refine J_aload_n (pc := 111) 0 dX12_aTest_111 rfl ?_
          refine J_getI (pc := 112) dX12_aTest_112 ho flX12_126 rfl h (fun x29 h => ?_)
          refine J_iast (pc := 115) dX12_aTest_115 ho ha12_0 h (fun σ30 h => ?_)
          refine J_aload_n (pc := 116) 0 dX12_aTest_116 rfl ?_
          obtain ⟨σ31, hc32, h⟩ := cV_t h
          refine J_cVv (pc := 117) (ctX12_ahead l E o ho σ30 hc32) dX12_aTest_117 mlX12_160 mvX12_ahead ho rfl (by decide) rfl (Nat.le_of_ble_eq_true rfl) ?_
          refine J_aload_n (pc := 120) 0 dX12_aTest_120 rfl ?_
          refine J_iload_n (pc := 121) 1 dX12_aTest_121 rfl ?_
          refine J_iconst (pc := 122) (2 : Int32) dX12_aTest_122 (by decide) ?_
          refine J_iadd (pc := 123) dX12_aTest_123 ?_
          refine J_iconst (pc := 124) (0 : Int32) dX12_aTest_124 (by decide) ?_
          refine J_bipush (pc := 125) (60 : Int32) dX12_aTest_125 (by decide) ?_
          obtain ⟨x35, σ33, hc34, h⟩ := cI_t h
          refine J_cVi (pc := 127) (ctX12_number l E o (a1 + (2 : Int32)) (0 : Int32) (60 : Int32) ho σ31 hc34) dX12_aTest_127 mlX12_201 mvX12_number ho rfl (by decide) rfl (Nat.le_of_ble_eq_true rfl) ?_
          obtain ⟨hz36, h⟩ := bz_t h
          cases h
          exact J_iret (pc := 130) dX12_aTest_130 rfl hz36
        · refine J_aload_n (pc := 89) 0 dX12_aTest_89 rfl ?_
          refine J_bipush (pc := 90) (61 : Int32) dX12_aTest_90 (by decide) ?_
          obtain ⟨x39, σ37, hc38, h⟩ := cI_t h
          refine J_cVi (pc := 92) (ctX12_isSign l E o (61 : Int32) ho σ26 hc38) dX12_aTest_92 mlX12_163 mvX12_isSign ho rfl (by decide) rfl (Nat.le_of_ble_eq_true rfl) ?_
          refine J_if_ne (pc := 95) 104 dX12_aTest_95 (by decide) h (fun h => ?_) (fun h => ?_)
          · refine J_aload_n (pc := 104) 0 dX12_aTest_104 rfl ?_
            refine J_getA (pc := 105) dX12_aTest_105 ho flX12_7 rfl ?_
            refine J_iload_n (pc := 108) 1 dX12_aTest_108 rfl ?_
            refine J_iconst (pc := 109) (5 : Int32) dX12_aTest_109 (by decide) ?_
            refine J_iadd (pc := 110) dX12_aTest_110 ?_
            refine J_aload_n (pc := 111) 0 dX12_aTest_111 rfl ?_
            refine J_getI (pc := 112) dX12_aTest_112 ho flX12_126 rfl h (fun x40 h => ?_)
            refine J_iast (pc := 115) dX12_aTest_115 ho ha12_0 h (fun σ41 h => ?_)
            refine J_aload_n (pc := 116) 0 dX12_aTest_116 rfl ?_
            obtain ⟨σ42, hc43, h⟩ := cV_t h
            refine J_cVv (pc := 117) (ctX12_ahead l E o ho σ41 hc43) dX12_aTest_117 mlX12_160 mvX12_ahead ho rfl (by decide) rfl (Nat.le_of_ble_eq_true rfl) ?_
            refine J_aload_n (pc := 120) 0 dX12_aTest_120 rfl ?_
            refine J_iload_n (pc := 121) 1 dX12_aTest_121 rfl ?_
            refine J_iconst (pc := 122) (2 : Int32) dX12_aTest_122 (by decide) ?_
            refine J_iadd (pc := 123) dX12_aTest_123 ?_
            refine J_iconst (pc := 124) (0 : Int32) dX12_aTest_124 (by decide) ?_
            refine J_bipush (pc := 125) (60 : Int32) dX12_aTest_125 (by decide) ?_
            obtain ⟨x46, σ44, hc45, h⟩ := cI_t h
            refine J_cVi (pc := 127) (ctX12_number l E o (a1 + (2 : Int32)) (0 : Int32) (60 : Int32) ho σ42 hc45) dX12_aTest_127 mlX12_201 mvX12_number ho rfl (by decide) rfl (Nat.le_of_ble_eq_true rfl) ?_
            obtain ⟨hz47, h⟩ := bz_t h
            cases h
            exact J_iret (pc := 130) dX12_aTest_130 rfl hz47
          · refine J_aload_n (pc := 98) 0 dX12_aTest_98 rfl ?_
            refine J_iconst (pc := 99) (2 : Int32) dX12_aTest_99 (by decide) ?_
            obtain ⟨x50, σ48, hc49, h⟩ := cI_t h
            refine J_cVi (pc := 100) (ctX12_fails l E o (2 : Int32) ho σ37 hc49) dX12_aTest_100 mlX12_166 mvX12_fails ho rfl (by decide) rfl (Nat.le_of_ble_eq_true rfl) ?_
            obtain ⟨hz51, h⟩ := bz_t h
            cases h
            exact J_iret (pc := 103) dX12_aTest_103 rfl hz51
    · refine J_aload_n (pc := 58) 0 dX12_aTest_58 rfl ?_
      refine J_getI (pc := 59) dX12_aTest_59 ho flX12_154 rfl h (fun x52 h => ?_)
      refine J_if_ne (pc := 62) 69 dX12_aTest_62 (by decide) h (fun h => ?_) (fun h => ?_)
      · refine J_iconst (pc := 69) (0 : Int32) dX12_aTest_69 (by decide) ?_
        cases h
        exact J_iret (pc := 70) dX12_aTest_70 rfl rfl
      · refine J_iconst (pc := 65) (1 : Int32) dX12_aTest_65 (by decide) ?_
        refine J_goto (pc := 66) 70 dX12_aTest_66 (by decide) ?_
        cases h
        exact J_iret (pc := 70) dX12_aTest_70 rfl rfl
def fX12_aTest (o : Nat) (a1 : Int32) (σ : Mm) : Option (Int32 × Mm) := c_I (fX12_inWords o σ) (fun x3 σ1 => if x3 = (7 : Int32) then (fX12_aTest_25 o a1 x3 σ1) else (if x3 = (19 : Int32) then (fX12_aTest_25 o a1 x3 σ1) else (c_I (fX12_fails o (2 : Int32) σ1) (fun x6 σ4 => b_z x6 σ4))))
set_option maxRecDepth 100000 in
set_option maxHeartbeats 4000000 in
theorem ctX12_aTest (l : Launch) (E : EV) (o : Nat) (a1 : Int32) (ho : KD o = 12) (σ : Mm) {xr : Int32} {τ : Mm} (h : fX12_aTest o a1 σ = some (xr, τ)) : Ct l E mX12_aTest 9 [.ref (e_a E o 0), .int a1] σ (some (.int xr), τ) := by
  refine Ct.of (by decide +kernel) (Nat.le_of_ble_eq_true rfl) ?_
  show Jd l E mX12_aTest 9 (some (.int xr), τ) σ 0 [(0, .ref (e_a E o 0)), (1, .int a1)] []
  unfold fX12_aTest at h
  refine J_aload_n (pc := 0) 0 dX12_aTest_0 rfl ?_
  refine J_ldcS (pc := 1) dX12_aTest_1 rfl rfl ?_
  obtain ⟨x3, σ1, hc2, h⟩ := cI_t h
  refine J_cVi (pc := 3) (ctX12_inWords l E o ho σ hc2) dX12_aTest_3 mlX12_169 mvX12_inWords ho rfl (by decide) rfl (Nat.le_of_ble_eq_true rfl) ?_
  refine J_istore_n (pc := 6) (L' := [(2, .int x3), (0, .ref (e_a E o 0)), (1, .int a1)]) dX12_aTest_6 (by decide) rfl ?_
  refine J_iload_n (pc := 7) 0 dX12_aTest_7 rfl ?_
  refine J_bipush (pc := 8) (7 : Int32) dX12_aTest_8 (by decide) ?_
  refine J_icmp_eq (pc := 10) 25 dX12_aTest_10 (by decide) h (fun h => ?_) (fun h => ?_)
  · refine J_sub (L' := [(0, .ref (e_a E o 0)), (1, .int a1), (2, .int x3)]) [1, 2, 0] rfl ?_
    exact tX12_aTest_25 l E o a1 ho x3 σ1 h
  · refine J_iload_n (pc := 13) 0 dX12_aTest_13 rfl ?_
    refine J_bipush (pc := 14) (19 : Int32) dX12_aTest_14 (by decide) ?_
    refine J_icmp_eq (pc := 16) 25 dX12_aTest_16 (by decide) h (fun h => ?_) (fun h => ?_)
    · refine J_sub (L' := [(0, .ref (e_a E o 0)), (1, .int a1), (2, .int x3)]) [1, 2, 0] rfl ?_
      exact tX12_aTest_25 l E o a1 ho x3 σ1 h
    · refine J_aload_n (pc := 19) 1 dX12_aTest_19 rfl ?_
      refine J_iconst (pc := 20) (2 : Int32) dX12_aTest_20 (by decide) ?_
      obtain ⟨x6, σ4, hc5, h⟩ := cI_t h
      refine J_cVi (pc := 21) (ctX12_fails l E o (2 : Int32) ho σ1 hc5) dX12_aTest_21 mlX12_166 mvX12_fails ho rfl (by decide) rfl (Nat.le_of_ble_eq_true rfl) ?_
      obtain ⟨hz7, h⟩ := bz_t h
      cases h
      exact J_iret (pc := 24) dX12_aTest_24 rfl hz7
def fX12_order (o : Nat) (a1 : Int32) (a2 : Int32) (σ : Mm) : Option (Int32 × Mm) := if a1 = (10 : Int32) then (c_I (fX12_orderName o (a2 + (1 : Int32)) (0 : Int32) (0 : Int32) σ) (fun x4 σ2 => if x4 = 0 then (some ((0 : Int32), σ2)) else (c_I (fX12_number o (a2 + (2 : Int32)) (0 : Int32) (15 : Int32) σ2) (fun x7 σ5 => if x7 = 0 then (some ((0 : Int32), σ5)) else (c_I (fX12_number o (a2 + (3 : Int32)) (0 : Int32) (99 : Int32) σ5) (fun x10 σ8 => if x10 = 0 then (some ((0 : Int32), σ8)) else (some ((1 : Int32), σ8)))))))) else if a1 = (11 : Int32) then (c_I (fX12_number o (a2 + (1 : Int32)) (0 : Int32) (99 : Int32) σ) (fun x14 σ12 => b_z x14 σ12)) else if a1 = (12 : Int32) then (c_I (fX12_number o (a2 + (1 : Int32)) (1 : Int32) (99 : Int32) σ) (fun x19 σ17 => b_z x19 σ17)) else if a1 = (13 : Int32) then (c_I (fX12_orderName o (a2 + (1 : Int32)) (2 : Int32) (12 : Int32) σ) (fun x24 σ22 => b_z x24 σ22)) else if a1 = (14 : Int32) then (c_I (fX12_orderName o (a2 + (1 : Int32)) (2 : Int32) (12 : Int32) σ) (fun x29 σ27 => b_z x29 σ27)) else if a1 = (15 : Int32) then (c_I (fX12_orderName o (a2 + (1 : Int32)) (1 : Int32) (4 : Int32) σ) (fun x34 σ32 => b_z x34 σ32)) else if a1 = (16 : Int32) then (c_I (fX12_orderName o (a2 + (1 : Int32)) (1 : Int32) (4 : Int32) σ) (fun x39 σ37 => b_z x39 σ37)) else if a1 = (17 : Int32) then (c_I (fX12_orderName o (a2 + (1 : Int32)) (1 : Int32) (4 : Int32) σ) (fun x44 σ42 => if x44 = 0 then (some ((0 : Int32), σ42)) else (c_I (fX12_number o (a2 + (2 : Int32)) (1 : Int32) (99 : Int32) σ42) (fun x47 σ45 => if x47 = 0 then (some ((0 : Int32), σ45)) else (some ((1 : Int32), σ45)))))) else if a1 = (18 : Int32) then (c_I (fX12_aTest o a2 σ) (fun x51 σ49 => b_z x51 σ49)) else if a1 = (20 : Int32) then (c_I (fX12_number o (a2 + (1 : Int32)) (1 : Int32) (99 : Int32) σ) (fun x56 σ54 => b_z x56 σ54)) else (some ((1 : Int32), σ))
set_option maxRecDepth 100000 in
set_option maxHeartbeats 4000000 in
theorem ctX12_order (l : Launch) (E : EV) (o : Nat) (a1 : Int32) (a2 : Int32) (ho : KD o = 12) (σ : Mm) {xr : Int32} {τ : Mm} (h : fX12_order o a1 a2 σ = some (xr, τ)) : Ct l E mX12_order 10 [.ref (e_a E o 0), .int a1, .int a2] σ (some (.int xr), τ) := by
  refine Ct.of (by decide +kernel) (Nat.le_of_ble_eq_true rfl) ?_
  show Jd l E mX12_order 10 (some (.int xr), τ) σ 0 [(0, .ref (e_a E o 0)), (1, .int a1), (2, .int a2)] []
  unfold fX12_order at h
  refine J_iload_n (pc := 0) 1 dX12_order_0 rfl ?_
  by_cases hs1 : a1 = (10 : Int32)
  · rw [if_pos hs1] at h
    refine J_tableIn (pc := 1) 60 dX12_order_1 (by rw [hs1]; decide) (by rw [hs1]; decide) (by rw [hs1]; rfl) (by decide) ?_
    refine J_aload_n (pc := 60) 0 dX12_order_60 rfl ?_
    refine J_iload_n (pc := 61) 2 dX12_order_61 rfl ?_
    refine J_iconst (pc := 62) (1 : Int32) dX12_order_62 (by decide) ?_
    refine J_iadd (pc := 63) dX12_order_63 ?_
    refine J_iconst (pc := 64) (0 : Int32) dX12_order_64 (by decide) ?_
    refine J_iconst (pc := 65) (0 : Int32) dX12_order_65 (by decide) ?_
    obtain ⟨x4, σ2, hc3, h⟩ := cI_t h
    refine J_cVi (pc := 66) (ctX12_orderName l E o (a2 + (1 : Int32)) (0 : Int32) (0 : Int32) ho σ hc3) dX12_order_66 mlX12_226 mvX12_orderName ho rfl (by decide) rfl (Nat.le_of_ble_eq_true rfl) ?_
    refine J_if_eq (pc := 69) 102 dX12_order_69 (by decide) h (fun h => ?_) (fun h => ?_)
    · refine J_iconst (pc := 102) (0 : Int32) dX12_order_102 (by decide) ?_
      cases h
      exact J_iret (pc := 103) dX12_order_103 rfl rfl
    · refine J_aload_n (pc := 72) 0 dX12_order_72 rfl ?_
      refine J_iload_n (pc := 73) 2 dX12_order_73 rfl ?_
      refine J_iconst (pc := 74) (2 : Int32) dX12_order_74 (by decide) ?_
      refine J_iadd (pc := 75) dX12_order_75 ?_
      refine J_iconst (pc := 76) (0 : Int32) dX12_order_76 (by decide) ?_
      refine J_bipush (pc := 77) (15 : Int32) dX12_order_77 (by decide) ?_
      obtain ⟨x7, σ5, hc6, h⟩ := cI_t h
      refine J_cVi (pc := 79) (ctX12_number l E o (a2 + (2 : Int32)) (0 : Int32) (15 : Int32) ho σ2 hc6) dX12_order_79 mlX12_201 mvX12_number ho rfl (by decide) rfl (Nat.le_of_ble_eq_true rfl) ?_
      refine J_if_eq (pc := 82) 102 dX12_order_82 (by decide) h (fun h => ?_) (fun h => ?_)
      · refine J_iconst (pc := 102) (0 : Int32) dX12_order_102 (by decide) ?_
        cases h
        exact J_iret (pc := 103) dX12_order_103 rfl rfl
      · refine J_aload_n (pc := 85) 0 dX12_order_85 rfl ?_
        refine J_iload_n (pc := 86) 2 dX12_order_86 rfl ?_
        refine J_iconst (pc := 87) (3 : Int32) dX12_order_87 (by decide) ?_
        refine J_iadd (pc := 88) dX12_order_88 ?_
        refine J_iconst (pc := 89) (0 : Int32) dX12_order_89 (by decide) ?_
        refine J_bipush (pc := 90) (99 : Int32) dX12_order_90 (by decide) ?_
        obtain ⟨x10, σ8, hc9, h⟩ := cI_t h
        refine J_cVi (pc := 92) (ctX12_number l E o (a2 + (3 : Int32)) (0 : Int32) (99 : Int32) ho σ5 hc9) dX12_order_92 mlX12_201 mvX12_number ho rfl (by decide) rfl (Nat.le_of_ble_eq_true rfl) ?_
        refine J_if_eq (pc := 95) 102 dX12_order_95 (by decide) h (fun h => ?_) (fun h => ?_)
        · refine J_iconst (pc := 102) (0 : Int32) dX12_order_102 (by decide) ?_
          cases h
          exact J_iret (pc := 103) dX12_order_103 rfl rfl
        · refine J_iconst (pc := 98) (1 : Int32) dX12_order_98 (by decide) ?_
          refine J_goto (pc := 99) 103 dX12_order_99 (by decide) ?_
          cases h
          exact J_iret (pc := 103) dX12_order_103 rfl rfl
  rw [if_neg hs1] at h
  by_cases hs11 : a1 = (11 : Int32)
  · rw [if_pos hs11] at h
    refine J_tableIn (pc := 1) 104 dX12_order_1 (by rw [hs11]; decide) (by rw [hs11]; decide) (by rw [hs11]; rfl) (by decide) ?_
    refine J_aload_n (pc := 104) 0 dX12_order_104 rfl ?_
    refine J_iload_n (pc := 105) 2 dX12_order_105 rfl ?_
    refine J_iconst (pc := 106) (1 : Int32) dX12_order_106 (by decide) ?_
    refine J_iadd (pc := 107) dX12_order_107 ?_
    refine J_iconst (pc := 108) (0 : Int32) dX12_order_108 (by decide) ?_
    refine J_bipush (pc := 109) (99 : Int32) dX12_order_109 (by decide) ?_
    obtain ⟨x14, σ12, hc13, h⟩ := cI_t h
    refine J_cVi (pc := 111) (ctX12_number l E o (a2 + (1 : Int32)) (0 : Int32) (99 : Int32) ho σ hc13) dX12_order_111 mlX12_201 mvX12_number ho rfl (by decide) rfl (Nat.le_of_ble_eq_true rfl) ?_
    obtain ⟨hz15, h⟩ := bz_t h
    cases h
    exact J_iret (pc := 114) dX12_order_114 rfl hz15
  rw [if_neg hs11] at h
  by_cases hs16 : a1 = (12 : Int32)
  · rw [if_pos hs16] at h
    refine J_tableIn (pc := 1) 115 dX12_order_1 (by rw [hs16]; decide) (by rw [hs16]; decide) (by rw [hs16]; rfl) (by decide) ?_
    refine J_aload_n (pc := 115) 0 dX12_order_115 rfl ?_
    refine J_iload_n (pc := 116) 2 dX12_order_116 rfl ?_
    refine J_iconst (pc := 117) (1 : Int32) dX12_order_117 (by decide) ?_
    refine J_iadd (pc := 118) dX12_order_118 ?_
    refine J_iconst (pc := 119) (1 : Int32) dX12_order_119 (by decide) ?_
    refine J_bipush (pc := 120) (99 : Int32) dX12_order_120 (by decide) ?_
    obtain ⟨x19, σ17, hc18, h⟩ := cI_t h
    refine J_cVi (pc := 122) (ctX12_number l E o (a2 + (1 : Int32)) (1 : Int32) (99 : Int32) ho σ hc18) dX12_order_122 mlX12_201 mvX12_number ho rfl (by decide) rfl (Nat.le_of_ble_eq_true rfl) ?_
    obtain ⟨hz20, h⟩ := bz_t h
    cases h
    exact J_iret (pc := 125) dX12_order_125 rfl hz20
  rw [if_neg hs16] at h
  by_cases hs21 : a1 = (13 : Int32)
  · rw [if_pos hs21] at h
    refine J_tableIn (pc := 1) 126 dX12_order_1 (by rw [hs21]; decide) (by rw [hs21]; decide) (by rw [hs21]; rfl) (by decide) ?_
    refine J_aload_n (pc := 126) 0 dX12_order_126 rfl ?_
    refine J_iload_n (pc := 127) 2 dX12_order_127 rfl ?_
    refine J_iconst (pc := 128) (1 : Int32) dX12_order_128 (by decide) ?_
    refine J_iadd (pc := 129) dX12_order_129 ?_
    refine J_iconst (pc := 130) (2 : Int32) dX12_order_130 (by decide) ?_
    refine J_bipush (pc := 131) (12 : Int32) dX12_order_131 (by decide) ?_
    obtain ⟨x24, σ22, hc23, h⟩ := cI_t h
    refine J_cVi (pc := 133) (ctX12_orderName l E o (a2 + (1 : Int32)) (2 : Int32) (12 : Int32) ho σ hc23) dX12_order_133 mlX12_226 mvX12_orderName ho rfl (by decide) rfl (Nat.le_of_ble_eq_true rfl) ?_
    obtain ⟨hz25, h⟩ := bz_t h
    cases h
    exact J_iret (pc := 136) dX12_order_136 rfl hz25
  rw [if_neg hs21] at h
  by_cases hs26 : a1 = (14 : Int32)
  · rw [if_pos hs26] at h
    refine J_tableIn (pc := 1) 126 dX12_order_1 (by rw [hs26]; decide) (by rw [hs26]; decide) (by rw [hs26]; rfl) (by decide) ?_
    refine J_aload_n (pc := 126) 0 dX12_order_126 rfl ?_
    refine J_iload_n (pc := 127) 2 dX12_order_127 rfl ?_
    refine J_iconst (pc := 128) (1 : Int32) dX12_order_128 (by decide) ?_
    refine J_iadd (pc := 129) dX12_order_129 ?_
    refine J_iconst (pc := 130) (2 : Int32) dX12_order_130 (by decide) ?_
    refine J_bipush (pc := 131) (12 : Int32) dX12_order_131 (by decide) ?_
    obtain ⟨x29, σ27, hc28, h⟩ := cI_t h
    refine J_cVi (pc := 133) (ctX12_orderName l E o (a2 + (1 : Int32)) (2 : Int32) (12 : Int32) ho σ hc28) dX12_order_133 mlX12_226 mvX12_orderName ho rfl (by decide) rfl (Nat.le_of_ble_eq_true rfl) ?_
    obtain ⟨hz30, h⟩ := bz_t h
    cases h
    exact J_iret (pc := 136) dX12_order_136 rfl hz30
  rw [if_neg hs26] at h
  by_cases hs31 : a1 = (15 : Int32)
  · rw [if_pos hs31] at h
    refine J_tableIn (pc := 1) 137 dX12_order_1 (by rw [hs31]; decide) (by rw [hs31]; decide) (by rw [hs31]; rfl) (by decide) ?_
    refine J_aload_n (pc := 137) 0 dX12_order_137 rfl ?_
    refine J_iload_n (pc := 138) 2 dX12_order_138 rfl ?_
    refine J_iconst (pc := 139) (1 : Int32) dX12_order_139 (by decide) ?_
    refine J_iadd (pc := 140) dX12_order_140 ?_
    refine J_iconst (pc := 141) (1 : Int32) dX12_order_141 (by decide) ?_
    refine J_iconst (pc := 142) (4 : Int32) dX12_order_142 (by decide) ?_
    obtain ⟨x34, σ32, hc33, h⟩ := cI_t h
    refine J_cVi (pc := 143) (ctX12_orderName l E o (a2 + (1 : Int32)) (1 : Int32) (4 : Int32) ho σ hc33) dX12_order_143 mlX12_226 mvX12_orderName ho rfl (by decide) rfl (Nat.le_of_ble_eq_true rfl) ?_
    obtain ⟨hz35, h⟩ := bz_t h
    cases h
    exact J_iret (pc := 146) dX12_order_146 rfl hz35
  rw [if_neg hs31] at h
  by_cases hs36 : a1 = (16 : Int32)
  · rw [if_pos hs36] at h
    refine J_tableIn (pc := 1) 137 dX12_order_1 (by rw [hs36]; decide) (by rw [hs36]; decide) (by rw [hs36]; rfl) (by decide) ?_
    refine J_aload_n (pc := 137) 0 dX12_order_137 rfl ?_
    refine J_iload_n (pc := 138) 2 dX12_order_138 rfl ?_
    refine J_iconst (pc := 139) (1 : Int32) dX12_order_139 (by decide) ?_
    refine J_iadd (pc := 140) dX12_order_140 ?_
    refine J_iconst (pc := 141) (1 : Int32) dX12_order_141 (by decide) ?_
    refine J_iconst (pc := 142) (4 : Int32) dX12_order_142 (by decide) ?_
    obtain ⟨x39, σ37, hc38, h⟩ := cI_t h
    refine J_cVi (pc := 143) (ctX12_orderName l E o (a2 + (1 : Int32)) (1 : Int32) (4 : Int32) ho σ hc38) dX12_order_143 mlX12_226 mvX12_orderName ho rfl (by decide) rfl (Nat.le_of_ble_eq_true rfl) ?_
    obtain ⟨hz40, h⟩ := bz_t h
    cases h
    exact J_iret (pc := 146) dX12_order_146 rfl hz40
  rw [if_neg hs36] at h
  by_cases hs41 : a1 = (17 : Int32)
  · rw [if_pos hs41] at h
    refine J_tableIn (pc := 1) 147 dX12_order_1 (by rw [hs41]; decide) (by rw [hs41]; decide) (by rw [hs41]; rfl) (by decide) ?_
    refine J_aload_n (pc := 147) 0 dX12_order_147 rfl ?_
    refine J_iload_n (pc := 148) 2 dX12_order_148 rfl ?_
    refine J_iconst (pc := 149) (1 : Int32) dX12_order_149 (by decide) ?_
    refine J_iadd (pc := 150) dX12_order_150 ?_
    refine J_iconst (pc := 151) (1 : Int32) dX12_order_151 (by decide) ?_
    refine J_iconst (pc := 152) (4 : Int32) dX12_order_152 (by decide) ?_
    obtain ⟨x44, σ42, hc43, h⟩ := cI_t h
    refine J_cVi (pc := 153) (ctX12_orderName l E o (a2 + (1 : Int32)) (1 : Int32) (4 : Int32) ho σ hc43) dX12_order_153 mlX12_226 mvX12_orderName ho rfl (by decide) rfl (Nat.le_of_ble_eq_true rfl) ?_
    refine J_if_eq (pc := 156) 176 dX12_order_156 (by decide) h (fun h => ?_) (fun h => ?_)
    · refine J_iconst (pc := 176) (0 : Int32) dX12_order_176 (by decide) ?_
      cases h
      exact J_iret (pc := 177) dX12_order_177 rfl rfl
    · refine J_aload_n (pc := 159) 0 dX12_order_159 rfl ?_
      refine J_iload_n (pc := 160) 2 dX12_order_160 rfl ?_
      refine J_iconst (pc := 161) (2 : Int32) dX12_order_161 (by decide) ?_
      refine J_iadd (pc := 162) dX12_order_162 ?_
      refine J_iconst (pc := 163) (1 : Int32) dX12_order_163 (by decide) ?_
      refine J_bipush (pc := 164) (99 : Int32) dX12_order_164 (by decide) ?_
      obtain ⟨x47, σ45, hc46, h⟩ := cI_t h
      refine J_cVi (pc := 166) (ctX12_number l E o (a2 + (2 : Int32)) (1 : Int32) (99 : Int32) ho σ42 hc46) dX12_order_166 mlX12_201 mvX12_number ho rfl (by decide) rfl (Nat.le_of_ble_eq_true rfl) ?_
      refine J_if_eq (pc := 169) 176 dX12_order_169 (by decide) h (fun h => ?_) (fun h => ?_)
      · refine J_iconst (pc := 176) (0 : Int32) dX12_order_176 (by decide) ?_
        cases h
        exact J_iret (pc := 177) dX12_order_177 rfl rfl
      · refine J_iconst (pc := 172) (1 : Int32) dX12_order_172 (by decide) ?_
        refine J_goto (pc := 173) 177 dX12_order_173 (by decide) ?_
        cases h
        exact J_iret (pc := 177) dX12_order_177 rfl rfl
  rw [if_neg hs41] at h
  by_cases hs48 : a1 = (18 : Int32)
  · rw [if_pos hs48] at h
    refine J_tableIn (pc := 1) 178 dX12_order_1 (by rw [hs48]; decide) (by rw [hs48]; decide) (by rw [hs48]; rfl) (by decide) ?_
    refine J_aload_n (pc := 178) 0 dX12_order_178 rfl ?_
    refine J_iload_n (pc := 179) 2 dX12_order_179 rfl ?_
    obtain ⟨x51, σ49, hc50, h⟩ := cI_t h
    refine J_cVi (pc := 180) (ctX12_aTest l E o a2 ho σ hc50) dX12_order_180 mlX12_229 mvX12_aTest ho rfl (by decide) rfl (Nat.le_of_ble_eq_true rfl) ?_
    obtain ⟨hz52, h⟩ := bz_t h
    cases h
    exact J_iret (pc := 183) dX12_order_183 rfl hz52
  rw [if_neg hs48] at h
  by_cases hs53 : a1 = (20 : Int32)
  · rw [if_pos hs53] at h
    refine J_tableIn (pc := 1) 115 dX12_order_1 (by rw [hs53]; decide) (by rw [hs53]; decide) (by rw [hs53]; rfl) (by decide) ?_
    refine J_aload_n (pc := 115) 0 dX12_order_115 rfl ?_
    refine J_iload_n (pc := 116) 2 dX12_order_116 rfl ?_
    refine J_iconst (pc := 117) (1 : Int32) dX12_order_117 (by decide) ?_
    refine J_iadd (pc := 118) dX12_order_118 ?_
    refine J_iconst (pc := 119) (1 : Int32) dX12_order_119 (by decide) ?_
    refine J_bipush (pc := 120) (99 : Int32) dX12_order_120 (by decide) ?_
    obtain ⟨x56, σ54, hc55, h⟩ := cI_t h
    refine J_cVi (pc := 122) (ctX12_number l E o (a2 + (1 : Int32)) (1 : Int32) (99 : Int32) ho σ hc55) dX12_order_122 mlX12_201 mvX12_number ho rfl (by decide) rfl (Nat.le_of_ble_eq_true rfl) ?_
    obtain ⟨hz57, h⟩ := bz_t h
    cases h
    exact J_iret (pc := 125) dX12_order_125 rfl hz57
  rw [if_neg hs53] at h
  refine J_tableD (pc := 1) 184 dX12_order_1 (by decide) (fun h1 h2 => by have := ne_i hs1 (k := 10) (by decide); have := ne_i hs11 (k := 11) (by decide); have := ne_i hs16 (k := 12) (by decide); have := ne_i hs21 (k := 13) (by decide); have := ne_i hs26 (k := 14) (by decide); have := ne_i hs31 (k := 15) (by decide); have := ne_i hs36 (k := 16) (by decide); have := ne_i hs41 (k := 17) (by decide); have := ne_i hs48 (k := 18) (by decide); have := ne_i hs53 (k := 20) (by decide); rw [show a1.toInt = 19 by omega]; rfl) ?_
  refine J_iconst (pc := 184) (1 : Int32) dX12_order_184 (by decide) ?_
  cases h
  exact J_iret (pc := 185) dX12_order_185 rfl rfl
def fX12_step_246 (o : Nat) (v1 : Int32) (v2 : Int32) (v3 : Int32) (σ : Mm) : Option (Int32 × Mm) := if v1 = (21 : Int32) then (r_sc σ o 22 (fun x77 => p_sc σ o 22 (x77 - (1 : Int32)) (fun σ78 => r_sc σ78 o 22 (fun x79 => g_ar σ78 o 7 3 x79 (fun x80 => s_ar σ78 o 0 2950 (v3 + (4 : Int32)) x80 (fun σ81 => r_sc σ81 o 22 (fun x82 => g_ar σ81 o 7 3 x82 (fun x83 => s_ar σ81 o 0 2950 (((2080 : Int32) + ((6 : Int32) * x83)) + (4 : Int32)) v2 (fun σ84 => c_I (fX12_wantSign o (59 : Int32) σ84) (fun x87 σ85 => b_z x87 σ85)))))))))) else (c_I (fX12_wantSign o (59 : Int32) σ) (fun x75 σ73 => b_z x75 σ73))
set_option maxRecDepth 100000 in
set_option maxHeartbeats 4000000 in
theorem tX12_step_246 (l : Launch) (E : EV) {xr : Int32} {τ : Mm} (o : Nat) (ho : KD o = 12) (v1 : Int32) (v2 : Int32) (v3 : Int32) (σ : Mm) (h : fX12_step_246 o v1 v2 v3 σ = some (xr, τ)) : Jd l E mX12_step 11 (some (.int xr), τ) σ 246 [(0, .ref (e_a E o 0)), (1, .int v1), (2, .int v2), (3, .int v3)] [] := by
  unfold fX12_step_246 at h
  refine J_iload_n (pc := 246) 1 dX12_step_246 rfl ?_
  refine J_bipush (pc := 247) (21 : Int32) dX12_step_247 (by decide) ?_
  refine J_icmp_ne (pc := 249) 303 dX12_step_249 (by decide) h (fun h => ?_) (fun h => ?_)
  · refine J_aload_n (pc := 303) 0 dX12_step_303 rfl ?_
    refine J_bipush (pc := 304) (59 : Int32) dX12_step_304 (by decide) ?_
    obtain ⟨x75, σ73, hc74, h⟩ := cI_t h
    refine J_cVi (pc := 306) (ctX12_wantSign l E o (59 : Int32) ho σ hc74) dX12_step_306 mlX12_213 mvX12_wantSign ho rfl (by decide) rfl (Nat.le_of_ble_eq_true rfl) ?_
    obtain ⟨hz76, h⟩ := bz_t h
    cases h
    exact J_iret (pc := 309) dX12_step_309 rfl hz76
  · refine J_aload_n (pc := 252) 0 dX12_step_252 rfl ?_
    refine J_dup (pc := 253) dX12_step_253 rfl ?_
    refine J_getI (pc := 254) dX12_step_254 ho flX12_232 rfl h (fun x77 h => ?_)
    refine J_iconst (pc := 257) (1 : Int32) dX12_step_257 (by decide) ?_
    refine J_isub (pc := 258) dX12_step_258 ?_
    refine J_putI (pc := 259) dX12_step_259 ho flX12_232 rfl h (fun σ78 h => ?_)
    refine J_aload_n (pc := 262) 0 dX12_step_262 rfl ?_
    refine J_getA (pc := 263) dX12_step_263 ho flX12_7 rfl ?_
    refine J_iload_n (pc := 266) 3 dX12_step_266 rfl ?_
    refine J_iconst (pc := 267) (4 : Int32) dX12_step_267 (by decide) ?_
    refine J_iadd (pc := 268) dX12_step_268 ?_
    refine J_aload_n (pc := 269) 0 dX12_step_269 rfl ?_
    refine J_getA (pc := 270) dX12_step_270 ho flX12_44 rfl ?_
    refine J_aload_n (pc := 273) 0 dX12_step_273 rfl ?_
    refine J_getI (pc := 274) dX12_step_274 ho flX12_232 rfl h (fun x79 h => ?_)
    refine J_iald (pc := 277) dX12_step_277 ho ha12_7 h (fun x80 h => ?_)
    refine J_iast (pc := 278) dX12_step_278 ho ha12_0 h (fun σ81 h => ?_)
    refine J_aload_n (pc := 279) 0 dX12_step_279 rfl ?_
    refine J_getA (pc := 280) dX12_step_280 ho flX12_7 rfl ?_
    refine J_sipush (pc := 283) (2080 : Int32) dX12_step_283 (by decide) ?_
    refine J_bipush (pc := 286) (6 : Int32) dX12_step_286 (by decide) ?_
    refine J_aload_n (pc := 288) 0 dX12_step_288 rfl ?_
    refine J_getA (pc := 289) dX12_step_289 ho flX12_44 rfl ?_
    refine J_aload_n (pc := 292) 0 dX12_step_292 rfl ?_
    refine J_getI (pc := 293) dX12_step_293 ho flX12_232 rfl h (fun x82 h => ?_)
    refine J_iald (pc := 296) dX12_step_296 ho ha12_7 h (fun x83 h => ?_)
    refine J_imul (pc := 297) dX12_step_297 ?_
    refine J_iadd (pc := 298) dX12_step_298 ?_
    refine J_iconst (pc := 299) (4 : Int32) dX12_step_299 (by decide) ?_
    refine J_iadd (pc := 300) dX12_step_300 ?_
    refine J_iload_n (pc := 301) 2 dX12_step_301 rfl ?_
    refine J_iast (pc := 302) dX12_step_302 ho ha12_0 h (fun σ84 h => ?_)
    refine J_aload_n (pc := 303) 0 dX12_step_303 rfl ?_
    refine J_bipush (pc := 304) (59 : Int32) dX12_step_304 (by decide) ?_
    obtain ⟨x87, σ85, hc86, h⟩ := cI_t h
    refine J_cVi (pc := 306) (ctX12_wantSign l E o (59 : Int32) ho σ84 hc86) dX12_step_306 mlX12_213 mvX12_wantSign ho rfl (by decide) rfl (Nat.le_of_ble_eq_true rfl) ?_
    obtain ⟨hz88, h⟩ := bz_t h
    cases h
    exact J_iret (pc := 309) dX12_step_309 rfl hz88
def fX12_step_194 (o : Nat) (v1 : Int32) (v2 : Int32) (v3 : Int32) (v4 : Int32) (σ : Mm) : Option (Int32 × Mm) := g_ar σ o 0 2950 (1966 : Int32) (fun x62 => s_ar σ o 0 2950 (1966 : Int32) (x62 + (1 : Int32)) (fun σ63 => c_V (fX12_ahead o σ63) (fun σ64 => c_I (fX12_order o v1 v3 σ64) (fun x68 σ66 => if x68 = 0 then (some ((0 : Int32), σ66)) else (if v4 = 0 then (fX12_step_246 o v1 v2 v3 σ66) else (r_sc σ66 o 22 (fun x69 => s_ar σ66 o 7 3 x69 v2 (fun σ70 => r_sc σ70 o 22 (fun x71 => p_sc σ70 o 22 (x71 + (1 : Int32)) (fun σ72 => fX12_step_246 o v1 v2 v3 σ72))))))))))
set_option maxRecDepth 100000 in
set_option maxHeartbeats 4000000 in
theorem tX12_step_194 (l : Launch) (E : EV) {xr : Int32} {τ : Mm} (o : Nat) (ho : KD o = 12) (v1 : Int32) (v2 : Int32) (v3 : Int32) (v4 : Int32) (σ : Mm) (h : fX12_step_194 o v1 v2 v3 v4 σ = some (xr, τ)) : Jd l E mX12_step 11 (some (.int xr), τ) σ 194 [(0, .ref (e_a E o 0)), (1, .int v1), (2, .int v2), (3, .int v3), (4, .int v4)] [] := by
  unfold fX12_step_194 at h
  refine J_aload_n (pc := 194) 0 dX12_step_194 rfl ?_
  refine J_getA (pc := 195) dX12_step_195 ho flX12_7 rfl ?_
  refine J_sipush (pc := 198) (1966 : Int32) dX12_step_198 (by decide) ?_
  refine J_dup2 (pc := 201) dX12_step_201 rfl rfl ?_
  refine J_iald (pc := 202) dX12_step_202 ho ha12_0 h (fun x62 h => ?_)
  refine J_iconst (pc := 203) (1 : Int32) dX12_step_203 (by decide) ?_
  refine J_iadd (pc := 204) dX12_step_204 ?_
  refine J_iast (pc := 205) dX12_step_205 ho ha12_0 h (fun σ63 h => ?_)
  refine J_aload_n (pc := 206) 0 dX12_step_206 rfl ?_
  obtain ⟨σ64, hc65, h⟩ := cV_t h
  refine J_cVv (pc := 207) (ctX12_ahead l E o ho σ63 hc65) dX12_step_207 mlX12_160 mvX12_ahead ho rfl (by decide) rfl (Nat.le_of_ble_eq_true rfl) ?_
  refine J_aload_n (pc := 210) 0 dX12_step_210 rfl ?_
  refine J_iload_n (pc := 211) 1 dX12_step_211 rfl ?_
  refine J_iload_n (pc := 212) 3 dX12_step_212 rfl ?_
  obtain ⟨x68, σ66, hc67, h⟩ := cI_t h
  refine J_cVi (pc := 213) (ctX12_order l E o v1 v3 ho σ64 hc67) dX12_step_213 mlX12_238 mvX12_order ho rfl (by decide) rfl (Nat.le_of_ble_eq_true rfl) ?_
  refine J_if_ne (pc := 216) 221 dX12_step_216 (by decide) h (fun h => ?_) (fun h => ?_)
  · refine J_iload (pc := 221) 4 dX12_step_221 rfl ?_
    refine J_if_eq (pc := 223) 246 dX12_step_223 (by decide) h (fun h => ?_) (fun h => ?_)
    · refine J_sub (L' := [(0, .ref (e_a E o 0)), (1, .int v1), (2, .int v2), (3, .int v3)]) [0, 1, 2, 3] rfl ?_
      exact tX12_step_246 l E o ho v1 v2 v3 σ66 h
    · refine J_aload_n (pc := 226) 0 dX12_step_226 rfl ?_
      refine J_getA (pc := 227) dX12_step_227 ho flX12_44 rfl ?_
      refine J_aload_n (pc := 230) 0 dX12_step_230 rfl ?_
      refine J_getI (pc := 231) dX12_step_231 ho flX12_232 rfl h (fun x69 h => ?_)
      refine J_iload_n (pc := 234) 2 dX12_step_234 rfl ?_
      refine J_iast (pc := 235) dX12_step_235 ho ha12_7 h (fun σ70 h => ?_)
      refine J_aload_n (pc := 236) 0 dX12_step_236 rfl ?_
      refine J_dup (pc := 237) dX12_step_237 rfl ?_
      refine J_getI (pc := 238) dX12_step_238 ho flX12_232 rfl h (fun x71 h => ?_)
      refine J_iconst (pc := 241) (1 : Int32) dX12_step_241 (by decide) ?_
      refine J_iadd (pc := 242) dX12_step_242 ?_
      refine J_putI (pc := 243) dX12_step_243 ho flX12_232 rfl h (fun σ72 h => ?_)
      refine J_sub (L' := [(0, .ref (e_a E o 0)), (1, .int v1), (2, .int v2), (3, .int v3)]) [0, 1, 2, 3] rfl ?_
      exact tX12_step_246 l E o ho v1 v2 v3 σ72 h
  · refine J_iconst (pc := 219) (0 : Int32) dX12_step_219 (by decide) ?_
    cases h
    exact J_iret (pc := 220) dX12_step_220 rfl rfl
def fX12_step_171 (o : Nat) : Nat → Int32 → Int32 → Int32 → Int32 → Int32 → Mm → Option (Int32 × Mm)
  | 0, _, _, _, _, _, _ => none
  | n + 1, v1, v2, v3, v4, v6, σ => if (6 : Int32) ≤ v6 then (fX12_step_194 o v1 v2 v3 v4 σ) else (s_ar σ o 0 2950 (v3 + v6) (0 : Int32) (fun σ61 => (fX12_step_171 o n) v1 v2 v3 v4 (v6 + (1 : Int32)) σ61))
set_option maxRecDepth 100000 in
set_option maxHeartbeats 4000000 in
theorem tX12_step_171 (l : Launch) (E : EV) {xr : Int32} {τ : Mm} (o : Nat) (ho : KD o = 12) : ∀ (n : Nat) (v1 : Int32) (v2 : Int32) (v3 : Int32) (v4 : Int32) (v6 : Int32) (σ : Mm), fX12_step_171 o n v1 v2 v3 v4 v6 σ = some (xr, τ) → Jd l E mX12_step 11 (some (.int xr), τ) σ 171 [(0, .ref (e_a E o 0)), (1, .int v1), (2, .int v2), (3, .int v3), (4, .int v4), (6, .int v6)] [] := by
  intro n
  induction n with
  | zero => intro v1 v2 v3 v4 v6 σ h; rw [fX12_step_171] at h; cases h
  | succ n ih =>
    intro v1 v2 v3 v4 v6 σ h
    rw [fX12_step_171] at h
    refine J_iload (pc := 171) 5 dX12_step_171 rfl ?_
    refine J_bipush (pc := 173) (6 : Int32) dX12_step_173 (by decide) ?_
    refine J_icmp_ge (pc := 175) 194 dX12_step_175 (by decide) h (fun h => ?_) (fun h => ?_)
    · refine J_sub (L' := [(0, .ref (e_a E o 0)), (1, .int v1), (2, .int v2), (3, .int v3), (4, .int v4)]) [0, 1, 2, 3, 4] rfl ?_
      exact tX12_step_194 l E o ho v1 v2 v3 v4 σ h
    · refine J_aload_n (pc := 178) 0 dX12_step_178 rfl ?_
      refine J_getA (pc := 179) dX12_step_179 ho flX12_7 rfl ?_
      refine J_iload_n (pc := 182) 3 dX12_step_182 rfl ?_
      refine J_iload (pc := 183) 5 dX12_step_183 rfl ?_
      refine J_iadd (pc := 185) dX12_step_185 ?_
      refine J_iconst (pc := 186) (0 : Int32) dX12_step_186 (by decide) ?_
      refine J_iast (pc := 187) dX12_step_187 ho ha12_0 h (fun σ61 h => ?_)
      refine J_iinc (pc := 188) (L' := [(6, .int (v6 + (1 : Int32))), (0, .ref (e_a E o 0)), (1, .int v1), (2, .int v2), (3, .int v3), (4, .int v4)]) 5 (v6 + (1 : Int32)) dX12_step_188 rfl (by rfl) (by decide) rfl ?_
      refine J_goto (pc := 191) 171 dX12_step_191 (by decide) ?_
      refine J_sub (L' := [(0, .ref (e_a E o 0)), (1, .int v1), (2, .int v2), (3, .int v3), (4, .int v4), (6, .int (v6 + (1 : Int32)))]) [1, 2, 3, 4, 5, 0] rfl ?_
      exact ih v1 v2 v3 v4 (v6 + (1 : Int32)) σ61 h
def fX12_step_141 (o : Nat) (v1 : Int32) (v2 : Int32) (v3 : Int32) (v4 : Int32) (σ : Mm) : Option (Int32 × Mm) := r_sc σ o 23 (fun x56 => if v1 = (21 : Int32) then (p_sc σ o 23 (x56 + (0 : Int32)) (fun σ59 => s_ar σ59 o 0 2950 v3 v1 (fun σ60 => fX12_step_171 o FU v1 v2 v3 v4 (1 : Int32) σ60))) else (p_sc σ o 23 (x56 + (1 : Int32)) (fun σ57 => s_ar σ57 o 0 2950 v3 v1 (fun σ58 => fX12_step_171 o FU v1 v2 v3 v4 (1 : Int32) σ58))))
set_option maxRecDepth 100000 in
set_option maxHeartbeats 4000000 in
theorem tX12_step_141 (l : Launch) (E : EV) {xr : Int32} {τ : Mm} (o : Nat) (ho : KD o = 12) (v1 : Int32) (v2 : Int32) (v3 : Int32) (v4 : Int32) (σ : Mm) (h : fX12_step_141 o v1 v2 v3 v4 σ = some (xr, τ)) : Jd l E mX12_step 11 (some (.int xr), τ) σ 141 [(0, .ref (e_a E o 0)), (1, .int v1), (2, .int v2), (3, .int v3), (4, .int v4)] [] := by
  unfold fX12_step_141 at h
  refine J_aload_n (pc := 141) 0 dX12_step_141 rfl ?_
  refine J_dup (pc := 142) dX12_step_142 rfl ?_
  refine J_getI (pc := 143) dX12_step_143 ho flX12_235 rfl h (fun x56 h => ?_)
  refine J_iload_n (pc := 146) 1 dX12_step_146 rfl ?_
  refine J_bipush (pc := 147) (21 : Int32) dX12_step_147 (by decide) ?_
  refine J_icmp_ne (pc := 149) 156 dX12_step_149 (by decide) h (fun h => ?_) (fun h => ?_)
  · refine J_iconst (pc := 156) (1 : Int32) dX12_step_156 (by decide) ?_
    refine J_iadd (pc := 157) dX12_step_157 ?_
    refine J_putI (pc := 158) dX12_step_158 ho flX12_235 rfl h (fun σ57 h => ?_)
    refine J_aload_n (pc := 161) 0 dX12_step_161 rfl ?_
    refine J_getA (pc := 162) dX12_step_162 ho flX12_7 rfl ?_
    refine J_iload_n (pc := 165) 3 dX12_step_165 rfl ?_
    refine J_iload_n (pc := 166) 1 dX12_step_166 rfl ?_
    refine J_iast (pc := 167) dX12_step_167 ho ha12_0 h (fun σ58 h => ?_)
    refine J_iconst (pc := 168) (1 : Int32) dX12_step_168 (by decide) ?_
    refine J_istore (pc := 169) (L' := [(6, .int (1 : Int32)), (0, .ref (e_a E o 0)), (1, .int v1), (2, .int v2), (3, .int v3), (4, .int v4)]) dX12_step_169 (by decide) rfl ?_
    refine J_sub (L' := [(0, .ref (e_a E o 0)), (1, .int v1), (2, .int v2), (3, .int v3), (4, .int v4), (6, .int (1 : Int32))]) [1, 2, 3, 4, 5, 0] rfl ?_
    exact tX12_step_171 l E o ho FU v1 v2 v3 v4 (1 : Int32) σ58 h
  · refine J_iconst (pc := 152) (0 : Int32) dX12_step_152 (by decide) ?_
    refine J_goto (pc := 153) 157 dX12_step_153 (by decide) ?_
    refine J_iadd (pc := 157) dX12_step_157 ?_
    refine J_putI (pc := 158) dX12_step_158 ho flX12_235 rfl h (fun σ59 h => ?_)
    refine J_aload_n (pc := 161) 0 dX12_step_161 rfl ?_
    refine J_getA (pc := 162) dX12_step_162 ho flX12_7 rfl ?_
    refine J_iload_n (pc := 165) 3 dX12_step_165 rfl ?_
    refine J_iload_n (pc := 166) 1 dX12_step_166 rfl ?_
    refine J_iast (pc := 167) dX12_step_167 ho ha12_0 h (fun σ60 h => ?_)
    refine J_iconst (pc := 168) (1 : Int32) dX12_step_168 (by decide) ?_
    refine J_istore (pc := 169) (L' := [(6, .int (1 : Int32)), (0, .ref (e_a E o 0)), (1, .int v1), (2, .int v2), (3, .int v3), (4, .int v4)]) dX12_step_169 (by decide) rfl ?_
    refine J_sub (L' := [(0, .ref (e_a E o 0)), (1, .int v1), (2, .int v2), (3, .int v3), (4, .int v4), (6, .int (1 : Int32))]) [1, 2, 3, 4, 5, 0] rfl ?_
    exact tX12_step_171 l E o ho FU v1 v2 v3 v4 (1 : Int32) σ60 h
def fX12_step_99 (o : Nat) (v1 : Int32) (v2 : Int32) (v3 : Int32) (v4 : Int32) (σ : Mm) : Option (Int32 × Mm) := if v1 = (21 : Int32) then (if v4 = 0 then (fX12_step_141 o v1 v2 v3 v4 σ) else (r_sc σ o 22 (fun x41 => if x41 = (3 : Int32) then (c_I (fX12_fails o (7 : Int32) σ) (fun x44 σ42 => b_z x44 σ42)) else (fX12_step_141 o v1 v2 v3 v4 σ)))) else (r_sc σ o 23 (fun x46 => if x46 = (30 : Int32) then (c_I (fX12_fails o (6 : Int32) σ) (fun x54 σ52 => b_z x54 σ52)) else (if v4 = 0 then (fX12_step_141 o v1 v2 v3 v4 σ) else (r_sc σ o 22 (fun x47 => if x47 = (3 : Int32) then (c_I (fX12_fails o (7 : Int32) σ) (fun x50 σ48 => b_z x50 σ48)) else (fX12_step_141 o v1 v2 v3 v4 σ))))))
set_option maxRecDepth 100000 in
set_option maxHeartbeats 4000000 in
theorem tX12_step_99 (l : Launch) (E : EV) {xr : Int32} {τ : Mm} (o : Nat) (ho : KD o = 12) (v1 : Int32) (v2 : Int32) (v3 : Int32) (v4 : Int32) (σ : Mm) (h : fX12_step_99 o v1 v2 v3 v4 σ = some (xr, τ)) : Jd l E mX12_step 11 (some (.int xr), τ) σ 99 [(0, .ref (e_a E o 0)), (1, .int v1), (2, .int v2), (3, .int v3), (4, .int v4)] [] := by
  unfold fX12_step_99 at h
  refine J_iload_n (pc := 99) 1 dX12_step_99 rfl ?_
  refine J_bipush (pc := 100) (21 : Int32) dX12_step_100 (by decide) ?_
  refine J_icmp_eq (pc := 102) 121 dX12_step_102 (by decide) h (fun h => ?_) (fun h => ?_)
  · refine J_iload (pc := 121) 4 dX12_step_121 rfl ?_
    refine J_if_eq (pc := 123) 141 dX12_step_123 (by decide) h (fun h => ?_) (fun h => ?_)
    · refine J_sub (L' := [(0, .ref (e_a E o 0)), (1, .int v1), (2, .int v2), (3, .int v3), (4, .int v4)]) [0, 1, 2, 3, 4] rfl ?_
      exact tX12_step_141 l E o ho v1 v2 v3 v4 σ h
    · refine J_aload_n (pc := 126) 0 dX12_step_126 rfl ?_
      refine J_getI (pc := 127) dX12_step_127 ho flX12_232 rfl h (fun x41 h => ?_)
      refine J_iconst (pc := 130) (3 : Int32) dX12_step_130 (by decide) ?_
      refine J_icmp_ne (pc := 131) 141 dX12_step_131 (by decide) h (fun h => ?_) (fun h => ?_)
      · refine J_sub (L' := [(0, .ref (e_a E o 0)), (1, .int v1), (2, .int v2), (3, .int v3), (4, .int v4)]) [0, 1, 2, 3, 4] rfl ?_
        exact tX12_step_141 l E o ho v1 v2 v3 v4 σ h
      · refine J_aload_n (pc := 134) 0 dX12_step_134 rfl ?_
        refine J_bipush (pc := 135) (7 : Int32) dX12_step_135 (by decide) ?_
        obtain ⟨x44, σ42, hc43, h⟩ := cI_t h
        refine J_cVi (pc := 137) (ctX12_fails l E o (7 : Int32) ho σ hc43) dX12_step_137 mlX12_166 mvX12_fails ho rfl (by decide) rfl (Nat.le_of_ble_eq_true rfl) ?_
        obtain ⟨hz45, h⟩ := bz_t h
        cases h
        exact J_iret (pc := 140) dX12_step_140 rfl hz45
  · refine J_aload_n (pc := 105) 0 dX12_step_105 rfl ?_
    refine J_getI (pc := 106) dX12_step_106 ho flX12_235 rfl h (fun x46 h => ?_)
    refine J_bipush (pc := 109) (30 : Int32) dX12_step_109 (by decide) ?_
    refine J_icmp_ne (pc := 111) 121 dX12_step_111 (by decide) h (fun h => ?_) (fun h => ?_)
    · refine J_iload (pc := 121) 4 dX12_step_121 rfl ?_
      refine J_if_eq (pc := 123) 141 dX12_step_123 (by decide) h (fun h => ?_) (fun h => ?_)
      · refine J_sub (L' := [(0, .ref (e_a E o 0)), (1, .int v1), (2, .int v2), (3, .int v3), (4, .int v4)]) [0, 1, 2, 3, 4] rfl ?_
        exact tX12_step_141 l E o ho v1 v2 v3 v4 σ h
      · refine J_aload_n (pc := 126) 0 dX12_step_126 rfl ?_
        refine J_getI (pc := 127) dX12_step_127 ho flX12_232 rfl h (fun x47 h => ?_)
        refine J_iconst (pc := 130) (3 : Int32) dX12_step_130 (by decide) ?_
        refine J_icmp_ne (pc := 131) 141 dX12_step_131 (by decide) h (fun h => ?_) (fun h => ?_)
        · refine J_sub (L' := [(0, .ref (e_a E o 0)), (1, .int v1), (2, .int v2), (3, .int v3), (4, .int v4)]) [0, 1, 2, 3, 4] rfl ?_
          exact tX12_step_141 l E o ho v1 v2 v3 v4 σ h
        · refine J_aload_n (pc := 134) 0 dX12_step_134 rfl ?_
          refine J_bipush (pc := 135) (7 : Int32) dX12_step_135 (by decide) ?_
          obtain ⟨x50, σ48, hc49, h⟩ := cI_t h
          refine J_cVi (pc := 137) (ctX12_fails l E o (7 : Int32) ho σ hc49) dX12_step_137 mlX12_166 mvX12_fails ho rfl (by decide) rfl (Nat.le_of_ble_eq_true rfl) ?_
          obtain ⟨hz51, h⟩ := bz_t h
          cases h
          exact J_iret (pc := 140) dX12_step_140 rfl hz51
    · refine J_aload_n (pc := 114) 0 dX12_step_114 rfl ?_
      refine J_bipush (pc := 115) (6 : Int32) dX12_step_115 (by decide) ?_
      obtain ⟨x54, σ52, hc53, h⟩ := cI_t h
      refine J_cVi (pc := 117) (ctX12_fails l E o (6 : Int32) ho σ hc53) dX12_step_117 mlX12_166 mvX12_fails ho rfl (by decide) rfl (Nat.le_of_ble_eq_true rfl) ?_
      obtain ⟨hz55, h⟩ := bz_t h
      cases h
      exact J_iret (pc := 120) dX12_step_120 rfl hz55
def fX12_step_56 (o : Nat) (v1 : Int32) (v2 : Int32) (v3 : Int32) (v4 : Int32) (σ : Mm) : Option (Int32 × Mm) := if v1 = (20 : Int32) then (if (1 : Int32) = 0 then (if v1 = (21 : Int32) then (r_sc σ o 22 (fun x18 => if x18 = 0 then (c_I (fX12_fails o (2 : Int32) σ) (fun x21 σ19 => b_z x21 σ19)) else (fX12_step_99 o v1 v2 v3 v4 σ))) else (c_I (fX12_fails o (2 : Int32) σ) (fun x16 σ14 => b_z x16 σ14))) else (fX12_step_99 o v1 v2 v3 v4 σ)) else (if v1 = (22 : Int32) then (if (1 : Int32) = 0 then (if v1 = (21 : Int32) then (r_sc σ o 22 (fun x36 => if x36 = 0 then (c_I (fX12_fails o (2 : Int32) σ) (fun x39 σ37 => b_z x39 σ37)) else (fX12_step_99 o v1 v2 v3 v4 σ))) else (c_I (fX12_fails o (2 : Int32) σ) (fun x34 σ32 => b_z x34 σ32))) else (fX12_step_99 o v1 v2 v3 v4 σ)) else (if (0 : Int32) = 0 then (if v1 = (21 : Int32) then (r_sc σ o 22 (fun x27 => if x27 = 0 then (c_I (fX12_fails o (2 : Int32) σ) (fun x30 σ28 => b_z x30 σ28)) else (fX12_step_99 o v1 v2 v3 v4 σ))) else (c_I (fX12_fails o (2 : Int32) σ) (fun x25 σ23 => b_z x25 σ23))) else (fX12_step_99 o v1 v2 v3 v4 σ)))
set_option maxRecDepth 100000 in
set_option maxHeartbeats 4000000 in
theorem tX12_step_56 (l : Launch) (E : EV) {xr : Int32} {τ : Mm} (o : Nat) (ho : KD o = 12) (v1 : Int32) (v2 : Int32) (v3 : Int32) (v4 : Int32) (σ : Mm) (h : fX12_step_56 o v1 v2 v3 v4 σ = some (xr, τ)) : Jd l E mX12_step 11 (some (.int xr), τ) σ 56 [(0, .ref (e_a E o 0)), (1, .int v1), (2, .int v2), (3, .int v3), (4, .int v4)] [] := by
  unfold fX12_step_56 at h
  refine J_iload_n (pc := 56) 1 dX12_step_56 rfl ?_
  refine J_bipush (pc := 57) (20 : Int32) dX12_step_57 (by decide) ?_
  refine J_icmp_eq (pc := 59) 68 dX12_step_59 (by decide) h (fun h => ?_) (fun h => ?_)
  · refine J_iconst (pc := 68) (1 : Int32) dX12_step_68 (by decide) ?_
    refine J_goto (pc := 69) 73 dX12_step_69 (by decide) ?_
    refine J_istore (pc := 73) (L' := [(5, .int (1 : Int32)), (0, .ref (e_a E o 0)), (1, .int v1), (2, .int v2), (3, .int v3), (4, .int v4)]) dX12_step_73 (by decide) rfl ?_
    refine J_iload (pc := 75) 0 dX12_step_75 rfl ?_
    refine J_if_ne (pc := 77) 99 dX12_step_77 (by decide) h (fun h => ?_) (fun h => ?_)
    · refine J_sub (L' := [(0, .ref (e_a E o 0)), (1, .int v1), (2, .int v2), (3, .int v3), (4, .int v4)]) [1, 2, 3, 4, 5] rfl ?_
      exact tX12_step_99 l E o ho v1 v2 v3 v4 σ h
    · refine J_iload_n (pc := 80) 2 dX12_step_80 rfl ?_
      refine J_bipush (pc := 81) (21 : Int32) dX12_step_81 (by decide) ?_
      refine J_icmp_ne (pc := 83) 93 dX12_step_83 (by decide) h (fun h => ?_) (fun h => ?_)
      · refine J_aload_n (pc := 93) 1 dX12_step_93 rfl ?_
        refine J_iconst (pc := 94) (2 : Int32) dX12_step_94 (by decide) ?_
        obtain ⟨x16, σ14, hc15, h⟩ := cI_t h
        refine J_cVi (pc := 95) (ctX12_fails l E o (2 : Int32) ho σ hc15) dX12_step_95 mlX12_166 mvX12_fails ho rfl (by decide) rfl (Nat.le_of_ble_eq_true rfl) ?_
        obtain ⟨hz17, h⟩ := bz_t h
        cases h
        exact J_iret (pc := 98) dX12_step_98 rfl hz17
      · refine J_aload_n (pc := 86) 1 dX12_step_86 rfl ?_
        refine J_getI (pc := 87) dX12_step_87 ho flX12_232 rfl h (fun x18 h => ?_)
        refine J_if_ne (pc := 90) 99 dX12_step_90 (by decide) h (fun h => ?_) (fun h => ?_)
        · refine J_sub (L' := [(0, .ref (e_a E o 0)), (1, .int v1), (2, .int v2), (3, .int v3), (4, .int v4)]) [1, 2, 3, 4, 5] rfl ?_
          exact tX12_step_99 l E o ho v1 v2 v3 v4 σ h
        · refine J_aload_n (pc := 93) 1 dX12_step_93 rfl ?_
          refine J_iconst (pc := 94) (2 : Int32) dX12_step_94 (by decide) ?_
          obtain ⟨x21, σ19, hc20, h⟩ := cI_t h
          refine J_cVi (pc := 95) (ctX12_fails l E o (2 : Int32) ho σ hc20) dX12_step_95 mlX12_166 mvX12_fails ho rfl (by decide) rfl (Nat.le_of_ble_eq_true rfl) ?_
          obtain ⟨hz22, h⟩ := bz_t h
          cases h
          exact J_iret (pc := 98) dX12_step_98 rfl hz22
  · refine J_iload_n (pc := 62) 1 dX12_step_62 rfl ?_
    refine J_bipush (pc := 63) (22 : Int32) dX12_step_63 (by decide) ?_
    refine J_icmp_ne (pc := 65) 72 dX12_step_65 (by decide) h (fun h => ?_) (fun h => ?_)
    · refine J_iconst (pc := 72) (0 : Int32) dX12_step_72 (by decide) ?_
      refine J_istore (pc := 73) (L' := [(5, .int (0 : Int32)), (0, .ref (e_a E o 0)), (1, .int v1), (2, .int v2), (3, .int v3), (4, .int v4)]) dX12_step_73 (by decide) rfl ?_
      refine J_iload (pc := 75) 0 dX12_step_75 rfl ?_
      refine J_if_ne (pc := 77) 99 dX12_step_77 (by decide) h (fun h => ?_) (fun h => ?_)
      · refine J_sub (L' := [(0, .ref (e_a E o 0)), (1, .int v1), (2, .int v2), (3, .int v3), (4, .int v4)]) [1, 2, 3, 4, 5] rfl ?_
        exact tX12_step_99 l E o ho v1 v2 v3 v4 σ h
      · refine J_iload_n (pc := 80) 2 dX12_step_80 rfl ?_
        refine J_bipush (pc := 81) (21 : Int32) dX12_step_81 (by decide) ?_
        refine J_icmp_ne (pc := 83) 93 dX12_step_83 (by decide) h (fun h => ?_) (fun h => ?_)
        · refine J_aload_n (pc := 93) 1 dX12_step_93 rfl ?_
          refine J_iconst (pc := 94) (2 : Int32) dX12_step_94 (by decide) ?_
          obtain ⟨x25, σ23, hc24, h⟩ := cI_t h
          refine J_cVi (pc := 95) (ctX12_fails l E o (2 : Int32) ho σ hc24) dX12_step_95 mlX12_166 mvX12_fails ho rfl (by decide) rfl (Nat.le_of_ble_eq_true rfl) ?_
          obtain ⟨hz26, h⟩ := bz_t h
          cases h
          exact J_iret (pc := 98) dX12_step_98 rfl hz26
        · refine J_aload_n (pc := 86) 1 dX12_step_86 rfl ?_
          refine J_getI (pc := 87) dX12_step_87 ho flX12_232 rfl h (fun x27 h => ?_)
          refine J_if_ne (pc := 90) 99 dX12_step_90 (by decide) h (fun h => ?_) (fun h => ?_)
          · refine J_sub (L' := [(0, .ref (e_a E o 0)), (1, .int v1), (2, .int v2), (3, .int v3), (4, .int v4)]) [1, 2, 3, 4, 5] rfl ?_
            exact tX12_step_99 l E o ho v1 v2 v3 v4 σ h
          · refine J_aload_n (pc := 93) 1 dX12_step_93 rfl ?_
            refine J_iconst (pc := 94) (2 : Int32) dX12_step_94 (by decide) ?_
            obtain ⟨x30, σ28, hc29, h⟩ := cI_t h
            refine J_cVi (pc := 95) (ctX12_fails l E o (2 : Int32) ho σ hc29) dX12_step_95 mlX12_166 mvX12_fails ho rfl (by decide) rfl (Nat.le_of_ble_eq_true rfl) ?_
            obtain ⟨hz31, h⟩ := bz_t h
            cases h
            exact J_iret (pc := 98) dX12_step_98 rfl hz31
    · refine J_iconst (pc := 68) (1 : Int32) dX12_step_68 (by decide) ?_
      refine J_goto (pc := 69) 73 dX12_step_69 (by decide) ?_
      refine J_istore (pc := 73) (L' := [(5, .int (1 : Int32)), (0, .ref (e_a E o 0)), (1, .int v1), (2, .int v2), (3, .int v3), (4, .int v4)]) dX12_step_73 (by decide) rfl ?_
      refine J_iload (pc := 75) 0 dX12_step_75 rfl ?_
      refine J_if_ne (pc := 77) 99 dX12_step_77 (by decide) h (fun h => ?_) (fun h => ?_)
      · refine J_sub (L' := [(0, .ref (e_a E o 0)), (1, .int v1), (2, .int v2), (3, .int v3), (4, .int v4)]) [1, 2, 3, 4, 5] rfl ?_
        exact tX12_step_99 l E o ho v1 v2 v3 v4 σ h
      · refine J_iload_n (pc := 80) 2 dX12_step_80 rfl ?_
        refine J_bipush (pc := 81) (21 : Int32) dX12_step_81 (by decide) ?_
        refine J_icmp_ne (pc := 83) 93 dX12_step_83 (by decide) h (fun h => ?_) (fun h => ?_)
        · refine J_aload_n (pc := 93) 1 dX12_step_93 rfl ?_
          refine J_iconst (pc := 94) (2 : Int32) dX12_step_94 (by decide) ?_
          obtain ⟨x34, σ32, hc33, h⟩ := cI_t h
          refine J_cVi (pc := 95) (ctX12_fails l E o (2 : Int32) ho σ hc33) dX12_step_95 mlX12_166 mvX12_fails ho rfl (by decide) rfl (Nat.le_of_ble_eq_true rfl) ?_
          obtain ⟨hz35, h⟩ := bz_t h
          cases h
          exact J_iret (pc := 98) dX12_step_98 rfl hz35
        · refine J_aload_n (pc := 86) 1 dX12_step_86 rfl ?_
          refine J_getI (pc := 87) dX12_step_87 ho flX12_232 rfl h (fun x36 h => ?_)
          refine J_if_ne (pc := 90) 99 dX12_step_90 (by decide) h (fun h => ?_) (fun h => ?_)
          · refine J_sub (L' := [(0, .ref (e_a E o 0)), (1, .int v1), (2, .int v2), (3, .int v3), (4, .int v4)]) [1, 2, 3, 4, 5] rfl ?_
            exact tX12_step_99 l E o ho v1 v2 v3 v4 σ h
          · refine J_aload_n (pc := 93) 1 dX12_step_93 rfl ?_
            refine J_iconst (pc := 94) (2 : Int32) dX12_step_94 (by decide) ?_
            obtain ⟨x39, σ37, hc38, h⟩ := cI_t h
            refine J_cVi (pc := 95) (ctX12_fails l E o (2 : Int32) ho σ hc38) dX12_step_95 mlX12_166 mvX12_fails ho rfl (by decide) rfl (Nat.le_of_ble_eq_true rfl) ?_
            obtain ⟨hz40, h⟩ := bz_t h
            cases h
            exact J_iret (pc := 98) dX12_step_98 rfl hz40
def fX12_step_42 (o : Nat) (v1 : Int32) (v2 : Int32) (v3 : Int32) (s0 : Int32) (σ : Mm) : Option (Int32 × Mm) := if v1 < (10 : Int32) then (fX12_step_56 o v1 v2 v3 s0 σ) else (if v1 ≤ (18 : Int32) then (if (1 : Int32) = 0 then (if v1 = (21 : Int32) then (r_sc σ o 22 (fun x9 => if x9 = 0 then (c_I (fX12_fails o (2 : Int32) σ) (fun x12 σ10 => b_z x12 σ10)) else (fX12_step_99 o v1 v2 v3 s0 σ))) else (c_I (fX12_fails o (2 : Int32) σ) (fun x7 σ5 => b_z x7 σ5))) else (fX12_step_99 o v1 v2 v3 s0 σ)) else (fX12_step_56 o v1 v2 v3 s0 σ))
set_option maxRecDepth 100000 in
set_option maxHeartbeats 4000000 in
theorem tX12_step_42 (l : Launch) (E : EV) {xr : Int32} {τ : Mm} (o : Nat) (ho : KD o = 12) (v1 : Int32) (v2 : Int32) (v3 : Int32) (s0 : Int32) (σ : Mm) (h : fX12_step_42 o v1 v2 v3 s0 σ = some (xr, τ)) : Jd l E mX12_step 11 (some (.int xr), τ) σ 42 [(0, .ref (e_a E o 0)), (1, .int v1), (2, .int v2), (3, .int v3)] [.int s0] := by
  unfold fX12_step_42 at h
  refine J_istore (pc := 42) (L' := [(4, .int s0), (0, .ref (e_a E o 0)), (1, .int v1), (2, .int v2), (3, .int v3)]) dX12_step_42 (by decide) rfl ?_
  refine J_iload_n (pc := 44) 2 dX12_step_44 rfl ?_
  refine J_bipush (pc := 45) (10 : Int32) dX12_step_45 (by decide) ?_
  refine J_icmp_lt (pc := 47) 56 dX12_step_47 (by decide) h (fun h => ?_) (fun h => ?_)
  · refine J_sub (L' := [(0, .ref (e_a E o 0)), (1, .int v1), (2, .int v2), (3, .int v3), (4, .int s0)]) [1, 2, 3, 4, 0] rfl ?_
    exact tX12_step_56 l E o ho v1 v2 v3 s0 σ h
  · refine J_iload_n (pc := 50) 2 dX12_step_50 rfl ?_
    refine J_bipush (pc := 51) (18 : Int32) dX12_step_51 (by decide) ?_
    refine J_icmp_le (pc := 53) 68 dX12_step_53 (by decide) h (fun h => ?_) (fun h => ?_)
    · refine J_iconst (pc := 68) (1 : Int32) dX12_step_68 (by decide) ?_
      refine J_goto (pc := 69) 73 dX12_step_69 (by decide) ?_
      refine J_istore (pc := 73) (L' := [(5, .int (1 : Int32)), (4, .int s0), (0, .ref (e_a E o 0)), (1, .int v1), (2, .int v2), (3, .int v3)]) dX12_step_73 (by decide) rfl ?_
      refine J_iload (pc := 75) 0 dX12_step_75 rfl ?_
      refine J_if_ne (pc := 77) 99 dX12_step_77 (by decide) h (fun h => ?_) (fun h => ?_)
      · refine J_sub (L' := [(0, .ref (e_a E o 0)), (1, .int v1), (2, .int v2), (3, .int v3), (4, .int s0)]) [2, 3, 4, 5, 1] rfl ?_
        exact tX12_step_99 l E o ho v1 v2 v3 s0 σ h
      · refine J_iload_n (pc := 80) 3 dX12_step_80 rfl ?_
        refine J_bipush (pc := 81) (21 : Int32) dX12_step_81 (by decide) ?_
        refine J_icmp_ne (pc := 83) 93 dX12_step_83 (by decide) h (fun h => ?_) (fun h => ?_)
        · refine J_aload_n (pc := 93) 2 dX12_step_93 rfl ?_
          refine J_iconst (pc := 94) (2 : Int32) dX12_step_94 (by decide) ?_
          obtain ⟨x7, σ5, hc6, h⟩ := cI_t h
          refine J_cVi (pc := 95) (ctX12_fails l E o (2 : Int32) ho σ hc6) dX12_step_95 mlX12_166 mvX12_fails ho rfl (by decide) rfl (Nat.le_of_ble_eq_true rfl) ?_
          obtain ⟨hz8, h⟩ := bz_t h
          cases h
          exact J_iret (pc := 98) dX12_step_98 rfl hz8
        · refine J_aload_n (pc := 86) 2 dX12_step_86 rfl ?_
          refine J_getI (pc := 87) dX12_step_87 ho flX12_232 rfl h (fun x9 h => ?_)
          refine J_if_ne (pc := 90) 99 dX12_step_90 (by decide) h (fun h => ?_) (fun h => ?_)
          · refine J_sub (L' := [(0, .ref (e_a E o 0)), (1, .int v1), (2, .int v2), (3, .int v3), (4, .int s0)]) [2, 3, 4, 5, 1] rfl ?_
            exact tX12_step_99 l E o ho v1 v2 v3 s0 σ h
          · refine J_aload_n (pc := 93) 2 dX12_step_93 rfl ?_
            refine J_iconst (pc := 94) (2 : Int32) dX12_step_94 (by decide) ?_
            obtain ⟨x12, σ10, hc11, h⟩ := cI_t h
            refine J_cVi (pc := 95) (ctX12_fails l E o (2 : Int32) ho σ hc11) dX12_step_95 mlX12_166 mvX12_fails ho rfl (by decide) rfl (Nat.le_of_ble_eq_true rfl) ?_
            obtain ⟨hz13, h⟩ := bz_t h
            cases h
            exact J_iret (pc := 98) dX12_step_98 rfl hz13
    · refine J_sub (L' := [(0, .ref (e_a E o 0)), (1, .int v1), (2, .int v2), (3, .int v3), (4, .int s0)]) [1, 2, 3, 4, 0] rfl ?_
      exact tX12_step_56 l E o ho v1 v2 v3 s0 σ h
def fX12_step (o : Nat) (σ : Mm) : Option (Int32 × Mm) := c_I (fX12_inWords o σ) (fun x3 σ1 => g_ar σ1 o 0 2950 (1966 : Int32) (fun x4 => if x3 = (18 : Int32) then (fX12_step_42 o x3 x4 ((2080 : Int32) + ((6 : Int32) * x4)) (1 : Int32) σ1) else (if x3 = (20 : Int32) then (fX12_step_42 o x3 x4 ((2080 : Int32) + ((6 : Int32) * x4)) (1 : Int32) σ1) else (fX12_step_42 o x3 x4 ((2080 : Int32) + ((6 : Int32) * x4)) (0 : Int32) σ1))))
set_option maxRecDepth 100000 in
set_option maxHeartbeats 4000000 in
theorem ctX12_step (l : Launch) (E : EV) (o : Nat) (ho : KD o = 12) (σ : Mm) {xr : Int32} {τ : Mm} (h : fX12_step o σ = some (xr, τ)) : Ct l E mX12_step 11 [.ref (e_a E o 0)] σ (some (.int xr), τ) := by
  refine Ct.of (by decide +kernel) (Nat.le_of_ble_eq_true rfl) ?_
  show Jd l E mX12_step 11 (some (.int xr), τ) σ 0 [(0, .ref (e_a E o 0))] []
  unfold fX12_step at h
  refine J_aload_n (pc := 0) 0 dX12_step_0 rfl ?_
  refine J_ldcS (pc := 1) dX12_step_1 rfl rfl ?_
  obtain ⟨x3, σ1, hc2, h⟩ := cI_t h
  refine J_cVi (pc := 3) (ctX12_inWords l E o ho σ hc2) dX12_step_3 mlX12_169 mvX12_inWords ho rfl (by decide) rfl (Nat.le_of_ble_eq_true rfl) ?_
  refine J_istore_n (pc := 6) (L' := [(1, .int x3), (0, .ref (e_a E o 0))]) dX12_step_6 (by decide) rfl ?_
  refine J_aload_n (pc := 7) 1 dX12_step_7 rfl ?_
  refine J_getA (pc := 8) dX12_step_8 ho flX12_7 rfl ?_
  refine J_sipush (pc := 11) (1966 : Int32) dX12_step_11 (by decide) ?_
  refine J_iald (pc := 14) dX12_step_14 ho ha12_0 h (fun x4 h => ?_)
  refine J_istore_n (pc := 15) (L' := [(2, .int x4), (1, .int x3), (0, .ref (e_a E o 0))]) dX12_step_15 (by decide) rfl ?_
  refine J_sipush (pc := 16) (2080 : Int32) dX12_step_16 (by decide) ?_
  refine J_bipush (pc := 19) (6 : Int32) dX12_step_19 (by decide) ?_
  refine J_iload_n (pc := 21) 0 dX12_step_21 rfl ?_
  refine J_imul (pc := 22) dX12_step_22 ?_
  refine J_iadd (pc := 23) dX12_step_23 ?_
  refine J_istore_n (pc := 24) (L' := [(3, .int ((2080 : Int32) + ((6 : Int32) * x4))), (2, .int x4), (1, .int x3), (0, .ref (e_a E o 0))]) dX12_step_24 (by decide) rfl ?_
  refine J_iload_n (pc := 25) 2 dX12_step_25 rfl ?_
  refine J_bipush (pc := 26) (18 : Int32) dX12_step_26 (by decide) ?_
  refine J_icmp_eq (pc := 28) 37 dX12_step_28 (by decide) h (fun h => ?_) (fun h => ?_)
  · refine J_iconst (pc := 37) (1 : Int32) dX12_step_37 (by decide) ?_
    refine J_goto (pc := 38) 42 dX12_step_38 (by decide) ?_
    refine J_sub (L' := [(0, .ref (e_a E o 0)), (1, .int x3), (2, .int x4), (3, .int ((2080 : Int32) + ((6 : Int32) * x4)))]) [3, 2, 1, 0] rfl ?_
    exact tX12_step_42 l E o ho x3 x4 ((2080 : Int32) + ((6 : Int32) * x4)) (1 : Int32) σ1 h
  · refine J_iload_n (pc := 31) 2 dX12_step_31 rfl ?_
    refine J_bipush (pc := 32) (20 : Int32) dX12_step_32 (by decide) ?_
    refine J_icmp_ne (pc := 34) 41 dX12_step_34 (by decide) h (fun h => ?_) (fun h => ?_)
    · refine J_iconst (pc := 41) (0 : Int32) dX12_step_41 (by decide) ?_
      refine J_sub (L' := [(0, .ref (e_a E o 0)), (1, .int x3), (2, .int x4), (3, .int ((2080 : Int32) + ((6 : Int32) * x4)))]) [3, 2, 1, 0] rfl ?_
      exact tX12_step_42 l E o ho x3 x4 ((2080 : Int32) + ((6 : Int32) * x4)) (0 : Int32) σ1 h
    · refine J_iconst (pc := 37) (1 : Int32) dX12_step_37 (by decide) ?_
      refine J_goto (pc := 38) 42 dX12_step_38 (by decide) ?_
      refine J_sub (L' := [(0, .ref (e_a E o 0)), (1, .int x3), (2, .int x4), (3, .int ((2080 : Int32) + ((6 : Int32) * x4)))]) [3, 2, 1, 0] rfl ?_
      exact tX12_step_42 l E o ho x3 x4 ((2080 : Int32) + ((6 : Int32) * x4)) (1 : Int32) σ1 h
def fX12_orders_102 (o : Nat) (a1 : Int32) : Nat → Int32 → Mm → Option (Int32 × Mm)
  | 0, _, _ => none
  | n + 1, v3, σ => if (490 : Int32) ≤ v3 then (r_sc σ o 23 (fun x40 => c_I (fX12_taken o x40 σ) (fun x43 σ41 => some (x43, σ41)))) else (g_ar σ o 0 2950 ((1960 : Int32) + v3) (fun x44 => s_ar σ o 0 2950 v3 x44 (fun σ45 => (fX12_orders_102 o a1 n) (v3 + (1 : Int32)) σ45)))
set_option maxRecDepth 100000 in
set_option maxHeartbeats 4000000 in
theorem tX12_orders_102 (l : Launch) (E : EV) {xr : Int32} {τ : Mm} (o : Nat) (a1 : Int32) (ho : KD o = 12) : ∀ (n : Nat) (v3 : Int32) (σ : Mm), fX12_orders_102 o a1 n v3 σ = some (xr, τ) → Jd l E mX12_orders 12 (some (.int xr), τ) σ 102 [(0, .ref (e_a E o 0)), (3, .int v3)] [] := by
  intro n
  induction n with
  | zero => intro v3 σ h; rw [fX12_orders_102] at h; cases h
  | succ n ih =>
    intro v3 σ h
    rw [fX12_orders_102] at h
    refine J_iload_n (pc := 102) 1 dX12_orders_102 rfl ?_
    refine J_sipush (pc := 103) (490 : Int32) dX12_orders_103 (by decide) ?_
    refine J_icmp_ge (pc := 106) 131 dX12_orders_106 (by decide) h (fun h => ?_) (fun h => ?_)
    · refine J_aload_n (pc := 131) 0 dX12_orders_131 rfl ?_
      refine J_aload_n (pc := 132) 0 dX12_orders_132 rfl ?_
      refine J_getI (pc := 133) dX12_orders_133 ho flX12_235 rfl h (fun x40 h => ?_)
      obtain ⟨x43, σ41, hc42, h⟩ := cI_t h
      refine J_cVi (pc := 136) (ctX12_taken l E o x40 ho σ hc42) dX12_orders_136 mlX12_223 mvX12_taken ho rfl (by decide) rfl (Nat.le_of_ble_eq_true rfl) ?_
      cases h
      exact J_iret (pc := 139) dX12_orders_139 rfl rfl
    · refine J_aload_n (pc := 109) 0 dX12_orders_109 rfl ?_
      refine J_getA (pc := 110) dX12_orders_110 ho flX12_7 rfl ?_
      refine J_iload_n (pc := 113) 1 dX12_orders_113 rfl ?_
      refine J_aload_n (pc := 114) 0 dX12_orders_114 rfl ?_
      refine J_getA (pc := 115) dX12_orders_115 ho flX12_7 rfl ?_
      refine J_sipush (pc := 118) (1960 : Int32) dX12_orders_118 (by decide) ?_
      refine J_iload_n (pc := 121) 1 dX12_orders_121 rfl ?_
      refine J_iadd (pc := 122) dX12_orders_122 ?_
      refine J_iald (pc := 123) dX12_orders_123 ho ha12_0 h (fun x44 h => ?_)
      refine J_iast (pc := 124) dX12_orders_124 ho ha12_0 h (fun σ45 h => ?_)
      refine J_iinc (pc := 125) (L' := [(3, .int (v3 + (1 : Int32))), (0, .ref (e_a E o 0))]) 1 (v3 + (1 : Int32)) dX12_orders_125 rfl (by rfl) (by decide) rfl ?_
      refine J_goto (pc := 128) 102 dX12_orders_128 (by decide) ?_
      refine J_sub (L' := [(0, .ref (e_a E o 0)), (3, .int (v3 + (1 : Int32)))]) [1, 0] rfl ?_
      exact ih (v3 + (1 : Int32)) σ45 h
def fX12_orders_57 (o : Nat) (a1 : Int32) (σ : Mm) : Option (Int32 × Mm) := r_sc σ o 18 (fun x14 => if x14 = 0 then (r_sc σ o 22 (fun x22 => if x22 ≤ 0 then (r_sc σ o 18 (fun x23 => if x23 = 0 then (g_ar σ o 0 2950 (1966 : Int32) (fun x28 => s_ar σ o 0 2950 (6 : Int32) x28 (fun σ29 => fX12_orders_102 o a1 FU (120 : Int32) σ29))) else (r_sc σ o 23 (fun x24 => c_I (fX12_taken o x24 σ) (fun x27 σ25 => some (x27, σ25)))))) else (c_I (fX12_fails o (2 : Int32) σ) (fun x32 σ30 => r_sc σ30 o 18 (fun x33 => if x33 = 0 then (g_ar σ30 o 0 2950 (1966 : Int32) (fun x38 => s_ar σ30 o 0 2950 (6 : Int32) x38 (fun σ39 => fX12_orders_102 o a1 FU (120 : Int32) σ39))) else (r_sc σ30 o 23 (fun x34 => c_I (fX12_taken o x34 σ30) (fun x37 σ35 => some (x37, σ35))))))))) else (r_sc σ o 18 (fun x15 => if x15 = 0 then (g_ar σ o 0 2950 (1966 : Int32) (fun x20 => s_ar σ o 0 2950 (6 : Int32) x20 (fun σ21 => fX12_orders_102 o a1 FU (120 : Int32) σ21))) else (r_sc σ o 23 (fun x16 => c_I (fX12_taken o x16 σ) (fun x19 σ17 => some (x19, σ17)))))))
set_option maxRecDepth 100000 in
set_option maxHeartbeats 4000000 in
theorem tX12_orders_57 (l : Launch) (E : EV) {xr : Int32} {τ : Mm} (o : Nat) (a1 : Int32) (ho : KD o = 12) (σ : Mm) (h : fX12_orders_57 o a1 σ = some (xr, τ)) : Jd l E mX12_orders 12 (some (.int xr), τ) σ 57 [(0, .ref (e_a E o 0))] [] := by
  unfold fX12_orders_57 at h
  refine J_aload_n (pc := 57) 0 dX12_orders_57 rfl ?_
  refine J_getI (pc := 58) dX12_orders_58 ho flX12_154 rfl h (fun x14 h => ?_)
  refine J_if_ne (pc := 61) 77 dX12_orders_61 (by decide) h (fun h => ?_) (fun h => ?_)
  · refine J_aload_n (pc := 77) 0 dX12_orders_77 rfl ?_
    refine J_getI (pc := 78) dX12_orders_78 ho flX12_154 rfl h (fun x15 h => ?_)
    refine J_if_ne (pc := 81) 131 dX12_orders_81 (by decide) h (fun h => ?_) (fun h => ?_)
    · refine J_aload_n (pc := 131) 0 dX12_orders_131 rfl ?_
      refine J_aload_n (pc := 132) 0 dX12_orders_132 rfl ?_
      refine J_getI (pc := 133) dX12_orders_133 ho flX12_235 rfl h (fun x16 h => ?_)
      obtain ⟨x19, σ17, hc18, h⟩ := cI_t h
      refine J_cVi (pc := 136) (ctX12_taken l E o x16 ho σ hc18) dX12_orders_136 mlX12_223 mvX12_taken ho rfl (by decide) rfl (Nat.le_of_ble_eq_true rfl) ?_
      cases h
      exact J_iret (pc := 139) dX12_orders_139 rfl rfl
    · refine J_aload_n (pc := 84) 0 dX12_orders_84 rfl ?_
      refine J_getA (pc := 85) dX12_orders_85 ho flX12_7 rfl ?_
      refine J_bipush (pc := 88) (6 : Int32) dX12_orders_88 (by decide) ?_
      refine J_aload_n (pc := 90) 0 dX12_orders_90 rfl ?_
      refine J_getA (pc := 91) dX12_orders_91 ho flX12_7 rfl ?_
      refine J_sipush (pc := 94) (1966 : Int32) dX12_orders_94 (by decide) ?_
      refine J_iald (pc := 97) dX12_orders_97 ho ha12_0 h (fun x20 h => ?_)
      refine J_iast (pc := 98) dX12_orders_98 ho ha12_0 h (fun σ21 h => ?_)
      refine J_bipush (pc := 99) (120 : Int32) dX12_orders_99 (by decide) ?_
      refine J_istore_n (pc := 101) (L' := [(3, .int (120 : Int32)), (0, .ref (e_a E o 0))]) dX12_orders_101 (by decide) rfl ?_
      refine J_sub (L' := [(0, .ref (e_a E o 0)), (3, .int (120 : Int32))]) [1, 0] rfl ?_
      exact tX12_orders_102 l E o a1 ho FU (120 : Int32) σ21 h
  · refine J_aload_n (pc := 64) 0 dX12_orders_64 rfl ?_
    refine J_getI (pc := 65) dX12_orders_65 ho flX12_232 rfl h (fun x22 h => ?_)
    refine J_if_le (pc := 68) 77 dX12_orders_68 (by decide) h (fun h => ?_) (fun h => ?_)
    · refine J_aload_n (pc := 77) 0 dX12_orders_77 rfl ?_
      refine J_getI (pc := 78) dX12_orders_78 ho flX12_154 rfl h (fun x23 h => ?_)
      refine J_if_ne (pc := 81) 131 dX12_orders_81 (by decide) h (fun h => ?_) (fun h => ?_)
      · refine J_aload_n (pc := 131) 0 dX12_orders_131 rfl ?_
        refine J_aload_n (pc := 132) 0 dX12_orders_132 rfl ?_
        refine J_getI (pc := 133) dX12_orders_133 ho flX12_235 rfl h (fun x24 h => ?_)
        obtain ⟨x27, σ25, hc26, h⟩ := cI_t h
        refine J_cVi (pc := 136) (ctX12_taken l E o x24 ho σ hc26) dX12_orders_136 mlX12_223 mvX12_taken ho rfl (by decide) rfl (Nat.le_of_ble_eq_true rfl) ?_
        cases h
        exact J_iret (pc := 139) dX12_orders_139 rfl rfl
      · refine J_aload_n (pc := 84) 0 dX12_orders_84 rfl ?_
        refine J_getA (pc := 85) dX12_orders_85 ho flX12_7 rfl ?_
        refine J_bipush (pc := 88) (6 : Int32) dX12_orders_88 (by decide) ?_
        refine J_aload_n (pc := 90) 0 dX12_orders_90 rfl ?_
        refine J_getA (pc := 91) dX12_orders_91 ho flX12_7 rfl ?_
        refine J_sipush (pc := 94) (1966 : Int32) dX12_orders_94 (by decide) ?_
        refine J_iald (pc := 97) dX12_orders_97 ho ha12_0 h (fun x28 h => ?_)
        refine J_iast (pc := 98) dX12_orders_98 ho ha12_0 h (fun σ29 h => ?_)
        refine J_bipush (pc := 99) (120 : Int32) dX12_orders_99 (by decide) ?_
        refine J_istore_n (pc := 101) (L' := [(3, .int (120 : Int32)), (0, .ref (e_a E o 0))]) dX12_orders_101 (by decide) rfl ?_
        refine J_sub (L' := [(0, .ref (e_a E o 0)), (3, .int (120 : Int32))]) [1, 0] rfl ?_
        exact tX12_orders_102 l E o a1 ho FU (120 : Int32) σ29 h
    · refine J_aload_n (pc := 71) 0 dX12_orders_71 rfl ?_
      refine J_iconst (pc := 72) (2 : Int32) dX12_orders_72 (by decide) ?_
      obtain ⟨x32, σ30, hc31, h⟩ := cI_t h
      refine J_cVi (pc := 73) (ctX12_fails l E o (2 : Int32) ho σ hc31) dX12_orders_73 mlX12_166 mvX12_fails ho rfl (by decide) rfl (Nat.le_of_ble_eq_true rfl) ?_
      refine J_pop (pc := 76) dX12_orders_76 rfl ?_
      refine J_aload_n (pc := 77) 0 dX12_orders_77 rfl ?_
      refine J_getI (pc := 78) dX12_orders_78 ho flX12_154 rfl h (fun x33 h => ?_)
      refine J_if_ne (pc := 81) 131 dX12_orders_81 (by decide) h (fun h => ?_) (fun h => ?_)
      · refine J_aload_n (pc := 131) 0 dX12_orders_131 rfl ?_
        refine J_aload_n (pc := 132) 0 dX12_orders_132 rfl ?_
        refine J_getI (pc := 133) dX12_orders_133 ho flX12_235 rfl h (fun x34 h => ?_)
        obtain ⟨x37, σ35, hc36, h⟩ := cI_t h
        refine J_cVi (pc := 136) (ctX12_taken l E o x34 ho σ30 hc36) dX12_orders_136 mlX12_223 mvX12_taken ho rfl (by decide) rfl (Nat.le_of_ble_eq_true rfl) ?_
        cases h
        exact J_iret (pc := 139) dX12_orders_139 rfl rfl
      · refine J_aload_n (pc := 84) 0 dX12_orders_84 rfl ?_
        refine J_getA (pc := 85) dX12_orders_85 ho flX12_7 rfl ?_
        refine J_bipush (pc := 88) (6 : Int32) dX12_orders_88 (by decide) ?_
        refine J_aload_n (pc := 90) 0 dX12_orders_90 rfl ?_
        refine J_getA (pc := 91) dX12_orders_91 ho flX12_7 rfl ?_
        refine J_sipush (pc := 94) (1966 : Int32) dX12_orders_94 (by decide) ?_
        refine J_iald (pc := 97) dX12_orders_97 ho ha12_0 h (fun x38 h => ?_)
        refine J_iast (pc := 98) dX12_orders_98 ho ha12_0 h (fun σ39 h => ?_)
        refine J_bipush (pc := 99) (120 : Int32) dX12_orders_99 (by decide) ?_
        refine J_istore_n (pc := 101) (L' := [(3, .int (120 : Int32)), (0, .ref (e_a E o 0))]) dX12_orders_101 (by decide) rfl ?_
        refine J_sub (L' := [(0, .ref (e_a E o 0)), (3, .int (120 : Int32))]) [1, 0] rfl ?_
        exact tX12_orders_102 l E o a1 ho FU (120 : Int32) σ39 h
def fX12_orders_38 (o : Nat) (a1 : Int32) : Nat → Int32 → Mm → Option (Int32 × Mm)
  | 0, _, _ => none
  | n + 1, v2, σ => if v2 = 0 then (fX12_orders_57 o a1 σ) else (r_sc σ o 12 (fun x10 => if x10 = 0 then (fX12_orders_57 o a1 σ) else (c_I (fX12_step o σ) (fun x13 σ11 => (fX12_orders_38 o a1 n) x13 σ11))))
set_option maxRecDepth 100000 in
set_option maxHeartbeats 4000000 in
theorem tX12_orders_38 (l : Launch) (E : EV) {xr : Int32} {τ : Mm} (o : Nat) (a1 : Int32) (ho : KD o = 12) : ∀ (n : Nat) (v2 : Int32) (σ : Mm), fX12_orders_38 o a1 n v2 σ = some (xr, τ) → Jd l E mX12_orders 12 (some (.int xr), τ) σ 38 [(0, .ref (e_a E o 0)), (2, .int v2)] [] := by
  intro n
  induction n with
  | zero => intro v2 σ h; rw [fX12_orders_38] at h; cases h
  | succ n ih =>
    intro v2 σ h
    rw [fX12_orders_38] at h
    refine J_iload_n (pc := 38) 1 dX12_orders_38 rfl ?_
    refine J_if_eq (pc := 39) 57 dX12_orders_39 (by decide) h (fun h => ?_) (fun h => ?_)
    · refine J_sub (L' := [(0, .ref (e_a E o 0))]) [0] rfl ?_
      exact tX12_orders_57 l E o a1 ho σ h
    · refine J_aload_n (pc := 42) 0 dX12_orders_42 rfl ?_
      refine J_getI (pc := 43) dX12_orders_43 ho flX12_129 rfl h (fun x10 h => ?_)
      refine J_if_eq (pc := 46) 57 dX12_orders_46 (by decide) h (fun h => ?_) (fun h => ?_)
      · refine J_sub (L' := [(0, .ref (e_a E o 0))]) [0] rfl ?_
        exact tX12_orders_57 l E o a1 ho σ h
      · refine J_aload_n (pc := 49) 0 dX12_orders_49 rfl ?_
        obtain ⟨x13, σ11, hc12, h⟩ := cI_t h
        refine J_cVi (pc := 50) (ctX12_step l E o ho σ hc12) dX12_orders_50 mlX12_240 mvX12_step ho rfl (by decide) rfl (Nat.le_of_ble_eq_true rfl) ?_
        refine J_istore_n (pc := 53) (L' := [(2, .int x13), (0, .ref (e_a E o 0))]) dX12_orders_53 (by decide) rfl ?_
        refine J_goto (pc := 54) 38 dX12_orders_54 (by decide) ?_
        refine J_sub (L' := [(0, .ref (e_a E o 0)), (2, .int x13)]) [1, 0] rfl ?_
        exact ih x13 σ11 h
def fX12_orders (o : Nat) (a1 : Int32) (σ : Mm) : Option (Int32 × Mm) := c_I (fX12_begins o a1 (300 : Int32) σ) (fun x3 σ1 => if x3 = 0 then (c_I (fX12_refuse o (1 : Int32) σ1) (fun x9 σ7 => some (x9, σ7))) else (s_ar σ1 o 0 2950 (1966 : Int32) (0 : Int32) (fun σ4 => p_sc σ4 o 22 (0 : Int32) (fun σ5 => p_sc σ5 o 23 (0 : Int32) (fun σ6 => fX12_orders_38 o a1 FU (1 : Int32) σ6)))))
set_option maxRecDepth 100000 in
set_option maxHeartbeats 4000000 in
theorem ctX12_orders (l : Launch) (E : EV) (o : Nat) (a1 : Int32) (ho : KD o = 12) (σ : Mm) {xr : Int32} {τ : Mm} (h : fX12_orders o a1 σ = some (xr, τ)) : Ct l E mX12_orders 12 [.ref (e_a E o 0), .int a1] σ (some (.int xr), τ) := by
  refine Ct.of (by decide +kernel) (Nat.le_of_ble_eq_true rfl) ?_
  show Jd l E mX12_orders 12 (some (.int xr), τ) σ 0 [(0, .ref (e_a E o 0)), (1, .int a1)] []
  unfold fX12_orders at h
  refine J_aload_n (pc := 0) 0 dX12_orders_0 rfl ?_
  refine J_iload_n (pc := 1) 1 dX12_orders_1 rfl ?_
  refine J_sipush (pc := 2) (300 : Int32) dX12_orders_2 (by decide) ?_
  obtain ⟨x3, σ1, hc2, h⟩ := cI_t h
  refine J_cVi (pc := 5) (ctX12_begins l E o a1 (300 : Int32) ho σ hc2) dX12_orders_5 mlX12_216 mvX12_begins ho rfl (by decide) rfl (Nat.le_of_ble_eq_true rfl) ?_
  refine J_if_ne (pc := 8) 17 dX12_orders_8 (by decide) h (fun h => ?_) (fun h => ?_)
  · refine J_aload_n (pc := 17) 0 dX12_orders_17 rfl ?_
    refine J_getA (pc := 18) dX12_orders_18 ho flX12_7 rfl ?_
    refine J_sipush (pc := 21) (1966 : Int32) dX12_orders_21 (by decide) ?_
    refine J_iconst (pc := 24) (0 : Int32) dX12_orders_24 (by decide) ?_
    refine J_iast (pc := 25) dX12_orders_25 ho ha12_0 h (fun σ4 h => ?_)
    refine J_aload_n (pc := 26) 0 dX12_orders_26 rfl ?_
    refine J_iconst (pc := 27) (0 : Int32) dX12_orders_27 (by decide) ?_
    refine J_putI (pc := 28) dX12_orders_28 ho flX12_232 rfl h (fun σ5 h => ?_)
    refine J_aload_n (pc := 31) 0 dX12_orders_31 rfl ?_
    refine J_iconst (pc := 32) (0 : Int32) dX12_orders_32 (by decide) ?_
    refine J_putI (pc := 33) dX12_orders_33 ho flX12_235 rfl h (fun σ6 h => ?_)
    refine J_iconst (pc := 36) (1 : Int32) dX12_orders_36 (by decide) ?_
    refine J_istore_n (pc := 37) (L' := [(2, .int (1 : Int32)), (0, .ref (e_a E o 0)), (1, .int a1)]) dX12_orders_37 (by decide) rfl ?_
    refine J_sub (L' := [(0, .ref (e_a E o 0)), (2, .int (1 : Int32))]) [1, 0] rfl ?_
    exact tX12_orders_38 l E o a1 ho FU (1 : Int32) σ6 h
  · refine J_aload_n (pc := 11) 0 dX12_orders_11 rfl ?_
    refine J_iconst (pc := 12) (1 : Int32) dX12_orders_12 (by decide) ?_
    obtain ⟨x9, σ7, hc8, h⟩ := cI_t h
    refine J_cVi (pc := 13) (ctX12_refuse l E o (1 : Int32) ho σ1 hc8) dX12_orders_13 mlX12_83 mvX12_refuse ho rfl (by decide) rfl (Nat.le_of_ble_eq_true rfl) ?_
    cases h
    exact J_iret (pc := 16) dX12_orders_16 rfl rfl
def fX12_isPlace (o : Nat) (a1 : Int32) (σ : Mm) : Option (Int32 × Mm) := if a1 < 0 then (some ((0 : Int32), σ)) else (g_ar σ o 0 2950 (0 : Int32) (fun x1 => if x1 ≤ a1 then (some ((0 : Int32), σ)) else (some ((1 : Int32), σ))))
set_option maxRecDepth 100000 in
set_option maxHeartbeats 4000000 in
theorem ctX12_isPlace (l : Launch) (E : EV) (o : Nat) (a1 : Int32) (ho : KD o = 12) (σ : Mm) {xr : Int32} {τ : Mm} (h : fX12_isPlace o a1 σ = some (xr, τ)) : Ct l E mX12_isPlace 0 [.ref (e_a E o 0), .int a1] σ (some (.int xr), τ) := by
  refine Ct.of (by decide +kernel) (Nat.le_of_ble_eq_true rfl) ?_
  show Jd l E mX12_isPlace 0 (some (.int xr), τ) σ 0 [(0, .ref (e_a E o 0)), (1, .int a1)] []
  unfold fX12_isPlace at h
  refine J_iload_n (pc := 0) 1 dX12_isPlace_0 rfl ?_
  refine J_if_lt (pc := 1) 18 dX12_isPlace_1 (by decide) h (fun h => ?_) (fun h => ?_)
  · refine J_iconst (pc := 18) (0 : Int32) dX12_isPlace_18 (by decide) ?_
    cases h
    exact J_iret (pc := 19) dX12_isPlace_19 rfl rfl
  · refine J_iload_n (pc := 4) 1 dX12_isPlace_4 rfl ?_
    refine J_aload_n (pc := 5) 0 dX12_isPlace_5 rfl ?_
    refine J_getA (pc := 6) dX12_isPlace_6 ho flX12_7 rfl ?_
    refine J_iconst (pc := 9) (0 : Int32) dX12_isPlace_9 (by decide) ?_
    refine J_iald (pc := 10) dX12_isPlace_10 ho ha12_0 h (fun x1 h => ?_)
    refine J_icmp_ge (pc := 11) 18 dX12_isPlace_11 (by decide) h (fun h => ?_) (fun h => ?_)
    · refine J_iconst (pc := 18) (0 : Int32) dX12_isPlace_18 (by decide) ?_
      cases h
      exact J_iret (pc := 19) dX12_isPlace_19 rfl rfl
    · refine J_iconst (pc := 14) (1 : Int32) dX12_isPlace_14 (by decide) ?_
      refine J_goto (pc := 15) 19 dX12_isPlace_15 (by decide) ?_
      cases h
      exact J_iret (pc := 19) dX12_isPlace_19 rfl rfl
def fX12_isVane (o : Nat) (a1 : Int32) (σ : Mm) : Option (Int32 × Mm) := if a1 < 0 then (some ((0 : Int32), σ)) else (g_ar σ o 0 2950 (1 : Int32) (fun x1 => if x1 ≤ a1 then (some ((0 : Int32), σ)) else (some ((1 : Int32), σ))))
set_option maxRecDepth 100000 in
set_option maxHeartbeats 4000000 in
theorem ctX12_isVane (l : Launch) (E : EV) (o : Nat) (a1 : Int32) (ho : KD o = 12) (σ : Mm) {xr : Int32} {τ : Mm} (h : fX12_isVane o a1 σ = some (xr, τ)) : Ct l E mX12_isVane 0 [.ref (e_a E o 0), .int a1] σ (some (.int xr), τ) := by
  refine Ct.of (by decide +kernel) (Nat.le_of_ble_eq_true rfl) ?_
  show Jd l E mX12_isVane 0 (some (.int xr), τ) σ 0 [(0, .ref (e_a E o 0)), (1, .int a1)] []
  unfold fX12_isVane at h
  refine J_iload_n (pc := 0) 1 dX12_isVane_0 rfl ?_
  refine J_if_lt (pc := 1) 18 dX12_isVane_1 (by decide) h (fun h => ?_) (fun h => ?_)
  · refine J_iconst (pc := 18) (0 : Int32) dX12_isVane_18 (by decide) ?_
    cases h
    exact J_iret (pc := 19) dX12_isVane_19 rfl rfl
  · refine J_iload_n (pc := 4) 1 dX12_isVane_4 rfl ?_
    refine J_aload_n (pc := 5) 0 dX12_isVane_5 rfl ?_
    refine J_getA (pc := 6) dX12_isVane_6 ho flX12_7 rfl ?_
    refine J_iconst (pc := 9) (1 : Int32) dX12_isVane_9 (by decide) ?_
    refine J_iald (pc := 10) dX12_isVane_10 ho ha12_0 h (fun x1 h => ?_)
    refine J_icmp_ge (pc := 11) 18 dX12_isVane_11 (by decide) h (fun h => ?_) (fun h => ?_)
    · refine J_iconst (pc := 18) (0 : Int32) dX12_isVane_18 (by decide) ?_
      cases h
      exact J_iret (pc := 19) dX12_isVane_19 rfl rfl
    · refine J_iconst (pc := 14) (1 : Int32) dX12_isVane_14 (by decide) ?_
      refine J_goto (pc := 15) 19 dX12_isVane_15 (by decide) ?_
      cases h
      exact J_iret (pc := 19) dX12_isVane_19 rfl rfl
def fX12_isShaft (o : Nat) (a1 : Int32) (σ : Mm) : Option (Int32 × Mm) := if a1 < 0 then (some ((0 : Int32), σ)) else (g_ar σ o 0 2950 (2 : Int32) (fun x1 => if x1 ≤ a1 then (some ((0 : Int32), σ)) else (some ((1 : Int32), σ))))
set_option maxRecDepth 100000 in
set_option maxHeartbeats 4000000 in
theorem ctX12_isShaft (l : Launch) (E : EV) (o : Nat) (a1 : Int32) (ho : KD o = 12) (σ : Mm) {xr : Int32} {τ : Mm} (h : fX12_isShaft o a1 σ = some (xr, τ)) : Ct l E mX12_isShaft 0 [.ref (e_a E o 0), .int a1] σ (some (.int xr), τ) := by
  refine Ct.of (by decide +kernel) (Nat.le_of_ble_eq_true rfl) ?_
  show Jd l E mX12_isShaft 0 (some (.int xr), τ) σ 0 [(0, .ref (e_a E o 0)), (1, .int a1)] []
  unfold fX12_isShaft at h
  refine J_iload_n (pc := 0) 1 dX12_isShaft_0 rfl ?_
  refine J_if_lt (pc := 1) 18 dX12_isShaft_1 (by decide) h (fun h => ?_) (fun h => ?_)
  · refine J_iconst (pc := 18) (0 : Int32) dX12_isShaft_18 (by decide) ?_
    cases h
    exact J_iret (pc := 19) dX12_isShaft_19 rfl rfl
  · refine J_iload_n (pc := 4) 1 dX12_isShaft_4 rfl ?_
    refine J_aload_n (pc := 5) 0 dX12_isShaft_5 rfl ?_
    refine J_getA (pc := 6) dX12_isShaft_6 ho flX12_7 rfl ?_
    refine J_iconst (pc := 9) (2 : Int32) dX12_isShaft_9 (by decide) ?_
    refine J_iald (pc := 10) dX12_isShaft_10 ho ha12_0 h (fun x1 h => ?_)
    refine J_icmp_ge (pc := 11) 18 dX12_isShaft_11 (by decide) h (fun h => ?_) (fun h => ?_)
    · refine J_iconst (pc := 18) (0 : Int32) dX12_isShaft_18 (by decide) ?_
      cases h
      exact J_iret (pc := 19) dX12_isShaft_19 rfl rfl
    · refine J_iconst (pc := 14) (1 : Int32) dX12_isShaft_14 (by decide) ?_
      refine J_goto (pc := 15) 19 dX12_isShaft_15 (by decide) ?_
      cases h
      exact J_iret (pc := 19) dX12_isShaft_19 rfl rfl
def fX12_isAhead (a1 : Int32) (σ : Mm) : Option (Int32 × Mm) := if a1 < 0 then (some ((0 : Int32), σ)) else (if (400 : Int32) < a1 then (some ((0 : Int32), σ)) else (some ((1 : Int32), σ)))
set_option maxRecDepth 100000 in
set_option maxHeartbeats 4000000 in
theorem ctX12_isAhead (l : Launch) (E : EV) (a1 : Int32) (σ : Mm) {xr : Int32} {τ : Mm} (h : fX12_isAhead a1 σ = some (xr, τ)) : Ct l E mX12_isAhead 0 [.int a1] σ (some (.int xr), τ) := by
  refine Ct.of (by decide +kernel) (Nat.le_of_ble_eq_true rfl) ?_
  show Jd l E mX12_isAhead 0 (some (.int xr), τ) σ 0 [(0, .int a1)] []
  unfold fX12_isAhead at h
  refine J_iload_n (pc := 0) 0 dX12_isAhead_0 rfl ?_
  refine J_if_lt (pc := 1) 15 dX12_isAhead_1 (by decide) h (fun h => ?_) (fun h => ?_)
  · refine J_iconst (pc := 15) (0 : Int32) dX12_isAhead_15 (by decide) ?_
    cases h
    exact J_iret (pc := 16) dX12_isAhead_16 rfl rfl
  · refine J_iload_n (pc := 4) 0 dX12_isAhead_4 rfl ?_
    refine J_sipush (pc := 5) (400 : Int32) dX12_isAhead_5 (by decide) ?_
    refine J_icmp_gt (pc := 8) 15 dX12_isAhead_8 (by decide) h (fun h => ?_) (fun h => ?_)
    · refine J_iconst (pc := 15) (0 : Int32) dX12_isAhead_15 (by decide) ?_
      cases h
      exact J_iret (pc := 16) dX12_isAhead_16 rfl rfl
    · refine J_iconst (pc := 11) (1 : Int32) dX12_isAhead_11 (by decide) ?_
      refine J_goto (pc := 12) 16 dX12_isAhead_12 (by decide) ?_
      cases h
      exact J_iret (pc := 16) dX12_isAhead_16 rfl rfl
def fX12_isSpan (a1 : Int32) (σ : Mm) : Option (Int32 × Mm) := if a1 < (1 : Int32) then (some ((0 : Int32), σ)) else (if (400 : Int32) < a1 then (some ((0 : Int32), σ)) else (some ((1 : Int32), σ)))
set_option maxRecDepth 100000 in
set_option maxHeartbeats 4000000 in
theorem ctX12_isSpan (l : Launch) (E : EV) (a1 : Int32) (σ : Mm) {xr : Int32} {τ : Mm} (h : fX12_isSpan a1 σ = some (xr, τ)) : Ct l E mX12_isSpan 0 [.int a1] σ (some (.int xr), τ) := by
  refine Ct.of (by decide +kernel) (Nat.le_of_ble_eq_true rfl) ?_
  show Jd l E mX12_isSpan 0 (some (.int xr), τ) σ 0 [(0, .int a1)] []
  unfold fX12_isSpan at h
  refine J_iload_n (pc := 0) 0 dX12_isSpan_0 rfl ?_
  refine J_iconst (pc := 1) (1 : Int32) dX12_isSpan_1 (by decide) ?_
  refine J_icmp_lt (pc := 2) 16 dX12_isSpan_2 (by decide) h (fun h => ?_) (fun h => ?_)
  · refine J_iconst (pc := 16) (0 : Int32) dX12_isSpan_16 (by decide) ?_
    cases h
    exact J_iret (pc := 17) dX12_isSpan_17 rfl rfl
  · refine J_iload_n (pc := 5) 0 dX12_isSpan_5 rfl ?_
    refine J_sipush (pc := 6) (400 : Int32) dX12_isSpan_6 (by decide) ?_
    refine J_icmp_gt (pc := 9) 16 dX12_isSpan_9 (by decide) h (fun h => ?_) (fun h => ?_)
    · refine J_iconst (pc := 16) (0 : Int32) dX12_isSpan_16 (by decide) ?_
      cases h
      exact J_iret (pc := 17) dX12_isSpan_17 rfl rfl
    · refine J_iconst (pc := 12) (1 : Int32) dX12_isSpan_12 (by decide) ?_
      refine J_goto (pc := 13) 17 dX12_isSpan_13 (by decide) ?_
      cases h
      exact J_iret (pc := 17) dX12_isSpan_17 rfl rfl
def fX12_vaneAt (o : Nat) (a1 : Int32) (a2 : Int32) (σ : Mm) : Option (Int32 × Mm) := g_ar σ o 0 2950 (((2470 : Int32) + ((6 : Int32) * a1)) + a2) (fun x1 => some (x1, σ))
set_option maxRecDepth 100000 in
set_option maxHeartbeats 4000000 in
theorem ctX12_vaneAt (l : Launch) (E : EV) (o : Nat) (a1 : Int32) (a2 : Int32) (ho : KD o = 12) (σ : Mm) {xr : Int32} {τ : Mm} (h : fX12_vaneAt o a1 a2 σ = some (xr, τ)) : Ct l E mX12_vaneAt 0 [.ref (e_a E o 0), .int a1, .int a2] σ (some (.int xr), τ) := by
  refine Ct.of (by decide +kernel) (Nat.le_of_ble_eq_true rfl) ?_
  show Jd l E mX12_vaneAt 0 (some (.int xr), τ) σ 0 [(0, .ref (e_a E o 0)), (1, .int a1), (2, .int a2)] []
  unfold fX12_vaneAt at h
  refine J_aload_n (pc := 0) 0 dX12_vaneAt_0 rfl ?_
  refine J_getA (pc := 1) dX12_vaneAt_1 ho flX12_7 rfl ?_
  refine J_sipush (pc := 4) (2470 : Int32) dX12_vaneAt_4 (by decide) ?_
  refine J_bipush (pc := 7) (6 : Int32) dX12_vaneAt_7 (by decide) ?_
  refine J_iload_n (pc := 9) 1 dX12_vaneAt_9 rfl ?_
  refine J_imul (pc := 10) dX12_vaneAt_10 ?_
  refine J_iadd (pc := 11) dX12_vaneAt_11 ?_
  refine J_iload_n (pc := 12) 2 dX12_vaneAt_12 rfl ?_
  refine J_iadd (pc := 13) dX12_vaneAt_13 ?_
  refine J_iald (pc := 14) dX12_vaneAt_14 ho ha12_0 h (fun x1 h => ?_)
  cases h
  exact J_iret (pc := 15) dX12_vaneAt_15 rfl rfl
def fX12_shaftAt (o : Nat) (a1 : Int32) (a2 : Int32) (σ : Mm) : Option (Int32 × Mm) := g_ar σ o 0 2950 (((2520 : Int32) + ((5 : Int32) * a1)) + a2) (fun x1 => some (x1, σ))
set_option maxRecDepth 100000 in
set_option maxHeartbeats 4000000 in
theorem ctX12_shaftAt (l : Launch) (E : EV) (o : Nat) (a1 : Int32) (a2 : Int32) (ho : KD o = 12) (σ : Mm) {xr : Int32} {τ : Mm} (h : fX12_shaftAt o a1 a2 σ = some (xr, τ)) : Ct l E mX12_shaftAt 0 [.ref (e_a E o 0), .int a1, .int a2] σ (some (.int xr), τ) := by
  refine Ct.of (by decide +kernel) (Nat.le_of_ble_eq_true rfl) ?_
  show Jd l E mX12_shaftAt 0 (some (.int xr), τ) σ 0 [(0, .ref (e_a E o 0)), (1, .int a1), (2, .int a2)] []
  unfold fX12_shaftAt at h
  refine J_aload_n (pc := 0) 0 dX12_shaftAt_0 rfl ?_
  refine J_getA (pc := 1) dX12_shaftAt_1 ho flX12_7 rfl ?_
  refine J_sipush (pc := 4) (2520 : Int32) dX12_shaftAt_4 (by decide) ?_
  refine J_iconst (pc := 7) (5 : Int32) dX12_shaftAt_7 (by decide) ?_
  refine J_iload_n (pc := 8) 1 dX12_shaftAt_8 rfl ?_
  refine J_imul (pc := 9) dX12_shaftAt_9 ?_
  refine J_iadd (pc := 10) dX12_shaftAt_10 ?_
  refine J_iload_n (pc := 11) 2 dX12_shaftAt_11 rfl ?_
  refine J_iadd (pc := 12) dX12_shaftAt_12 ?_
  refine J_iald (pc := 13) dX12_shaftAt_13 ho ha12_0 h (fun x1 h => ?_)
  cases h
  exact J_iret (pc := 14) dX12_shaftAt_14 rfl rfl
def fX12_begins0_2 (o : Nat) : Nat → Int32 → Mm → Option (Mm)
  | 0, _, _ => none
  | n + 1, v1, σ => if (120 : Int32) ≤ v1 then (some σ) else (g_ar σ o 0 2950 v1 (fun x1 => s_ar σ o 0 2950 ((2450 : Int32) + v1) x1 (fun σ2 => (fX12_begins0_2 o n) (v1 + (1 : Int32)) σ2)))
set_option maxRecDepth 100000 in
set_option maxHeartbeats 4000000 in
theorem tX12_begins0_2 (l : Launch) (E : EV) {τ : Mm} (o : Nat) (ho : KD o = 12) : ∀ (n : Nat) (v1 : Int32) (σ : Mm), fX12_begins0_2 o n v1 σ = some τ → Jd l E mX12_begins0 0 (none, τ) σ 2 [(0, .ref (e_a E o 0)), (1, .int v1)] [] := by
  intro n
  induction n with
  | zero => intro v1 σ h; rw [fX12_begins0_2] at h; cases h
  | succ n ih =>
    intro v1 σ h
    rw [fX12_begins0_2] at h
    refine J_iload_n (pc := 2) 1 dX12_begins0_2 rfl ?_
    refine J_bipush (pc := 3) (120 : Int32) dX12_begins0_3 (by decide) ?_
    refine J_icmp_ge (pc := 5) 30 dX12_begins0_5 (by decide) h (fun h => ?_) (fun h => ?_)
    · cases h
      exact J_vret (pc := 30) dX12_begins0_30 rfl
    · refine J_aload_n (pc := 8) 0 dX12_begins0_8 rfl ?_
      refine J_getA (pc := 9) dX12_begins0_9 ho flX12_7 rfl ?_
      refine J_sipush (pc := 12) (2450 : Int32) dX12_begins0_12 (by decide) ?_
      refine J_iload_n (pc := 15) 1 dX12_begins0_15 rfl ?_
      refine J_iadd (pc := 16) dX12_begins0_16 ?_
      refine J_aload_n (pc := 17) 0 dX12_begins0_17 rfl ?_
      refine J_getA (pc := 18) dX12_begins0_18 ho flX12_7 rfl ?_
      refine J_iload_n (pc := 21) 1 dX12_begins0_21 rfl ?_
      refine J_iald (pc := 22) dX12_begins0_22 ho ha12_0 h (fun x1 h => ?_)
      refine J_iast (pc := 23) dX12_begins0_23 ho ha12_0 h (fun σ2 h => ?_)
      refine J_iinc (pc := 24) (L' := [(1, .int (v1 + (1 : Int32))), (0, .ref (e_a E o 0))]) 1 (v1 + (1 : Int32)) dX12_begins0_24 rfl (by rfl) (by decide) rfl ?_
      refine J_goto (pc := 27) 2 dX12_begins0_27 (by decide) ?_
      refine J_sub (L' := [(0, .ref (e_a E o 0)), (1, .int (v1 + (1 : Int32)))]) [1, 0] rfl ?_
      exact ih (v1 + (1 : Int32)) σ2 h
def fX12_begins0 (o : Nat) (σ : Mm) : Option (Mm) := fX12_begins0_2 o FU (0 : Int32) σ
set_option maxRecDepth 100000 in
set_option maxHeartbeats 4000000 in
theorem ctX12_begins0 (l : Launch) (E : EV) (o : Nat) (ho : KD o = 12) (σ : Mm) {τ : Mm} (h : fX12_begins0 o σ = some τ) : Ct l E mX12_begins0 0 [.ref (e_a E o 0)] σ (none, τ) := by
  refine Ct.of (by decide +kernel) (Nat.le_of_ble_eq_true rfl) ?_
  show Jd l E mX12_begins0 0 (none, τ) σ 0 [(0, .ref (e_a E o 0))] []
  unfold fX12_begins0 at h
  refine J_iconst (pc := 0) (0 : Int32) dX12_begins0_0 (by decide) ?_
  refine J_istore_n (pc := 1) (L' := [(1, .int (0 : Int32)), (0, .ref (e_a E o 0))]) dX12_begins0_1 (by decide) rfl ?_
  refine J_sub (L' := [(0, .ref (e_a E o 0)), (1, .int (0 : Int32))]) [1, 0] rfl ?_
  exact tX12_begins0_2 l E o ho FU (0 : Int32) σ h
def fX12_laysBack_2 (o : Nat) : Nat → Int32 → Mm → Option (Mm)
  | 0, _, _ => none
  | n + 1, v1, σ => if (120 : Int32) ≤ v1 then (some σ) else (g_ar σ o 0 2950 ((2450 : Int32) + v1) (fun x1 => s_ar σ o 0 2950 v1 x1 (fun σ2 => (fX12_laysBack_2 o n) (v1 + (1 : Int32)) σ2)))
set_option maxRecDepth 100000 in
set_option maxHeartbeats 4000000 in
theorem tX12_laysBack_2 (l : Launch) (E : EV) {τ : Mm} (o : Nat) (ho : KD o = 12) : ∀ (n : Nat) (v1 : Int32) (σ : Mm), fX12_laysBack_2 o n v1 σ = some τ → Jd l E mX12_laysBack 0 (none, τ) σ 2 [(0, .ref (e_a E o 0)), (1, .int v1)] [] := by
  intro n
  induction n with
  | zero => intro v1 σ h; rw [fX12_laysBack_2] at h; cases h
  | succ n ih =>
    intro v1 σ h
    rw [fX12_laysBack_2] at h
    refine J_iload_n (pc := 2) 1 dX12_laysBack_2 rfl ?_
    refine J_bipush (pc := 3) (120 : Int32) dX12_laysBack_3 (by decide) ?_
    refine J_icmp_ge (pc := 5) 30 dX12_laysBack_5 (by decide) h (fun h => ?_) (fun h => ?_)
    · cases h
      exact J_vret (pc := 30) dX12_laysBack_30 rfl
    · refine J_aload_n (pc := 8) 0 dX12_laysBack_8 rfl ?_
      refine J_getA (pc := 9) dX12_laysBack_9 ho flX12_7 rfl ?_
      refine J_iload_n (pc := 12) 1 dX12_laysBack_12 rfl ?_
      refine J_aload_n (pc := 13) 0 dX12_laysBack_13 rfl ?_
      refine J_getA (pc := 14) dX12_laysBack_14 ho flX12_7 rfl ?_
      refine J_sipush (pc := 17) (2450 : Int32) dX12_laysBack_17 (by decide) ?_
      refine J_iload_n (pc := 20) 1 dX12_laysBack_20 rfl ?_
      refine J_iadd (pc := 21) dX12_laysBack_21 ?_
      refine J_iald (pc := 22) dX12_laysBack_22 ho ha12_0 h (fun x1 h => ?_)
      refine J_iast (pc := 23) dX12_laysBack_23 ho ha12_0 h (fun σ2 h => ?_)
      refine J_iinc (pc := 24) (L' := [(1, .int (v1 + (1 : Int32))), (0, .ref (e_a E o 0))]) 1 (v1 + (1 : Int32)) dX12_laysBack_24 rfl (by rfl) (by decide) rfl ?_
      refine J_goto (pc := 27) 2 dX12_laysBack_27 (by decide) ?_
      refine J_sub (L' := [(0, .ref (e_a E o 0)), (1, .int (v1 + (1 : Int32)))]) [1, 0] rfl ?_
      exact ih (v1 + (1 : Int32)) σ2 h
def fX12_laysBack (o : Nat) (σ : Mm) : Option (Mm) := fX12_laysBack_2 o FU (0 : Int32) σ
set_option maxRecDepth 100000 in
set_option maxHeartbeats 4000000 in
theorem ctX12_laysBack (l : Launch) (E : EV) (o : Nat) (ho : KD o = 12) (σ : Mm) {τ : Mm} (h : fX12_laysBack o σ = some τ) : Ct l E mX12_laysBack 0 [.ref (e_a E o 0)] σ (none, τ) := by
  refine Ct.of (by decide +kernel) (Nat.le_of_ble_eq_true rfl) ?_
  show Jd l E mX12_laysBack 0 (none, τ) σ 0 [(0, .ref (e_a E o 0))] []
  unfold fX12_laysBack at h
  refine J_iconst (pc := 0) (0 : Int32) dX12_laysBack_0 (by decide) ?_
  refine J_istore_n (pc := 1) (L' := [(1, .int (0 : Int32)), (0, .ref (e_a E o 0))]) dX12_laysBack_1 (by decide) rfl ?_
  refine J_sub (L' := [(0, .ref (e_a E o 0)), (1, .int (0 : Int32))]) [1, 0] rfl ?_
  exact tX12_laysBack_2 l E o ho FU (0 : Int32) σ h
def fX12_told (o : Nat) (a1 : Int32) (σ : Mm) : Option (Int32 × Mm) := if a1 < 0 then (c_I (fX12_refuse o (1 : Int32) σ) (fun x3 σ1 => some (x3, σ1))) else (if a1 ≤ (5 : Int32) then (g_ar σ o 0 2950 a1 (fun x4 => c_I (fX12_gives o x4 σ) (fun x7 σ5 => some (x7, σ5)))) else (c_I (fX12_refuse o (1 : Int32) σ) (fun x10 σ8 => some (x10, σ8))))
set_option maxRecDepth 100000 in
set_option maxHeartbeats 4000000 in
theorem ctX12_told (l : Launch) (E : EV) (o : Nat) (a1 : Int32) (ho : KD o = 12) (σ : Mm) {xr : Int32} {τ : Mm} (h : fX12_told o a1 σ = some (xr, τ)) : Ct l E mX12_told 1 [.ref (e_a E o 0), .int a1] σ (some (.int xr), τ) := by
  refine Ct.of (by decide +kernel) (Nat.le_of_ble_eq_true rfl) ?_
  show Jd l E mX12_told 1 (some (.int xr), τ) σ 0 [(0, .ref (e_a E o 0)), (1, .int a1)] []
  unfold fX12_told at h
  refine J_iload_n (pc := 0) 1 dX12_told_0 rfl ?_
  refine J_if_lt (pc := 1) 9 dX12_told_1 (by decide) h (fun h => ?_) (fun h => ?_)
  · refine J_aload_n (pc := 9) 0 dX12_told_9 rfl ?_
    refine J_iconst (pc := 10) (1 : Int32) dX12_told_10 (by decide) ?_
    obtain ⟨x3, σ1, hc2, h⟩ := cI_t h
    refine J_cVi (pc := 11) (ctX12_refuse l E o (1 : Int32) ho σ hc2) dX12_told_11 mlX12_83 mvX12_refuse ho rfl (by decide) rfl (Nat.le_of_ble_eq_true rfl) ?_
    refine J_goto (pc := 14) 27 dX12_told_14 (by decide) ?_
    cases h
    exact J_iret (pc := 27) dX12_told_27 rfl rfl
  · refine J_iload_n (pc := 4) 1 dX12_told_4 rfl ?_
    refine J_iconst (pc := 5) (5 : Int32) dX12_told_5 (by decide) ?_
    refine J_icmp_le (pc := 6) 17 dX12_told_6 (by decide) h (fun h => ?_) (fun h => ?_)
    · refine J_aload_n (pc := 17) 0 dX12_told_17 rfl ?_
      refine J_aload_n (pc := 18) 0 dX12_told_18 rfl ?_
      refine J_getA (pc := 19) dX12_told_19 ho flX12_7 rfl ?_
      refine J_iload_n (pc := 22) 1 dX12_told_22 rfl ?_
      refine J_iald (pc := 23) dX12_told_23 ho ha12_0 h (fun x4 h => ?_)
      obtain ⟨x7, σ5, hc6, h⟩ := cI_t h
      refine J_cVi (pc := 24) (ctX12_gives l E o x4 ho σ hc6) dX12_told_24 mlX12_87 mvX12_gives ho rfl (by decide) rfl (Nat.le_of_ble_eq_true rfl) ?_
      cases h
      exact J_iret (pc := 27) dX12_told_27 rfl rfl
    · refine J_aload_n (pc := 9) 0 dX12_told_9 rfl ?_
      refine J_iconst (pc := 10) (1 : Int32) dX12_told_10 (by decide) ?_
      obtain ⟨x10, σ8, hc9, h⟩ := cI_t h
      refine J_cVi (pc := 11) (ctX12_refuse l E o (1 : Int32) ho σ hc9) dX12_told_11 mlX12_83 mvX12_refuse ho rfl (by decide) rfl (Nat.le_of_ble_eq_true rfl) ?_
      refine J_goto (pc := 14) 27 dX12_told_14 (by decide) ?_
      cases h
      exact J_iret (pc := 27) dX12_told_27 rfl rfl
def fX12_vane (o : Nat) (a1 : Int32) (a2 : Int32) (σ : Mm) : Option (Int32 × Mm) := c_I (fX12_isVane o a1 σ) (fun x3 σ1 => if x3 = 0 then (c_I (fX12_refuse o (1 : Int32) σ1) (fun x6 σ4 => some (x6, σ4))) else (if a2 < 0 then (c_I (fX12_refuse o (1 : Int32) σ1) (fun x9 σ7 => some (x9, σ7))) else (if (5 : Int32) < a2 then (c_I (fX12_refuse o (1 : Int32) σ1) (fun x12 σ10 => some (x12, σ10))) else (g_ar σ1 o 0 2950 (((20 : Int32) + ((6 : Int32) * a1)) + a2) (fun x13 => c_I (fX12_gives o x13 σ1) (fun x16 σ14 => some (x16, σ14)))))))
set_option maxRecDepth 100000 in
set_option maxHeartbeats 4000000 in
theorem ctX12_vane (l : Launch) (E : EV) (o : Nat) (a1 : Int32) (a2 : Int32) (ho : KD o = 12) (σ : Mm) {xr : Int32} {τ : Mm} (h : fX12_vane o a1 a2 σ = some (xr, τ)) : Ct l E mX12_vane 1 [.ref (e_a E o 0), .int a1, .int a2] σ (some (.int xr), τ) := by
  refine Ct.of (by decide +kernel) (Nat.le_of_ble_eq_true rfl) ?_
  show Jd l E mX12_vane 1 (some (.int xr), τ) σ 0 [(0, .ref (e_a E o 0)), (1, .int a1), (2, .int a2)] []
  unfold fX12_vane at h
  refine J_aload_n (pc := 0) 0 dX12_vane_0 rfl ?_
  refine J_iload_n (pc := 1) 1 dX12_vane_1 rfl ?_
  obtain ⟨x3, σ1, hc2, h⟩ := cI_t h
  refine J_cVi (pc := 2) (ctX12_isVane l E o a1 ho σ hc2) dX12_vane_2 mlX12_243 mvX12_isVane ho rfl (by decide) rfl (Nat.le_of_ble_eq_true rfl) ?_
  refine J_if_eq (pc := 5) 38 dX12_vane_5 (by decide) h (fun h => ?_) (fun h => ?_)
  · refine J_aload_n (pc := 38) 0 dX12_vane_38 rfl ?_
    refine J_iconst (pc := 39) (1 : Int32) dX12_vane_39 (by decide) ?_
    obtain ⟨x6, σ4, hc5, h⟩ := cI_t h
    refine J_cVi (pc := 40) (ctX12_refuse l E o (1 : Int32) ho σ1 hc5) dX12_vane_40 mlX12_83 mvX12_refuse ho rfl (by decide) rfl (Nat.le_of_ble_eq_true rfl) ?_
    cases h
    exact J_iret (pc := 43) dX12_vane_43 rfl rfl
  · refine J_iload_n (pc := 8) 2 dX12_vane_8 rfl ?_
    refine J_if_lt (pc := 9) 38 dX12_vane_9 (by decide) h (fun h => ?_) (fun h => ?_)
    · refine J_aload_n (pc := 38) 0 dX12_vane_38 rfl ?_
      refine J_iconst (pc := 39) (1 : Int32) dX12_vane_39 (by decide) ?_
      obtain ⟨x9, σ7, hc8, h⟩ := cI_t h
      refine J_cVi (pc := 40) (ctX12_refuse l E o (1 : Int32) ho σ1 hc8) dX12_vane_40 mlX12_83 mvX12_refuse ho rfl (by decide) rfl (Nat.le_of_ble_eq_true rfl) ?_
      cases h
      exact J_iret (pc := 43) dX12_vane_43 rfl rfl
    · refine J_iload_n (pc := 12) 2 dX12_vane_12 rfl ?_
      refine J_iconst (pc := 13) (5 : Int32) dX12_vane_13 (by decide) ?_
      refine J_icmp_gt (pc := 14) 38 dX12_vane_14 (by decide) h (fun h => ?_) (fun h => ?_)
      · refine J_aload_n (pc := 38) 0 dX12_vane_38 rfl ?_
        refine J_iconst (pc := 39) (1 : Int32) dX12_vane_39 (by decide) ?_
        obtain ⟨x12, σ10, hc11, h⟩ := cI_t h
        refine J_cVi (pc := 40) (ctX12_refuse l E o (1 : Int32) ho σ1 hc11) dX12_vane_40 mlX12_83 mvX12_refuse ho rfl (by decide) rfl (Nat.le_of_ble_eq_true rfl) ?_
        cases h
        exact J_iret (pc := 43) dX12_vane_43 rfl rfl
      · refine J_aload_n (pc := 17) 0 dX12_vane_17 rfl ?_
        refine J_aload_n (pc := 18) 0 dX12_vane_18 rfl ?_
        refine J_getA (pc := 19) dX12_vane_19 ho flX12_7 rfl ?_
        refine J_bipush (pc := 22) (20 : Int32) dX12_vane_22 (by decide) ?_
        refine J_bipush (pc := 24) (6 : Int32) dX12_vane_24 (by decide) ?_
        refine J_iload_n (pc := 26) 1 dX12_vane_26 rfl ?_
        refine J_imul (pc := 27) dX12_vane_27 ?_
        refine J_iadd (pc := 28) dX12_vane_28 ?_
        refine J_iload_n (pc := 29) 2 dX12_vane_29 rfl ?_
        refine J_iadd (pc := 30) dX12_vane_30 ?_
        refine J_iald (pc := 31) dX12_vane_31 ho ha12_0 h (fun x13 h => ?_)
        obtain ⟨x16, σ14, hc15, h⟩ := cI_t h
        refine J_cVi (pc := 32) (ctX12_gives l E o x13 ho σ1 hc15) dX12_vane_32 mlX12_87 mvX12_gives ho rfl (by decide) rfl (Nat.le_of_ble_eq_true rfl) ?_
        refine J_goto (pc := 35) 43 dX12_vane_35 (by decide) ?_
        cases h
        exact J_iret (pc := 43) dX12_vane_43 rfl rfl
def fX12_shaft (o : Nat) (a1 : Int32) (a2 : Int32) (σ : Mm) : Option (Int32 × Mm) := c_I (fX12_isShaft o a1 σ) (fun x3 σ1 => if x3 = 0 then (c_I (fX12_refuse o (1 : Int32) σ1) (fun x6 σ4 => some (x6, σ4))) else (if a2 < 0 then (c_I (fX12_refuse o (1 : Int32) σ1) (fun x9 σ7 => some (x9, σ7))) else (if (4 : Int32) < a2 then (c_I (fX12_refuse o (1 : Int32) σ1) (fun x12 σ10 => some (x12, σ10))) else (g_ar σ1 o 0 2950 (((70 : Int32) + ((5 : Int32) * a1)) + a2) (fun x13 => c_I (fX12_gives o x13 σ1) (fun x16 σ14 => some (x16, σ14)))))))
set_option maxRecDepth 100000 in
set_option maxHeartbeats 4000000 in
theorem ctX12_shaft (l : Launch) (E : EV) (o : Nat) (a1 : Int32) (a2 : Int32) (ho : KD o = 12) (σ : Mm) {xr : Int32} {τ : Mm} (h : fX12_shaft o a1 a2 σ = some (xr, τ)) : Ct l E mX12_shaft 1 [.ref (e_a E o 0), .int a1, .int a2] σ (some (.int xr), τ) := by
  refine Ct.of (by decide +kernel) (Nat.le_of_ble_eq_true rfl) ?_
  show Jd l E mX12_shaft 1 (some (.int xr), τ) σ 0 [(0, .ref (e_a E o 0)), (1, .int a1), (2, .int a2)] []
  unfold fX12_shaft at h
  refine J_aload_n (pc := 0) 0 dX12_shaft_0 rfl ?_
  refine J_iload_n (pc := 1) 1 dX12_shaft_1 rfl ?_
  obtain ⟨x3, σ1, hc2, h⟩ := cI_t h
  refine J_cVi (pc := 2) (ctX12_isShaft l E o a1 ho σ hc2) dX12_shaft_2 mlX12_246 mvX12_isShaft ho rfl (by decide) rfl (Nat.le_of_ble_eq_true rfl) ?_
  refine J_if_eq (pc := 5) 37 dX12_shaft_5 (by decide) h (fun h => ?_) (fun h => ?_)
  · refine J_aload_n (pc := 37) 0 dX12_shaft_37 rfl ?_
    refine J_iconst (pc := 38) (1 : Int32) dX12_shaft_38 (by decide) ?_
    obtain ⟨x6, σ4, hc5, h⟩ := cI_t h
    refine J_cVi (pc := 39) (ctX12_refuse l E o (1 : Int32) ho σ1 hc5) dX12_shaft_39 mlX12_83 mvX12_refuse ho rfl (by decide) rfl (Nat.le_of_ble_eq_true rfl) ?_
    cases h
    exact J_iret (pc := 42) dX12_shaft_42 rfl rfl
  · refine J_iload_n (pc := 8) 2 dX12_shaft_8 rfl ?_
    refine J_if_lt (pc := 9) 37 dX12_shaft_9 (by decide) h (fun h => ?_) (fun h => ?_)
    · refine J_aload_n (pc := 37) 0 dX12_shaft_37 rfl ?_
      refine J_iconst (pc := 38) (1 : Int32) dX12_shaft_38 (by decide) ?_
      obtain ⟨x9, σ7, hc8, h⟩ := cI_t h
      refine J_cVi (pc := 39) (ctX12_refuse l E o (1 : Int32) ho σ1 hc8) dX12_shaft_39 mlX12_83 mvX12_refuse ho rfl (by decide) rfl (Nat.le_of_ble_eq_true rfl) ?_
      cases h
      exact J_iret (pc := 42) dX12_shaft_42 rfl rfl
    · refine J_iload_n (pc := 12) 2 dX12_shaft_12 rfl ?_
      refine J_iconst (pc := 13) (4 : Int32) dX12_shaft_13 (by decide) ?_
      refine J_icmp_gt (pc := 14) 37 dX12_shaft_14 (by decide) h (fun h => ?_) (fun h => ?_)
      · refine J_aload_n (pc := 37) 0 dX12_shaft_37 rfl ?_
        refine J_iconst (pc := 38) (1 : Int32) dX12_shaft_38 (by decide) ?_
        obtain ⟨x12, σ10, hc11, h⟩ := cI_t h
        refine J_cVi (pc := 39) (ctX12_refuse l E o (1 : Int32) ho σ1 hc11) dX12_shaft_39 mlX12_83 mvX12_refuse ho rfl (by decide) rfl (Nat.le_of_ble_eq_true rfl) ?_
        cases h
        exact J_iret (pc := 42) dX12_shaft_42 rfl rfl
      · refine J_aload_n (pc := 17) 0 dX12_shaft_17 rfl ?_
        refine J_aload_n (pc := 18) 0 dX12_shaft_18 rfl ?_
        refine J_getA (pc := 19) dX12_shaft_19 ho flX12_7 rfl ?_
        refine J_bipush (pc := 22) (70 : Int32) dX12_shaft_22 (by decide) ?_
        refine J_iconst (pc := 24) (5 : Int32) dX12_shaft_24 (by decide) ?_
        refine J_iload_n (pc := 25) 1 dX12_shaft_25 rfl ?_
        refine J_imul (pc := 26) dX12_shaft_26 ?_
        refine J_iadd (pc := 27) dX12_shaft_27 ?_
        refine J_iload_n (pc := 28) 2 dX12_shaft_28 rfl ?_
        refine J_iadd (pc := 29) dX12_shaft_29 ?_
        refine J_iald (pc := 30) dX12_shaft_30 ho ha12_0 h (fun x13 h => ?_)
        obtain ⟨x16, σ14, hc15, h⟩ := cI_t h
        refine J_cVi (pc := 31) (ctX12_gives l E o x13 ho σ1 hc15) dX12_shaft_31 mlX12_87 mvX12_gives ho rfl (by decide) rfl (Nat.le_of_ble_eq_true rfl) ?_
        refine J_goto (pc := 34) 42 dX12_shaft_34 (by decide) ?_
        cases h
        exact J_iret (pc := 42) dX12_shaft_42 rfl rfl
def fX12_isCalm (o : Nat) (a1 : Int32) (σ : Mm) : Option (Int32 × Mm) := c_I (fX12_vaneAt o a1 (1 : Int32) σ) (fun x3 σ1 => g_ar σ1 o 0 2950 (((2460 : Int32) + ((2 : Int32) * x3)) + (1 : Int32)) (fun x4 => if x4 = 0 then (some ((1 : Int32), σ1)) else (some ((0 : Int32), σ1))))
set_option maxRecDepth 100000 in
set_option maxHeartbeats 4000000 in
theorem ctX12_isCalm (l : Launch) (E : EV) (o : Nat) (a1 : Int32) (ho : KD o = 12) (σ : Mm) {xr : Int32} {τ : Mm} (h : fX12_isCalm o a1 σ = some (xr, τ)) : Ct l E mX12_isCalm 1 [.ref (e_a E o 0), .int a1] σ (some (.int xr), τ) := by
  refine Ct.of (by decide +kernel) (Nat.le_of_ble_eq_true rfl) ?_
  show Jd l E mX12_isCalm 1 (some (.int xr), τ) σ 0 [(0, .ref (e_a E o 0)), (1, .int a1)] []
  unfold fX12_isCalm at h
  refine J_aload_n (pc := 0) 0 dX12_isCalm_0 rfl ?_
  refine J_getA (pc := 1) dX12_isCalm_1 ho flX12_7 rfl ?_
  refine J_sipush (pc := 4) (2460 : Int32) dX12_isCalm_4 (by decide) ?_
  refine J_iconst (pc := 7) (2 : Int32) dX12_isCalm_7 (by decide) ?_
  refine J_aload_n (pc := 8) 0 dX12_isCalm_8 rfl ?_
  refine J_iload_n (pc := 9) 1 dX12_isCalm_9 rfl ?_
  refine J_iconst (pc := 10) (1 : Int32) dX12_isCalm_10 (by decide) ?_
  obtain ⟨x3, σ1, hc2, h⟩ := cI_t h
  refine J_cVi (pc := 11) (ctX12_vaneAt l E o a1 (1 : Int32) ho σ hc2) dX12_isCalm_11 mlX12_249 mvX12_vaneAt ho rfl (by decide) rfl (Nat.le_of_ble_eq_true rfl) ?_
  refine J_imul (pc := 14) dX12_isCalm_14 ?_
  refine J_iadd (pc := 15) dX12_isCalm_15 ?_
  refine J_iconst (pc := 16) (1 : Int32) dX12_isCalm_16 (by decide) ?_
  refine J_iadd (pc := 17) dX12_isCalm_17 ?_
  refine J_iald (pc := 18) dX12_isCalm_18 ho ha12_0 h (fun x4 h => ?_)
  refine J_if_ne (pc := 19) 26 dX12_isCalm_19 (by decide) h (fun h => ?_) (fun h => ?_)
  · refine J_iconst (pc := 26) (0 : Int32) dX12_isCalm_26 (by decide) ?_
    cases h
    exact J_iret (pc := 27) dX12_isCalm_27 rfl rfl
  · refine J_iconst (pc := 22) (1 : Int32) dX12_isCalm_22 (by decide) ?_
    refine J_goto (pc := 23) 27 dX12_isCalm_23 (by decide) ?_
    cases h
    exact J_iret (pc := 27) dX12_isCalm_27 rfl rfl
def fX12_wantOf (o : Nat) (a1 : Int32) (σ : Mm) : Option (Int32 × Mm) := c_I (fX12_vaneAt o a1 (0 : Int32) σ) (fun x3 σ1 => c_I (fX12_vaneAt o a1 (1 : Int32) σ1) (fun x6 σ4 => g_ar σ4 o 0 2950 ((2460 : Int32) + ((2 : Int32) * x6)) (fun x7 => c_I (fX12_vaneAt o a1 (0 : Int32) σ4) (fun x10 σ8 => n_z x10 (some (((((x3 * x7) + (8 : Int32)) / (16 : Int32)) - (((x3 * x7) + (8 : Int32)) / (16 : Int32)) / x10 * x10), σ8))))))
set_option maxRecDepth 100000 in
set_option maxHeartbeats 4000000 in
theorem ctX12_wantOf (l : Launch) (E : EV) (o : Nat) (a1 : Int32) (ho : KD o = 12) (σ : Mm) {xr : Int32} {τ : Mm} (h : fX12_wantOf o a1 σ = some (xr, τ)) : Ct l E mX12_wantOf 1 [.ref (e_a E o 0), .int a1] σ (some (.int xr), τ) := by
  refine Ct.of (by decide +kernel) (Nat.le_of_ble_eq_true rfl) ?_
  show Jd l E mX12_wantOf 1 (some (.int xr), τ) σ 0 [(0, .ref (e_a E o 0)), (1, .int a1)] []
  unfold fX12_wantOf at h
  refine J_aload_n (pc := 0) 0 dX12_wantOf_0 rfl ?_
  refine J_iload_n (pc := 1) 1 dX12_wantOf_1 rfl ?_
  refine J_iconst (pc := 2) (0 : Int32) dX12_wantOf_2 (by decide) ?_
  obtain ⟨x3, σ1, hc2, h⟩ := cI_t h
  refine J_cVi (pc := 3) (ctX12_vaneAt l E o a1 (0 : Int32) ho σ hc2) dX12_wantOf_3 mlX12_249 mvX12_vaneAt ho rfl (by decide) rfl (Nat.le_of_ble_eq_true rfl) ?_
  refine J_aload_n (pc := 6) 0 dX12_wantOf_6 rfl ?_
  refine J_getA (pc := 7) dX12_wantOf_7 ho flX12_7 rfl ?_
  refine J_sipush (pc := 10) (2460 : Int32) dX12_wantOf_10 (by decide) ?_
  refine J_iconst (pc := 13) (2 : Int32) dX12_wantOf_13 (by decide) ?_
  refine J_aload_n (pc := 14) 0 dX12_wantOf_14 rfl ?_
  refine J_iload_n (pc := 15) 1 dX12_wantOf_15 rfl ?_
  refine J_iconst (pc := 16) (1 : Int32) dX12_wantOf_16 (by decide) ?_
  obtain ⟨x6, σ4, hc5, h⟩ := cI_t h
  refine J_cVi (pc := 17) (ctX12_vaneAt l E o a1 (1 : Int32) ho σ1 hc5) dX12_wantOf_17 mlX12_249 mvX12_vaneAt ho rfl (by decide) rfl (Nat.le_of_ble_eq_true rfl) ?_
  refine J_imul (pc := 20) dX12_wantOf_20 ?_
  refine J_iadd (pc := 21) dX12_wantOf_21 ?_
  refine J_iald (pc := 22) dX12_wantOf_22 ho ha12_0 h (fun x7 h => ?_)
  refine J_imul (pc := 23) dX12_wantOf_23 ?_
  refine J_bipush (pc := 24) (8 : Int32) dX12_wantOf_24 (by decide) ?_
  refine J_iadd (pc := 26) dX12_wantOf_26 ?_
  refine J_bipush (pc := 27) (16 : Int32) dX12_wantOf_27 (by decide) ?_
  refine J_idiv (pc := 29) dX12_wantOf_29 (by decide) ?_
  refine J_aload_n (pc := 30) 0 dX12_wantOf_30 rfl ?_
  refine J_iload_n (pc := 31) 1 dX12_wantOf_31 rfl ?_
  refine J_iconst (pc := 32) (0 : Int32) dX12_wantOf_32 (by decide) ?_
  obtain ⟨x10, σ8, hc9, h⟩ := cI_t h
  refine J_cVi (pc := 33) (ctX12_vaneAt l E o a1 (0 : Int32) ho σ4 hc9) dX12_wantOf_33 mlX12_249 mvX12_vaneAt ho rfl (by decide) rfl (Nat.le_of_ble_eq_true rfl) ?_
  obtain ⟨hz11, h⟩ := nz_t h
  refine J_irem (pc := 36) dX12_wantOf_36 hz11 ?_
  cases h
  exact J_iret (pc := 37) dX12_wantOf_37 rfl rfl
def fX12_isRight (o : Nat) (a1 : Int32) (σ : Mm) : Option (Int32 × Mm) := c_I (fX12_isCalm o a1 σ) (fun x3 σ1 => if x3 = 0 then (c_I (fX12_vaneAt o a1 (3 : Int32) σ1) (fun x6 σ4 => c_I (fX12_wantOf o a1 σ4) (fun x9 σ7 => if x6 = x9 then (some ((1 : Int32), σ7)) else (some ((0 : Int32), σ7))))) else (some ((1 : Int32), σ1)))
set_option maxRecDepth 100000 in
set_option maxHeartbeats 4000000 in
theorem ctX12_isRight (l : Launch) (E : EV) (o : Nat) (a1 : Int32) (ho : KD o = 12) (σ : Mm) {xr : Int32} {τ : Mm} (h : fX12_isRight o a1 σ = some (xr, τ)) : Ct l E mX12_isRight 2 [.ref (e_a E o 0), .int a1] σ (some (.int xr), τ) := by
  refine Ct.of (by decide +kernel) (Nat.le_of_ble_eq_true rfl) ?_
  show Jd l E mX12_isRight 2 (some (.int xr), τ) σ 0 [(0, .ref (e_a E o 0)), (1, .int a1)] []
  unfold fX12_isRight at h
  refine J_aload_n (pc := 0) 0 dX12_isRight_0 rfl ?_
  refine J_iload_n (pc := 1) 1 dX12_isRight_1 rfl ?_
  obtain ⟨x3, σ1, hc2, h⟩ := cI_t h
  refine J_cVi (pc := 2) (ctX12_isCalm l E o a1 ho σ hc2) dX12_isRight_2 mlX12_252 mvX12_isCalm ho rfl (by decide) rfl (Nat.le_of_ble_eq_true rfl) ?_
  refine J_if_ne (pc := 5) 22 dX12_isRight_5 (by decide) h (fun h => ?_) (fun h => ?_)
  · refine J_iconst (pc := 22) (1 : Int32) dX12_isRight_22 (by decide) ?_
    refine J_goto (pc := 23) 27 dX12_isRight_23 (by decide) ?_
    cases h
    exact J_iret (pc := 27) dX12_isRight_27 rfl rfl
  · refine J_aload_n (pc := 8) 0 dX12_isRight_8 rfl ?_
    refine J_iload_n (pc := 9) 1 dX12_isRight_9 rfl ?_
    refine J_iconst (pc := 10) (3 : Int32) dX12_isRight_10 (by decide) ?_
    obtain ⟨x6, σ4, hc5, h⟩ := cI_t h
    refine J_cVi (pc := 11) (ctX12_vaneAt l E o a1 (3 : Int32) ho σ1 hc5) dX12_isRight_11 mlX12_249 mvX12_vaneAt ho rfl (by decide) rfl (Nat.le_of_ble_eq_true rfl) ?_
    refine J_aload_n (pc := 14) 0 dX12_isRight_14 rfl ?_
    refine J_iload_n (pc := 15) 1 dX12_isRight_15 rfl ?_
    obtain ⟨x9, σ7, hc8, h⟩ := cI_t h
    refine J_cVi (pc := 16) (ctX12_wantOf l E o a1 ho σ4 hc8) dX12_isRight_16 mlX12_255 mvX12_wantOf ho rfl (by decide) rfl (Nat.le_of_ble_eq_true rfl) ?_
    refine J_icmp_ne (pc := 19) 26 dX12_isRight_19 (by decide) h (fun h => ?_) (fun h => ?_)
    · refine J_iconst (pc := 26) (0 : Int32) dX12_isRight_26 (by decide) ?_
      cases h
      exact J_iret (pc := 27) dX12_isRight_27 rfl rfl
    · refine J_iconst (pc := 22) (1 : Int32) dX12_isRight_22 (by decide) ?_
      refine J_goto (pc := 23) 27 dX12_isRight_23 (by decide) ?_
      cases h
      exact J_iret (pc := 27) dX12_isRight_27 rfl rfl
def fX12_rightSet_4 (o : Nat) : Nat → Int32 → Int32 → Mm → Option (Int32 × Mm)
  | 0, _, _, _ => none
  | n + 1, v1, v2, σ => g_ar σ o 0 2950 (1 : Int32) (fun x1 => if x1 ≤ v2 then (some (v1, σ)) else (c_I (fX12_isRight o v2 σ) (fun x4 σ2 => if x4 = 0 then ((fX12_rightSet_4 o n) (v1 ||| (0 : Int32)) (v2 + (1 : Int32)) σ2) else ((fX12_rightSet_4 o n) (v1 ||| ((1 : Int32) <<< (v2 &&& 31))) (v2 + (1 : Int32)) σ2))))
set_option maxRecDepth 100000 in
set_option maxHeartbeats 4000000 in
theorem tX12_rightSet_4 (l : Launch) (E : EV) {xr : Int32} {τ : Mm} (o : Nat) (ho : KD o = 12) : ∀ (n : Nat) (v1 : Int32) (v2 : Int32) (σ : Mm), fX12_rightSet_4 o n v1 v2 σ = some (xr, τ) → Jd l E mX12_rightSet 3 (some (.int xr), τ) σ 4 [(0, .ref (e_a E o 0)), (1, .int v1), (2, .int v2)] [] := by
  intro n
  induction n with
  | zero => intro v1 v2 σ h; rw [fX12_rightSet_4] at h; cases h
  | succ n ih =>
    intro v1 v2 σ h
    rw [fX12_rightSet_4] at h
    refine J_iload_n (pc := 4) 2 dX12_rightSet_4 rfl ?_
    refine J_aload_n (pc := 5) 0 dX12_rightSet_5 rfl ?_
    refine J_getA (pc := 6) dX12_rightSet_6 ho flX12_7 rfl ?_
    refine J_iconst (pc := 9) (1 : Int32) dX12_rightSet_9 (by decide) ?_
    refine J_iald (pc := 10) dX12_rightSet_10 ho ha12_0 h (fun x1 h => ?_)
    refine J_icmp_ge (pc := 11) 38 dX12_rightSet_11 (by decide) h (fun h => ?_) (fun h => ?_)
    · refine J_iload_n (pc := 38) 1 dX12_rightSet_38 rfl ?_
      cases h
      exact J_iret (pc := 39) dX12_rightSet_39 rfl rfl
    · refine J_iload_n (pc := 14) 1 dX12_rightSet_14 rfl ?_
      refine J_aload_n (pc := 15) 0 dX12_rightSet_15 rfl ?_
      refine J_iload_n (pc := 16) 2 dX12_rightSet_16 rfl ?_
      obtain ⟨x4, σ2, hc3, h⟩ := cI_t h
      refine J_cVi (pc := 17) (ctX12_isRight l E o v2 ho σ hc3) dX12_rightSet_17 mlX12_258 mvX12_isRight ho rfl (by decide) rfl (Nat.le_of_ble_eq_true rfl) ?_
      refine J_if_eq (pc := 20) 29 dX12_rightSet_20 (by decide) h (fun h => ?_) (fun h => ?_)
      · refine J_iconst (pc := 29) (0 : Int32) dX12_rightSet_29 (by decide) ?_
        refine J_ior (pc := 30) dX12_rightSet_30 ?_
        refine J_istore_n (pc := 31) (L' := [(1, .int (v1 ||| (0 : Int32))), (0, .ref (e_a E o 0)), (2, .int v2)]) dX12_rightSet_31 (by decide) rfl ?_
        refine J_iinc (pc := 32) (L' := [(2, .int (v2 + (1 : Int32))), (1, .int (v1 ||| (0 : Int32))), (0, .ref (e_a E o 0))]) 2 (v2 + (1 : Int32)) dX12_rightSet_32 rfl (by rfl) (by decide) rfl ?_
        refine J_goto (pc := 35) 4 dX12_rightSet_35 (by decide) ?_
        refine J_sub (L' := [(0, .ref (e_a E o 0)), (1, .int (v1 ||| (0 : Int32))), (2, .int (v2 + (1 : Int32)))]) [2, 1, 0] rfl ?_
        exact ih (v1 ||| (0 : Int32)) (v2 + (1 : Int32)) σ2 h
      · refine J_iconst (pc := 23) (1 : Int32) dX12_rightSet_23 (by decide) ?_
        refine J_iload_n (pc := 24) 2 dX12_rightSet_24 rfl ?_
        refine J_ishl (pc := 25) dX12_rightSet_25 ?_
        refine J_goto (pc := 26) 30 dX12_rightSet_26 (by decide) ?_
        refine J_ior (pc := 30) dX12_rightSet_30 ?_
        refine J_istore_n (pc := 31) (L' := [(1, .int (v1 ||| ((1 : Int32) <<< (v2 &&& 31)))), (0, .ref (e_a E o 0)), (2, .int v2)]) dX12_rightSet_31 (by decide) rfl ?_
        refine J_iinc (pc := 32) (L' := [(2, .int (v2 + (1 : Int32))), (1, .int (v1 ||| ((1 : Int32) <<< (v2 &&& 31)))), (0, .ref (e_a E o 0))]) 2 (v2 + (1 : Int32)) dX12_rightSet_32 rfl (by rfl) (by decide) rfl ?_
        refine J_goto (pc := 35) 4 dX12_rightSet_35 (by decide) ?_
        refine J_sub (L' := [(0, .ref (e_a E o 0)), (1, .int (v1 ||| ((1 : Int32) <<< (v2 &&& 31)))), (2, .int (v2 + (1 : Int32)))]) [2, 1, 0] rfl ?_
        exact ih (v1 ||| ((1 : Int32) <<< (v2 &&& 31))) (v2 + (1 : Int32)) σ2 h
def fX12_rightSet (o : Nat) (σ : Mm) : Option (Int32 × Mm) := fX12_rightSet_4 o FU (0 : Int32) (0 : Int32) σ
set_option maxRecDepth 100000 in
set_option maxHeartbeats 4000000 in
theorem ctX12_rightSet (l : Launch) (E : EV) (o : Nat) (ho : KD o = 12) (σ : Mm) {xr : Int32} {τ : Mm} (h : fX12_rightSet o σ = some (xr, τ)) : Ct l E mX12_rightSet 3 [.ref (e_a E o 0)] σ (some (.int xr), τ) := by
  refine Ct.of (by decide +kernel) (Nat.le_of_ble_eq_true rfl) ?_
  show Jd l E mX12_rightSet 3 (some (.int xr), τ) σ 0 [(0, .ref (e_a E o 0))] []
  unfold fX12_rightSet at h
  refine J_iconst (pc := 0) (0 : Int32) dX12_rightSet_0 (by decide) ?_
  refine J_istore_n (pc := 1) (L' := [(1, .int (0 : Int32)), (0, .ref (e_a E o 0))]) dX12_rightSet_1 (by decide) rfl ?_
  refine J_iconst (pc := 2) (0 : Int32) dX12_rightSet_2 (by decide) ?_
  refine J_istore_n (pc := 3) (L' := [(2, .int (0 : Int32)), (1, .int (0 : Int32)), (0, .ref (e_a E o 0))]) dX12_rightSet_3 (by decide) rfl ?_
  refine J_sub (L' := [(0, .ref (e_a E o 0)), (1, .int (0 : Int32)), (2, .int (0 : Int32))]) [2, 1, 0] rfl ?_
  exact tX12_rightSet_4 l E o ho FU (0 : Int32) (0 : Int32) σ h
