def fX12_pour_143 (o : Nat) (a1 : Int32) (a2 : Int32) (a3 : Int32) (a4 : Int32) (a5 : Int32) (k118 : Int32 → Mm → Option (Int32 × Mm)) (v6 : Int32) (s0 : Int32) (σ : Mm) : Option (Int32 × Mm) := g_la σ o 4 240 ((((60 : Int32) * a1) + a2) + s0) (fun x57 => s_la σ o 4 240 ((((60 : Int32) * a3) + a4) + s0) x57 (fun σ58 => k118 (v6 + (1 : Int32)) σ58))
set_option maxRecDepth 100000 in
set_option maxHeartbeats 4000000 in
theorem tX12_pour_143 (l : Launch) (E : EV) {xr : Int32} {τ : Mm} (o : Nat) (a1 : Int32) (a2 : Int32) (a3 : Int32) (a4 : Int32) (a5 : Int32) (ho : KD o = 12) (k118 : Int32 → Mm → Option (Int32 × Mm)) (hk118 : ∀ (v6 : Int32) (σ : Mm), k118 v6 σ = some (xr, τ) → Jd l E mX12_pour 1 (some (.int xr), τ) σ 118 [(0, .ref (e_a E o 0)), (1, .int a1), (2, .int a2), (3, .int a3), (4, .int a4), (5, .int a5), (6, .int v6)] []) (v6 : Int32) (s0 : Int32) (σ : Mm) (h : fX12_pour_143 o a1 a2 a3 a4 a5 k118 v6 s0 σ = some (xr, τ)) : Jd l E mX12_pour 1 (some (.int xr), τ) σ 143 [(0, .ref (e_a E o 0)), (1, .int a1), (2, .int a2), (3, .int a3), (4, .int a4), (5, .int a5), (6, .int v6)] [.int s0] := by
  unfold fX12_pour_143 at h
  refine J_istore (pc := 143) (L' := [(7, .int s0), (0, .ref (e_a E o 0)), (1, .int a1), (2, .int a2), (3, .int a3), (4, .int a4), (5, .int a5), (6, .int v6)]) dX12_pour_143 (by decide) rfl ?_
  refine J_aload_n (pc := 145) 1 dX12_pour_145 rfl ?_
  refine J_getA (pc := 146) dX12_pour_146 ho flX12_27 rfl ?_
  refine J_bipush (pc := 149) (60 : Int32) dX12_pour_149 (by decide) ?_
  refine J_iload_n (pc := 151) 4 dX12_pour_151 rfl ?_
  refine J_imul (pc := 152) dX12_pour_152 ?_
  refine J_iload (pc := 153) 5 dX12_pour_153 rfl ?_
  refine J_iadd (pc := 155) dX12_pour_155 ?_
  refine J_iload (pc := 156) 0 dX12_pour_156 rfl ?_
  refine J_iadd (pc := 158) dX12_pour_158 ?_
  refine J_aload_n (pc := 159) 1 dX12_pour_159 rfl ?_
  refine J_getA (pc := 160) dX12_pour_160 ho flX12_27 rfl ?_
  refine J_bipush (pc := 163) (60 : Int32) dX12_pour_163 (by decide) ?_
  refine J_iload_n (pc := 165) 2 dX12_pour_165 rfl ?_
  refine J_imul (pc := 166) dX12_pour_166 ?_
  refine J_iload_n (pc := 167) 3 dX12_pour_167 rfl ?_
  refine J_iadd (pc := 168) dX12_pour_168 ?_
  refine J_iload (pc := 169) 0 dX12_pour_169 rfl ?_
  refine J_iadd (pc := 171) dX12_pour_171 ?_
  refine J_lald (pc := 172) dX12_pour_172 ho ha12_4 h (fun x57 h => ?_)
  refine J_last (pc := 173) dX12_pour_173 ho ha12_4 h (fun σ58 h => ?_)
  refine J_iinc (pc := 174) (L' := [(6, .int (v6 + (1 : Int32))), (7, .int s0), (0, .ref (e_a E o 0)), (1, .int a1), (2, .int a2), (3, .int a3), (4, .int a4), (5, .int a5)]) 7 (v6 + (1 : Int32)) dX12_pour_174 rfl (by rfl) (by decide) rfl ?_
  refine J_goto (pc := 177) 118 dX12_pour_177 (by decide) ?_
  refine J_sub (L' := [(0, .ref (e_a E o 0)), (1, .int a1), (2, .int a2), (3, .int a3), (4, .int a4), (5, .int a5), (6, .int (v6 + (1 : Int32)))]) [2, 3, 4, 5, 6, 7, 0] rfl ?_
  exact hk118 (v6 + (1 : Int32)) σ58 h
def fX12_pour_118 (o : Nat) (a1 : Int32) (a2 : Int32) (a3 : Int32) (a4 : Int32) (a5 : Int32) : Nat → Int32 → Mm → Option (Int32 × Mm)
  | 0, _, _ => none
  | n + 1, v6, σ => if a5 ≤ v6 then (c_I (fX12_is o (0 : Int32) σ) (fun x55 σ53 => b_z x55 σ53)) else (if a4 ≤ a2 then (fX12_pour_143 o a1 a2 a3 a4 a5 (fX12_pour_118 o a1 a2 a3 a4 a5 n) v6 v6 σ) else (fX12_pour_143 o a1 a2 a3 a4 a5 (fX12_pour_118 o a1 a2 a3 a4 a5 n) v6 ((a5 - (1 : Int32)) - v6) σ))
set_option maxRecDepth 100000 in
set_option maxHeartbeats 4000000 in
theorem tX12_pour_118 (l : Launch) (E : EV) {xr : Int32} {τ : Mm} (o : Nat) (a1 : Int32) (a2 : Int32) (a3 : Int32) (a4 : Int32) (a5 : Int32) (ho : KD o = 12) : ∀ (n : Nat) (v6 : Int32) (σ : Mm), fX12_pour_118 o a1 a2 a3 a4 a5 n v6 σ = some (xr, τ) → Jd l E mX12_pour 1 (some (.int xr), τ) σ 118 [(0, .ref (e_a E o 0)), (1, .int a1), (2, .int a2), (3, .int a3), (4, .int a4), (5, .int a5), (6, .int v6)] [] := by
  intro n
  induction n with
  | zero => intro v6 σ h; rw [fX12_pour_118] at h; cases h
  | succ n ih =>
    intro v6 σ h
    rw [fX12_pour_118] at h
    refine J_iload (pc := 118) 6 dX12_pour_118 rfl ?_
    refine J_iload (pc := 120) 5 dX12_pour_120 rfl ?_
    refine J_icmp_ge (pc := 122) 180 dX12_pour_122 (by decide) h (fun h => ?_) (fun h => ?_)
    · refine J_aload_n (pc := 180) 0 dX12_pour_180 rfl ?_
      refine J_iconst (pc := 181) (0 : Int32) dX12_pour_181 (by decide) ?_
      obtain ⟨x55, σ53, hc54, h⟩ := cI_t h
      refine J_cVi (pc := 182) (ctX12_is l E o (0 : Int32) ho σ hc54) dX12_pour_182 mlX12_90 mvX12_is ho rfl (by decide) rfl (Nat.le_of_ble_eq_true rfl) ?_
      obtain ⟨hz56, h⟩ := bz_t h
      cases h
      exact J_iret (pc := 185) dX12_pour_185 rfl hz56
    · refine J_iload_n (pc := 125) 2 dX12_pour_125 rfl ?_
      refine J_iload (pc := 126) 4 dX12_pour_126 rfl ?_
      refine J_icmp_ge (pc := 128) 141 dX12_pour_128 (by decide) h (fun h => ?_) (fun h => ?_)
      · refine J_iload (pc := 141) 6 dX12_pour_141 rfl ?_
        refine J_sub (L' := [(0, .ref (e_a E o 0)), (1, .int a1), (2, .int a2), (3, .int a3), (4, .int a4), (5, .int a5), (6, .int v6)]) [0, 1, 2, 3, 4, 5, 6] rfl ?_
        exact tX12_pour_143 l E o a1 a2 a3 a4 a5 ho (fX12_pour_118 o a1 a2 a3 a4 a5 n) ih v6 v6 σ h
      · refine J_iload (pc := 131) 5 dX12_pour_131 rfl ?_
        refine J_iconst (pc := 133) (1 : Int32) dX12_pour_133 (by decide) ?_
        refine J_isub (pc := 134) dX12_pour_134 ?_
        refine J_iload (pc := 135) 6 dX12_pour_135 rfl ?_
        refine J_isub (pc := 137) dX12_pour_137 ?_
        refine J_goto (pc := 138) 143 dX12_pour_138 (by decide) ?_
        refine J_sub (L' := [(0, .ref (e_a E o 0)), (1, .int a1), (2, .int a2), (3, .int a3), (4, .int a4), (5, .int a5), (6, .int v6)]) [0, 1, 2, 3, 4, 5, 6] rfl ?_
        exact tX12_pour_143 l E o a1 a2 a3 a4 a5 ho (fX12_pour_118 o a1 a2 a3 a4 a5 n) ih v6 ((a5 - (1 : Int32)) - v6) σ h
def fX12_pour (o : Nat) (a1 : Int32) (a2 : Int32) (a3 : Int32) (a4 : Int32) (a5 : Int32) (σ : Mm) : Option (Int32 × Mm) := c_I (fX12_isTray a1 σ) (fun x3 σ1 => if x3 = 0 then (c_I (fX12_is o (1 : Int32) σ1) (fun x6 σ4 => b_z x6 σ4)) else (c_I (fX12_isTray a3 σ1) (fun x10 σ8 => if x10 = 0 then (c_I (fX12_is o (1 : Int32) σ8) (fun x13 σ11 => b_z x13 σ11)) else (if a2 < 0 then (c_I (fX12_is o (1 : Int32) σ8) (fun x17 σ15 => b_z x17 σ15)) else (if a4 < 0 then (c_I (fX12_is o (1 : Int32) σ8) (fun x21 σ19 => b_z x21 σ19)) else (if 0 ≤ a5 then (g_ar σ8 o 3 4 a1 (fun x23 => if x23 = (-1 : Int32) then (c_I (fX12_is o (2 : Int32) σ8) (fun x26 σ24 => b_z x26 σ24)) else (g_ar σ8 o 3 4 a3 (fun x28 => if x28 = (-1 : Int32) then (c_I (fX12_is o (2 : Int32) σ8) (fun x47 σ45 => b_z x47 σ45)) else (g_ar σ8 o 2 4 a1 (fun x29 => g_ar σ8 o 2 4 a3 (fun x30 => if x29 = x30 then (g_ar σ8 o 3 4 a1 (fun x31 => if (x31 - a2) < a5 then (c_I (fX12_is o (3 : Int32) σ8) (fun x34 σ32 => b_z x34 σ32)) else (g_ar σ8 o 3 4 a3 (fun x36 => if a5 ≤ (x36 - a4) then (fX12_pour_118 o a1 a2 a3 a4 a5 FU (0 : Int32) σ8) else (c_I (fX12_is o (3 : Int32) σ8) (fun x39 σ37 => b_z x39 σ37)))))) else (c_I (fX12_is o (8 : Int32) σ8) (fun x43 σ41 => b_z x43 σ41))))))))) else (c_I (fX12_is o (1 : Int32) σ8) (fun x51 σ49 => b_z x51 σ49))))))))
set_option maxRecDepth 100000 in
set_option maxHeartbeats 4000000 in
theorem ctX12_pour (l : Launch) (E : EV) (o : Nat) (a1 : Int32) (a2 : Int32) (a3 : Int32) (a4 : Int32) (a5 : Int32) (ho : KD o = 12) (σ : Mm) {xr : Int32} {τ : Mm} (h : fX12_pour o a1 a2 a3 a4 a5 σ = some (xr, τ)) : Ct l E mX12_pour 1 [.ref (e_a E o 0), .int a1, .int a2, .int a3, .int a4, .int a5] σ (some (.int xr), τ) := by
  refine Ct.of (by decide +kernel) (Nat.le_of_ble_eq_true rfl) ?_
  show Jd l E mX12_pour 1 (some (.int xr), τ) σ 0 [(0, .ref (e_a E o 0)), (1, .int a1), (2, .int a2), (3, .int a3), (4, .int a4), (5, .int a5)] []
  unfold fX12_pour at h
  refine J_iload_n (pc := 0) 1 dX12_pour_0 rfl ?_
  obtain ⟨x3, σ1, hc2, h⟩ := cI_t h
  refine J_cSi (pc := 1) (ctX12_isTray l E a1 σ hc2) dX12_pour_1 mlX12_94 msX12_isTray rfl (by decide) rfl (Nat.le_of_ble_eq_true rfl) ?_
  refine J_if_eq (pc := 4) 28 dX12_pour_4 (by decide) h (fun h => ?_) (fun h => ?_)
  · refine J_aload_n (pc := 28) 0 dX12_pour_28 rfl ?_
    refine J_iconst (pc := 29) (1 : Int32) dX12_pour_29 (by decide) ?_
    obtain ⟨x6, σ4, hc5, h⟩ := cI_t h
    refine J_cVi (pc := 30) (ctX12_is l E o (1 : Int32) ho σ1 hc5) dX12_pour_30 mlX12_90 mvX12_is ho rfl (by decide) rfl (Nat.le_of_ble_eq_true rfl) ?_
    obtain ⟨hz7, h⟩ := bz_t h
    cases h
    exact J_iret (pc := 33) dX12_pour_33 rfl hz7
  · refine J_iload_n (pc := 7) 3 dX12_pour_7 rfl ?_
    obtain ⟨x10, σ8, hc9, h⟩ := cI_t h
    refine J_cSi (pc := 8) (ctX12_isTray l E a3 σ1 hc9) dX12_pour_8 mlX12_94 msX12_isTray rfl (by decide) rfl (Nat.le_of_ble_eq_true rfl) ?_
    refine J_if_eq (pc := 11) 28 dX12_pour_11 (by decide) h (fun h => ?_) (fun h => ?_)
    · refine J_aload_n (pc := 28) 0 dX12_pour_28 rfl ?_
      refine J_iconst (pc := 29) (1 : Int32) dX12_pour_29 (by decide) ?_
      obtain ⟨x13, σ11, hc12, h⟩ := cI_t h
      refine J_cVi (pc := 30) (ctX12_is l E o (1 : Int32) ho σ8 hc12) dX12_pour_30 mlX12_90 mvX12_is ho rfl (by decide) rfl (Nat.le_of_ble_eq_true rfl) ?_
      obtain ⟨hz14, h⟩ := bz_t h
      cases h
      exact J_iret (pc := 33) dX12_pour_33 rfl hz14
    · refine J_iload_n (pc := 14) 2 dX12_pour_14 rfl ?_
      refine J_if_lt (pc := 15) 28 dX12_pour_15 (by decide) h (fun h => ?_) (fun h => ?_)
      · refine J_aload_n (pc := 28) 0 dX12_pour_28 rfl ?_
        refine J_iconst (pc := 29) (1 : Int32) dX12_pour_29 (by decide) ?_
        obtain ⟨x17, σ15, hc16, h⟩ := cI_t h
        refine J_cVi (pc := 30) (ctX12_is l E o (1 : Int32) ho σ8 hc16) dX12_pour_30 mlX12_90 mvX12_is ho rfl (by decide) rfl (Nat.le_of_ble_eq_true rfl) ?_
        obtain ⟨hz18, h⟩ := bz_t h
        cases h
        exact J_iret (pc := 33) dX12_pour_33 rfl hz18
      · refine J_iload (pc := 18) 4 dX12_pour_18 rfl ?_
        refine J_if_lt (pc := 20) 28 dX12_pour_20 (by decide) h (fun h => ?_) (fun h => ?_)
        · refine J_aload_n (pc := 28) 0 dX12_pour_28 rfl ?_
          refine J_iconst (pc := 29) (1 : Int32) dX12_pour_29 (by decide) ?_
          obtain ⟨x21, σ19, hc20, h⟩ := cI_t h
          refine J_cVi (pc := 30) (ctX12_is l E o (1 : Int32) ho σ8 hc20) dX12_pour_30 mlX12_90 mvX12_is ho rfl (by decide) rfl (Nat.le_of_ble_eq_true rfl) ?_
          obtain ⟨hz22, h⟩ := bz_t h
          cases h
          exact J_iret (pc := 33) dX12_pour_33 rfl hz22
        · refine J_iload (pc := 23) 5 dX12_pour_23 rfl ?_
          refine J_if_ge (pc := 25) 34 dX12_pour_25 (by decide) h (fun h => ?_) (fun h => ?_)
          · refine J_aload_n (pc := 34) 0 dX12_pour_34 rfl ?_
            refine J_getA (pc := 35) dX12_pour_35 ho flX12_24 rfl ?_
            refine J_iload_n (pc := 38) 1 dX12_pour_38 rfl ?_
            refine J_iald (pc := 39) dX12_pour_39 ho ha12_3 h (fun x23 h => ?_)
            refine J_iconst (pc := 40) (-1 : Int32) dX12_pour_40 (by decide) ?_
            refine J_icmp_eq (pc := 41) 54 dX12_pour_41 (by decide) h (fun h => ?_) (fun h => ?_)
            · refine J_aload_n (pc := 54) 0 dX12_pour_54 rfl ?_
              refine J_iconst (pc := 55) (2 : Int32) dX12_pour_55 (by decide) ?_
              obtain ⟨x26, σ24, hc25, h⟩ := cI_t h
              refine J_cVi (pc := 56) (ctX12_is l E o (2 : Int32) ho σ8 hc25) dX12_pour_56 mlX12_90 mvX12_is ho rfl (by decide) rfl (Nat.le_of_ble_eq_true rfl) ?_
              obtain ⟨hz27, h⟩ := bz_t h
              cases h
              exact J_iret (pc := 59) dX12_pour_59 rfl hz27
            · refine J_aload_n (pc := 44) 0 dX12_pour_44 rfl ?_
              refine J_getA (pc := 45) dX12_pour_45 ho flX12_24 rfl ?_
              refine J_iload_n (pc := 48) 3 dX12_pour_48 rfl ?_
              refine J_iald (pc := 49) dX12_pour_49 ho ha12_3 h (fun x28 h => ?_)
              refine J_iconst (pc := 50) (-1 : Int32) dX12_pour_50 (by decide) ?_
              refine J_icmp_ne (pc := 51) 60 dX12_pour_51 (by decide) h (fun h => ?_) (fun h => ?_)
              · refine J_aload_n (pc := 60) 0 dX12_pour_60 rfl ?_
                refine J_getA (pc := 61) dX12_pour_61 ho flX12_21 rfl ?_
                refine J_iload_n (pc := 64) 1 dX12_pour_64 rfl ?_
                refine J_iald (pc := 65) dX12_pour_65 ho ha12_2 h (fun x29 h => ?_)
                refine J_aload_n (pc := 66) 0 dX12_pour_66 rfl ?_
                refine J_getA (pc := 67) dX12_pour_67 ho flX12_21 rfl ?_
                refine J_iload_n (pc := 70) 3 dX12_pour_70 rfl ?_
                refine J_iald (pc := 71) dX12_pour_71 ho ha12_2 h (fun x30 h => ?_)
                refine J_icmp_eq (pc := 72) 82 dX12_pour_72 (by decide) h (fun h => ?_) (fun h => ?_)
                · refine J_iload (pc := 82) 5 dX12_pour_82 rfl ?_
                  refine J_aload_n (pc := 84) 0 dX12_pour_84 rfl ?_
                  refine J_getA (pc := 85) dX12_pour_85 ho flX12_24 rfl ?_
                  refine J_iload_n (pc := 88) 1 dX12_pour_88 rfl ?_
                  refine J_iald (pc := 89) dX12_pour_89 ho ha12_3 h (fun x31 h => ?_)
                  refine J_iload_n (pc := 90) 2 dX12_pour_90 rfl ?_
                  refine J_isub (pc := 91) dX12_pour_91 ?_
                  refine J_icmp_gt (pc := 92) 109 dX12_pour_92 (by decide) h (fun h => ?_) (fun h => ?_)
                  · refine J_aload_n (pc := 109) 0 dX12_pour_109 rfl ?_
                    refine J_iconst (pc := 110) (3 : Int32) dX12_pour_110 (by decide) ?_
                    obtain ⟨x34, σ32, hc33, h⟩ := cI_t h
                    refine J_cVi (pc := 111) (ctX12_is l E o (3 : Int32) ho σ8 hc33) dX12_pour_111 mlX12_90 mvX12_is ho rfl (by decide) rfl (Nat.le_of_ble_eq_true rfl) ?_
                    obtain ⟨hz35, h⟩ := bz_t h
                    cases h
                    exact J_iret (pc := 114) dX12_pour_114 rfl hz35
                  · refine J_iload (pc := 95) 5 dX12_pour_95 rfl ?_
                    refine J_aload_n (pc := 97) 0 dX12_pour_97 rfl ?_
                    refine J_getA (pc := 98) dX12_pour_98 ho flX12_24 rfl ?_
                    refine J_iload_n (pc := 101) 3 dX12_pour_101 rfl ?_
                    refine J_iald (pc := 102) dX12_pour_102 ho ha12_3 h (fun x36 h => ?_)
                    refine J_iload (pc := 103) 4 dX12_pour_103 rfl ?_
                    refine J_isub (pc := 105) dX12_pour_105 ?_
                    refine J_icmp_le (pc := 106) 115 dX12_pour_106 (by decide) h (fun h => ?_) (fun h => ?_)
                    · refine J_iconst (pc := 115) (0 : Int32) dX12_pour_115 (by decide) ?_
                      refine J_istore (pc := 116) (L' := [(6, .int (0 : Int32)), (0, .ref (e_a E o 0)), (1, .int a1), (2, .int a2), (3, .int a3), (4, .int a4), (5, .int a5)]) dX12_pour_116 (by decide) rfl ?_
                      refine J_sub (L' := [(0, .ref (e_a E o 0)), (1, .int a1), (2, .int a2), (3, .int a3), (4, .int a4), (5, .int a5), (6, .int (0 : Int32))]) [1, 2, 3, 4, 5, 6, 0] rfl ?_
                      exact tX12_pour_118 l E o a1 a2 a3 a4 a5 ho FU (0 : Int32) σ8 h
                    · refine J_aload_n (pc := 109) 0 dX12_pour_109 rfl ?_
                      refine J_iconst (pc := 110) (3 : Int32) dX12_pour_110 (by decide) ?_
                      obtain ⟨x39, σ37, hc38, h⟩ := cI_t h
                      refine J_cVi (pc := 111) (ctX12_is l E o (3 : Int32) ho σ8 hc38) dX12_pour_111 mlX12_90 mvX12_is ho rfl (by decide) rfl (Nat.le_of_ble_eq_true rfl) ?_
                      obtain ⟨hz40, h⟩ := bz_t h
                      cases h
                      exact J_iret (pc := 114) dX12_pour_114 rfl hz40
                · refine J_aload_n (pc := 75) 0 dX12_pour_75 rfl ?_
                  refine J_bipush (pc := 76) (8 : Int32) dX12_pour_76 (by decide) ?_
                  obtain ⟨x43, σ41, hc42, h⟩ := cI_t h
                  refine J_cVi (pc := 78) (ctX12_is l E o (8 : Int32) ho σ8 hc42) dX12_pour_78 mlX12_90 mvX12_is ho rfl (by decide) rfl (Nat.le_of_ble_eq_true rfl) ?_
                  obtain ⟨hz44, h⟩ := bz_t h
                  cases h
                  exact J_iret (pc := 81) dX12_pour_81 rfl hz44
              · refine J_aload_n (pc := 54) 0 dX12_pour_54 rfl ?_
                refine J_iconst (pc := 55) (2 : Int32) dX12_pour_55 (by decide) ?_
                obtain ⟨x47, σ45, hc46, h⟩ := cI_t h
                refine J_cVi (pc := 56) (ctX12_is l E o (2 : Int32) ho σ8 hc46) dX12_pour_56 mlX12_90 mvX12_is ho rfl (by decide) rfl (Nat.le_of_ble_eq_true rfl) ?_
                obtain ⟨hz48, h⟩ := bz_t h
                cases h
                exact J_iret (pc := 59) dX12_pour_59 rfl hz48
          · refine J_aload_n (pc := 28) 0 dX12_pour_28 rfl ?_
            refine J_iconst (pc := 29) (1 : Int32) dX12_pour_29 (by decide) ?_
            obtain ⟨x51, σ49, hc50, h⟩ := cI_t h
            refine J_cVi (pc := 30) (ctX12_is l E o (1 : Int32) ho σ8 hc50) dX12_pour_30 mlX12_90 mvX12_is ho rfl (by decide) rfl (Nat.le_of_ble_eq_true rfl) ?_
            obtain ⟨hz52, h⟩ := bz_t h
            cases h
            exact J_iret (pc := 33) dX12_pour_33 rfl hz52
def fX12_isFrom (a1 : Int64) (a2 : Int64) (a3 : Int64) (σ : Mm) : Option (Int32 × Mm) := if (lg_cmp a1 a2) < 0 then (some ((0 : Int32), σ)) else (if 0 < (lg_cmp a1 a3) then (some ((0 : Int32), σ)) else (some ((1 : Int32), σ)))
set_option maxRecDepth 100000 in
set_option maxHeartbeats 4000000 in
theorem ctX12_isFrom (l : Launch) (E : EV) (a1 : Int64) (a2 : Int64) (a3 : Int64) (σ : Mm) {xr : Int32} {τ : Mm} (h : fX12_isFrom a1 a2 a3 σ = some (xr, τ)) : Ct l E mX12_isFrom 0 [.long a1, .long a2, .long a3] σ (some (.int xr), τ) := by
  refine Ct.of (by decide +kernel) (Nat.le_of_ble_eq_true rfl) ?_
  show Jd l E mX12_isFrom 0 (some (.int xr), τ) σ 0 [(0, .long a1), (2, .long a2), (4, .long a3)] []
  unfold fX12_isFrom at h
  refine J_lload_n (pc := 0) 0 dX12_isFrom_0 rfl ?_
  refine J_lload_n (pc := 1) 1 dX12_isFrom_1 rfl ?_
  refine J_lcmp (pc := 2) dX12_isFrom_2 ?_
  refine J_if_lt (pc := 3) 17 dX12_isFrom_3 (by decide) h (fun h => ?_) (fun h => ?_)
  · refine J_iconst (pc := 17) (0 : Int32) dX12_isFrom_17 (by decide) ?_
    cases h
    exact J_iret (pc := 18) dX12_isFrom_18 rfl rfl
  · refine J_lload_n (pc := 6) 0 dX12_isFrom_6 rfl ?_
    refine J_lload (pc := 7) 2 dX12_isFrom_7 rfl ?_
    refine J_lcmp (pc := 9) dX12_isFrom_9 ?_
    refine J_if_gt (pc := 10) 17 dX12_isFrom_10 (by decide) h (fun h => ?_) (fun h => ?_)
    · refine J_iconst (pc := 17) (0 : Int32) dX12_isFrom_17 (by decide) ?_
      cases h
      exact J_iret (pc := 18) dX12_isFrom_18 rfl rfl
    · refine J_iconst (pc := 13) (1 : Int32) dX12_isFrom_13 (by decide) ?_
      refine J_goto (pc := 14) 18 dX12_isFrom_14 (by decide) ?_
      cases h
      exact J_iret (pc := 18) dX12_isFrom_18 rfl rfl
def fX12_four_3 (o : Nat) (a1 : Int32) : Nat → Int32 → Mm → Option (Mm)
  | 0, _, _ => none
  | n + 1, v2, σ => if v2 < 0 then (some σ) else (r_sc σ o 10 (fun x1 => s_ar σ o 5 900 x1 (a1 >>> (v2 &&& 31)).toInt8.toInt32.toInt8.toInt32 (fun σ2 => r_sc σ2 o 10 (fun x3 => p_sc σ2 o 10 (x3 + (1 : Int32)) (fun σ4 => (fX12_four_3 o a1 n) (v2 + (-8 : Int32)) σ4)))))
set_option maxRecDepth 100000 in
set_option maxHeartbeats 4000000 in
theorem tX12_four_3 (l : Launch) (E : EV) {τ : Mm} (o : Nat) (a1 : Int32) (ho : KD o = 12) : ∀ (n : Nat) (v2 : Int32) (σ : Mm), fX12_four_3 o a1 n v2 σ = some τ → Jd l E mX12_four 0 (none, τ) σ 3 [(0, .ref (e_a E o 0)), (1, .int a1), (2, .int v2)] [] := by
  intro n
  induction n with
  | zero => intro v2 σ h; rw [fX12_four_3] at h; cases h
  | succ n ih =>
    intro v2 σ h
    rw [fX12_four_3] at h
    refine J_iload_n (pc := 3) 2 dX12_four_3 rfl ?_
    refine J_if_lt (pc := 4) 36 dX12_four_4 (by decide) h (fun h => ?_) (fun h => ?_)
    · cases h
      exact J_vret (pc := 36) dX12_four_36 rfl
    · refine J_aload_n (pc := 7) 0 dX12_four_7 rfl ?_
      refine J_getA (pc := 8) dX12_four_8 ho flX12_30 rfl ?_
      refine J_aload_n (pc := 11) 0 dX12_four_11 rfl ?_
      refine J_getI (pc := 12) dX12_four_12 ho flX12_107 rfl h (fun x1 h => ?_)
      refine J_iload_n (pc := 15) 1 dX12_four_15 rfl ?_
      refine J_iload_n (pc := 16) 2 dX12_four_16 rfl ?_
      refine J_ishr (pc := 17) dX12_four_17 ?_
      refine J_i2b (pc := 18) dX12_four_18 ?_
      refine J_bast (pc := 19) dX12_four_19 ho ha12_5 h (fun σ2 h => ?_)
      refine J_aload_n (pc := 20) 0 dX12_four_20 rfl ?_
      refine J_dup (pc := 21) dX12_four_21 rfl ?_
      refine J_getI (pc := 22) dX12_four_22 ho flX12_107 rfl h (fun x3 h => ?_)
      refine J_iconst (pc := 25) (1 : Int32) dX12_four_25 (by decide) ?_
      refine J_iadd (pc := 26) dX12_four_26 ?_
      refine J_putI (pc := 27) dX12_four_27 ho flX12_107 rfl h (fun σ4 h => ?_)
      refine J_iinc (pc := 30) (L' := [(2, .int (v2 + (-8 : Int32))), (0, .ref (e_a E o 0)), (1, .int a1)]) 2 (v2 + (-8 : Int32)) dX12_four_30 rfl (by rfl) (by decide) rfl ?_
      refine J_goto (pc := 33) 3 dX12_four_33 (by decide) ?_
      refine J_sub (L' := [(0, .ref (e_a E o 0)), (1, .int a1), (2, .int (v2 + (-8 : Int32)))]) [1, 2, 0] rfl ?_
      exact ih (v2 + (-8 : Int32)) σ4 h
def fX12_four (o : Nat) (a1 : Int32) (σ : Mm) : Option (Mm) := fX12_four_3 o a1 FU (24 : Int32) σ
set_option maxRecDepth 100000 in
set_option maxHeartbeats 4000000 in
theorem ctX12_four (l : Launch) (E : EV) (o : Nat) (a1 : Int32) (ho : KD o = 12) (σ : Mm) {τ : Mm} (h : fX12_four o a1 σ = some τ) : Ct l E mX12_four 0 [.ref (e_a E o 0), .int a1] σ (none, τ) := by
  refine Ct.of (by decide +kernel) (Nat.le_of_ble_eq_true rfl) ?_
  show Jd l E mX12_four 0 (none, τ) σ 0 [(0, .ref (e_a E o 0)), (1, .int a1)] []
  unfold fX12_four at h
  refine J_bipush (pc := 0) (24 : Int32) dX12_four_0 (by decide) ?_
  refine J_istore_n (pc := 2) (L' := [(2, .int (24 : Int32)), (0, .ref (e_a E o 0)), (1, .int a1)]) dX12_four_2 (by decide) rfl ?_
  refine J_sub (L' := [(0, .ref (e_a E o 0)), (1, .int a1), (2, .int (24 : Int32))]) [1, 2, 0] rfl ?_
  exact tX12_four_3 l E o a1 ho FU (24 : Int32) σ h
def fX12_feed (o : Nat) (a1 : Int32) (a2 : Int32) (a3 : Int32) (a4 : Int32) (a5 : Int32) (σ : Mm) : Option (Int32 × Mm) := r_sc σ o 10 (fun x1 => if (x1 + (20 : Int32)) ≤ (900 : Int32) then (c_V (fX12_four o a1 σ) (fun σ2 => c_V (fX12_four o a2 σ2) (fun σ4 => c_V (fX12_four o a3 σ4) (fun σ6 => c_V (fX12_four o a4 σ6) (fun σ8 => c_V (fX12_four o a5 σ8) (fun σ10 => r_sc σ10 o 10 (fun x12 => some (x12, σ10)))))))) else (some ((-1 : Int32), σ)))
set_option maxRecDepth 100000 in
set_option maxHeartbeats 4000000 in
theorem ctX12_feed (l : Launch) (E : EV) (o : Nat) (a1 : Int32) (a2 : Int32) (a3 : Int32) (a4 : Int32) (a5 : Int32) (ho : KD o = 12) (σ : Mm) {xr : Int32} {τ : Mm} (h : fX12_feed o a1 a2 a3 a4 a5 σ = some (xr, τ)) : Ct l E mX12_feed 1 [.ref (e_a E o 0), .int a1, .int a2, .int a3, .int a4, .int a5] σ (some (.int xr), τ) := by
  refine Ct.of (by decide +kernel) (Nat.le_of_ble_eq_true rfl) ?_
  show Jd l E mX12_feed 1 (some (.int xr), τ) σ 0 [(0, .ref (e_a E o 0)), (1, .int a1), (2, .int a2), (3, .int a3), (4, .int a4), (5, .int a5)] []
  unfold fX12_feed at h
  refine J_aload_n (pc := 0) 0 dX12_feed_0 rfl ?_
  refine J_getI (pc := 1) dX12_feed_1 ho flX12_107 rfl h (fun x1 h => ?_)
  refine J_bipush (pc := 4) (20 : Int32) dX12_feed_4 (by decide) ?_
  refine J_iadd (pc := 6) dX12_feed_6 ?_
  refine J_sipush (pc := 7) (900 : Int32) dX12_feed_7 (by decide) ?_
  refine J_icmp_le (pc := 10) 15 dX12_feed_10 (by decide) h (fun h => ?_) (fun h => ?_)
  · refine J_aload_n (pc := 15) 0 dX12_feed_15 rfl ?_
    refine J_iload_n (pc := 16) 1 dX12_feed_16 rfl ?_
    obtain ⟨σ2, hc3, h⟩ := cV_t h
    refine J_cVv (pc := 17) (ctX12_four l E o a1 ho σ hc3) dX12_feed_17 mlX12_110 mvX12_four ho rfl (by decide) rfl (Nat.le_of_ble_eq_true rfl) ?_
    refine J_aload_n (pc := 20) 0 dX12_feed_20 rfl ?_
    refine J_iload_n (pc := 21) 2 dX12_feed_21 rfl ?_
    obtain ⟨σ4, hc5, h⟩ := cV_t h
    refine J_cVv (pc := 22) (ctX12_four l E o a2 ho σ2 hc5) dX12_feed_22 mlX12_110 mvX12_four ho rfl (by decide) rfl (Nat.le_of_ble_eq_true rfl) ?_
    refine J_aload_n (pc := 25) 0 dX12_feed_25 rfl ?_
    refine J_iload_n (pc := 26) 3 dX12_feed_26 rfl ?_
    obtain ⟨σ6, hc7, h⟩ := cV_t h
    refine J_cVv (pc := 27) (ctX12_four l E o a3 ho σ4 hc7) dX12_feed_27 mlX12_110 mvX12_four ho rfl (by decide) rfl (Nat.le_of_ble_eq_true rfl) ?_
    refine J_aload_n (pc := 30) 0 dX12_feed_30 rfl ?_
    refine J_iload (pc := 31) 4 dX12_feed_31 rfl ?_
    obtain ⟨σ8, hc9, h⟩ := cV_t h
    refine J_cVv (pc := 33) (ctX12_four l E o a4 ho σ6 hc9) dX12_feed_33 mlX12_110 mvX12_four ho rfl (by decide) rfl (Nat.le_of_ble_eq_true rfl) ?_
    refine J_aload_n (pc := 36) 0 dX12_feed_36 rfl ?_
    refine J_iload (pc := 37) 5 dX12_feed_37 rfl ?_
    obtain ⟨σ10, hc11, h⟩ := cV_t h
    refine J_cVv (pc := 39) (ctX12_four l E o a5 ho σ8 hc11) dX12_feed_39 mlX12_110 mvX12_four ho rfl (by decide) rfl (Nat.le_of_ble_eq_true rfl) ?_
    refine J_aload_n (pc := 42) 0 dX12_feed_42 rfl ?_
    refine J_getI (pc := 43) dX12_feed_43 ho flX12_107 rfl h (fun x12 h => ?_)
    cases h
    exact J_iret (pc := 46) dX12_feed_46 rfl rfl
  · refine J_iconst (pc := 13) (-1 : Int32) dX12_feed_13 (by decide) ?_
    cases h
    exact J_iret (pc := 14) dX12_feed_14 rfl rfl
def fX12_byteAt (o : Nat) (a1 : Int32) (σ : Mm) : Option (Int32 × Mm) := r_sc σ o 11 (fun x1 => if x1 ≤ a1 then (some ((-1 : Int32), σ)) else (g_ar σ o 6 900 a1 (fun x2 => some ((x2 &&& (255 : Int32)), σ))))
set_option maxRecDepth 100000 in
set_option maxHeartbeats 4000000 in
theorem ctX12_byteAt (l : Launch) (E : EV) (o : Nat) (a1 : Int32) (ho : KD o = 12) (σ : Mm) {xr : Int32} {τ : Mm} (h : fX12_byteAt o a1 σ = some (xr, τ)) : Ct l E mX12_byteAt 0 [.ref (e_a E o 0), .int a1] σ (some (.int xr), τ) := by
  refine Ct.of (by decide +kernel) (Nat.le_of_ble_eq_true rfl) ?_
  show Jd l E mX12_byteAt 0 (some (.int xr), τ) σ 0 [(0, .ref (e_a E o 0)), (1, .int a1)] []
  unfold fX12_byteAt at h
  refine J_iload_n (pc := 0) 1 dX12_byteAt_0 rfl ?_
  refine J_aload_n (pc := 1) 0 dX12_byteAt_1 rfl ?_
  refine J_getI (pc := 2) dX12_byteAt_2 ho flX12_114 rfl h (fun x1 h => ?_)
  refine J_icmp_ge (pc := 5) 21 dX12_byteAt_5 (by decide) h (fun h => ?_) (fun h => ?_)
  · refine J_iconst (pc := 21) (-1 : Int32) dX12_byteAt_21 (by decide) ?_
    cases h
    exact J_iret (pc := 22) dX12_byteAt_22 rfl rfl
  · refine J_aload_n (pc := 8) 0 dX12_byteAt_8 rfl ?_
    refine J_getA (pc := 9) dX12_byteAt_9 ho flX12_34 rfl ?_
    refine J_iload_n (pc := 12) 1 dX12_byteAt_12 rfl ?_
    refine J_bald (pc := 13) dX12_byteAt_13 ho ha12_6 h (fun x2 h => ?_)
    refine J_sipush (pc := 14) (255 : Int32) dX12_byteAt_14 (by decide) ?_
    refine J_iand (pc := 17) dX12_byteAt_17 ?_
    refine J_goto (pc := 18) 22 dX12_byteAt_18 (by decide) ?_
    cases h
    exact J_iret (pc := 22) dX12_byteAt_22 rfl rfl
def fX12_isSmall (a1 : Int32) (σ : Mm) : Option (Int32 × Mm) := if a1 < (97 : Int32) then (some ((0 : Int32), σ)) else (if (122 : Int32) < a1 then (some ((0 : Int32), σ)) else (some ((1 : Int32), σ)))
set_option maxRecDepth 100000 in
set_option maxHeartbeats 4000000 in
theorem ctX12_isSmall (l : Launch) (E : EV) (a1 : Int32) (σ : Mm) {xr : Int32} {τ : Mm} (h : fX12_isSmall a1 σ = some (xr, τ)) : Ct l E mX12_isSmall 0 [.int a1] σ (some (.int xr), τ) := by
  refine Ct.of (by decide +kernel) (Nat.le_of_ble_eq_true rfl) ?_
  show Jd l E mX12_isSmall 0 (some (.int xr), τ) σ 0 [(0, .int a1)] []
  unfold fX12_isSmall at h
  refine J_iload_n (pc := 0) 0 dX12_isSmall_0 rfl ?_
  refine J_bipush (pc := 1) (97 : Int32) dX12_isSmall_1 (by decide) ?_
  refine J_icmp_lt (pc := 3) 16 dX12_isSmall_3 (by decide) h (fun h => ?_) (fun h => ?_)
  · refine J_iconst (pc := 16) (0 : Int32) dX12_isSmall_16 (by decide) ?_
    cases h
    exact J_iret (pc := 17) dX12_isSmall_17 rfl rfl
  · refine J_iload_n (pc := 6) 0 dX12_isSmall_6 rfl ?_
    refine J_bipush (pc := 7) (122 : Int32) dX12_isSmall_7 (by decide) ?_
    refine J_icmp_gt (pc := 9) 16 dX12_isSmall_9 (by decide) h (fun h => ?_) (fun h => ?_)
    · refine J_iconst (pc := 16) (0 : Int32) dX12_isSmall_16 (by decide) ?_
      cases h
      exact J_iret (pc := 17) dX12_isSmall_17 rfl rfl
    · refine J_iconst (pc := 12) (1 : Int32) dX12_isSmall_12 (by decide) ?_
      refine J_goto (pc := 13) 17 dX12_isSmall_13 (by decide) ?_
      cases h
      exact J_iret (pc := 17) dX12_isSmall_17 rfl rfl
def fX12_isDigit (a1 : Int32) (σ : Mm) : Option (Int32 × Mm) := if a1 < (48 : Int32) then (some ((0 : Int32), σ)) else (if (57 : Int32) < a1 then (some ((0 : Int32), σ)) else (some ((1 : Int32), σ)))
set_option maxRecDepth 100000 in
set_option maxHeartbeats 4000000 in
theorem ctX12_isDigit (l : Launch) (E : EV) (a1 : Int32) (σ : Mm) {xr : Int32} {τ : Mm} (h : fX12_isDigit a1 σ = some (xr, τ)) : Ct l E mX12_isDigit 0 [.int a1] σ (some (.int xr), τ) := by
  refine Ct.of (by decide +kernel) (Nat.le_of_ble_eq_true rfl) ?_
  show Jd l E mX12_isDigit 0 (some (.int xr), τ) σ 0 [(0, .int a1)] []
  unfold fX12_isDigit at h
  refine J_iload_n (pc := 0) 0 dX12_isDigit_0 rfl ?_
  refine J_bipush (pc := 1) (48 : Int32) dX12_isDigit_1 (by decide) ?_
  refine J_icmp_lt (pc := 3) 16 dX12_isDigit_3 (by decide) h (fun h => ?_) (fun h => ?_)
  · refine J_iconst (pc := 16) (0 : Int32) dX12_isDigit_16 (by decide) ?_
    cases h
    exact J_iret (pc := 17) dX12_isDigit_17 rfl rfl
  · refine J_iload_n (pc := 6) 0 dX12_isDigit_6 rfl ?_
    refine J_bipush (pc := 7) (57 : Int32) dX12_isDigit_7 (by decide) ?_
    refine J_icmp_gt (pc := 9) 16 dX12_isDigit_9 (by decide) h (fun h => ?_) (fun h => ?_)
    · refine J_iconst (pc := 16) (0 : Int32) dX12_isDigit_16 (by decide) ?_
      cases h
      exact J_iret (pc := 17) dX12_isDigit_17 rfl rfl
    · refine J_iconst (pc := 12) (1 : Int32) dX12_isDigit_12 (by decide) ?_
      refine J_goto (pc := 13) 17 dX12_isDigit_13 (by decide) ?_
      cases h
      exact J_iret (pc := 17) dX12_isDigit_17 rfl rfl
def fX12_ahead_81 (o : Nat) : Nat → Mm → Option (Mm)
  | 0, _ => none
  | n + 1, σ => r_sc σ o 14 (fun x50 => c_I (fX12_byteAt o x50 σ) (fun x53 σ51 => c_I (fX12_isSmall x53 σ51) (fun x56 σ54 => if x56 = 0 then (p_sc σ54 o 12 (2 : Int32) (fun σ57 => some σ57)) else (r_sc σ54 o 14 (fun x58 => p_sc σ54 o 14 (x58 + (1 : Int32)) (fun σ59 => (fX12_ahead_81 o n) σ59))))))
set_option maxRecDepth 100000 in
set_option maxHeartbeats 4000000 in
theorem tX12_ahead_81 (l : Launch) (E : EV) {τ : Mm} (o : Nat) (ho : KD o = 12) : ∀ (n : Nat) (σ : Mm), fX12_ahead_81 o n σ = some τ → Jd l E mX12_ahead 1 (none, τ) σ 81 [(0, .ref (e_a E o 0))] [] := by
  intro n
  induction n with
  | zero => intro σ h; rw [fX12_ahead_81] at h; cases h
  | succ n ih =>
    intro σ h
    rw [fX12_ahead_81] at h
    refine J_aload_n (pc := 81) 0 dX12_ahead_81 rfl ?_
    refine J_aload_n (pc := 82) 0 dX12_ahead_82 rfl ?_
    refine J_getI (pc := 83) dX12_ahead_83 ho flX12_117 rfl h (fun x50 h => ?_)
    obtain ⟨x53, σ51, hc52, h⟩ := cI_t h
    refine J_cVi (pc := 86) (ctX12_byteAt l E o x50 ho σ hc52) dX12_ahead_86 mlX12_120 mvX12_byteAt ho rfl (by decide) rfl (Nat.le_of_ble_eq_true rfl) ?_
    obtain ⟨x56, σ54, hc55, h⟩ := cI_t h
    refine J_cSi (pc := 89) (ctX12_isSmall l E x53 σ51 hc55) dX12_ahead_89 mlX12_132 msX12_isSmall rfl (by decide) rfl (Nat.le_of_ble_eq_true rfl) ?_
    refine J_if_eq (pc := 92) 108 dX12_ahead_92 (by decide) h (fun h => ?_) (fun h => ?_)
    · refine J_aload_n (pc := 108) 0 dX12_ahead_108 rfl ?_
      refine J_iconst (pc := 109) (2 : Int32) dX12_ahead_109 (by decide) ?_
      refine J_putI (pc := 110) dX12_ahead_110 ho flX12_129 rfl h (fun σ57 h => ?_)
      refine J_goto (pc := 113) 251 dX12_ahead_113 (by decide) ?_
      cases h
      exact J_vret (pc := 251) dX12_ahead_251 rfl
    · refine J_aload_n (pc := 95) 0 dX12_ahead_95 rfl ?_
      refine J_dup (pc := 96) dX12_ahead_96 rfl ?_
      refine J_getI (pc := 97) dX12_ahead_97 ho flX12_117 rfl h (fun x58 h => ?_)
      refine J_iconst (pc := 100) (1 : Int32) dX12_ahead_100 (by decide) ?_
      refine J_iadd (pc := 101) dX12_ahead_101 ?_
      refine J_putI (pc := 102) dX12_ahead_102 ho flX12_117 rfl h (fun σ59 h => ?_)
      refine J_goto (pc := 105) 81 dX12_ahead_105 (by decide) ?_
      refine J_sub (L' := [(0, .ref (e_a E o 0))]) [0] rfl ?_
      exact ih σ59 h
def fX12_ahead_183 (o : Nat) (σ : Mm) : Option (Mm) := r_sc σ o 14 (fun x60 => r_sc σ o 13 (fun x61 => if (x60 - x61) ≤ (4 : Int32) then (p_sc σ o 12 (3 : Int32) (fun σ62 => some σ62)) else (p_sc σ o 12 (1 : Int32) (fun σ63 => some σ63))))
set_option maxRecDepth 100000 in
set_option maxHeartbeats 4000000 in
theorem tX12_ahead_183 (l : Launch) (E : EV) {τ : Mm} (o : Nat) (ho : KD o = 12) (σ : Mm) (h : fX12_ahead_183 o σ = some τ) : Jd l E mX12_ahead 1 (none, τ) σ 183 [(0, .ref (e_a E o 0))] [] := by
  unfold fX12_ahead_183 at h
  refine J_aload_n (pc := 183) 0 dX12_ahead_183 rfl ?_
  refine J_aload_n (pc := 184) 0 dX12_ahead_184 rfl ?_
  refine J_getI (pc := 185) dX12_ahead_185 ho flX12_117 rfl h (fun x60 h => ?_)
  refine J_aload_n (pc := 188) 0 dX12_ahead_188 rfl ?_
  refine J_getI (pc := 189) dX12_ahead_189 ho flX12_123 rfl h (fun x61 h => ?_)
  refine J_isub (pc := 192) dX12_ahead_192 ?_
  refine J_iconst (pc := 193) (4 : Int32) dX12_ahead_193 (by decide) ?_
  refine J_icmp_le (pc := 194) 201 dX12_ahead_194 (by decide) h (fun h => ?_) (fun h => ?_)
  · refine J_iconst (pc := 201) (3 : Int32) dX12_ahead_201 (by decide) ?_
    refine J_putI (pc := 202) dX12_ahead_202 ho flX12_129 rfl h (fun σ62 h => ?_)
    refine J_goto (pc := 205) 251 dX12_ahead_205 (by decide) ?_
    cases h
    exact J_vret (pc := 251) dX12_ahead_251 rfl
  · refine J_iconst (pc := 197) (1 : Int32) dX12_ahead_197 (by decide) ?_
    refine J_goto (pc := 198) 202 dX12_ahead_198 (by decide) ?_
    refine J_putI (pc := 202) dX12_ahead_202 ho flX12_129 rfl h (fun σ63 h => ?_)
    refine J_goto (pc := 205) 251 dX12_ahead_205 (by decide) ?_
    cases h
    exact J_vret (pc := 251) dX12_ahead_251 rfl
def fX12_ahead_128 (o : Nat) : Nat → Mm → Option (Mm)
  | 0, _ => none
  | n + 1, σ => r_sc σ o 14 (fun x35 => c_I (fX12_byteAt o x35 σ) (fun x38 σ36 => c_I (fX12_isDigit x38 σ36) (fun x41 σ39 => if x41 = 0 then (fX12_ahead_183 o σ39) else (r_sc σ39 o 15 (fun x42 => r_sc σ39 o 14 (fun x43 => c_I (fX12_byteAt o x43 σ39) (fun x46 σ44 => p_sc σ44 o 15 (if ((((10 : Int32) * x42) + x46) - (48 : Int32)) < (100000 : Int32) then ((((10 : Int32) * x42) + x46) - (48 : Int32)) else (100000 : Int32)) (fun σ47 => r_sc σ47 o 14 (fun x48 => p_sc σ47 o 14 (x48 + (1 : Int32)) (fun σ49 => (fX12_ahead_128 o n) σ49))))))))))
set_option maxRecDepth 100000 in
set_option maxHeartbeats 4000000 in
theorem tX12_ahead_128 (l : Launch) (E : EV) {τ : Mm} (o : Nat) (ho : KD o = 12) : ∀ (n : Nat) (σ : Mm), fX12_ahead_128 o n σ = some τ → Jd l E mX12_ahead 1 (none, τ) σ 128 [(0, .ref (e_a E o 0))] [] := by
  intro n
  induction n with
  | zero => intro σ h; rw [fX12_ahead_128] at h; cases h
  | succ n ih =>
    intro σ h
    rw [fX12_ahead_128] at h
    refine J_aload_n (pc := 128) 0 dX12_ahead_128 rfl ?_
    refine J_aload_n (pc := 129) 0 dX12_ahead_129 rfl ?_
    refine J_getI (pc := 130) dX12_ahead_130 ho flX12_117 rfl h (fun x35 h => ?_)
    obtain ⟨x38, σ36, hc37, h⟩ := cI_t h
    refine J_cVi (pc := 133) (ctX12_byteAt l E o x35 ho σ hc37) dX12_ahead_133 mlX12_120 mvX12_byteAt ho rfl (by decide) rfl (Nat.le_of_ble_eq_true rfl) ?_
    obtain ⟨x41, σ39, hc40, h⟩ := cI_t h
    refine J_cSi (pc := 136) (ctX12_isDigit l E x38 σ36 hc40) dX12_ahead_136 mlX12_135 msX12_isDigit rfl (by decide) rfl (Nat.le_of_ble_eq_true rfl) ?_
    refine J_if_eq (pc := 139) 183 dX12_ahead_139 (by decide) h (fun h => ?_) (fun h => ?_)
    · refine J_sub (L' := [(0, .ref (e_a E o 0))]) [0] rfl ?_
      exact tX12_ahead_183 l E o ho σ39 h
    · refine J_aload_n (pc := 142) 0 dX12_ahead_142 rfl ?_
      refine J_ldc (pc := 143) (100000 : Int32) dX12_ahead_143 kcX12_138 ?_
      refine J_bipush (pc := 145) (10 : Int32) dX12_ahead_145 (by decide) ?_
      refine J_aload_n (pc := 147) 0 dX12_ahead_147 rfl ?_
      refine J_getI (pc := 148) dX12_ahead_148 ho flX12_126 rfl h (fun x42 h => ?_)
      refine J_imul (pc := 151) dX12_ahead_151 ?_
      refine J_aload_n (pc := 152) 0 dX12_ahead_152 rfl ?_
      refine J_aload_n (pc := 153) 0 dX12_ahead_153 rfl ?_
      refine J_getI (pc := 154) dX12_ahead_154 ho flX12_117 rfl h (fun x43 h => ?_)
      obtain ⟨x46, σ44, hc45, h⟩ := cI_t h
      refine J_cVi (pc := 157) (ctX12_byteAt l E o x43 ho σ39 hc45) dX12_ahead_157 mlX12_120 mvX12_byteAt ho rfl (by decide) rfl (Nat.le_of_ble_eq_true rfl) ?_
      refine J_iadd (pc := 160) dX12_ahead_160 ?_
      refine J_bipush (pc := 161) (48 : Int32) dX12_ahead_161 (by decide) ?_
      refine J_isub (pc := 163) dX12_ahead_163 ?_
      refine J_mmin (pc := 164) dX12_ahead_164 mmX12_139 (by decide) (Nat.le_of_ble_eq_true rfl) ?_
      refine J_putI (pc := 167) dX12_ahead_167 ho flX12_126 rfl h (fun σ47 h => ?_)
      refine J_aload_n (pc := 170) 0 dX12_ahead_170 rfl ?_
      refine J_dup (pc := 171) dX12_ahead_171 rfl ?_
      refine J_getI (pc := 172) dX12_ahead_172 ho flX12_117 rfl h (fun x48 h => ?_)
      refine J_iconst (pc := 175) (1 : Int32) dX12_ahead_175 (by decide) ?_
      refine J_iadd (pc := 176) dX12_ahead_176 ?_
      refine J_putI (pc := 177) dX12_ahead_177 ho flX12_117 rfl h (fun σ49 h => ?_)
      refine J_goto (pc := 180) 128 dX12_ahead_180 (by decide) ?_
      refine J_sub (L' := [(0, .ref (e_a E o 0))]) [0] rfl ?_
      exact ih σ49 h
def fX12_ahead_39 (o : Nat) (σ : Mm) : Option (Mm) := r_sc σ o 14 (fun x13 => p_sc σ o 13 x13 (fun σ14 => r_sc σ14 o 14 (fun x15 => c_I (fX12_byteAt o x15 σ14) (fun x18 σ16 => p_sc σ16 o 15 x18 (fun σ19 => if x18 = (-1 : Int32) then (p_sc σ19 o 12 (0 : Int32) (fun σ34 => some σ34)) else (c_I (fX12_isSmall x18 σ19) (fun x22 σ20 => if x22 = 0 then (c_I (fX12_isDigit x18 σ20) (fun x25 σ23 => if x25 = 0 then (r_sc σ23 o 14 (fun x26 => p_sc σ23 o 14 (x26 + (1 : Int32)) (fun σ27 => if x18 = (59 : Int32) then (p_sc σ27 o 12 (4 : Int32) (fun σ28 => some σ28)) else (if x18 = (60 : Int32) then (p_sc σ27 o 12 (4 : Int32) (fun σ29 => some σ29)) else (if x18 = (62 : Int32) then (p_sc σ27 o 12 (4 : Int32) (fun σ30 => some σ30)) else (if x18 = (61 : Int32) then (p_sc σ27 o 12 (4 : Int32) (fun σ32 => some σ32)) else (p_sc σ27 o 12 (1 : Int32) (fun σ31 => some σ31)))))))) else (p_sc σ23 o 15 (0 : Int32) (fun σ33 => fX12_ahead_128 o FU σ33)))) else (fX12_ahead_81 o FU σ20))))))))
set_option maxRecDepth 100000 in
set_option maxHeartbeats 4000000 in
theorem tX12_ahead_39 (l : Launch) (E : EV) {τ : Mm} (o : Nat) (ho : KD o = 12) (σ : Mm) (h : fX12_ahead_39 o σ = some τ) : Jd l E mX12_ahead 1 (none, τ) σ 39 [(0, .ref (e_a E o 0))] [] := by
  unfold fX12_ahead_39 at h
  refine J_aload_n (pc := 39) 0 dX12_ahead_39 rfl ?_
  refine J_aload_n (pc := 40) 0 dX12_ahead_40 rfl ?_
  refine J_getI (pc := 41) dX12_ahead_41 ho flX12_117 rfl h (fun x13 h => ?_)
  refine J_putI (pc := 44) dX12_ahead_44 ho flX12_123 rfl h (fun σ14 h => ?_)
  refine J_aload_n (pc := 47) 0 dX12_ahead_47 rfl ?_
  refine J_aload_n (pc := 48) 0 dX12_ahead_48 rfl ?_
  refine J_getI (pc := 49) dX12_ahead_49 ho flX12_117 rfl h (fun x15 h => ?_)
  obtain ⟨x18, σ16, hc17, h⟩ := cI_t h
  refine J_cVi (pc := 52) (ctX12_byteAt l E o x15 ho σ14 hc17) dX12_ahead_52 mlX12_120 mvX12_byteAt ho rfl (by decide) rfl (Nat.le_of_ble_eq_true rfl) ?_
  refine J_istore_n (pc := 55) (L' := [(1, .int x18), (0, .ref (e_a E o 0))]) dX12_ahead_55 (by decide) rfl ?_
  refine J_aload_n (pc := 56) 1 dX12_ahead_56 rfl ?_
  refine J_iload_n (pc := 57) 0 dX12_ahead_57 rfl ?_
  refine J_putI (pc := 58) dX12_ahead_58 ho flX12_126 rfl h (fun σ19 h => ?_)
  refine J_iload_n (pc := 61) 0 dX12_ahead_61 rfl ?_
  refine J_iconst (pc := 62) (-1 : Int32) dX12_ahead_62 (by decide) ?_
  refine J_icmp_ne (pc := 63) 74 dX12_ahead_63 (by decide) h (fun h => ?_) (fun h => ?_)
  · refine J_iload_n (pc := 74) 0 dX12_ahead_74 rfl ?_
    obtain ⟨x22, σ20, hc21, h⟩ := cI_t h
    refine J_cSi (pc := 75) (ctX12_isSmall l E x18 σ19 hc21) dX12_ahead_75 mlX12_132 msX12_isSmall rfl (by decide) rfl (Nat.le_of_ble_eq_true rfl) ?_
    refine J_if_eq (pc := 78) 116 dX12_ahead_78 (by decide) h (fun h => ?_) (fun h => ?_)
    · refine J_iload_n (pc := 116) 0 dX12_ahead_116 rfl ?_
      obtain ⟨x25, σ23, hc24, h⟩ := cI_t h
      refine J_cSi (pc := 117) (ctX12_isDigit l E x18 σ20 hc24) dX12_ahead_117 mlX12_135 msX12_isDigit rfl (by decide) rfl (Nat.le_of_ble_eq_true rfl) ?_
      refine J_if_eq (pc := 120) 208 dX12_ahead_120 (by decide) h (fun h => ?_) (fun h => ?_)
      · refine J_aload_n (pc := 208) 1 dX12_ahead_208 rfl ?_
        refine J_dup (pc := 209) dX12_ahead_209 rfl ?_
        refine J_getI (pc := 210) dX12_ahead_210 ho flX12_117 rfl h (fun x26 h => ?_)
        refine J_iconst (pc := 213) (1 : Int32) dX12_ahead_213 (by decide) ?_
        refine J_iadd (pc := 214) dX12_ahead_214 ?_
        refine J_putI (pc := 215) dX12_ahead_215 ho flX12_117 rfl h (fun σ27 h => ?_)
        refine J_aload_n (pc := 218) 1 dX12_ahead_218 rfl ?_
        refine J_iload_n (pc := 219) 0 dX12_ahead_219 rfl ?_
        refine J_bipush (pc := 220) (59 : Int32) dX12_ahead_220 (by decide) ?_
        refine J_icmp_eq (pc := 222) 243 dX12_ahead_222 (by decide) h (fun h => ?_) (fun h => ?_)
        · refine J_iconst (pc := 243) (4 : Int32) dX12_ahead_243 (by decide) ?_
          refine J_goto (pc := 244) 248 dX12_ahead_244 (by decide) ?_
          refine J_putI (pc := 248) dX12_ahead_248 ho flX12_129 rfl h (fun σ28 h => ?_)
          cases h
          exact J_vret (pc := 251) dX12_ahead_251 rfl
        · refine J_iload_n (pc := 225) 0 dX12_ahead_225 rfl ?_
          refine J_bipush (pc := 226) (60 : Int32) dX12_ahead_226 (by decide) ?_
          refine J_icmp_eq (pc := 228) 243 dX12_ahead_228 (by decide) h (fun h => ?_) (fun h => ?_)
          · refine J_iconst (pc := 243) (4 : Int32) dX12_ahead_243 (by decide) ?_
            refine J_goto (pc := 244) 248 dX12_ahead_244 (by decide) ?_
            refine J_putI (pc := 248) dX12_ahead_248 ho flX12_129 rfl h (fun σ29 h => ?_)
            cases h
            exact J_vret (pc := 251) dX12_ahead_251 rfl
          · refine J_iload_n (pc := 231) 0 dX12_ahead_231 rfl ?_
            refine J_bipush (pc := 232) (62 : Int32) dX12_ahead_232 (by decide) ?_
            refine J_icmp_eq (pc := 234) 243 dX12_ahead_234 (by decide) h (fun h => ?_) (fun h => ?_)
            · refine J_iconst (pc := 243) (4 : Int32) dX12_ahead_243 (by decide) ?_
              refine J_goto (pc := 244) 248 dX12_ahead_244 (by decide) ?_
              refine J_putI (pc := 248) dX12_ahead_248 ho flX12_129 rfl h (fun σ30 h => ?_)
              cases h
              exact J_vret (pc := 251) dX12_ahead_251 rfl
            · refine J_iload_n (pc := 237) 0 dX12_ahead_237 rfl ?_
              refine J_bipush (pc := 238) (61 : Int32) dX12_ahead_238 (by decide) ?_
              refine J_icmp_ne (pc := 240) 247 dX12_ahead_240 (by decide) h (fun h => ?_) (fun h => ?_)
              · refine J_iconst (pc := 247) (1 : Int32) dX12_ahead_247 (by decide) ?_
                refine J_putI (pc := 248) dX12_ahead_248 ho flX12_129 rfl h (fun σ31 h => ?_)
                cases h
                exact J_vret (pc := 251) dX12_ahead_251 rfl
              · refine J_iconst (pc := 243) (4 : Int32) dX12_ahead_243 (by decide) ?_
                refine J_goto (pc := 244) 248 dX12_ahead_244 (by decide) ?_
                refine J_putI (pc := 248) dX12_ahead_248 ho flX12_129 rfl h (fun σ32 h => ?_)
                cases h
                exact J_vret (pc := 251) dX12_ahead_251 rfl
      · refine J_aload_n (pc := 123) 1 dX12_ahead_123 rfl ?_
        refine J_iconst (pc := 124) (0 : Int32) dX12_ahead_124 (by decide) ?_
        refine J_putI (pc := 125) dX12_ahead_125 ho flX12_126 rfl h (fun σ33 h => ?_)
        refine J_sub (L' := [(0, .ref (e_a E o 0))]) [1] rfl ?_
        exact tX12_ahead_128 l E o ho FU σ33 h
    · refine J_sub (L' := [(0, .ref (e_a E o 0))]) [1] rfl ?_
      exact tX12_ahead_81 l E o ho FU σ20 h
  · refine J_aload_n (pc := 66) 1 dX12_ahead_66 rfl ?_
    refine J_iconst (pc := 67) (0 : Int32) dX12_ahead_67 (by decide) ?_
    refine J_putI (pc := 68) dX12_ahead_68 ho flX12_129 rfl h (fun σ34 h => ?_)
    refine J_goto (pc := 71) 251 dX12_ahead_71 (by decide) ?_
    cases h
    exact J_vret (pc := 251) dX12_ahead_251 rfl
def fX12_ahead_0 (o : Nat) : Nat → Mm → Option (Mm)
  | 0, _ => none
  | n + 1, σ => r_sc σ o 14 (fun x1 => c_I (fX12_byteAt o x1 σ) (fun x4 σ2 => if x4 = (32 : Int32) then (r_sc σ2 o 14 (fun x5 => p_sc σ2 o 14 (x5 + (1 : Int32)) (fun σ6 => (fX12_ahead_0 o n) σ6))) else (r_sc σ2 o 14 (fun x7 => c_I (fX12_byteAt o x7 σ2) (fun x10 σ8 => if x10 = (10 : Int32) then (r_sc σ8 o 14 (fun x11 => p_sc σ8 o 14 (x11 + (1 : Int32)) (fun σ12 => (fX12_ahead_0 o n) σ12))) else (fX12_ahead_39 o σ8))))))
set_option maxRecDepth 100000 in
set_option maxHeartbeats 4000000 in
theorem tX12_ahead_0 (l : Launch) (E : EV) {τ : Mm} (o : Nat) (ho : KD o = 12) : ∀ (n : Nat) (σ : Mm), fX12_ahead_0 o n σ = some τ → Jd l E mX12_ahead 1 (none, τ) σ 0 [(0, .ref (e_a E o 0))] [] := by
  intro n
  induction n with
  | zero => intro σ h; rw [fX12_ahead_0] at h; cases h
  | succ n ih =>
    intro σ h
    rw [fX12_ahead_0] at h
    refine J_aload_n (pc := 0) 0 dX12_ahead_0 rfl ?_
    refine J_aload_n (pc := 1) 0 dX12_ahead_1 rfl ?_
    refine J_getI (pc := 2) dX12_ahead_2 ho flX12_117 rfl h (fun x1 h => ?_)
    obtain ⟨x4, σ2, hc3, h⟩ := cI_t h
    refine J_cVi (pc := 5) (ctX12_byteAt l E o x1 ho σ hc3) dX12_ahead_5 mlX12_120 mvX12_byteAt ho rfl (by decide) rfl (Nat.le_of_ble_eq_true rfl) ?_
    refine J_bipush (pc := 8) (32 : Int32) dX12_ahead_8 (by decide) ?_
    refine J_icmp_eq (pc := 10) 26 dX12_ahead_10 (by decide) h (fun h => ?_) (fun h => ?_)
    · refine J_aload_n (pc := 26) 0 dX12_ahead_26 rfl ?_
      refine J_dup (pc := 27) dX12_ahead_27 rfl ?_
      refine J_getI (pc := 28) dX12_ahead_28 ho flX12_117 rfl h (fun x5 h => ?_)
      refine J_iconst (pc := 31) (1 : Int32) dX12_ahead_31 (by decide) ?_
      refine J_iadd (pc := 32) dX12_ahead_32 ?_
      refine J_putI (pc := 33) dX12_ahead_33 ho flX12_117 rfl h (fun σ6 h => ?_)
      refine J_goto (pc := 36) 0 dX12_ahead_36 (by decide) ?_
      refine J_sub (L' := [(0, .ref (e_a E o 0))]) [0] rfl ?_
      exact ih σ6 h
    · refine J_aload_n (pc := 13) 0 dX12_ahead_13 rfl ?_
      refine J_aload_n (pc := 14) 0 dX12_ahead_14 rfl ?_
      refine J_getI (pc := 15) dX12_ahead_15 ho flX12_117 rfl h (fun x7 h => ?_)
      obtain ⟨x10, σ8, hc9, h⟩ := cI_t h
      refine J_cVi (pc := 18) (ctX12_byteAt l E o x7 ho σ2 hc9) dX12_ahead_18 mlX12_120 mvX12_byteAt ho rfl (by decide) rfl (Nat.le_of_ble_eq_true rfl) ?_
      refine J_bipush (pc := 21) (10 : Int32) dX12_ahead_21 (by decide) ?_
      refine J_icmp_ne (pc := 23) 39 dX12_ahead_23 (by decide) h (fun h => ?_) (fun h => ?_)
      · refine J_sub (L' := [(0, .ref (e_a E o 0))]) [0] rfl ?_
        exact tX12_ahead_39 l E o ho σ8 h
      · refine J_aload_n (pc := 26) 0 dX12_ahead_26 rfl ?_
        refine J_dup (pc := 27) dX12_ahead_27 rfl ?_
        refine J_getI (pc := 28) dX12_ahead_28 ho flX12_117 rfl h (fun x11 h => ?_)
        refine J_iconst (pc := 31) (1 : Int32) dX12_ahead_31 (by decide) ?_
        refine J_iadd (pc := 32) dX12_ahead_32 ?_
        refine J_putI (pc := 33) dX12_ahead_33 ho flX12_117 rfl h (fun σ12 h => ?_)
        refine J_goto (pc := 36) 0 dX12_ahead_36 (by decide) ?_
        refine J_sub (L' := [(0, .ref (e_a E o 0))]) [0] rfl ?_
        exact ih σ12 h
def fX12_ahead (o : Nat) (σ : Mm) : Option (Mm) := fX12_ahead_0 o FU σ
set_option maxRecDepth 100000 in
set_option maxHeartbeats 4000000 in
theorem ctX12_ahead (l : Launch) (E : EV) (o : Nat) (ho : KD o = 12) (σ : Mm) {τ : Mm} (h : fX12_ahead o σ = some τ) : Ct l E mX12_ahead 1 [.ref (e_a E o 0)] σ (none, τ) := by
  refine Ct.of (by decide +kernel) (Nat.le_of_ble_eq_true rfl) ?_
  show Jd l E mX12_ahead 1 (none, τ) σ 0 [(0, .ref (e_a E o 0))] []
  unfold fX12_ahead at h
  refine J_sub (L' := [(0, .ref (e_a E o 0))]) [0] rfl ?_
  exact tX12_ahead_0 l E o ho FU σ h
def fX12_isSign (o : Nat) (a1 : Int32) (σ : Mm) : Option (Int32 × Mm) := r_sc σ o 12 (fun x1 => if x1 = (4 : Int32) then (r_sc σ o 15 (fun x2 => if x2 = a1 then (some ((1 : Int32), σ)) else (some ((0 : Int32), σ)))) else (some ((0 : Int32), σ)))
set_option maxRecDepth 100000 in
set_option maxHeartbeats 4000000 in
theorem ctX12_isSign (l : Launch) (E : EV) (o : Nat) (a1 : Int32) (ho : KD o = 12) (σ : Mm) {xr : Int32} {τ : Mm} (h : fX12_isSign o a1 σ = some (xr, τ)) : Ct l E mX12_isSign 0 [.ref (e_a E o 0), .int a1] σ (some (.int xr), τ) := by
  refine Ct.of (by decide +kernel) (Nat.le_of_ble_eq_true rfl) ?_
  show Jd l E mX12_isSign 0 (some (.int xr), τ) σ 0 [(0, .ref (e_a E o 0)), (1, .int a1)] []
  unfold fX12_isSign at h
  refine J_aload_n (pc := 0) 0 dX12_isSign_0 rfl ?_
  refine J_getI (pc := 1) dX12_isSign_1 ho flX12_129 rfl h (fun x1 h => ?_)
  refine J_iconst (pc := 4) (4 : Int32) dX12_isSign_4 (by decide) ?_
  refine J_icmp_ne (pc := 5) 20 dX12_isSign_5 (by decide) h (fun h => ?_) (fun h => ?_)
  · refine J_iconst (pc := 20) (0 : Int32) dX12_isSign_20 (by decide) ?_
    cases h
    exact J_iret (pc := 21) dX12_isSign_21 rfl rfl
  · refine J_aload_n (pc := 8) 0 dX12_isSign_8 rfl ?_
    refine J_getI (pc := 9) dX12_isSign_9 ho flX12_126 rfl h (fun x2 h => ?_)
    refine J_iload_n (pc := 12) 1 dX12_isSign_12 rfl ?_
    refine J_icmp_ne (pc := 13) 20 dX12_isSign_13 (by decide) h (fun h => ?_) (fun h => ?_)
    · refine J_iconst (pc := 20) (0 : Int32) dX12_isSign_20 (by decide) ?_
      cases h
      exact J_iret (pc := 21) dX12_isSign_21 rfl rfl
    · refine J_iconst (pc := 16) (1 : Int32) dX12_isSign_16 (by decide) ?_
      refine J_goto (pc := 17) 21 dX12_isSign_17 (by decide) ?_
      cases h
      exact J_iret (pc := 21) dX12_isSign_21 rfl rfl
def fX12_inWords_115 (o : Nat) (k14 : Int32 → Int32 → Mm → Option (Int32 × Mm)) (v2 : Int32) (v4 : Int32) (v5 : Int32) (σ : Mm) : Option (Int32 × Mm) := if v5 = 0 then (k14 (v2 + (1 : Int32)) (v4 + (1 : Int32)) σ) else (some (v2, σ))
set_option maxRecDepth 100000 in
set_option maxHeartbeats 4000000 in
theorem tX12_inWords_115 (l : Launch) (E : EV) {xr : Int32} {τ : Mm} (o : Nat) (ho : KD o = 12) (k14 : Int32 → Int32 → Mm → Option (Int32 × Mm)) (hk14 : ∀ (v2 : Int32) (v3 : Int32) (σ : Mm), k14 v2 v3 σ = some (xr, τ) → Jd l E mX12_inWords 5 (some (.int xr), τ) σ 14 [(0, .ref (e_a E o 0)), (1, .ref (e_s E)), (2, .int v2), (3, .int v3)] []) (v2 : Int32) (v4 : Int32) (v5 : Int32) (σ : Mm) (h : fX12_inWords_115 o k14 v2 v4 v5 σ = some (xr, τ)) : Jd l E mX12_inWords 5 (some (.int xr), τ) σ 115 [(0, .ref (e_a E o 0)), (1, .ref (e_s E)), (2, .int v2), (4, .int v4), (5, .int v5)] [] := by
  unfold fX12_inWords_115 at h
  refine J_iload (pc := 115) 4 dX12_inWords_115 rfl ?_
  refine J_if_eq (pc := 117) 122 dX12_inWords_117 (by decide) h (fun h => ?_) (fun h => ?_)
  · refine J_iinc (pc := 122) (L' := [(2, .int (v2 + (1 : Int32))), (0, .ref (e_a E o 0)), (1, .ref (e_s E)), (4, .int v4), (5, .int v5)]) 2 (v2 + (1 : Int32)) dX12_inWords_122 rfl (by rfl) (by decide) rfl ?_
    refine J_iload (pc := 125) 3 dX12_inWords_125 rfl ?_
    refine J_iconst (pc := 127) (1 : Int32) dX12_inWords_127 (by decide) ?_
    refine J_iadd (pc := 128) dX12_inWords_128 ?_
    refine J_istore_n (pc := 129) (L' := [(3, .int (v4 + (1 : Int32))), (2, .int (v2 + (1 : Int32))), (0, .ref (e_a E o 0)), (1, .ref (e_s E)), (4, .int v4), (5, .int v5)]) dX12_inWords_129 (by decide) rfl ?_
    refine J_goto (pc := 130) 14 dX12_inWords_130 (by decide) ?_
    refine J_sub (L' := [(0, .ref (e_a E o 0)), (1, .ref (e_s E)), (2, .int (v2 + (1 : Int32))), (3, .int (v4 + (1 : Int32)))]) [2, 3, 1, 0] rfl ?_
    exact hk14 (v2 + (1 : Int32)) (v4 + (1 : Int32)) σ h
  · refine J_iload_n (pc := 120) 2 dX12_inWords_120 rfl ?_
    cases h
    exact J_iret (pc := 121) dX12_inWords_121 rfl rfl
def fX12_inWords_68 (o : Nat) (k14 : Int32 → Int32 → Mm → Option (Int32 × Mm)) : Nat → Int32 → Int32 → Int32 → Int32 → Int32 → Mm → Option (Int32 × Mm)
  | 0, _, _, _, _, _, _ => none
  | n + 1, v2, v3, v4, v5, v6, σ => if v4 ≤ v6 then (fX12_inWords_115 o k14 v2 v4 v5 σ) else (if v5 = 0 then (fX12_inWords_115 o k14 v2 v4 v5 σ) else (g_ky v6 (fun x5 => r_sc σ o 13 (fun x6 => c_I (fX12_byteAt o ((x6 + v6) - v3) σ) (fun x9 σ7 => if x5 = x9 then ((fX12_inWords_68 o k14 n) v2 v3 v4 (1 : Int32) (v6 + (1 : Int32)) σ7) else ((fX12_inWords_68 o k14 n) v2 v3 v4 (0 : Int32) (v6 + (1 : Int32)) σ7))))))
set_option maxRecDepth 100000 in
set_option maxHeartbeats 4000000 in
theorem tX12_inWords_68 (l : Launch) (E : EV) {xr : Int32} {τ : Mm} (o : Nat) (ho : KD o = 12) (k14 : Int32 → Int32 → Mm → Option (Int32 × Mm)) (hk14 : ∀ (v2 : Int32) (v3 : Int32) (σ : Mm), k14 v2 v3 σ = some (xr, τ) → Jd l E mX12_inWords 5 (some (.int xr), τ) σ 14 [(0, .ref (e_a E o 0)), (1, .ref (e_s E)), (2, .int v2), (3, .int v3)] []) : ∀ (n : Nat) (v2 : Int32) (v3 : Int32) (v4 : Int32) (v5 : Int32) (v6 : Int32) (σ : Mm), fX12_inWords_68 o k14 n v2 v3 v4 v5 v6 σ = some (xr, τ) → Jd l E mX12_inWords 5 (some (.int xr), τ) σ 68 [(0, .ref (e_a E o 0)), (1, .ref (e_s E)), (2, .int v2), (3, .int v3), (4, .int v4), (5, .int v5), (6, .int v6)] [] := by
  intro n
  induction n with
  | zero => intro v2 v3 v4 v5 v6 σ h; rw [fX12_inWords_68] at h; cases h
  | succ n ih =>
    intro v2 v3 v4 v5 v6 σ h
    rw [fX12_inWords_68] at h
    refine J_iload (pc := 68) 6 dX12_inWords_68 rfl ?_
    refine J_iload (pc := 70) 4 dX12_inWords_70 rfl ?_
    refine J_icmp_ge (pc := 72) 115 dX12_inWords_72 (by decide) h (fun h => ?_) (fun h => ?_)
    · refine J_sub (L' := [(0, .ref (e_a E o 0)), (1, .ref (e_s E)), (2, .int v2), (4, .int v4), (5, .int v5)]) [0, 1, 2, 4, 5] rfl ?_
      exact tX12_inWords_115 l E o ho k14 hk14 v2 v4 v5 σ h
    · refine J_iload (pc := 75) 5 dX12_inWords_75 rfl ?_
      refine J_if_eq (pc := 77) 115 dX12_inWords_77 (by decide) h (fun h => ?_) (fun h => ?_)
      · refine J_sub (L' := [(0, .ref (e_a E o 0)), (1, .ref (e_s E)), (2, .int v2), (4, .int v4), (5, .int v5)]) [0, 1, 2, 4, 5] rfl ?_
        exact tX12_inWords_115 l E o ho k14 hk14 v2 v4 v5 σ h
      · refine J_aload_n (pc := 80) 1 dX12_inWords_80 rfl ?_
        refine J_iload (pc := 81) 6 dX12_inWords_81 rfl ?_
        refine J_charAt (pc := 83) dX12_inWords_83 mlX12_150 (by decide) rfl (Nat.le_of_ble_eq_true rfl) h (fun x5 h => ?_)
        refine J_aload_n (pc := 86) 0 dX12_inWords_86 rfl ?_
        refine J_aload_n (pc := 87) 0 dX12_inWords_87 rfl ?_
        refine J_getI (pc := 88) dX12_inWords_88 ho flX12_123 rfl h (fun x6 h => ?_)
        refine J_iload (pc := 91) 6 dX12_inWords_91 rfl ?_
        refine J_iadd (pc := 93) dX12_inWords_93 ?_
        refine J_iload_n (pc := 94) 3 dX12_inWords_94 rfl ?_
        refine J_isub (pc := 95) dX12_inWords_95 ?_
        obtain ⟨x9, σ7, hc8, h⟩ := cI_t h
        refine J_cVi (pc := 96) (ctX12_byteAt l E o ((x6 + v6) - v3) ho σ hc8) dX12_inWords_96 mlX12_120 mvX12_byteAt ho rfl (by decide) rfl (Nat.le_of_ble_eq_true rfl) ?_
        refine J_icmp_ne (pc := 99) 106 dX12_inWords_99 (by decide) h (fun h => ?_) (fun h => ?_)
        · refine J_iconst (pc := 106) (0 : Int32) dX12_inWords_106 (by decide) ?_
          refine J_istore (pc := 107) (L' := [(5, .int (0 : Int32)), (0, .ref (e_a E o 0)), (1, .ref (e_s E)), (2, .int v2), (3, .int v3), (4, .int v4), (6, .int v6)]) dX12_inWords_107 (by decide) rfl ?_
          refine J_iinc (pc := 109) (L' := [(6, .int (v6 + (1 : Int32))), (5, .int (0 : Int32)), (0, .ref (e_a E o 0)), (1, .ref (e_s E)), (2, .int v2), (3, .int v3), (4, .int v4)]) 6 (v6 + (1 : Int32)) dX12_inWords_109 rfl (by rfl) (by decide) rfl ?_
          refine J_goto (pc := 112) 68 dX12_inWords_112 (by decide) ?_
          refine J_sub (L' := [(0, .ref (e_a E o 0)), (1, .ref (e_s E)), (2, .int v2), (3, .int v3), (4, .int v4), (5, .int (0 : Int32)), (6, .int (v6 + (1 : Int32)))]) [2, 3, 4, 5, 6, 1, 0] rfl ?_
          exact ih v2 v3 v4 (0 : Int32) (v6 + (1 : Int32)) σ7 h
        · refine J_iconst (pc := 102) (1 : Int32) dX12_inWords_102 (by decide) ?_
          refine J_goto (pc := 103) 107 dX12_inWords_103 (by decide) ?_
          refine J_istore (pc := 107) (L' := [(5, .int (1 : Int32)), (0, .ref (e_a E o 0)), (1, .ref (e_s E)), (2, .int v2), (3, .int v3), (4, .int v4), (6, .int v6)]) dX12_inWords_107 (by decide) rfl ?_
          refine J_iinc (pc := 109) (L' := [(6, .int (v6 + (1 : Int32))), (5, .int (1 : Int32)), (0, .ref (e_a E o 0)), (1, .ref (e_s E)), (2, .int v2), (3, .int v3), (4, .int v4)]) 6 (v6 + (1 : Int32)) dX12_inWords_109 rfl (by rfl) (by decide) rfl ?_
          refine J_goto (pc := 112) 68 dX12_inWords_112 (by decide) ?_
          refine J_sub (L' := [(0, .ref (e_a E o 0)), (1, .ref (e_s E)), (2, .int v2), (3, .int v3), (4, .int v4), (5, .int (1 : Int32)), (6, .int (v6 + (1 : Int32)))]) [2, 3, 4, 5, 6, 1, 0] rfl ?_
          exact ih v2 v3 v4 (1 : Int32) (v6 + (1 : Int32)) σ7 h
def fX12_inWords_42 (o : Nat) (k14 : Int32 → Int32 → Mm → Option (Int32 × Mm)) (v2 : Int32) (v3 : Int32) (v4 : Int32) (σ : Mm) : Option (Int32 × Mm) := r_sc σ o 14 (fun x3 => r_sc σ o 13 (fun x4 => if (v4 - v3) = (x3 - x4) then (fX12_inWords_68 o k14 FU v2 v3 v4 (1 : Int32) v3 σ) else (fX12_inWords_68 o k14 FU v2 v3 v4 (0 : Int32) v3 σ)))
set_option maxRecDepth 100000 in
set_option maxHeartbeats 4000000 in
theorem tX12_inWords_42 (l : Launch) (E : EV) {xr : Int32} {τ : Mm} (o : Nat) (ho : KD o = 12) (k14 : Int32 → Int32 → Mm → Option (Int32 × Mm)) (hk14 : ∀ (v2 : Int32) (v3 : Int32) (σ : Mm), k14 v2 v3 σ = some (xr, τ) → Jd l E mX12_inWords 5 (some (.int xr), τ) σ 14 [(0, .ref (e_a E o 0)), (1, .ref (e_s E)), (2, .int v2), (3, .int v3)] []) (v2 : Int32) (v3 : Int32) (v4 : Int32) (σ : Mm) (h : fX12_inWords_42 o k14 v2 v3 v4 σ = some (xr, τ)) : Jd l E mX12_inWords 5 (some (.int xr), τ) σ 42 [(0, .ref (e_a E o 0)), (1, .ref (e_s E)), (2, .int v2), (3, .int v3), (4, .int v4)] [] := by
  unfold fX12_inWords_42 at h
  refine J_iload (pc := 42) 4 dX12_inWords_42 rfl ?_
  refine J_iload_n (pc := 44) 3 dX12_inWords_44 rfl ?_
  refine J_isub (pc := 45) dX12_inWords_45 ?_
  refine J_aload_n (pc := 46) 0 dX12_inWords_46 rfl ?_
  refine J_getI (pc := 47) dX12_inWords_47 ho flX12_117 rfl h (fun x3 h => ?_)
  refine J_aload_n (pc := 50) 0 dX12_inWords_50 rfl ?_
  refine J_getI (pc := 51) dX12_inWords_51 ho flX12_123 rfl h (fun x4 h => ?_)
  refine J_isub (pc := 54) dX12_inWords_54 ?_
  refine J_icmp_ne (pc := 55) 62 dX12_inWords_55 (by decide) h (fun h => ?_) (fun h => ?_)
  · refine J_iconst (pc := 62) (0 : Int32) dX12_inWords_62 (by decide) ?_
    refine J_istore (pc := 63) (L' := [(5, .int (0 : Int32)), (0, .ref (e_a E o 0)), (1, .ref (e_s E)), (2, .int v2), (3, .int v3), (4, .int v4)]) dX12_inWords_63 (by decide) rfl ?_
    refine J_iload_n (pc := 65) 4 dX12_inWords_65 rfl ?_
    refine J_istore (pc := 66) (L' := [(6, .int v3), (5, .int (0 : Int32)), (0, .ref (e_a E o 0)), (1, .ref (e_s E)), (2, .int v2), (3, .int v3), (4, .int v4)]) dX12_inWords_66 (by decide) rfl ?_
    refine J_sub (L' := [(0, .ref (e_a E o 0)), (1, .ref (e_s E)), (2, .int v2), (3, .int v3), (4, .int v4), (5, .int (0 : Int32)), (6, .int v3)]) [2, 3, 4, 5, 6, 1, 0] rfl ?_
    exact tX12_inWords_68 l E o ho k14 hk14 FU v2 v3 v4 (0 : Int32) v3 σ h
  · refine J_iconst (pc := 58) (1 : Int32) dX12_inWords_58 (by decide) ?_
    refine J_goto (pc := 59) 63 dX12_inWords_59 (by decide) ?_
    refine J_istore (pc := 63) (L' := [(5, .int (1 : Int32)), (0, .ref (e_a E o 0)), (1, .ref (e_s E)), (2, .int v2), (3, .int v3), (4, .int v4)]) dX12_inWords_63 (by decide) rfl ?_
    refine J_iload_n (pc := 65) 4 dX12_inWords_65 rfl ?_
    refine J_istore (pc := 66) (L' := [(6, .int v3), (5, .int (1 : Int32)), (0, .ref (e_a E o 0)), (1, .ref (e_s E)), (2, .int v2), (3, .int v3), (4, .int v4)]) dX12_inWords_66 (by decide) rfl ?_
    refine J_sub (L' := [(0, .ref (e_a E o 0)), (1, .ref (e_s E)), (2, .int v2), (3, .int v3), (4, .int v4), (5, .int (1 : Int32)), (6, .int v3)]) [2, 3, 4, 5, 6, 1, 0] rfl ?_
    exact tX12_inWords_68 l E o ho k14 hk14 FU v2 v3 v4 (1 : Int32) v3 σ h
def fX12_inWords_25 (o : Nat) (k14 : Int32 → Int32 → Mm → Option (Int32 × Mm)) : Nat → Int32 → Int32 → Int32 → Mm → Option (Int32 × Mm)
  | 0, _, _, _, _ => none
  | n + 1, v2, v3, v4, σ => g_ky v4 (fun x2 => if x2 = (32 : Int32) then (fX12_inWords_42 o k14 v2 v3 v4 σ) else ((fX12_inWords_25 o k14 n) v2 v3 (v4 + (1 : Int32)) σ))
set_option maxRecDepth 100000 in
set_option maxHeartbeats 4000000 in
theorem tX12_inWords_25 (l : Launch) (E : EV) {xr : Int32} {τ : Mm} (o : Nat) (ho : KD o = 12) (k14 : Int32 → Int32 → Mm → Option (Int32 × Mm)) (hk14 : ∀ (v2 : Int32) (v3 : Int32) (σ : Mm), k14 v2 v3 σ = some (xr, τ) → Jd l E mX12_inWords 5 (some (.int xr), τ) σ 14 [(0, .ref (e_a E o 0)), (1, .ref (e_s E)), (2, .int v2), (3, .int v3)] []) : ∀ (n : Nat) (v2 : Int32) (v3 : Int32) (v4 : Int32) (σ : Mm), fX12_inWords_25 o k14 n v2 v3 v4 σ = some (xr, τ) → Jd l E mX12_inWords 5 (some (.int xr), τ) σ 25 [(0, .ref (e_a E o 0)), (1, .ref (e_s E)), (2, .int v2), (3, .int v3), (4, .int v4)] [] := by
  intro n
  induction n with
  | zero => intro v2 v3 v4 σ h; rw [fX12_inWords_25] at h; cases h
  | succ n ih =>
    intro v2 v3 v4 σ h
    rw [fX12_inWords_25] at h
    refine J_aload_n (pc := 25) 1 dX12_inWords_25 rfl ?_
    refine J_iload (pc := 26) 4 dX12_inWords_26 rfl ?_
    refine J_charAt (pc := 28) dX12_inWords_28 mlX12_150 (by decide) rfl (Nat.le_of_ble_eq_true rfl) h (fun x2 h => ?_)
    refine J_bipush (pc := 31) (32 : Int32) dX12_inWords_31 (by decide) ?_
    refine J_icmp_eq (pc := 33) 42 dX12_inWords_33 (by decide) h (fun h => ?_) (fun h => ?_)
    · refine J_sub (L' := [(0, .ref (e_a E o 0)), (1, .ref (e_s E)), (2, .int v2), (3, .int v3), (4, .int v4)]) [0, 1, 2, 3, 4] rfl ?_
      exact tX12_inWords_42 l E o ho k14 hk14 v2 v3 v4 σ h
    · refine J_iinc (pc := 36) (L' := [(4, .int (v4 + (1 : Int32))), (0, .ref (e_a E o 0)), (1, .ref (e_s E)), (2, .int v2), (3, .int v3)]) 4 (v4 + (1 : Int32)) dX12_inWords_36 rfl (by rfl) (by decide) rfl ?_
      refine J_goto (pc := 39) 25 dX12_inWords_39 (by decide) ?_
      refine J_sub (L' := [(0, .ref (e_a E o 0)), (1, .ref (e_s E)), (2, .int v2), (3, .int v3), (4, .int (v4 + (1 : Int32)))]) [1, 2, 3, 4, 0] rfl ?_
      exact ih v2 v3 (v4 + (1 : Int32)) σ h
def fX12_inWords_14 (o : Nat) : Nat → Int32 → Int32 → Mm → Option (Int32 × Mm)
  | 0, _, _, _ => none
  | n + 1, v2, v3, σ => if (119 : Int32) ≤ v3 then (some ((-1 : Int32), σ)) else (fX12_inWords_25 o (fX12_inWords_14 o n) FU v2 v3 v3 σ)
set_option maxRecDepth 100000 in
set_option maxHeartbeats 4000000 in
theorem tX12_inWords_14 (l : Launch) (E : EV) {xr : Int32} {τ : Mm} (o : Nat) (ho : KD o = 12) : ∀ (n : Nat) (v2 : Int32) (v3 : Int32) (σ : Mm), fX12_inWords_14 o n v2 v3 σ = some (xr, τ) → Jd l E mX12_inWords 5 (some (.int xr), τ) σ 14 [(0, .ref (e_a E o 0)), (1, .ref (e_s E)), (2, .int v2), (3, .int v3)] [] := by
  intro n
  induction n with
  | zero => intro v2 v3 σ h; rw [fX12_inWords_14] at h; cases h
  | succ n ih =>
    intro v2 v3 σ h
    rw [fX12_inWords_14] at h
    refine J_iload_n (pc := 14) 3 dX12_inWords_14 rfl ?_
    refine J_aload_n (pc := 15) 1 dX12_inWords_15 rfl ?_
    refine J_strlen (pc := 16) dX12_inWords_16 mlX12_144 (by decide) rfl (Nat.le_of_ble_eq_true rfl) ?_
    refine J_icmp_ge (pc := 19) 133 dX12_inWords_19 (by decide) h (fun h => ?_) (fun h => ?_)
    · refine J_iconst (pc := 133) (-1 : Int32) dX12_inWords_133 (by decide) ?_
      cases h
      exact J_iret (pc := 134) dX12_inWords_134 rfl rfl
    · refine J_iload_n (pc := 22) 3 dX12_inWords_22 rfl ?_
      refine J_istore (pc := 23) (L' := [(4, .int v3), (0, .ref (e_a E o 0)), (1, .ref (e_s E)), (2, .int v2), (3, .int v3)]) dX12_inWords_23 (by decide) rfl ?_
      refine J_sub (L' := [(0, .ref (e_a E o 0)), (1, .ref (e_s E)), (2, .int v2), (3, .int v3), (4, .int v3)]) [1, 2, 3, 4, 0] rfl ?_
      exact tX12_inWords_25 l E o ho (fX12_inWords_14 o n) ih FU v2 v3 v3 σ h
def fX12_inWords (o : Nat) (σ : Mm) : Option (Int32 × Mm) := r_sc σ o 12 (fun x1 => if x1 = (2 : Int32) then (fX12_inWords_14 o FU (0 : Int32) (1 : Int32) σ) else (some ((-1 : Int32), σ)))
set_option maxRecDepth 100000 in
set_option maxHeartbeats 4000000 in
theorem ctX12_inWords (l : Launch) (E : EV) (o : Nat) (ho : KD o = 12) (σ : Mm) {xr : Int32} {τ : Mm} (h : fX12_inWords o σ = some (xr, τ)) : Ct l E mX12_inWords 5 [.ref (e_a E o 0), .ref (e_s E)] σ (some (.int xr), τ) := by
  refine Ct.of (by decide +kernel) (Nat.le_of_ble_eq_true rfl) ?_
  show Jd l E mX12_inWords 5 (some (.int xr), τ) σ 0 [(0, .ref (e_a E o 0)), (1, .ref (e_s E))] []
  unfold fX12_inWords at h
  refine J_aload_n (pc := 0) 0 dX12_inWords_0 rfl ?_
  refine J_getI (pc := 1) dX12_inWords_1 ho flX12_129 rfl h (fun x1 h => ?_)
  refine J_iconst (pc := 4) (2 : Int32) dX12_inWords_4 (by decide) ?_
  refine J_icmp_eq (pc := 5) 10 dX12_inWords_5 (by decide) h (fun h => ?_) (fun h => ?_)
  · refine J_iconst (pc := 10) (0 : Int32) dX12_inWords_10 (by decide) ?_
    refine J_istore_n (pc := 11) (L' := [(2, .int (0 : Int32)), (0, .ref (e_a E o 0)), (1, .ref (e_s E))]) dX12_inWords_11 (by decide) rfl ?_
    refine J_iconst (pc := 12) (1 : Int32) dX12_inWords_12 (by decide) ?_
    refine J_istore_n (pc := 13) (L' := [(3, .int (1 : Int32)), (2, .int (0 : Int32)), (0, .ref (e_a E o 0)), (1, .ref (e_s E))]) dX12_inWords_13 (by decide) rfl ?_
    refine J_sub (L' := [(0, .ref (e_a E o 0)), (1, .ref (e_s E)), (2, .int (0 : Int32)), (3, .int (1 : Int32))]) [2, 3, 1, 0] rfl ?_
    exact tX12_inWords_14 l E o ho FU (0 : Int32) (1 : Int32) σ h
  · refine J_iconst (pc := 8) (-1 : Int32) dX12_inWords_8 (by decide) ?_
    cases h
    exact J_iret (pc := 9) dX12_inWords_9 rfl rfl
def fX12_fails (o : Nat) (a1 : Int32) (σ : Mm) : Option (Int32 × Mm) := r_sc σ o 18 (fun x1 => if x1 = 0 then (r_sc σ o 12 (fun x2 => if x2 = (1 : Int32) then (p_sc σ o 18 (1 : Int32) (fun σ6 => r_sc σ6 o 13 (fun x7 => p_sc σ6 o 17 x7 (fun σ8 => some ((0 : Int32), σ8))))) else (p_sc σ o 18 a1 (fun σ3 => r_sc σ3 o 13 (fun x4 => p_sc σ3 o 17 x4 (fun σ5 => some ((0 : Int32), σ5))))))) else (some ((0 : Int32), σ)))
set_option maxRecDepth 100000 in
set_option maxHeartbeats 4000000 in
theorem ctX12_fails (l : Launch) (E : EV) (o : Nat) (a1 : Int32) (ho : KD o = 12) (σ : Mm) {xr : Int32} {τ : Mm} (h : fX12_fails o a1 σ = some (xr, τ)) : Ct l E mX12_fails 0 [.ref (e_a E o 0), .int a1] σ (some (.int xr), τ) := by
  refine Ct.of (by decide +kernel) (Nat.le_of_ble_eq_true rfl) ?_
  show Jd l E mX12_fails 0 (some (.int xr), τ) σ 0 [(0, .ref (e_a E o 0)), (1, .int a1)] []
  unfold fX12_fails at h
  refine J_aload_n (pc := 0) 0 dX12_fails_0 rfl ?_
  refine J_getI (pc := 1) dX12_fails_1 ho flX12_154 rfl h (fun x1 h => ?_)
  refine J_if_ne (pc := 4) 32 dX12_fails_4 (by decide) h (fun h => ?_) (fun h => ?_)
  · refine J_iconst (pc := 32) (0 : Int32) dX12_fails_32 (by decide) ?_
    cases h
    exact J_iret (pc := 33) dX12_fails_33 rfl rfl
  · refine J_aload_n (pc := 7) 0 dX12_fails_7 rfl ?_
    refine J_aload_n (pc := 8) 0 dX12_fails_8 rfl ?_
    refine J_getI (pc := 9) dX12_fails_9 ho flX12_129 rfl h (fun x2 h => ?_)
    refine J_iconst (pc := 12) (1 : Int32) dX12_fails_12 (by decide) ?_
    refine J_icmp_ne (pc := 13) 20 dX12_fails_13 (by decide) h (fun h => ?_) (fun h => ?_)
    · refine J_iload_n (pc := 20) 1 dX12_fails_20 rfl ?_
      refine J_putI (pc := 21) dX12_fails_21 ho flX12_154 rfl h (fun σ3 h => ?_)
      refine J_aload_n (pc := 24) 0 dX12_fails_24 rfl ?_
      refine J_aload_n (pc := 25) 0 dX12_fails_25 rfl ?_
      refine J_getI (pc := 26) dX12_fails_26 ho flX12_123 rfl h (fun x4 h => ?_)
      refine J_putI (pc := 29) dX12_fails_29 ho flX12_41 rfl h (fun σ5 h => ?_)
      refine J_iconst (pc := 32) (0 : Int32) dX12_fails_32 (by decide) ?_
      cases h
      exact J_iret (pc := 33) dX12_fails_33 rfl rfl
    · refine J_iconst (pc := 16) (1 : Int32) dX12_fails_16 (by decide) ?_
      refine J_goto (pc := 17) 21 dX12_fails_17 (by decide) ?_
      refine J_putI (pc := 21) dX12_fails_21 ho flX12_154 rfl h (fun σ6 h => ?_)
      refine J_aload_n (pc := 24) 0 dX12_fails_24 rfl ?_
      refine J_aload_n (pc := 25) 0 dX12_fails_25 rfl ?_
      refine J_getI (pc := 26) dX12_fails_26 ho flX12_123 rfl h (fun x7 h => ?_)
      refine J_putI (pc := 29) dX12_fails_29 ho flX12_41 rfl h (fun σ8 h => ?_)
      refine J_iconst (pc := 32) (0 : Int32) dX12_fails_32 (by decide) ?_
      cases h
      exact J_iret (pc := 33) dX12_fails_33 rfl rfl
def fX12_begins_49 (o : Nat) (a1 : Int32) (a2 : Int32) (σ : Mm) : Option (Int32 × Mm) := p_sc σ o 10 (0 : Int32) (fun σ5 => p_sc σ5 o 18 (0 : Int32) (fun σ6 => p_sc σ6 o 17 (-1 : Int32) (fun σ7 => p_sc σ7 o 14 (0 : Int32) (fun σ8 => p_sc σ8 o 19 (0 : Int32) (fun σ9 => c_V (fX12_ahead o σ9) (fun σ10 => some ((1 : Int32), σ10)))))))
set_option maxRecDepth 100000 in
set_option maxHeartbeats 4000000 in
theorem tX12_begins_49 (l : Launch) (E : EV) {xr : Int32} {τ : Mm} (o : Nat) (a1 : Int32) (a2 : Int32) (ho : KD o = 12) (σ : Mm) (h : fX12_begins_49 o a1 a2 σ = some (xr, τ)) : Jd l E mX12_begins 2 (some (.int xr), τ) σ 49 [(0, .ref (e_a E o 0))] [] := by
  unfold fX12_begins_49 at h
  refine J_aload_n (pc := 49) 0 dX12_begins_49 rfl ?_
  refine J_iconst (pc := 50) (0 : Int32) dX12_begins_50 (by decide) ?_
  refine J_putI (pc := 51) dX12_begins_51 ho flX12_107 rfl h (fun σ5 h => ?_)
  refine J_aload_n (pc := 54) 0 dX12_begins_54 rfl ?_
  refine J_iconst (pc := 55) (0 : Int32) dX12_begins_55 (by decide) ?_
  refine J_putI (pc := 56) dX12_begins_56 ho flX12_154 rfl h (fun σ6 h => ?_)
  refine J_aload_n (pc := 59) 0 dX12_begins_59 rfl ?_
  refine J_iconst (pc := 60) (-1 : Int32) dX12_begins_60 (by decide) ?_
  refine J_putI (pc := 61) dX12_begins_61 ho flX12_41 rfl h (fun σ7 h => ?_)
  refine J_aload_n (pc := 64) 0 dX12_begins_64 rfl ?_
  refine J_iconst (pc := 65) (0 : Int32) dX12_begins_65 (by decide) ?_
  refine J_putI (pc := 66) dX12_begins_66 ho flX12_117 rfl h (fun σ8 h => ?_)
  refine J_aload_n (pc := 69) 0 dX12_begins_69 rfl ?_
  refine J_iconst (pc := 70) (0 : Int32) dX12_begins_70 (by decide) ?_
  refine J_putI (pc := 71) dX12_begins_71 ho flX12_157 rfl h (fun σ9 h => ?_)
  refine J_aload_n (pc := 74) 0 dX12_begins_74 rfl ?_
  obtain ⟨σ10, hc11, h⟩ := cV_t h
  refine J_cVv (pc := 75) (ctX12_ahead l E o ho σ9 hc11) dX12_begins_75 mlX12_160 mvX12_ahead ho rfl (by decide) rfl (Nat.le_of_ble_eq_true rfl) ?_
  refine J_iconst (pc := 78) (1 : Int32) dX12_begins_78 (by decide) ?_
  cases h
  exact J_iret (pc := 79) dX12_begins_79 rfl rfl
def fX12_begins_26 (o : Nat) (a1 : Int32) (a2 : Int32) : Nat → Int32 → Mm → Option (Int32 × Mm)
  | 0, _, _ => none
  | n + 1, v3, σ => if a1 ≤ v3 then (fX12_begins_49 o a1 a2 σ) else (g_ar σ o 5 900 v3 (fun x3 => s_ar σ o 6 900 v3 x3.toInt8.toInt32 (fun σ4 => (fX12_begins_26 o a1 a2 n) (v3 + (1 : Int32)) σ4)))
set_option maxRecDepth 100000 in
set_option maxHeartbeats 4000000 in
theorem tX12_begins_26 (l : Launch) (E : EV) {xr : Int32} {τ : Mm} (o : Nat) (a1 : Int32) (a2 : Int32) (ho : KD o = 12) : ∀ (n : Nat) (v3 : Int32) (σ : Mm), fX12_begins_26 o a1 a2 n v3 σ = some (xr, τ) → Jd l E mX12_begins 2 (some (.int xr), τ) σ 26 [(0, .ref (e_a E o 0)), (1, .int a1), (3, .int v3)] [] := by
  intro n
  induction n with
  | zero => intro v3 σ h; rw [fX12_begins_26] at h; cases h
  | succ n ih =>
    intro v3 σ h
    rw [fX12_begins_26] at h
    refine J_iload_n (pc := 26) 2 dX12_begins_26 rfl ?_
    refine J_iload_n (pc := 27) 1 dX12_begins_27 rfl ?_
    refine J_icmp_ge (pc := 28) 49 dX12_begins_28 (by decide) h (fun h => ?_) (fun h => ?_)
    · refine J_sub (L' := [(0, .ref (e_a E o 0))]) [0] rfl ?_
      exact tX12_begins_49 l E o a1 a2 ho σ h
    · refine J_aload_n (pc := 31) 0 dX12_begins_31 rfl ?_
      refine J_getA (pc := 32) dX12_begins_32 ho flX12_34 rfl ?_
      refine J_iload_n (pc := 35) 2 dX12_begins_35 rfl ?_
      refine J_aload_n (pc := 36) 0 dX12_begins_36 rfl ?_
      refine J_getA (pc := 37) dX12_begins_37 ho flX12_30 rfl ?_
      refine J_iload_n (pc := 40) 2 dX12_begins_40 rfl ?_
      refine J_bald (pc := 41) dX12_begins_41 ho ha12_5 h (fun x3 h => ?_)
      refine J_bast (pc := 42) dX12_begins_42 ho ha12_6 h (fun σ4 h => ?_)
      refine J_iinc (pc := 43) (L' := [(3, .int (v3 + (1 : Int32))), (0, .ref (e_a E o 0)), (1, .int a1)]) 2 (v3 + (1 : Int32)) dX12_begins_43 rfl (by rfl) (by decide) rfl ?_
      refine J_goto (pc := 46) 26 dX12_begins_46 (by decide) ?_
      refine J_sub (L' := [(0, .ref (e_a E o 0)), (1, .int a1), (3, .int (v3 + (1 : Int32)))]) [1, 2, 0] rfl ?_
      exact ih (v3 + (1 : Int32)) σ4 h
def fX12_begins (o : Nat) (a1 : Int32) (a2 : Int32) (σ : Mm) : Option (Int32 × Mm) := if a1 < 0 then (some ((0 : Int32), σ)) else (r_sc σ o 10 (fun x1 => if x1 < a1 then (some ((0 : Int32), σ)) else (if a1 ≤ a2 then (p_sc σ o 11 a1 (fun σ2 => fX12_begins_26 o a1 a2 FU (0 : Int32) σ2)) else (some ((0 : Int32), σ)))))
set_option maxRecDepth 100000 in
set_option maxHeartbeats 4000000 in
theorem ctX12_begins (l : Launch) (E : EV) (o : Nat) (a1 : Int32) (a2 : Int32) (ho : KD o = 12) (σ : Mm) {xr : Int32} {τ : Mm} (h : fX12_begins o a1 a2 σ = some (xr, τ)) : Ct l E mX12_begins 2 [.ref (e_a E o 0), .int a1, .int a2] σ (some (.int xr), τ) := by
  refine Ct.of (by decide +kernel) (Nat.le_of_ble_eq_true rfl) ?_
  show Jd l E mX12_begins 2 (some (.int xr), τ) σ 0 [(0, .ref (e_a E o 0)), (1, .int a1), (2, .int a2)] []
  unfold fX12_begins at h
  refine J_iload_n (pc := 0) 1 dX12_begins_0 rfl ?_
  refine J_if_lt (pc := 1) 17 dX12_begins_1 (by decide) h (fun h => ?_) (fun h => ?_)
  · refine J_iconst (pc := 17) (0 : Int32) dX12_begins_17 (by decide) ?_
    cases h
    exact J_iret (pc := 18) dX12_begins_18 rfl rfl
  · refine J_iload_n (pc := 4) 1 dX12_begins_4 rfl ?_
    refine J_aload_n (pc := 5) 0 dX12_begins_5 rfl ?_
    refine J_getI (pc := 6) dX12_begins_6 ho flX12_107 rfl h (fun x1 h => ?_)
    refine J_icmp_gt (pc := 9) 17 dX12_begins_9 (by decide) h (fun h => ?_) (fun h => ?_)
    · refine J_iconst (pc := 17) (0 : Int32) dX12_begins_17 (by decide) ?_
      cases h
      exact J_iret (pc := 18) dX12_begins_18 rfl rfl
    · refine J_iload_n (pc := 12) 1 dX12_begins_12 rfl ?_
      refine J_iload_n (pc := 13) 2 dX12_begins_13 rfl ?_
      refine J_icmp_le (pc := 14) 19 dX12_begins_14 (by decide) h (fun h => ?_) (fun h => ?_)
      · refine J_aload_n (pc := 19) 0 dX12_begins_19 rfl ?_
        refine J_iload_n (pc := 20) 1 dX12_begins_20 rfl ?_
        refine J_putI (pc := 21) dX12_begins_21 ho flX12_114 rfl h (fun σ2 h => ?_)
        refine J_iconst (pc := 24) (0 : Int32) dX12_begins_24 (by decide) ?_
        refine J_istore_n (pc := 25) (L' := [(3, .int (0 : Int32)), (0, .ref (e_a E o 0)), (1, .int a1), (2, .int a2)]) dX12_begins_25 (by decide) rfl ?_
        refine J_sub (L' := [(0, .ref (e_a E o 0)), (1, .int a1), (3, .int (0 : Int32))]) [1, 2, 0] rfl ?_
        exact tX12_begins_26 l E o a1 a2 ho FU (0 : Int32) σ2 h
      · refine J_iconst (pc := 17) (0 : Int32) dX12_begins_17 (by decide) ?_
        cases h
        exact J_iret (pc := 18) dX12_begins_18 rfl rfl
def fX12_wantSign (o : Nat) (a1 : Int32) (σ : Mm) : Option (Int32 × Mm) := c_I (fX12_isSign o a1 σ) (fun x3 σ1 => if x3 = 0 then (c_I (fX12_fails o (2 : Int32) σ1) (fun x8 σ6 => b_z x8 σ6)) else (c_V (fX12_ahead o σ1) (fun σ4 => some ((1 : Int32), σ4))))
set_option maxRecDepth 100000 in
set_option maxHeartbeats 4000000 in
theorem ctX12_wantSign (l : Launch) (E : EV) (o : Nat) (a1 : Int32) (ho : KD o = 12) (σ : Mm) {xr : Int32} {τ : Mm} (h : fX12_wantSign o a1 σ = some (xr, τ)) : Ct l E mX12_wantSign 2 [.ref (e_a E o 0), .int a1] σ (some (.int xr), τ) := by
  refine Ct.of (by decide +kernel) (Nat.le_of_ble_eq_true rfl) ?_
  show Jd l E mX12_wantSign 2 (some (.int xr), τ) σ 0 [(0, .ref (e_a E o 0)), (1, .int a1)] []
  unfold fX12_wantSign at h
  refine J_aload_n (pc := 0) 0 dX12_wantSign_0 rfl ?_
  refine J_iload_n (pc := 1) 1 dX12_wantSign_1 rfl ?_
  obtain ⟨x3, σ1, hc2, h⟩ := cI_t h
  refine J_cVi (pc := 2) (ctX12_isSign l E o a1 ho σ hc2) dX12_wantSign_2 mlX12_163 mvX12_isSign ho rfl (by decide) rfl (Nat.le_of_ble_eq_true rfl) ?_
  refine J_if_ne (pc := 5) 14 dX12_wantSign_5 (by decide) h (fun h => ?_) (fun h => ?_)
  · refine J_aload_n (pc := 14) 0 dX12_wantSign_14 rfl ?_
    obtain ⟨σ4, hc5, h⟩ := cV_t h
    refine J_cVv (pc := 15) (ctX12_ahead l E o ho σ1 hc5) dX12_wantSign_15 mlX12_160 mvX12_ahead ho rfl (by decide) rfl (Nat.le_of_ble_eq_true rfl) ?_
    refine J_iconst (pc := 18) (1 : Int32) dX12_wantSign_18 (by decide) ?_
    cases h
    exact J_iret (pc := 19) dX12_wantSign_19 rfl rfl
  · refine J_aload_n (pc := 8) 0 dX12_wantSign_8 rfl ?_
    refine J_iconst (pc := 9) (2 : Int32) dX12_wantSign_9 (by decide) ?_
    obtain ⟨x8, σ6, hc7, h⟩ := cI_t h
    refine J_cVi (pc := 10) (ctX12_fails l E o (2 : Int32) ho σ1 hc7) dX12_wantSign_10 mlX12_166 mvX12_fails ho rfl (by decide) rfl (Nat.le_of_ble_eq_true rfl) ?_
    obtain ⟨hz9, h⟩ := bz_t h
    cases h
    exact J_iret (pc := 13) dX12_wantSign_13 rfl hz9
def fX12_wantWord (o : Nat) (a2 : Int32) (σ : Mm) : Option (Int32 × Mm) := c_I (fX12_inWords o σ) (fun x3 σ1 => if x3 = a2 then (c_V (fX12_ahead o σ1) (fun σ4 => some ((1 : Int32), σ4))) else (c_I (fX12_fails o (2 : Int32) σ1) (fun x8 σ6 => b_z x8 σ6)))
set_option maxRecDepth 100000 in
set_option maxHeartbeats 4000000 in
theorem ctX12_wantWord (l : Launch) (E : EV) (o : Nat) (a2 : Int32) (ho : KD o = 12) (σ : Mm) {xr : Int32} {τ : Mm} (h : fX12_wantWord o a2 σ = some (xr, τ)) : Ct l E mX12_wantWord 6 [.ref (e_a E o 0), .ref (e_s E), .int a2] σ (some (.int xr), τ) := by
  refine Ct.of (by decide +kernel) (Nat.le_of_ble_eq_true rfl) ?_
  show Jd l E mX12_wantWord 6 (some (.int xr), τ) σ 0 [(0, .ref (e_a E o 0)), (1, .ref (e_s E)), (2, .int a2)] []
  unfold fX12_wantWord at h
  refine J_aload_n (pc := 0) 0 dX12_wantWord_0 rfl ?_
  refine J_aload_n (pc := 1) 1 dX12_wantWord_1 rfl ?_
  obtain ⟨x3, σ1, hc2, h⟩ := cI_t h
  refine J_cVi (pc := 2) (ctX12_inWords l E o ho σ hc2) dX12_wantWord_2 mlX12_169 mvX12_inWords ho rfl (by decide) rfl (Nat.le_of_ble_eq_true rfl) ?_
  refine J_iload_n (pc := 5) 2 dX12_wantWord_5 rfl ?_
  refine J_icmp_eq (pc := 6) 15 dX12_wantWord_6 (by decide) h (fun h => ?_) (fun h => ?_)
  · refine J_aload_n (pc := 15) 0 dX12_wantWord_15 rfl ?_
    obtain ⟨σ4, hc5, h⟩ := cV_t h
    refine J_cVv (pc := 16) (ctX12_ahead l E o ho σ1 hc5) dX12_wantWord_16 mlX12_160 mvX12_ahead ho rfl (by decide) rfl (Nat.le_of_ble_eq_true rfl) ?_
    refine J_iconst (pc := 19) (1 : Int32) dX12_wantWord_19 (by decide) ?_
    cases h
    exact J_iret (pc := 20) dX12_wantWord_20 rfl rfl
  · refine J_aload_n (pc := 9) 0 dX12_wantWord_9 rfl ?_
    refine J_iconst (pc := 10) (2 : Int32) dX12_wantWord_10 (by decide) ?_
    obtain ⟨x8, σ6, hc7, h⟩ := cI_t h
    refine J_cVi (pc := 11) (ctX12_fails l E o (2 : Int32) ho σ1 hc7) dX12_wantWord_11 mlX12_166 mvX12_fails ho rfl (by decide) rfl (Nat.le_of_ble_eq_true rfl) ?_
    obtain ⟨hz9, h⟩ := bz_t h
    cases h
    exact J_iret (pc := 14) dX12_wantWord_14 rfl hz9
def fX12_number (o : Nat) (a1 : Int32) (a2 : Int32) (a3 : Int32) (σ : Mm) : Option (Int32 × Mm) := r_sc σ o 12 (fun x1 => if x1 = (3 : Int32) then (r_sc σ o 15 (fun x2 => if x2 < a2 then (c_I (fX12_fails o (4 : Int32) σ) (fun x5 σ3 => b_z x5 σ3)) else (r_sc σ o 15 (fun x7 => if x7 ≤ a3 then (r_sc σ o 15 (fun x8 => s_ar σ o 0 2950 a1 x8 (fun σ9 => c_V (fX12_ahead o σ9) (fun σ10 => some ((1 : Int32), σ10))))) else (c_I (fX12_fails o (4 : Int32) σ) (fun x14 σ12 => b_z x14 σ12)))))) else (c_I (fX12_fails o (2 : Int32) σ) (fun x18 σ16 => b_z x18 σ16)))
set_option maxRecDepth 100000 in
set_option maxHeartbeats 4000000 in
theorem ctX12_number (l : Launch) (E : EV) (o : Nat) (a1 : Int32) (a2 : Int32) (a3 : Int32) (ho : KD o = 12) (σ : Mm) {xr : Int32} {τ : Mm} (h : fX12_number o a1 a2 a3 σ = some (xr, τ)) : Ct l E mX12_number 2 [.ref (e_a E o 0), .int a1, .int a2, .int a3] σ (some (.int xr), τ) := by
  refine Ct.of (by decide +kernel) (Nat.le_of_ble_eq_true rfl) ?_
  show Jd l E mX12_number 2 (some (.int xr), τ) σ 0 [(0, .ref (e_a E o 0)), (1, .int a1), (2, .int a2), (3, .int a3)] []
  unfold fX12_number at h
  refine J_aload_n (pc := 0) 0 dX12_number_0 rfl ?_
  refine J_getI (pc := 1) dX12_number_1 ho flX12_129 rfl h (fun x1 h => ?_)
  refine J_iconst (pc := 4) (3 : Int32) dX12_number_4 (by decide) ?_
  refine J_icmp_eq (pc := 5) 14 dX12_number_5 (by decide) h (fun h => ?_) (fun h => ?_)
  · refine J_aload_n (pc := 14) 0 dX12_number_14 rfl ?_
    refine J_getI (pc := 15) dX12_number_15 ho flX12_126 rfl h (fun x2 h => ?_)
    refine J_iload_n (pc := 18) 2 dX12_number_18 rfl ?_
    refine J_icmp_lt (pc := 19) 30 dX12_number_19 (by decide) h (fun h => ?_) (fun h => ?_)
    · refine J_aload_n (pc := 30) 0 dX12_number_30 rfl ?_
      refine J_iconst (pc := 31) (4 : Int32) dX12_number_31 (by decide) ?_
      obtain ⟨x5, σ3, hc4, h⟩ := cI_t h
      refine J_cVi (pc := 32) (ctX12_fails l E o (4 : Int32) ho σ hc4) dX12_number_32 mlX12_166 mvX12_fails ho rfl (by decide) rfl (Nat.le_of_ble_eq_true rfl) ?_
      obtain ⟨hz6, h⟩ := bz_t h
      cases h
      exact J_iret (pc := 35) dX12_number_35 rfl hz6
    · refine J_aload_n (pc := 22) 0 dX12_number_22 rfl ?_
      refine J_getI (pc := 23) dX12_number_23 ho flX12_126 rfl h (fun x7 h => ?_)
      refine J_iload_n (pc := 26) 3 dX12_number_26 rfl ?_
      refine J_icmp_le (pc := 27) 36 dX12_number_27 (by decide) h (fun h => ?_) (fun h => ?_)
      · refine J_aload_n (pc := 36) 0 dX12_number_36 rfl ?_
        refine J_getA (pc := 37) dX12_number_37 ho flX12_7 rfl ?_
        refine J_iload_n (pc := 40) 1 dX12_number_40 rfl ?_
        refine J_aload_n (pc := 41) 0 dX12_number_41 rfl ?_
        refine J_getI (pc := 42) dX12_number_42 ho flX12_126 rfl h (fun x8 h => ?_)
        refine J_iast (pc := 45) dX12_number_45 ho ha12_0 h (fun σ9 h => ?_)
        refine J_aload_n (pc := 46) 0 dX12_number_46 rfl ?_
        obtain ⟨σ10, hc11, h⟩ := cV_t h
        refine J_cVv (pc := 47) (ctX12_ahead l E o ho σ9 hc11) dX12_number_47 mlX12_160 mvX12_ahead ho rfl (by decide) rfl (Nat.le_of_ble_eq_true rfl) ?_
        refine J_iconst (pc := 50) (1 : Int32) dX12_number_50 (by decide) ?_
        cases h
        exact J_iret (pc := 51) dX12_number_51 rfl rfl
      · refine J_aload_n (pc := 30) 0 dX12_number_30 rfl ?_
        refine J_iconst (pc := 31) (4 : Int32) dX12_number_31 (by decide) ?_
        obtain ⟨x14, σ12, hc13, h⟩ := cI_t h
        refine J_cVi (pc := 32) (ctX12_fails l E o (4 : Int32) ho σ hc13) dX12_number_32 mlX12_166 mvX12_fails ho rfl (by decide) rfl (Nat.le_of_ble_eq_true rfl) ?_
        obtain ⟨hz15, h⟩ := bz_t h
        cases h
        exact J_iret (pc := 35) dX12_number_35 rfl hz15
  · refine J_aload_n (pc := 8) 0 dX12_number_8 rfl ?_
    refine J_iconst (pc := 9) (2 : Int32) dX12_number_9 (by decide) ?_
    obtain ⟨x18, σ16, hc17, h⟩ := cI_t h
    refine J_cVi (pc := 10) (ctX12_fails l E o (2 : Int32) ho σ hc17) dX12_number_10 mlX12_166 mvX12_fails ho rfl (by decide) rfl (Nat.le_of_ble_eq_true rfl) ?_
    obtain ⟨hz19, h⟩ := bz_t h
    cases h
    exact J_iret (pc := 13) dX12_number_13 rfl hz19
def fX12_isName (o : Nat) (σ : Mm) : Option (Int32 × Mm) := r_sc σ o 12 (fun x1 => if x1 = (2 : Int32) then (r_sc σ o 14 (fun x2 => r_sc σ o 13 (fun x3 => if (8 : Int32) < (x2 - x3) then (some ((0 : Int32), σ)) else (c_I (fX12_inWords o σ) (fun x6 σ4 => if x6 = (-1 : Int32) then (some ((1 : Int32), σ4)) else (some ((0 : Int32), σ4))))))) else (some ((0 : Int32), σ)))
set_option maxRecDepth 100000 in
set_option maxHeartbeats 4000000 in
theorem ctX12_isName (l : Launch) (E : EV) (o : Nat) (ho : KD o = 12) (σ : Mm) {xr : Int32} {τ : Mm} (h : fX12_isName o σ = some (xr, τ)) : Ct l E mX12_isName 6 [.ref (e_a E o 0), .ref (e_s E)] σ (some (.int xr), τ) := by
  refine Ct.of (by decide +kernel) (Nat.le_of_ble_eq_true rfl) ?_
  show Jd l E mX12_isName 6 (some (.int xr), τ) σ 0 [(0, .ref (e_a E o 0)), (1, .ref (e_s E))] []
  unfold fX12_isName at h
  refine J_aload_n (pc := 0) 0 dX12_isName_0 rfl ?_
  refine J_getI (pc := 1) dX12_isName_1 ho flX12_129 rfl h (fun x1 h => ?_)
  refine J_iconst (pc := 4) (2 : Int32) dX12_isName_4 (by decide) ?_
  refine J_icmp_ne (pc := 5) 35 dX12_isName_5 (by decide) h (fun h => ?_) (fun h => ?_)
  · refine J_iconst (pc := 35) (0 : Int32) dX12_isName_35 (by decide) ?_
    cases h
    exact J_iret (pc := 36) dX12_isName_36 rfl rfl
  · refine J_aload_n (pc := 8) 0 dX12_isName_8 rfl ?_
    refine J_getI (pc := 9) dX12_isName_9 ho flX12_117 rfl h (fun x2 h => ?_)
    refine J_aload_n (pc := 12) 0 dX12_isName_12 rfl ?_
    refine J_getI (pc := 13) dX12_isName_13 ho flX12_123 rfl h (fun x3 h => ?_)
    refine J_isub (pc := 16) dX12_isName_16 ?_
    refine J_bipush (pc := 17) (8 : Int32) dX12_isName_17 (by decide) ?_
    refine J_icmp_gt (pc := 19) 35 dX12_isName_19 (by decide) h (fun h => ?_) (fun h => ?_)
    · refine J_iconst (pc := 35) (0 : Int32) dX12_isName_35 (by decide) ?_
      cases h
      exact J_iret (pc := 36) dX12_isName_36 rfl rfl
    · refine J_aload_n (pc := 22) 0 dX12_isName_22 rfl ?_
      refine J_aload_n (pc := 23) 1 dX12_isName_23 rfl ?_
      obtain ⟨x6, σ4, hc5, h⟩ := cI_t h
      refine J_cVi (pc := 24) (ctX12_inWords l E o ho σ hc5) dX12_isName_24 mlX12_169 mvX12_inWords ho rfl (by decide) rfl (Nat.le_of_ble_eq_true rfl) ?_
      refine J_iconst (pc := 27) (-1 : Int32) dX12_isName_27 (by decide) ?_
      refine J_icmp_ne (pc := 28) 35 dX12_isName_28 (by decide) h (fun h => ?_) (fun h => ?_)
      · refine J_iconst (pc := 35) (0 : Int32) dX12_isName_35 (by decide) ?_
        cases h
        exact J_iret (pc := 36) dX12_isName_36 rfl rfl
      · refine J_iconst (pc := 31) (1 : Int32) dX12_isName_31 (by decide) ?_
        refine J_goto (pc := 32) 36 dX12_isName_32 (by decide) ?_
        cases h
        exact J_iret (pc := 36) dX12_isName_36 rfl rfl
def fX12_nameHere_7 (o : Nat) : Nat → Int64 → Int32 → Mm → Option (Int64 × Mm)
  | 0, _, _, _ => none
  | n + 1, v1, v3, σ => r_sc σ o 14 (fun x2 => if x2 ≤ v3 then (some (v1, σ)) else (c_I (fX12_byteAt o v3 σ) (fun x5 σ3 => (fX12_nameHere_7 o n) ((v1 <<< ((8 : Int32).toInt64 &&& 63)) ||| x5.toInt64) (v3 + (1 : Int32)) σ3)))
set_option maxRecDepth 100000 in
set_option maxHeartbeats 4000000 in
theorem tX12_nameHere_7 (l : Launch) (E : EV) {xr : Int64} {τ : Mm} (o : Nat) (ho : KD o = 12) : ∀ (n : Nat) (v1 : Int64) (v3 : Int32) (σ : Mm), fX12_nameHere_7 o n v1 v3 σ = some (xr, τ) → Jd l E mX12_nameHere 1 (some (.long xr), τ) σ 7 [(0, .ref (e_a E o 0)), (1, .long v1), (3, .int v3)] [] := by
  intro n
  induction n with
  | zero => intro v1 v3 σ h; rw [fX12_nameHere_7] at h; cases h
  | succ n ih =>
    intro v1 v3 σ h
    rw [fX12_nameHere_7] at h
    refine J_iload_n (pc := 7) 2 dX12_nameHere_7 rfl ?_
    refine J_aload_n (pc := 8) 0 dX12_nameHere_8 rfl ?_
    refine J_getI (pc := 9) dX12_nameHere_9 ho flX12_117 rfl h (fun x2 h => ?_)
    refine J_icmp_ge (pc := 12) 33 dX12_nameHere_12 (by decide) h (fun h => ?_) (fun h => ?_)
    · refine J_lload_n (pc := 33) 1 dX12_nameHere_33 rfl ?_
      cases h
      exact J_lret (pc := 34) dX12_nameHere_34 rfl
    · refine J_lload_n (pc := 15) 1 dX12_nameHere_15 rfl ?_
      refine J_bipush (pc := 16) (8 : Int32) dX12_nameHere_16 (by decide) ?_
      refine J_lshl (pc := 18) dX12_nameHere_18 ?_
      refine J_aload_n (pc := 19) 0 dX12_nameHere_19 rfl ?_
      refine J_iload_n (pc := 20) 2 dX12_nameHere_20 rfl ?_
      obtain ⟨x5, σ3, hc4, h⟩ := cI_t h
      refine J_cVi (pc := 21) (ctX12_byteAt l E o v3 ho σ hc4) dX12_nameHere_21 mlX12_120 mvX12_byteAt ho rfl (by decide) rfl (Nat.le_of_ble_eq_true rfl) ?_
      refine J_i2l (pc := 24) dX12_nameHere_24 ?_
      refine J_lor (pc := 25) dX12_nameHere_25 ?_
      refine J_lstore_n (pc := 26) (L' := [(1, .long ((v1 <<< ((8 : Int32).toInt64 &&& 63)) ||| x5.toInt64)), (0, .ref (e_a E o 0)), (3, .int v3)]) dX12_nameHere_26 (by decide) rfl ?_
      refine J_iinc (pc := 27) (L' := [(3, .int (v3 + (1 : Int32))), (1, .long ((v1 <<< ((8 : Int32).toInt64 &&& 63)) ||| x5.toInt64)), (0, .ref (e_a E o 0))]) 2 (v3 + (1 : Int32)) dX12_nameHere_27 rfl (by rfl) (by decide) rfl ?_
      refine J_goto (pc := 30) 7 dX12_nameHere_30 (by decide) ?_
      refine J_sub (L' := [(0, .ref (e_a E o 0)), (1, .long ((v1 <<< ((8 : Int32).toInt64 &&& 63)) ||| x5.toInt64)), (3, .int (v3 + (1 : Int32)))]) [2, 1, 0] rfl ?_
      exact ih ((v1 <<< ((8 : Int32).toInt64 &&& 63)) ||| x5.toInt64) (v3 + (1 : Int32)) σ3 h
def fX12_nameHere (o : Nat) (σ : Mm) : Option (Int64 × Mm) := r_sc σ o 13 (fun x1 => fX12_nameHere_7 o FU (0 : Int64) x1 σ)
set_option maxRecDepth 100000 in
set_option maxHeartbeats 4000000 in
theorem ctX12_nameHere (l : Launch) (E : EV) (o : Nat) (ho : KD o = 12) (σ : Mm) {xr : Int64} {τ : Mm} (h : fX12_nameHere o σ = some (xr, τ)) : Ct l E mX12_nameHere 1 [.ref (e_a E o 0)] σ (some (.long xr), τ) := by
  refine Ct.of (by decide +kernel) (Nat.le_of_ble_eq_true rfl) ?_
  show Jd l E mX12_nameHere 1 (some (.long xr), τ) σ 0 [(0, .ref (e_a E o 0))] []
  unfold fX12_nameHere at h
  refine J_lconst (pc := 0) (0 : Int64) dX12_nameHere_0 (by decide) ?_
  refine J_lstore_n (pc := 1) (L' := [(1, .long (0 : Int64)), (0, .ref (e_a E o 0))]) dX12_nameHere_1 (by decide) rfl ?_
  refine J_aload_n (pc := 2) 1 dX12_nameHere_2 rfl ?_
  refine J_getI (pc := 3) dX12_nameHere_3 ho flX12_123 rfl h (fun x1 h => ?_)
  refine J_istore_n (pc := 6) (L' := [(3, .int x1), (1, .long (0 : Int64)), (0, .ref (e_a E o 0))]) dX12_nameHere_6 (by decide) rfl ?_
  refine J_sub (L' := [(0, .ref (e_a E o 0)), (1, .long (0 : Int64)), (3, .int x1)]) [2, 1, 0] rfl ?_
  exact tX12_nameHere_7 l E o ho FU (0 : Int64) x1 σ h
def fX12_findHere_2 (o : Nat) (a1 : Int32) (a2 : Int32) : Nat → Int32 → Mm → Option (Int32 × Mm)
  | 0, _, _ => none
  | n + 1, v3, σ => if a2 ≤ v3 then (some ((-1 : Int32), σ)) else (g_la σ o 1 120 (a1 + v3) (fun x1 => c_L (fX12_nameHere o σ) (fun x4 σ2 => if (lg_cmp x1 x4) = 0 then (some (v3, σ2)) else ((fX12_findHere_2 o a1 a2 n) (v3 + (1 : Int32)) σ2))))
set_option maxRecDepth 100000 in
set_option maxHeartbeats 4000000 in
theorem tX12_findHere_2 (l : Launch) (E : EV) {xr : Int32} {τ : Mm} (o : Nat) (a1 : Int32) (a2 : Int32) (ho : KD o = 12) : ∀ (n : Nat) (v3 : Int32) (σ : Mm), fX12_findHere_2 o a1 a2 n v3 σ = some (xr, τ) → Jd l E mX12_findHere 2 (some (.int xr), τ) σ 2 [(0, .ref (e_a E o 0)), (1, .int a1), (2, .int a2), (3, .int v3)] [] := by
  intro n
  induction n with
  | zero => intro v3 σ h; rw [fX12_findHere_2] at h; cases h
  | succ n ih =>
    intro v3 σ h
    rw [fX12_findHere_2] at h
    refine J_iload_n (pc := 2) 3 dX12_findHere_2 rfl ?_
    refine J_iload_n (pc := 3) 2 dX12_findHere_3 rfl ?_
    refine J_icmp_ge (pc := 4) 31 dX12_findHere_4 (by decide) h (fun h => ?_) (fun h => ?_)
    · refine J_iconst (pc := 31) (-1 : Int32) dX12_findHere_31 (by decide) ?_
      cases h
      exact J_iret (pc := 32) dX12_findHere_32 rfl rfl
    · refine J_aload_n (pc := 7) 0 dX12_findHere_7 rfl ?_
      refine J_getA (pc := 8) dX12_findHere_8 ho flX12_13 rfl ?_
      refine J_iload_n (pc := 11) 1 dX12_findHere_11 rfl ?_
      refine J_iload_n (pc := 12) 3 dX12_findHere_12 rfl ?_
      refine J_iadd (pc := 13) dX12_findHere_13 ?_
      refine J_lald (pc := 14) dX12_findHere_14 ho ha12_1 h (fun x1 h => ?_)
      refine J_aload_n (pc := 15) 0 dX12_findHere_15 rfl ?_
      obtain ⟨x4, σ2, hc3, h⟩ := cL_t h
      refine J_cVl (pc := 16) (ctX12_nameHere l E o ho σ hc3) dX12_findHere_16 mlX12_173 mvX12_nameHere ho rfl (by decide) rfl (Nat.le_of_ble_eq_true rfl) ?_
      refine J_lcmp (pc := 19) dX12_findHere_19 ?_
      refine J_if_ne (pc := 20) 25 dX12_findHere_20 (by decide) h (fun h => ?_) (fun h => ?_)
      · refine J_iinc (pc := 25) (L' := [(3, .int (v3 + (1 : Int32))), (0, .ref (e_a E o 0)), (1, .int a1), (2, .int a2)]) 3 (v3 + (1 : Int32)) dX12_findHere_25 rfl (by rfl) (by decide) rfl ?_
        refine J_goto (pc := 28) 2 dX12_findHere_28 (by decide) ?_
        refine J_sub (L' := [(0, .ref (e_a E o 0)), (1, .int a1), (2, .int a2), (3, .int (v3 + (1 : Int32)))]) [1, 2, 3, 0] rfl ?_
        exact ih (v3 + (1 : Int32)) σ2 h
      · refine J_iload_n (pc := 23) 3 dX12_findHere_23 rfl ?_
        cases h
        exact J_iret (pc := 24) dX12_findHere_24 rfl rfl
def fX12_findHere (o : Nat) (a1 : Int32) (a2 : Int32) (σ : Mm) : Option (Int32 × Mm) := fX12_findHere_2 o a1 a2 FU (0 : Int32) σ
set_option maxRecDepth 100000 in
set_option maxHeartbeats 4000000 in
theorem ctX12_findHere (l : Launch) (E : EV) (o : Nat) (a1 : Int32) (a2 : Int32) (ho : KD o = 12) (σ : Mm) {xr : Int32} {τ : Mm} (h : fX12_findHere o a1 a2 σ = some (xr, τ)) : Ct l E mX12_findHere 2 [.ref (e_a E o 0), .int a1, .int a2] σ (some (.int xr), τ) := by
  refine Ct.of (by decide +kernel) (Nat.le_of_ble_eq_true rfl) ?_
  show Jd l E mX12_findHere 2 (some (.int xr), τ) σ 0 [(0, .ref (e_a E o 0)), (1, .int a1), (2, .int a2)] []
  unfold fX12_findHere at h
  refine J_iconst (pc := 0) (0 : Int32) dX12_findHere_0 (by decide) ?_
  refine J_istore_n (pc := 1) (L' := [(3, .int (0 : Int32)), (0, .ref (e_a E o 0)), (1, .int a1), (2, .int a2)]) dX12_findHere_1 (by decide) rfl ?_
  refine J_sub (L' := [(0, .ref (e_a E o 0)), (1, .int a1), (2, .int a2), (3, .int (0 : Int32))]) [1, 2, 3, 0] rfl ?_
  exact tX12_findHere_2 l E o a1 a2 ho FU (0 : Int32) σ h
def fX12_fault (o : Nat) (a1 : Int32) (σ : Mm) : Option (Int32 × Mm) := if a1 = 0 then (r_sc σ o 16 (fun x2 => some (x2, σ))) else (if a1 = (1 : Int32) then (r_sc σ o 17 (fun x1 => some (x1, σ))) else (some ((-1 : Int32), σ)))
set_option maxRecDepth 100000 in
set_option maxHeartbeats 4000000 in
theorem ctX12_fault (l : Launch) (E : EV) (o : Nat) (a1 : Int32) (ho : KD o = 12) (σ : Mm) {xr : Int32} {τ : Mm} (h : fX12_fault o a1 σ = some (xr, τ)) : Ct l E mX12_fault 0 [.ref (e_a E o 0), .int a1] σ (some (.int xr), τ) := by
  refine Ct.of (by decide +kernel) (Nat.le_of_ble_eq_true rfl) ?_
  show Jd l E mX12_fault 0 (some (.int xr), τ) σ 0 [(0, .ref (e_a E o 0)), (1, .int a1)] []
  unfold fX12_fault at h
  refine J_iload_n (pc := 0) 1 dX12_fault_0 rfl ?_
  refine J_if_ne (pc := 1) 11 dX12_fault_1 (by decide) h (fun h => ?_) (fun h => ?_)
  · refine J_iload_n (pc := 11) 1 dX12_fault_11 rfl ?_
    refine J_iconst (pc := 12) (1 : Int32) dX12_fault_12 (by decide) ?_
    refine J_icmp_ne (pc := 13) 23 dX12_fault_13 (by decide) h (fun h => ?_) (fun h => ?_)
    · refine J_iconst (pc := 23) (-1 : Int32) dX12_fault_23 (by decide) ?_
      cases h
      exact J_iret (pc := 24) dX12_fault_24 rfl rfl
    · refine J_aload_n (pc := 16) 0 dX12_fault_16 rfl ?_
      refine J_getI (pc := 17) dX12_fault_17 ho flX12_41 rfl h (fun x1 h => ?_)
      refine J_goto (pc := 20) 24 dX12_fault_20 (by decide) ?_
      cases h
      exact J_iret (pc := 24) dX12_fault_24 rfl rfl
  · refine J_aload_n (pc := 4) 0 dX12_fault_4 rfl ?_
    refine J_getI (pc := 5) dX12_fault_5 ho flX12_37 rfl h (fun x2 h => ?_)
    refine J_goto (pc := 8) 24 dX12_fault_8 (by decide) ?_
    cases h
    exact J_iret (pc := 24) dX12_fault_24 rfl rfl
def fX12_taken (o : Nat) (a1 : Int32) (σ : Mm) : Option (Int32 × Mm) := r_sc σ o 18 (fun x1 => p_sc σ o 16 x1 (fun σ2 => r_sc σ2 o 18 (fun x3 => if x3 ≤ 0 then (c_I (fX12_gives o a1 σ2) (fun x6 σ4 => some (x6, σ4))) else (c_I (fX12_refuse o (9 : Int32) σ2) (fun x9 σ7 => some (x9, σ7))))))
set_option maxRecDepth 100000 in
set_option maxHeartbeats 4000000 in
theorem ctX12_taken (l : Launch) (E : EV) (o : Nat) (a1 : Int32) (ho : KD o = 12) (σ : Mm) {xr : Int32} {τ : Mm} (h : fX12_taken o a1 σ = some (xr, τ)) : Ct l E mX12_taken 1 [.ref (e_a E o 0), .int a1] σ (some (.int xr), τ) := by
  refine Ct.of (by decide +kernel) (Nat.le_of_ble_eq_true rfl) ?_
  show Jd l E mX12_taken 1 (some (.int xr), τ) σ 0 [(0, .ref (e_a E o 0)), (1, .int a1)] []
  unfold fX12_taken at h
  refine J_aload_n (pc := 0) 0 dX12_taken_0 rfl ?_
  refine J_aload_n (pc := 1) 0 dX12_taken_1 rfl ?_
  refine J_getI (pc := 2) dX12_taken_2 ho flX12_154 rfl h (fun x1 h => ?_)
  refine J_putI (pc := 5) dX12_taken_5 ho flX12_37 rfl h (fun σ2 h => ?_)
  refine J_aload_n (pc := 8) 0 dX12_taken_8 rfl ?_
  refine J_getI (pc := 9) dX12_taken_9 ho flX12_154 rfl h (fun x3 h => ?_)
  refine J_if_le (pc := 12) 24 dX12_taken_12 (by decide) h (fun h => ?_) (fun h => ?_)
  · refine J_aload_n (pc := 24) 0 dX12_taken_24 rfl ?_
    refine J_iload_n (pc := 25) 1 dX12_taken_25 rfl ?_
    obtain ⟨x6, σ4, hc5, h⟩ := cI_t h
    refine J_cVi (pc := 26) (ctX12_gives l E o a1 ho σ2 hc5) dX12_taken_26 mlX12_87 mvX12_gives ho rfl (by decide) rfl (Nat.le_of_ble_eq_true rfl) ?_
    cases h
    exact J_iret (pc := 29) dX12_taken_29 rfl rfl
  · refine J_aload_n (pc := 15) 0 dX12_taken_15 rfl ?_
    refine J_bipush (pc := 16) (9 : Int32) dX12_taken_16 (by decide) ?_
    obtain ⟨x9, σ7, hc8, h⟩ := cI_t h
    refine J_cVi (pc := 18) (ctX12_refuse l E o (9 : Int32) ho σ2 hc8) dX12_taken_18 mlX12_83 mvX12_refuse ho rfl (by decide) rfl (Nat.le_of_ble_eq_true rfl) ?_
    refine J_goto (pc := 21) 29 dX12_taken_21 (by decide) ?_
    cases h
    exact J_iret (pc := 29) dX12_taken_29 rfl rfl
def fX12_isNew (o : Nat) (σ : Mm) : Option (Int32 × Mm) := g_ar σ o 0 2950 (1960 : Int32) (fun x1 => c_I (fX12_findHere o (88 : Int32) x1 σ) (fun x4 σ2 => if x4 = (-1 : Int32) then (g_ar σ2 o 0 2950 (1961 : Int32) (fun x5 => c_I (fX12_findHere o (92 : Int32) x5 σ2) (fun x8 σ6 => if x8 = (-1 : Int32) then (g_ar σ6 o 0 2950 (1962 : Int32) (fun x9 => c_I (fX12_findHere o (100 : Int32) x9 σ6) (fun x12 σ10 => if x12 = (-1 : Int32) then (some ((1 : Int32), σ10)) else (some ((0 : Int32), σ10))))) else (some ((0 : Int32), σ6))))) else (some ((0 : Int32), σ2))))
set_option maxRecDepth 100000 in
set_option maxHeartbeats 4000000 in
theorem ctX12_isNew (l : Launch) (E : EV) (o : Nat) (ho : KD o = 12) (σ : Mm) {xr : Int32} {τ : Mm} (h : fX12_isNew o σ = some (xr, τ)) : Ct l E mX12_isNew 3 [.ref (e_a E o 0)] σ (some (.int xr), τ) := by
  refine Ct.of (by decide +kernel) (Nat.le_of_ble_eq_true rfl) ?_
  show Jd l E mX12_isNew 3 (some (.int xr), τ) σ 0 [(0, .ref (e_a E o 0))] []
  unfold fX12_isNew at h
  refine J_aload_n (pc := 0) 0 dX12_isNew_0 rfl ?_
  refine J_bipush (pc := 1) (88 : Int32) dX12_isNew_1 (by decide) ?_
  refine J_aload_n (pc := 3) 0 dX12_isNew_3 rfl ?_
  refine J_getA (pc := 4) dX12_isNew_4 ho flX12_7 rfl ?_
  refine J_sipush (pc := 7) (1960 : Int32) dX12_isNew_7 (by decide) ?_
  refine J_iald (pc := 10) dX12_isNew_10 ho ha12_0 h (fun x1 h => ?_)
  obtain ⟨x4, σ2, hc3, h⟩ := cI_t h
  refine J_cVi (pc := 11) (ctX12_findHere l E o (88 : Int32) x1 ho σ hc3) dX12_isNew_11 mlX12_177 mvX12_findHere ho rfl (by decide) rfl (Nat.le_of_ble_eq_true rfl) ?_
  refine J_iconst (pc := 14) (-1 : Int32) dX12_isNew_14 (by decide) ?_
  refine J_icmp_ne (pc := 15) 58 dX12_isNew_15 (by decide) h (fun h => ?_) (fun h => ?_)
  · refine J_iconst (pc := 58) (0 : Int32) dX12_isNew_58 (by decide) ?_
    cases h
    exact J_iret (pc := 59) dX12_isNew_59 rfl rfl
  · refine J_aload_n (pc := 18) 0 dX12_isNew_18 rfl ?_
    refine J_bipush (pc := 19) (92 : Int32) dX12_isNew_19 (by decide) ?_
    refine J_aload_n (pc := 21) 0 dX12_isNew_21 rfl ?_
    refine J_getA (pc := 22) dX12_isNew_22 ho flX12_7 rfl ?_
    refine J_sipush (pc := 25) (1961 : Int32) dX12_isNew_25 (by decide) ?_
    refine J_iald (pc := 28) dX12_isNew_28 ho ha12_0 h (fun x5 h => ?_)
    obtain ⟨x8, σ6, hc7, h⟩ := cI_t h
    refine J_cVi (pc := 29) (ctX12_findHere l E o (92 : Int32) x5 ho σ2 hc7) dX12_isNew_29 mlX12_177 mvX12_findHere ho rfl (by decide) rfl (Nat.le_of_ble_eq_true rfl) ?_
    refine J_iconst (pc := 32) (-1 : Int32) dX12_isNew_32 (by decide) ?_
    refine J_icmp_ne (pc := 33) 58 dX12_isNew_33 (by decide) h (fun h => ?_) (fun h => ?_)
    · refine J_iconst (pc := 58) (0 : Int32) dX12_isNew_58 (by decide) ?_
      cases h
      exact J_iret (pc := 59) dX12_isNew_59 rfl rfl
    · refine J_aload_n (pc := 36) 0 dX12_isNew_36 rfl ?_
      refine J_bipush (pc := 37) (100 : Int32) dX12_isNew_37 (by decide) ?_
      refine J_aload_n (pc := 39) 0 dX12_isNew_39 rfl ?_
      refine J_getA (pc := 40) dX12_isNew_40 ho flX12_7 rfl ?_
      refine J_sipush (pc := 43) (1962 : Int32) dX12_isNew_43 (by decide) ?_
      refine J_iald (pc := 46) dX12_isNew_46 ho ha12_0 h (fun x9 h => ?_)
      obtain ⟨x12, σ10, hc11, h⟩ := cI_t h
      refine J_cVi (pc := 47) (ctX12_findHere l E o (100 : Int32) x9 ho σ6 hc11) dX12_isNew_47 mlX12_177 mvX12_findHere ho rfl (by decide) rfl (Nat.le_of_ble_eq_true rfl) ?_
      refine J_iconst (pc := 50) (-1 : Int32) dX12_isNew_50 (by decide) ?_
      refine J_icmp_ne (pc := 51) 58 dX12_isNew_51 (by decide) h (fun h => ?_) (fun h => ?_)
      · refine J_iconst (pc := 58) (0 : Int32) dX12_isNew_58 (by decide) ?_
        cases h
        exact J_iret (pc := 59) dX12_isNew_59 rfl rfl
      · refine J_iconst (pc := 54) (1 : Int32) dX12_isNew_54 (by decide) ?_
        refine J_goto (pc := 55) 59 dX12_isNew_55 (by decide) ?_
        cases h
        exact J_iret (pc := 59) dX12_isNew_59 rfl rfl
def fX12_newOne (o : Nat) (a1 : Int32) (a2 : Int32) (a3 : Int32) (σ : Mm) : Option (Int32 × Mm) := g_ar σ o 0 2950 ((1960 : Int32) + a1) (fun x1 => if x1 = a2 then (c_I (fX12_fails o (6 : Int32) σ) (fun x27 σ25 => b_z x27 σ25)) else (c_V (fX12_ahead o σ) (fun σ2 => c_I (fX12_isName o σ2) (fun x6 σ4 => if x6 = 0 then (c_I (fX12_fails o (2 : Int32) σ4) (fun x23 σ21 => b_z x23 σ21)) else (c_I (fX12_isNew o σ4) (fun x9 σ7 => if x9 = 0 then (c_I (fX12_fails o (3 : Int32) σ7) (fun x19 σ17 => b_z x19 σ17)) else (g_ar σ7 o 0 2950 ((1960 : Int32) + a1) (fun x10 => c_L (fX12_nameHere o σ7) (fun x13 σ11 => s_la σ11 o 1 120 (((88 : Int32) + a3) + x10) x13 (fun σ14 => c_V (fX12_ahead o σ14) (fun σ15 => some ((1 : Int32), σ15))))))))))))
set_option maxRecDepth 100000 in
set_option maxHeartbeats 4000000 in
theorem ctX12_newOne (l : Launch) (E : EV) (o : Nat) (a1 : Int32) (a2 : Int32) (a3 : Int32) (ho : KD o = 12) (σ : Mm) {xr : Int32} {τ : Mm} (h : fX12_newOne o a1 a2 a3 σ = some (xr, τ)) : Ct l E mX12_newOne 7 [.ref (e_a E o 0), .int a1, .int a2, .int a3] σ (some (.int xr), τ) := by
  refine Ct.of (by decide +kernel) (Nat.le_of_ble_eq_true rfl) ?_
  show Jd l E mX12_newOne 7 (some (.int xr), τ) σ 0 [(0, .ref (e_a E o 0)), (1, .int a1), (2, .int a2), (3, .int a3)] []
  unfold fX12_newOne at h
  refine J_aload_n (pc := 0) 0 dX12_newOne_0 rfl ?_
  refine J_getA (pc := 1) dX12_newOne_1 ho flX12_7 rfl ?_
  refine J_sipush (pc := 4) (1960 : Int32) dX12_newOne_4 (by decide) ?_
  refine J_iload_n (pc := 7) 1 dX12_newOne_7 rfl ?_
  refine J_iadd (pc := 8) dX12_newOne_8 ?_
  refine J_iald (pc := 9) dX12_newOne_9 ho ha12_0 h (fun x1 h => ?_)
  refine J_iload_n (pc := 10) 2 dX12_newOne_10 rfl ?_
  refine J_icmp_ne (pc := 11) 21 dX12_newOne_11 (by decide) h (fun h => ?_) (fun h => ?_)
  · refine J_aload_n (pc := 21) 0 dX12_newOne_21 rfl ?_
    obtain ⟨σ2, hc3, h⟩ := cV_t h
    refine J_cVv (pc := 22) (ctX12_ahead l E o ho σ hc3) dX12_newOne_22 mlX12_160 mvX12_ahead ho rfl (by decide) rfl (Nat.le_of_ble_eq_true rfl) ?_
    refine J_aload_n (pc := 25) 0 dX12_newOne_25 rfl ?_
    refine J_ldcS (pc := 26) dX12_newOne_26 rfl rfl ?_
    obtain ⟨x6, σ4, hc5, h⟩ := cI_t h
    refine J_cVi (pc := 28) (ctX12_isName l E o ho σ2 hc5) dX12_newOne_28 mlX12_182 mvX12_isName ho rfl (by decide) rfl (Nat.le_of_ble_eq_true rfl) ?_
    refine J_if_ne (pc := 31) 40 dX12_newOne_31 (by decide) h (fun h => ?_) (fun h => ?_)
    · refine J_aload_n (pc := 40) 0 dX12_newOne_40 rfl ?_
      obtain ⟨x9, σ7, hc8, h⟩ := cI_t h
      refine J_cVi (pc := 41) (ctX12_isNew l E o ho σ4 hc8) dX12_newOne_41 mlX12_186 mvX12_isNew ho rfl (by decide) rfl (Nat.le_of_ble_eq_true rfl) ?_
      refine J_if_ne (pc := 44) 53 dX12_newOne_44 (by decide) h (fun h => ?_) (fun h => ?_)
      · refine J_aload_n (pc := 53) 0 dX12_newOne_53 rfl ?_
        refine J_getA (pc := 54) dX12_newOne_54 ho flX12_13 rfl ?_
        refine J_bipush (pc := 57) (88 : Int32) dX12_newOne_57 (by decide) ?_
        refine J_iload_n (pc := 59) 3 dX12_newOne_59 rfl ?_
        refine J_iadd (pc := 60) dX12_newOne_60 ?_
        refine J_aload_n (pc := 61) 0 dX12_newOne_61 rfl ?_
        refine J_getA (pc := 62) dX12_newOne_62 ho flX12_7 rfl ?_
        refine J_sipush (pc := 65) (1960 : Int32) dX12_newOne_65 (by decide) ?_
        refine J_iload_n (pc := 68) 1 dX12_newOne_68 rfl ?_
        refine J_iadd (pc := 69) dX12_newOne_69 ?_
        refine J_iald (pc := 70) dX12_newOne_70 ho ha12_0 h (fun x10 h => ?_)
        refine J_iadd (pc := 71) dX12_newOne_71 ?_
        refine J_aload_n (pc := 72) 0 dX12_newOne_72 rfl ?_
        obtain ⟨x13, σ11, hc12, h⟩ := cL_t h
        refine J_cVl (pc := 73) (ctX12_nameHere l E o ho σ7 hc12) dX12_newOne_73 mlX12_173 mvX12_nameHere ho rfl (by decide) rfl (Nat.le_of_ble_eq_true rfl) ?_
        refine J_last (pc := 76) dX12_newOne_76 ho ha12_1 h (fun σ14 h => ?_)
        refine J_aload_n (pc := 77) 0 dX12_newOne_77 rfl ?_
        obtain ⟨σ15, hc16, h⟩ := cV_t h
        refine J_cVv (pc := 78) (ctX12_ahead l E o ho σ14 hc16) dX12_newOne_78 mlX12_160 mvX12_ahead ho rfl (by decide) rfl (Nat.le_of_ble_eq_true rfl) ?_
        refine J_iconst (pc := 81) (1 : Int32) dX12_newOne_81 (by decide) ?_
        cases h
        exact J_iret (pc := 82) dX12_newOne_82 rfl rfl
      · refine J_aload_n (pc := 47) 0 dX12_newOne_47 rfl ?_
        refine J_iconst (pc := 48) (3 : Int32) dX12_newOne_48 (by decide) ?_
        obtain ⟨x19, σ17, hc18, h⟩ := cI_t h
        refine J_cVi (pc := 49) (ctX12_fails l E o (3 : Int32) ho σ7 hc18) dX12_newOne_49 mlX12_166 mvX12_fails ho rfl (by decide) rfl (Nat.le_of_ble_eq_true rfl) ?_
        obtain ⟨hz20, h⟩ := bz_t h
        cases h
        exact J_iret (pc := 52) dX12_newOne_52 rfl hz20
    · refine J_aload_n (pc := 34) 0 dX12_newOne_34 rfl ?_
      refine J_iconst (pc := 35) (2 : Int32) dX12_newOne_35 (by decide) ?_
      obtain ⟨x23, σ21, hc22, h⟩ := cI_t h
      refine J_cVi (pc := 36) (ctX12_fails l E o (2 : Int32) ho σ4 hc22) dX12_newOne_36 mlX12_166 mvX12_fails ho rfl (by decide) rfl (Nat.le_of_ble_eq_true rfl) ?_
      obtain ⟨hz24, h⟩ := bz_t h
      cases h
      exact J_iret (pc := 39) dX12_newOne_39 rfl hz24
  · refine J_aload_n (pc := 14) 0 dX12_newOne_14 rfl ?_
    refine J_bipush (pc := 15) (6 : Int32) dX12_newOne_15 (by decide) ?_
    obtain ⟨x27, σ25, hc26, h⟩ := cI_t h
    refine J_cVi (pc := 17) (ctX12_fails l E o (6 : Int32) ho σ hc26) dX12_newOne_17 mlX12_166 mvX12_fails ho rfl (by decide) rfl (Nat.le_of_ble_eq_true rfl) ?_
    obtain ⟨hz28, h⟩ := bz_t h
    cases h
    exact J_iret (pc := 20) dX12_newOne_20 rfl hz28
def fX12_oldOne (o : Nat) (a1 : Int32) (a2 : Int32) (a3 : Int32) (σ : Mm) : Option (Int32 × Mm) := c_I (fX12_isName o σ) (fun x3 σ1 => if x3 = 0 then (c_I (fX12_fails o (2 : Int32) σ1) (fun x15 σ13 => b_z x15 σ13)) else (c_I (fX12_findHere o (a1 + a3) a2 σ1) (fun x6 σ4 => p_sc σ4 o 20 x6 (fun σ7 => r_sc σ7 o 20 (fun x8 => if x8 = (-1 : Int32) then (c_I (fX12_fails o (3 : Int32) σ7) (fun x11 σ9 => b_z x11 σ9)) else (some ((1 : Int32), σ7)))))))
set_option maxRecDepth 100000 in
set_option maxHeartbeats 4000000 in
theorem ctX12_oldOne (l : Launch) (E : EV) (o : Nat) (a1 : Int32) (a2 : Int32) (a3 : Int32) (ho : KD o = 12) (σ : Mm) {xr : Int32} {τ : Mm} (h : fX12_oldOne o a1 a2 a3 σ = some (xr, τ)) : Ct l E mX12_oldOne 7 [.ref (e_a E o 0), .int a1, .int a2, .int a3] σ (some (.int xr), τ) := by
  refine Ct.of (by decide +kernel) (Nat.le_of_ble_eq_true rfl) ?_
  show Jd l E mX12_oldOne 7 (some (.int xr), τ) σ 0 [(0, .ref (e_a E o 0)), (1, .int a1), (2, .int a2), (3, .int a3)] []
  unfold fX12_oldOne at h
  refine J_aload_n (pc := 0) 0 dX12_oldOne_0 rfl ?_
  refine J_ldcS (pc := 1) dX12_oldOne_1 rfl rfl ?_
  obtain ⟨x3, σ1, hc2, h⟩ := cI_t h
  refine J_cVi (pc := 3) (ctX12_isName l E o ho σ hc2) dX12_oldOne_3 mlX12_182 mvX12_isName ho rfl (by decide) rfl (Nat.le_of_ble_eq_true rfl) ?_
  refine J_if_ne (pc := 6) 15 dX12_oldOne_6 (by decide) h (fun h => ?_) (fun h => ?_)
  · refine J_aload_n (pc := 15) 0 dX12_oldOne_15 rfl ?_
    refine J_aload_n (pc := 16) 0 dX12_oldOne_16 rfl ?_
    refine J_iload_n (pc := 17) 1 dX12_oldOne_17 rfl ?_
    refine J_iload_n (pc := 18) 3 dX12_oldOne_18 rfl ?_
    refine J_iadd (pc := 19) dX12_oldOne_19 ?_
    refine J_iload_n (pc := 20) 2 dX12_oldOne_20 rfl ?_
    obtain ⟨x6, σ4, hc5, h⟩ := cI_t h
    refine J_cVi (pc := 21) (ctX12_findHere l E o (a1 + a3) a2 ho σ1 hc5) dX12_oldOne_21 mlX12_177 mvX12_findHere ho rfl (by decide) rfl (Nat.le_of_ble_eq_true rfl) ?_
    refine J_putI (pc := 24) dX12_oldOne_24 ho flX12_190 rfl h (fun σ7 h => ?_)
    refine J_aload_n (pc := 27) 0 dX12_oldOne_27 rfl ?_
    refine J_getI (pc := 28) dX12_oldOne_28 ho flX12_190 rfl h (fun x8 h => ?_)
    refine J_iconst (pc := 31) (-1 : Int32) dX12_oldOne_31 (by decide) ?_
    refine J_icmp_ne (pc := 32) 43 dX12_oldOne_32 (by decide) h (fun h => ?_) (fun h => ?_)
    · refine J_iconst (pc := 43) (1 : Int32) dX12_oldOne_43 (by decide) ?_
      cases h
      exact J_iret (pc := 44) dX12_oldOne_44 rfl rfl
    · refine J_aload_n (pc := 35) 0 dX12_oldOne_35 rfl ?_
      refine J_iconst (pc := 36) (3 : Int32) dX12_oldOne_36 (by decide) ?_
      obtain ⟨x11, σ9, hc10, h⟩ := cI_t h
      refine J_cVi (pc := 37) (ctX12_fails l E o (3 : Int32) ho σ7 hc10) dX12_oldOne_37 mlX12_166 mvX12_fails ho rfl (by decide) rfl (Nat.le_of_ble_eq_true rfl) ?_
      refine J_goto (pc := 40) 44 dX12_oldOne_40 (by decide) ?_
      obtain ⟨hz12, h⟩ := bz_t h
      cases h
      exact J_iret (pc := 44) dX12_oldOne_44 rfl hz12
  · refine J_aload_n (pc := 9) 0 dX12_oldOne_9 rfl ?_
    refine J_iconst (pc := 10) (2 : Int32) dX12_oldOne_10 (by decide) ?_
    obtain ⟨x15, σ13, hc14, h⟩ := cI_t h
    refine J_cVi (pc := 11) (ctX12_fails l E o (2 : Int32) ho σ1 hc14) dX12_oldOne_11 mlX12_166 mvX12_fails ho rfl (by decide) rfl (Nat.le_of_ble_eq_true rfl) ?_
    obtain ⟨hz16, h⟩ := bz_t h
    cases h
    exact J_iret (pc := 14) dX12_oldOne_14 rfl hz16
def fX12_aVane_149 (o : Nat) (v1 : Int32) (σ : Mm) : Option (Int32 × Mm) := c_I (fX12_inWords o σ) (fun x33 σ31 => if x33 = (7 : Int32) then (c_V (fX12_ahead o σ31) (fun σ36 => g_ar σ36 o 0 2950 v1 (fun x38 => c_I (fX12_number o (v1 + (3 : Int32)) (0 : Int32) (x38 - (1 : Int32)) σ36) (fun x41 σ39 => if x41 = 0 then (some ((0 : Int32), σ39)) else (g_ar σ39 o 0 2950 (1961 : Int32) (fun x42 => s_ar σ39 o 0 2950 (1961 : Int32) (x42 + (1 : Int32)) (fun σ43 => some ((1 : Int32), σ43)))))))) else (g_ar σ31 o 0 2950 (1961 : Int32) (fun x34 => s_ar σ31 o 0 2950 (1961 : Int32) (x34 + (1 : Int32)) (fun σ35 => some ((1 : Int32), σ35)))))
set_option maxRecDepth 100000 in
set_option maxHeartbeats 4000000 in
theorem tX12_aVane_149 (l : Launch) (E : EV) {xr : Int32} {τ : Mm} (o : Nat) (ho : KD o = 12) (v1 : Int32) (σ : Mm) (h : fX12_aVane_149 o v1 σ = some (xr, τ)) : Jd l E mX12_aVane 8 (some (.int xr), τ) σ 149 [(0, .ref (e_a E o 0)), (1, .int v1)] [] := by
  unfold fX12_aVane_149 at h
  refine J_aload_n (pc := 149) 0 dX12_aVane_149 rfl ?_
  refine J_ldcS (pc := 150) dX12_aVane_150 rfl rfl ?_
  obtain ⟨x33, σ31, hc32, h⟩ := cI_t h
  refine J_cVi (pc := 152) (ctX12_inWords l E o ho σ hc32) dX12_aVane_152 mlX12_169 mvX12_inWords ho rfl (by decide) rfl (Nat.le_of_ble_eq_true rfl) ?_
  refine J_bipush (pc := 155) (7 : Int32) dX12_aVane_155 (by decide) ?_
  refine J_icmp_ne (pc := 157) 185 dX12_aVane_157 (by decide) h (fun h => ?_) (fun h => ?_)
  · refine J_aload_n (pc := 185) 0 dX12_aVane_185 rfl ?_
    refine J_getA (pc := 186) dX12_aVane_186 ho flX12_7 rfl ?_
    refine J_sipush (pc := 189) (1961 : Int32) dX12_aVane_189 (by decide) ?_
    refine J_dup2 (pc := 192) dX12_aVane_192 rfl rfl ?_
    refine J_iald (pc := 193) dX12_aVane_193 ho ha12_0 h (fun x34 h => ?_)
    refine J_iconst (pc := 194) (1 : Int32) dX12_aVane_194 (by decide) ?_
    refine J_iadd (pc := 195) dX12_aVane_195 ?_
    refine J_iast (pc := 196) dX12_aVane_196 ho ha12_0 h (fun σ35 h => ?_)
    refine J_iconst (pc := 197) (1 : Int32) dX12_aVane_197 (by decide) ?_
    cases h
    exact J_iret (pc := 198) dX12_aVane_198 rfl rfl
  · refine J_aload_n (pc := 160) 0 dX12_aVane_160 rfl ?_
    obtain ⟨σ36, hc37, h⟩ := cV_t h
    refine J_cVv (pc := 161) (ctX12_ahead l E o ho σ31 hc37) dX12_aVane_161 mlX12_160 mvX12_ahead ho rfl (by decide) rfl (Nat.le_of_ble_eq_true rfl) ?_
    refine J_aload_n (pc := 164) 0 dX12_aVane_164 rfl ?_
    refine J_iload_n (pc := 165) 1 dX12_aVane_165 rfl ?_
    refine J_iconst (pc := 166) (3 : Int32) dX12_aVane_166 (by decide) ?_
    refine J_iadd (pc := 167) dX12_aVane_167 ?_
    refine J_iconst (pc := 168) (0 : Int32) dX12_aVane_168 (by decide) ?_
    refine J_aload_n (pc := 169) 0 dX12_aVane_169 rfl ?_
    refine J_getA (pc := 170) dX12_aVane_170 ho flX12_7 rfl ?_
    refine J_iload_n (pc := 173) 1 dX12_aVane_173 rfl ?_
    refine J_iald (pc := 174) dX12_aVane_174 ho ha12_0 h (fun x38 h => ?_)
    refine J_iconst (pc := 175) (1 : Int32) dX12_aVane_175 (by decide) ?_
    refine J_isub (pc := 176) dX12_aVane_176 ?_
    obtain ⟨x41, σ39, hc40, h⟩ := cI_t h
    refine J_cVi (pc := 177) (ctX12_number l E o (v1 + (3 : Int32)) (0 : Int32) (x38 - (1 : Int32)) ho σ36 hc40) dX12_aVane_177 mlX12_201 mvX12_number ho rfl (by decide) rfl (Nat.le_of_ble_eq_true rfl) ?_
    refine J_if_ne (pc := 180) 185 dX12_aVane_180 (by decide) h (fun h => ?_) (fun h => ?_)
    · refine J_aload_n (pc := 185) 0 dX12_aVane_185 rfl ?_
      refine J_getA (pc := 186) dX12_aVane_186 ho flX12_7 rfl ?_
      refine J_sipush (pc := 189) (1961 : Int32) dX12_aVane_189 (by decide) ?_
      refine J_dup2 (pc := 192) dX12_aVane_192 rfl rfl ?_
      refine J_iald (pc := 193) dX12_aVane_193 ho ha12_0 h (fun x42 h => ?_)
      refine J_iconst (pc := 194) (1 : Int32) dX12_aVane_194 (by decide) ?_
      refine J_iadd (pc := 195) dX12_aVane_195 ?_
      refine J_iast (pc := 196) dX12_aVane_196 ho ha12_0 h (fun σ43 h => ?_)
      refine J_iconst (pc := 197) (1 : Int32) dX12_aVane_197 (by decide) ?_
      cases h
      exact J_iret (pc := 198) dX12_aVane_198 rfl rfl
    · refine J_iconst (pc := 183) (0 : Int32) dX12_aVane_183 (by decide) ?_
      cases h
      exact J_iret (pc := 184) dX12_aVane_184 rfl rfl
def fX12_aVane_52 (o : Nat) (v1 : Int32) (σ : Mm) : Option (Int32 × Mm) := c_I (fX12_wantWord o (4 : Int32) σ) (fun x8 σ6 => if x8 = 0 then (some ((0 : Int32), σ6)) else (c_I (fX12_number o v1 (4 : Int32) (60 : Int32) σ6) (fun x11 σ9 => if x11 = 0 then (some ((0 : Int32), σ9)) else (c_I (fX12_wantWord o (5 : Int32) σ9) (fun x14 σ12 => if x14 = 0 then (some ((0 : Int32), σ12)) else (g_ar σ12 o 0 2950 (1960 : Int32) (fun x15 => c_I (fX12_oldOne o (88 : Int32) x15 (0 : Int32) σ12) (fun x18 σ16 => if x18 = 0 then (some ((0 : Int32), σ16)) else (r_sc σ16 o 20 (fun x19 => s_ar σ16 o 0 2950 (v1 + (1 : Int32)) x19 (fun σ20 => c_V (fX12_ahead o σ20) (fun σ21 => c_I (fX12_inWords o σ21) (fun x25 σ23 => if x25 = (6 : Int32) then (c_V (fX12_ahead o σ23) (fun σ26 => c_I (fX12_number o (v1 + (2 : Int32)) (0 : Int32) (99 : Int32) σ26) (fun x30 σ28 => if x30 = 0 then (some ((0 : Int32), σ28)) else (fX12_aVane_149 o v1 σ28)))) else (fX12_aVane_149 o v1 σ23))))))))))))))
set_option maxRecDepth 100000 in
set_option maxHeartbeats 4000000 in
theorem tX12_aVane_52 (l : Launch) (E : EV) {xr : Int32} {τ : Mm} (o : Nat) (ho : KD o = 12) (v1 : Int32) (σ : Mm) (h : fX12_aVane_52 o v1 σ = some (xr, τ)) : Jd l E mX12_aVane 8 (some (.int xr), τ) σ 52 [(0, .ref (e_a E o 0)), (1, .int v1)] [] := by
  unfold fX12_aVane_52 at h
  refine J_aload_n (pc := 52) 0 dX12_aVane_52 rfl ?_
  refine J_ldcS (pc := 53) dX12_aVane_53 rfl rfl ?_
  refine J_iconst (pc := 55) (4 : Int32) dX12_aVane_55 (by decide) ?_
  obtain ⟨x8, σ6, hc7, h⟩ := cI_t h
  refine J_cVi (pc := 56) (ctX12_wantWord l E o (4 : Int32) ho σ hc7) dX12_aVane_56 mlX12_197 mvX12_wantWord ho rfl (by decide) rfl (Nat.le_of_ble_eq_true rfl) ?_
  refine J_if_eq (pc := 59) 101 dX12_aVane_59 (by decide) h (fun h => ?_) (fun h => ?_)
  · refine J_iconst (pc := 101) (0 : Int32) dX12_aVane_101 (by decide) ?_
    cases h
    exact J_iret (pc := 102) dX12_aVane_102 rfl rfl
  · refine J_aload_n (pc := 62) 0 dX12_aVane_62 rfl ?_
    refine J_iload_n (pc := 63) 1 dX12_aVane_63 rfl ?_
    refine J_iconst (pc := 64) (4 : Int32) dX12_aVane_64 (by decide) ?_
    refine J_bipush (pc := 65) (60 : Int32) dX12_aVane_65 (by decide) ?_
    obtain ⟨x11, σ9, hc10, h⟩ := cI_t h
    refine J_cVi (pc := 67) (ctX12_number l E o v1 (4 : Int32) (60 : Int32) ho σ6 hc10) dX12_aVane_67 mlX12_201 mvX12_number ho rfl (by decide) rfl (Nat.le_of_ble_eq_true rfl) ?_
    refine J_if_eq (pc := 70) 101 dX12_aVane_70 (by decide) h (fun h => ?_) (fun h => ?_)
    · refine J_iconst (pc := 101) (0 : Int32) dX12_aVane_101 (by decide) ?_
      cases h
      exact J_iret (pc := 102) dX12_aVane_102 rfl rfl
    · refine J_aload_n (pc := 73) 0 dX12_aVane_73 rfl ?_
      refine J_ldcS (pc := 74) dX12_aVane_74 rfl rfl ?_
      refine J_iconst (pc := 76) (5 : Int32) dX12_aVane_76 (by decide) ?_
      obtain ⟨x14, σ12, hc13, h⟩ := cI_t h
      refine J_cVi (pc := 77) (ctX12_wantWord l E o (5 : Int32) ho σ9 hc13) dX12_aVane_77 mlX12_197 mvX12_wantWord ho rfl (by decide) rfl (Nat.le_of_ble_eq_true rfl) ?_
      refine J_if_eq (pc := 80) 101 dX12_aVane_80 (by decide) h (fun h => ?_) (fun h => ?_)
      · refine J_iconst (pc := 101) (0 : Int32) dX12_aVane_101 (by decide) ?_
        cases h
        exact J_iret (pc := 102) dX12_aVane_102 rfl rfl
      · refine J_aload_n (pc := 83) 0 dX12_aVane_83 rfl ?_
        refine J_bipush (pc := 84) (88 : Int32) dX12_aVane_84 (by decide) ?_
        refine J_aload_n (pc := 86) 0 dX12_aVane_86 rfl ?_
        refine J_getA (pc := 87) dX12_aVane_87 ho flX12_7 rfl ?_
        refine J_sipush (pc := 90) (1960 : Int32) dX12_aVane_90 (by decide) ?_
        refine J_iald (pc := 93) dX12_aVane_93 ho ha12_0 h (fun x15 h => ?_)
        refine J_iconst (pc := 94) (0 : Int32) dX12_aVane_94 (by decide) ?_
        obtain ⟨x18, σ16, hc17, h⟩ := cI_t h
        refine J_cVi (pc := 95) (ctX12_oldOne l E o (88 : Int32) x15 (0 : Int32) ho σ12 hc17) dX12_aVane_95 mlX12_204 mvX12_oldOne ho rfl (by decide) rfl (Nat.le_of_ble_eq_true rfl) ?_
        refine J_if_ne (pc := 98) 103 dX12_aVane_98 (by decide) h (fun h => ?_) (fun h => ?_)
        · refine J_aload_n (pc := 103) 0 dX12_aVane_103 rfl ?_
          refine J_getA (pc := 104) dX12_aVane_104 ho flX12_7 rfl ?_
          refine J_iload_n (pc := 107) 1 dX12_aVane_107 rfl ?_
          refine J_iconst (pc := 108) (1 : Int32) dX12_aVane_108 (by decide) ?_
          refine J_iadd (pc := 109) dX12_aVane_109 ?_
          refine J_aload_n (pc := 110) 0 dX12_aVane_110 rfl ?_
          refine J_getI (pc := 111) dX12_aVane_111 ho flX12_190 rfl h (fun x19 h => ?_)
          refine J_iast (pc := 114) dX12_aVane_114 ho ha12_0 h (fun σ20 h => ?_)
          refine J_aload_n (pc := 115) 0 dX12_aVane_115 rfl ?_
          obtain ⟨σ21, hc22, h⟩ := cV_t h
          refine J_cVv (pc := 116) (ctX12_ahead l E o ho σ20 hc22) dX12_aVane_116 mlX12_160 mvX12_ahead ho rfl (by decide) rfl (Nat.le_of_ble_eq_true rfl) ?_
          refine J_aload_n (pc := 119) 0 dX12_aVane_119 rfl ?_
          refine J_ldcS (pc := 120) dX12_aVane_120 rfl rfl ?_
          obtain ⟨x25, σ23, hc24, h⟩ := cI_t h
          refine J_cVi (pc := 122) (ctX12_inWords l E o ho σ21 hc24) dX12_aVane_122 mlX12_169 mvX12_inWords ho rfl (by decide) rfl (Nat.le_of_ble_eq_true rfl) ?_
          refine J_bipush (pc := 125) (6 : Int32) dX12_aVane_125 (by decide) ?_
          refine J_icmp_ne (pc := 127) 149 dX12_aVane_127 (by decide) h (fun h => ?_) (fun h => ?_)
          · refine J_sub (L' := [(0, .ref (e_a E o 0)), (1, .int v1)]) [0, 1] rfl ?_
            exact tX12_aVane_149 l E o ho v1 σ23 h
          · refine J_aload_n (pc := 130) 0 dX12_aVane_130 rfl ?_
            obtain ⟨σ26, hc27, h⟩ := cV_t h
            refine J_cVv (pc := 131) (ctX12_ahead l E o ho σ23 hc27) dX12_aVane_131 mlX12_160 mvX12_ahead ho rfl (by decide) rfl (Nat.le_of_ble_eq_true rfl) ?_
            refine J_aload_n (pc := 134) 0 dX12_aVane_134 rfl ?_
            refine J_iload_n (pc := 135) 1 dX12_aVane_135 rfl ?_
            refine J_iconst (pc := 136) (2 : Int32) dX12_aVane_136 (by decide) ?_
            refine J_iadd (pc := 137) dX12_aVane_137 ?_
            refine J_iconst (pc := 138) (0 : Int32) dX12_aVane_138 (by decide) ?_
            refine J_bipush (pc := 139) (99 : Int32) dX12_aVane_139 (by decide) ?_
            obtain ⟨x30, σ28, hc29, h⟩ := cI_t h
            refine J_cVi (pc := 141) (ctX12_number l E o (v1 + (2 : Int32)) (0 : Int32) (99 : Int32) ho σ26 hc29) dX12_aVane_141 mlX12_201 mvX12_number ho rfl (by decide) rfl (Nat.le_of_ble_eq_true rfl) ?_
            refine J_if_ne (pc := 144) 149 dX12_aVane_144 (by decide) h (fun h => ?_) (fun h => ?_)
            · refine J_sub (L' := [(0, .ref (e_a E o 0)), (1, .int v1)]) [0, 1] rfl ?_
              exact tX12_aVane_149 l E o ho v1 σ28 h
            · refine J_iconst (pc := 147) (0 : Int32) dX12_aVane_147 (by decide) ?_
              cases h
              exact J_iret (pc := 148) dX12_aVane_148 rfl rfl
        · refine J_iconst (pc := 101) (0 : Int32) dX12_aVane_101 (by decide) ?_
          cases h
          exact J_iret (pc := 102) dX12_aVane_102 rfl rfl
def fX12_aVane_31 (o : Nat) : Nat → Int32 → Int32 → Mm → Option (Int32 × Mm)
  | 0, _, _, _ => none
  | n + 1, v1, v2, σ => if (6 : Int32) ≤ v2 then (fX12_aVane_52 o v1 σ) else (s_ar σ o 0 2950 (v1 + v2) (0 : Int32) (fun σ5 => (fX12_aVane_31 o n) v1 (v2 + (1 : Int32)) σ5))
set_option maxRecDepth 100000 in
set_option maxHeartbeats 4000000 in
theorem tX12_aVane_31 (l : Launch) (E : EV) {xr : Int32} {τ : Mm} (o : Nat) (ho : KD o = 12) : ∀ (n : Nat) (v1 : Int32) (v2 : Int32) (σ : Mm), fX12_aVane_31 o n v1 v2 σ = some (xr, τ) → Jd l E mX12_aVane 8 (some (.int xr), τ) σ 31 [(0, .ref (e_a E o 0)), (1, .int v1), (2, .int v2)] [] := by
  intro n
  induction n with
  | zero => intro v1 v2 σ h; rw [fX12_aVane_31] at h; cases h
  | succ n ih =>
    intro v1 v2 σ h
    rw [fX12_aVane_31] at h
    refine J_iload_n (pc := 31) 2 dX12_aVane_31 rfl ?_
    refine J_bipush (pc := 32) (6 : Int32) dX12_aVane_32 (by decide) ?_
    refine J_icmp_ge (pc := 34) 52 dX12_aVane_34 (by decide) h (fun h => ?_) (fun h => ?_)
    · refine J_sub (L' := [(0, .ref (e_a E o 0)), (1, .int v1)]) [0, 1] rfl ?_
      exact tX12_aVane_52 l E o ho v1 σ h
    · refine J_aload_n (pc := 37) 0 dX12_aVane_37 rfl ?_
      refine J_getA (pc := 38) dX12_aVane_38 ho flX12_7 rfl ?_
      refine J_iload_n (pc := 41) 1 dX12_aVane_41 rfl ?_
      refine J_iload_n (pc := 42) 2 dX12_aVane_42 rfl ?_
      refine J_iadd (pc := 43) dX12_aVane_43 ?_
      refine J_iconst (pc := 44) (0 : Int32) dX12_aVane_44 (by decide) ?_
      refine J_iast (pc := 45) dX12_aVane_45 ho ha12_0 h (fun σ5 h => ?_)
      refine J_iinc (pc := 46) (L' := [(2, .int (v2 + (1 : Int32))), (0, .ref (e_a E o 0)), (1, .int v1)]) 2 (v2 + (1 : Int32)) dX12_aVane_46 rfl (by rfl) (by decide) rfl ?_
      refine J_goto (pc := 49) 31 dX12_aVane_49 (by decide) ?_
      refine J_sub (L' := [(0, .ref (e_a E o 0)), (1, .int v1), (2, .int (v2 + (1 : Int32)))]) [1, 2, 0] rfl ?_
      exact ih v1 (v2 + (1 : Int32)) σ5 h
def fX12_aVane (o : Nat) (σ : Mm) : Option (Int32 × Mm) := g_ar σ o 0 2950 (1961 : Int32) (fun x1 => c_I (fX12_newOne o (1 : Int32) (8 : Int32) (4 : Int32) σ) (fun x4 σ2 => if x4 = 0 then (some ((0 : Int32), σ2)) else (fX12_aVane_31 o FU ((1980 : Int32) + ((6 : Int32) * x1)) (0 : Int32) σ2)))
set_option maxRecDepth 100000 in
set_option maxHeartbeats 4000000 in
theorem ctX12_aVane (l : Launch) (E : EV) (o : Nat) (ho : KD o = 12) (σ : Mm) {xr : Int32} {τ : Mm} (h : fX12_aVane o σ = some (xr, τ)) : Ct l E mX12_aVane 8 [.ref (e_a E o 0)] σ (some (.int xr), τ) := by
  refine Ct.of (by decide +kernel) (Nat.le_of_ble_eq_true rfl) ?_
  show Jd l E mX12_aVane 8 (some (.int xr), τ) σ 0 [(0, .ref (e_a E o 0))] []
  unfold fX12_aVane at h
  refine J_sipush (pc := 0) (1980 : Int32) dX12_aVane_0 (by decide) ?_
  refine J_bipush (pc := 3) (6 : Int32) dX12_aVane_3 (by decide) ?_
  refine J_aload_n (pc := 5) 0 dX12_aVane_5 rfl ?_
  refine J_getA (pc := 6) dX12_aVane_6 ho flX12_7 rfl ?_
  refine J_sipush (pc := 9) (1961 : Int32) dX12_aVane_9 (by decide) ?_
  refine J_iald (pc := 12) dX12_aVane_12 ho ha12_0 h (fun x1 h => ?_)
  refine J_imul (pc := 13) dX12_aVane_13 ?_
  refine J_iadd (pc := 14) dX12_aVane_14 ?_
  refine J_istore_n (pc := 15) (L' := [(1, .int ((1980 : Int32) + ((6 : Int32) * x1))), (0, .ref (e_a E o 0))]) dX12_aVane_15 (by decide) rfl ?_
  refine J_aload_n (pc := 16) 1 dX12_aVane_16 rfl ?_
  refine J_iconst (pc := 17) (1 : Int32) dX12_aVane_17 (by decide) ?_
  refine J_bipush (pc := 18) (8 : Int32) dX12_aVane_18 (by decide) ?_
  refine J_iconst (pc := 20) (4 : Int32) dX12_aVane_20 (by decide) ?_
  obtain ⟨x4, σ2, hc3, h⟩ := cI_t h
  refine J_cVi (pc := 21) (ctX12_newOne l E o (1 : Int32) (8 : Int32) (4 : Int32) ho σ hc3) dX12_aVane_21 mlX12_193 mvX12_newOne ho rfl (by decide) rfl (Nat.le_of_ble_eq_true rfl) ?_
  refine J_if_ne (pc := 24) 29 dX12_aVane_24 (by decide) h (fun h => ?_) (fun h => ?_)
  · refine J_iconst (pc := 29) (0 : Int32) dX12_aVane_29 (by decide) ?_
    refine J_istore_n (pc := 30) (L' := [(2, .int (0 : Int32)), (1, .int ((1980 : Int32) + ((6 : Int32) * x1))), (0, .ref (e_a E o 0))]) dX12_aVane_30 (by decide) rfl ?_
    refine J_sub (L' := [(0, .ref (e_a E o 0)), (1, .int ((1980 : Int32) + ((6 : Int32) * x1))), (2, .int (0 : Int32))]) [2, 1, 0] rfl ?_
    exact tX12_aVane_31 l E o ho FU ((1980 : Int32) + ((6 : Int32) * x1)) (0 : Int32) σ2 h
  · refine J_iconst (pc := 27) (0 : Int32) dX12_aVane_27 (by decide) ?_
    cases h
    exact J_iret (pc := 28) dX12_aVane_28 rfl rfl
def fX12_aShaft (o : Nat) (a1 : Int32) (σ : Mm) : Option (Int32 × Mm) := g_ar σ o 0 2950 (1962 : Int32) (fun x1 => c_I (fX12_newOne o (2 : Int32) (10 : Int32) (12 : Int32) σ) (fun x4 σ2 => if x4 = 0 then (some ((0 : Int32), σ2)) else (s_ar σ2 o 0 2950 (((2030 : Int32) + ((5 : Int32) * x1)) + (2 : Int32)) a1 (fun σ5 => s_ar σ5 o 0 2950 (((2030 : Int32) + ((5 : Int32) * x1)) + (3 : Int32)) (0 : Int32) (fun σ6 => s_ar σ6 o 0 2950 (((2030 : Int32) + ((5 : Int32) * x1)) + (4 : Int32)) (0 : Int32) (fun σ7 => c_I (fX12_wantWord o (8 : Int32) σ7) (fun x10 σ8 => if x10 = 0 then (some ((0 : Int32), σ8)) else (g_ar σ8 o 0 2950 (1961 : Int32) (fun x11 => c_I (fX12_oldOne o (88 : Int32) x11 (4 : Int32) σ8) (fun x14 σ12 => if x14 = 0 then (some ((0 : Int32), σ12)) else (r_sc σ12 o 20 (fun x15 => s_ar σ12 o 0 2950 ((2030 : Int32) + ((5 : Int32) * x1)) x15 (fun σ16 => c_V (fX12_ahead o σ16) (fun σ17 => g_ar σ17 o 0 2950 (1961 : Int32) (fun x19 => c_I (fX12_oldOne o (88 : Int32) x19 (4 : Int32) σ17) (fun x22 σ20 => if x22 = 0 then (some ((0 : Int32), σ20)) else (r_sc σ20 o 20 (fun x23 => g_ar σ20 o 0 2950 ((2030 : Int32) + ((5 : Int32) * x1)) (fun x24 => if x23 = x24 then (c_I (fX12_fails o (5 : Int32) σ20) (fun x43 σ41 => b_z x43 σ41)) else (r_sc σ20 o 20 (fun x25 => s_ar σ20 o 0 2950 (((2030 : Int32) + ((5 : Int32) * x1)) + (1 : Int32)) x25 (fun σ26 => c_V (fX12_ahead o σ26) (fun σ27 => c_I (fX12_inWords o σ27) (fun x31 σ29 => if x31 = (9 : Int32) then (c_V (fX12_ahead o σ29) (fun σ34 => c_I (fX12_number o (((2030 : Int32) + ((5 : Int32) * x1)) + (3 : Int32)) (0 : Int32) (9 : Int32) σ34) (fun x38 σ36 => if x38 = 0 then (some ((0 : Int32), σ36)) else (g_ar σ36 o 0 2950 (1962 : Int32) (fun x39 => s_ar σ36 o 0 2950 (1962 : Int32) (x39 + (1 : Int32)) (fun σ40 => some ((1 : Int32), σ40))))))) else (g_ar σ29 o 0 2950 (1962 : Int32) (fun x32 => s_ar σ29 o 0 2950 (1962 : Int32) (x32 + (1 : Int32)) (fun σ33 => some ((1 : Int32), σ33))))))))))))))))))))))))))))
set_option maxRecDepth 100000 in
set_option maxHeartbeats 4000000 in
theorem ctX12_aShaft (l : Launch) (E : EV) (o : Nat) (a1 : Int32) (ho : KD o = 12) (σ : Mm) {xr : Int32} {τ : Mm} (h : fX12_aShaft o a1 σ = some (xr, τ)) : Ct l E mX12_aShaft 8 [.ref (e_a E o 0), .int a1] σ (some (.int xr), τ) := by
  refine Ct.of (by decide +kernel) (Nat.le_of_ble_eq_true rfl) ?_
  show Jd l E mX12_aShaft 8 (some (.int xr), τ) σ 0 [(0, .ref (e_a E o 0)), (1, .int a1)] []
  unfold fX12_aShaft at h
  refine J_sipush (pc := 0) (2030 : Int32) dX12_aShaft_0 (by decide) ?_
  refine J_iconst (pc := 3) (5 : Int32) dX12_aShaft_3 (by decide) ?_
  refine J_aload_n (pc := 4) 0 dX12_aShaft_4 rfl ?_
  refine J_getA (pc := 5) dX12_aShaft_5 ho flX12_7 rfl ?_
  refine J_sipush (pc := 8) (1962 : Int32) dX12_aShaft_8 (by decide) ?_
  refine J_iald (pc := 11) dX12_aShaft_11 ho ha12_0 h (fun x1 h => ?_)
  refine J_imul (pc := 12) dX12_aShaft_12 ?_
  refine J_iadd (pc := 13) dX12_aShaft_13 ?_
  refine J_istore_n (pc := 14) (L' := [(2, .int ((2030 : Int32) + ((5 : Int32) * x1))), (0, .ref (e_a E o 0)), (1, .int a1)]) dX12_aShaft_14 (by decide) rfl ?_
  refine J_aload_n (pc := 15) 1 dX12_aShaft_15 rfl ?_
  refine J_iconst (pc := 16) (2 : Int32) dX12_aShaft_16 (by decide) ?_
  refine J_bipush (pc := 17) (10 : Int32) dX12_aShaft_17 (by decide) ?_
  refine J_bipush (pc := 19) (12 : Int32) dX12_aShaft_19 (by decide) ?_
  obtain ⟨x4, σ2, hc3, h⟩ := cI_t h
  refine J_cVi (pc := 21) (ctX12_newOne l E o (2 : Int32) (10 : Int32) (12 : Int32) ho σ hc3) dX12_aShaft_21 mlX12_193 mvX12_newOne ho rfl (by decide) rfl (Nat.le_of_ble_eq_true rfl) ?_
  refine J_if_ne (pc := 24) 29 dX12_aShaft_24 (by decide) h (fun h => ?_) (fun h => ?_)
  · refine J_aload_n (pc := 29) 1 dX12_aShaft_29 rfl ?_
    refine J_getA (pc := 30) dX12_aShaft_30 ho flX12_7 rfl ?_
    refine J_iload_n (pc := 33) 0 dX12_aShaft_33 rfl ?_
    refine J_iconst (pc := 34) (2 : Int32) dX12_aShaft_34 (by decide) ?_
    refine J_iadd (pc := 35) dX12_aShaft_35 ?_
    refine J_iload_n (pc := 36) 2 dX12_aShaft_36 rfl ?_
    refine J_iast (pc := 37) dX12_aShaft_37 ho ha12_0 h (fun σ5 h => ?_)
    refine J_aload_n (pc := 38) 1 dX12_aShaft_38 rfl ?_
    refine J_getA (pc := 39) dX12_aShaft_39 ho flX12_7 rfl ?_
    refine J_iload_n (pc := 42) 0 dX12_aShaft_42 rfl ?_
    refine J_iconst (pc := 43) (3 : Int32) dX12_aShaft_43 (by decide) ?_
    refine J_iadd (pc := 44) dX12_aShaft_44 ?_
    refine J_iconst (pc := 45) (0 : Int32) dX12_aShaft_45 (by decide) ?_
    refine J_iast (pc := 46) dX12_aShaft_46 ho ha12_0 h (fun σ6 h => ?_)
    refine J_aload_n (pc := 47) 1 dX12_aShaft_47 rfl ?_
    refine J_getA (pc := 48) dX12_aShaft_48 ho flX12_7 rfl ?_
    refine J_iload_n (pc := 51) 0 dX12_aShaft_51 rfl ?_
    refine J_iconst (pc := 52) (4 : Int32) dX12_aShaft_52 (by decide) ?_
    refine J_iadd (pc := 53) dX12_aShaft_53 ?_
    refine J_iconst (pc := 54) (0 : Int32) dX12_aShaft_54 (by decide) ?_
    refine J_iast (pc := 55) dX12_aShaft_55 ho ha12_0 h (fun σ7 h => ?_)
    refine J_aload_n (pc := 56) 1 dX12_aShaft_56 rfl ?_
    refine J_ldcS (pc := 57) dX12_aShaft_57 rfl rfl ?_
    refine J_bipush (pc := 59) (8 : Int32) dX12_aShaft_59 (by decide) ?_
    obtain ⟨x10, σ8, hc9, h⟩ := cI_t h
    refine J_cVi (pc := 61) (ctX12_wantWord l E o (8 : Int32) ho σ7 hc9) dX12_aShaft_61 mlX12_197 mvX12_wantWord ho rfl (by decide) rfl (Nat.le_of_ble_eq_true rfl) ?_
    refine J_if_eq (pc := 64) 85 dX12_aShaft_64 (by decide) h (fun h => ?_) (fun h => ?_)
    · refine J_iconst (pc := 85) (0 : Int32) dX12_aShaft_85 (by decide) ?_
      cases h
      exact J_iret (pc := 86) dX12_aShaft_86 rfl rfl
    · refine J_aload_n (pc := 67) 1 dX12_aShaft_67 rfl ?_
      refine J_bipush (pc := 68) (88 : Int32) dX12_aShaft_68 (by decide) ?_
      refine J_aload_n (pc := 70) 1 dX12_aShaft_70 rfl ?_
      refine J_getA (pc := 71) dX12_aShaft_71 ho flX12_7 rfl ?_
      refine J_sipush (pc := 74) (1961 : Int32) dX12_aShaft_74 (by decide) ?_
      refine J_iald (pc := 77) dX12_aShaft_77 ho ha12_0 h (fun x11 h => ?_)
      refine J_iconst (pc := 78) (4 : Int32) dX12_aShaft_78 (by decide) ?_
      obtain ⟨x14, σ12, hc13, h⟩ := cI_t h
      refine J_cVi (pc := 79) (ctX12_oldOne l E o (88 : Int32) x11 (4 : Int32) ho σ8 hc13) dX12_aShaft_79 mlX12_204 mvX12_oldOne ho rfl (by decide) rfl (Nat.le_of_ble_eq_true rfl) ?_
      refine J_if_ne (pc := 82) 87 dX12_aShaft_82 (by decide) h (fun h => ?_) (fun h => ?_)
      · refine J_aload_n (pc := 87) 1 dX12_aShaft_87 rfl ?_
        refine J_getA (pc := 88) dX12_aShaft_88 ho flX12_7 rfl ?_
        refine J_iload_n (pc := 91) 0 dX12_aShaft_91 rfl ?_
        refine J_aload_n (pc := 92) 1 dX12_aShaft_92 rfl ?_
        refine J_getI (pc := 93) dX12_aShaft_93 ho flX12_190 rfl h (fun x15 h => ?_)
        refine J_iast (pc := 96) dX12_aShaft_96 ho ha12_0 h (fun σ16 h => ?_)
        refine J_aload_n (pc := 97) 1 dX12_aShaft_97 rfl ?_
        obtain ⟨σ17, hc18, h⟩ := cV_t h
        refine J_cVv (pc := 98) (ctX12_ahead l E o ho σ16 hc18) dX12_aShaft_98 mlX12_160 mvX12_ahead ho rfl (by decide) rfl (Nat.le_of_ble_eq_true rfl) ?_
        refine J_aload_n (pc := 101) 1 dX12_aShaft_101 rfl ?_
        refine J_bipush (pc := 102) (88 : Int32) dX12_aShaft_102 (by decide) ?_
        refine J_aload_n (pc := 104) 1 dX12_aShaft_104 rfl ?_
        refine J_getA (pc := 105) dX12_aShaft_105 ho flX12_7 rfl ?_
        refine J_sipush (pc := 108) (1961 : Int32) dX12_aShaft_108 (by decide) ?_
        refine J_iald (pc := 111) dX12_aShaft_111 ho ha12_0 h (fun x19 h => ?_)
        refine J_iconst (pc := 112) (4 : Int32) dX12_aShaft_112 (by decide) ?_
        obtain ⟨x22, σ20, hc21, h⟩ := cI_t h
        refine J_cVi (pc := 113) (ctX12_oldOne l E o (88 : Int32) x19 (4 : Int32) ho σ17 hc21) dX12_aShaft_113 mlX12_204 mvX12_oldOne ho rfl (by decide) rfl (Nat.le_of_ble_eq_true rfl) ?_
        refine J_if_ne (pc := 116) 121 dX12_aShaft_116 (by decide) h (fun h => ?_) (fun h => ?_)
        · refine J_aload_n (pc := 121) 1 dX12_aShaft_121 rfl ?_
          refine J_getI (pc := 122) dX12_aShaft_122 ho flX12_190 rfl h (fun x23 h => ?_)
          refine J_aload_n (pc := 125) 1 dX12_aShaft_125 rfl ?_
          refine J_getA (pc := 126) dX12_aShaft_126 ho flX12_7 rfl ?_
          refine J_iload_n (pc := 129) 0 dX12_aShaft_129 rfl ?_
          refine J_iald (pc := 130) dX12_aShaft_130 ho ha12_0 h (fun x24 h => ?_)
          refine J_icmp_ne (pc := 131) 140 dX12_aShaft_131 (by decide) h (fun h => ?_) (fun h => ?_)
          · refine J_aload_n (pc := 140) 1 dX12_aShaft_140 rfl ?_
            refine J_getA (pc := 141) dX12_aShaft_141 ho flX12_7 rfl ?_
            refine J_iload_n (pc := 144) 0 dX12_aShaft_144 rfl ?_
            refine J_iconst (pc := 145) (1 : Int32) dX12_aShaft_145 (by decide) ?_
            refine J_iadd (pc := 146) dX12_aShaft_146 ?_
            refine J_aload_n (pc := 147) 1 dX12_aShaft_147 rfl ?_
            refine J_getI (pc := 148) dX12_aShaft_148 ho flX12_190 rfl h (fun x25 h => ?_)
            refine J_iast (pc := 151) dX12_aShaft_151 ho ha12_0 h (fun σ26 h => ?_)
            refine J_aload_n (pc := 152) 1 dX12_aShaft_152 rfl ?_
            obtain ⟨σ27, hc28, h⟩ := cV_t h
            refine J_cVv (pc := 153) (ctX12_ahead l E o ho σ26 hc28) dX12_aShaft_153 mlX12_160 mvX12_ahead ho rfl (by decide) rfl (Nat.le_of_ble_eq_true rfl) ?_
            refine J_aload_n (pc := 156) 1 dX12_aShaft_156 rfl ?_
            refine J_ldcS (pc := 157) dX12_aShaft_157 rfl rfl ?_
            obtain ⟨x31, σ29, hc30, h⟩ := cI_t h
            refine J_cVi (pc := 159) (ctX12_inWords l E o ho σ27 hc30) dX12_aShaft_159 mlX12_169 mvX12_inWords ho rfl (by decide) rfl (Nat.le_of_ble_eq_true rfl) ?_
            refine J_bipush (pc := 162) (9 : Int32) dX12_aShaft_162 (by decide) ?_
            refine J_icmp_ne (pc := 164) 186 dX12_aShaft_164 (by decide) h (fun h => ?_) (fun h => ?_)
            · refine J_aload_n (pc := 186) 1 dX12_aShaft_186 rfl ?_
              refine J_getA (pc := 187) dX12_aShaft_187 ho flX12_7 rfl ?_
              refine J_sipush (pc := 190) (1962 : Int32) dX12_aShaft_190 (by decide) ?_
              refine J_dup2 (pc := 193) dX12_aShaft_193 rfl rfl ?_
              refine J_iald (pc := 194) dX12_aShaft_194 ho ha12_0 h (fun x32 h => ?_)
              refine J_iconst (pc := 195) (1 : Int32) dX12_aShaft_195 (by decide) ?_
              refine J_iadd (pc := 196) dX12_aShaft_196 ?_
              refine J_iast (pc := 197) dX12_aShaft_197 ho ha12_0 h (fun σ33 h => ?_)
              refine J_iconst (pc := 198) (1 : Int32) dX12_aShaft_198 (by decide) ?_
              cases h
              exact J_iret (pc := 199) dX12_aShaft_199 rfl rfl
            · refine J_aload_n (pc := 167) 1 dX12_aShaft_167 rfl ?_
              obtain ⟨σ34, hc35, h⟩ := cV_t h
              refine J_cVv (pc := 168) (ctX12_ahead l E o ho σ29 hc35) dX12_aShaft_168 mlX12_160 mvX12_ahead ho rfl (by decide) rfl (Nat.le_of_ble_eq_true rfl) ?_
              refine J_aload_n (pc := 171) 1 dX12_aShaft_171 rfl ?_
              refine J_iload_n (pc := 172) 0 dX12_aShaft_172 rfl ?_
              refine J_iconst (pc := 173) (3 : Int32) dX12_aShaft_173 (by decide) ?_
              refine J_iadd (pc := 174) dX12_aShaft_174 ?_
              refine J_iconst (pc := 175) (0 : Int32) dX12_aShaft_175 (by decide) ?_
              refine J_bipush (pc := 176) (9 : Int32) dX12_aShaft_176 (by decide) ?_
              obtain ⟨x38, σ36, hc37, h⟩ := cI_t h
              refine J_cVi (pc := 178) (ctX12_number l E o (((2030 : Int32) + ((5 : Int32) * x1)) + (3 : Int32)) (0 : Int32) (9 : Int32) ho σ34 hc37) dX12_aShaft_178 mlX12_201 mvX12_number ho rfl (by decide) rfl (Nat.le_of_ble_eq_true rfl) ?_
              refine J_if_ne (pc := 181) 186 dX12_aShaft_181 (by decide) h (fun h => ?_) (fun h => ?_)
              · refine J_aload_n (pc := 186) 1 dX12_aShaft_186 rfl ?_
                refine J_getA (pc := 187) dX12_aShaft_187 ho flX12_7 rfl ?_
                refine J_sipush (pc := 190) (1962 : Int32) dX12_aShaft_190 (by decide) ?_
                refine J_dup2 (pc := 193) dX12_aShaft_193 rfl rfl ?_
                refine J_iald (pc := 194) dX12_aShaft_194 ho ha12_0 h (fun x39 h => ?_)
                refine J_iconst (pc := 195) (1 : Int32) dX12_aShaft_195 (by decide) ?_
                refine J_iadd (pc := 196) dX12_aShaft_196 ?_
                refine J_iast (pc := 197) dX12_aShaft_197 ho ha12_0 h (fun σ40 h => ?_)
                refine J_iconst (pc := 198) (1 : Int32) dX12_aShaft_198 (by decide) ?_
                cases h
                exact J_iret (pc := 199) dX12_aShaft_199 rfl rfl
              · refine J_iconst (pc := 184) (0 : Int32) dX12_aShaft_184 (by decide) ?_
                cases h
                exact J_iret (pc := 185) dX12_aShaft_185 rfl rfl
          · refine J_aload_n (pc := 134) 1 dX12_aShaft_134 rfl ?_
            refine J_iconst (pc := 135) (5 : Int32) dX12_aShaft_135 (by decide) ?_
            obtain ⟨x43, σ41, hc42, h⟩ := cI_t h
            refine J_cVi (pc := 136) (ctX12_fails l E o (5 : Int32) ho σ20 hc42) dX12_aShaft_136 mlX12_166 mvX12_fails ho rfl (by decide) rfl (Nat.le_of_ble_eq_true rfl) ?_
            obtain ⟨hz44, h⟩ := bz_t h
            cases h
            exact J_iret (pc := 139) dX12_aShaft_139 rfl hz44
        · refine J_iconst (pc := 119) (0 : Int32) dX12_aShaft_119 (by decide) ?_
          cases h
          exact J_iret (pc := 120) dX12_aShaft_120 rfl rfl
      · refine J_iconst (pc := 85) (0 : Int32) dX12_aShaft_85 (by decide) ?_
        cases h
        exact J_iret (pc := 86) dX12_aShaft_86 rfl rfl
  · refine J_iconst (pc := 27) (0 : Int32) dX12_aShaft_27 (by decide) ?_
    cases h
    exact J_iret (pc := 28) dX12_aShaft_28 rfl rfl
