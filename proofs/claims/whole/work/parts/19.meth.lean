def fX12_joinedWith_36 (o : Nat) (a1 : Int32) (k25 : Int32 → Int32 → Mm → Option (Int32 × Mm)) : Nat → Int32 → Int32 → Int32 → Mm → Option (Int32 × Mm)
  | 0, _, _, _, _ => none
  | n + 1, v2, v3, v4, σ => g_ar σ o 0 2950 (2 : Int32) (fun x5 => if x5 ≤ v4 then (k25 v2 (v3 + (1 : Int32)) σ) else (g_ar σ o 10 8 v3 (fun x6 => c_I (fX12_otherOf o v4 x6 σ) (fun x9 σ7 => if x9 = (-1 : Int32) then ((fX12_joinedWith_36 o a1 k25 n) v2 v3 (v4 + (1 : Int32)) σ7) else (if ((v2 >>> (x9 &&& 31)) &&& (1 : Int32)) = (1 : Int32) then ((fX12_joinedWith_36 o a1 k25 n) v2 v3 (v4 + (1 : Int32)) σ7) else (g_ar σ7 o 0 2950 (((70 : Int32) + ((5 : Int32) * v4)) + (2 : Int32)) (fun x10 => if x10 = (1 : Int32) then (g_ar σ7 o 10 8 v3 (fun x18 => g_ar σ7 o 11 8 x18 (fun x19 => s_ar σ7 o 11 8 x9 x19 (fun σ20 => r_sc σ20 o 32 (fun x21 => s_ar σ20 o 10 8 x21 x9 (fun σ22 => r_sc σ22 o 32 (fun x23 => p_sc σ22 o 32 (x23 + (1 : Int32)) (fun σ24 => (fX12_joinedWith_36 o a1 k25 n) (v2 ||| ((1 : Int32) <<< (x9 &&& 31))) v3 (v4 + (1 : Int32)) σ24)))))))) else (g_ar σ7 o 10 8 v3 (fun x11 => g_ar σ7 o 11 8 x11 (fun x12 => s_ar σ7 o 11 8 x9 (-x12) (fun σ13 => r_sc σ13 o 32 (fun x14 => s_ar σ13 o 10 8 x14 x9 (fun σ15 => r_sc σ15 o 32 (fun x16 => p_sc σ15 o 32 (x16 + (1 : Int32)) (fun σ17 => (fX12_joinedWith_36 o a1 k25 n) (v2 ||| ((1 : Int32) <<< (x9 &&& 31))) v3 (v4 + (1 : Int32)) σ17)))))))))))))))
set_option maxRecDepth 100000 in
set_option maxHeartbeats 4000000 in
theorem tX12_joinedWith_36 (l : Launch) (E : EV) {xr : Int32} {τ : Mm} (o : Nat) (a1 : Int32) (ho : KD o = 12) (k25 : Int32 → Int32 → Mm → Option (Int32 × Mm)) (hk25 : ∀ (v2 : Int32) (v3 : Int32) (σ : Mm), k25 v2 v3 σ = some (xr, τ) → Jd l E mX12_joinedWith 1 (some (.int xr), τ) σ 25 [(0, .ref (e_a E o 0)), (2, .int v2), (3, .int v3)] []) : ∀ (n : Nat) (v2 : Int32) (v3 : Int32) (v4 : Int32) (σ : Mm), fX12_joinedWith_36 o a1 k25 n v2 v3 v4 σ = some (xr, τ) → Jd l E mX12_joinedWith 1 (some (.int xr), τ) σ 36 [(0, .ref (e_a E o 0)), (2, .int v2), (3, .int v3), (4, .int v4)] [] := by
  intro n
  induction n with
  | zero => intro v2 v3 v4 σ h; rw [fX12_joinedWith_36] at h; cases h
  | succ n ih =>
    intro v2 v3 v4 σ h
    rw [fX12_joinedWith_36] at h
    refine J_iload (pc := 36) 3 dX12_joinedWith_36 rfl ?_
    refine J_aload_n (pc := 38) 0 dX12_joinedWith_38 rfl ?_
    refine J_getA (pc := 39) dX12_joinedWith_39 ho flX12_7 rfl ?_
    refine J_iconst (pc := 42) (2 : Int32) dX12_joinedWith_42 (by decide) ?_
    refine J_iald (pc := 43) dX12_joinedWith_43 ho ha12_0 h (fun x5 h => ?_)
    refine J_icmp_ge (pc := 44) 165 dX12_joinedWith_44 (by decide) h (fun h => ?_) (fun h => ?_)
    · refine J_iinc (pc := 165) (L' := [(3, .int (v3 + (1 : Int32))), (0, .ref (e_a E o 0)), (2, .int v2), (4, .int v4)]) 2 (v3 + (1 : Int32)) dX12_joinedWith_165 rfl (by rfl) (by decide) rfl ?_
      refine J_goto (pc := 168) 25 dX12_joinedWith_168 (by decide) ?_
      refine J_sub (L' := [(0, .ref (e_a E o 0)), (2, .int v2), (3, .int (v3 + (1 : Int32)))]) [1, 2, 0] rfl ?_
      exact hk25 v2 (v3 + (1 : Int32)) σ h
    · refine J_aload_n (pc := 47) 0 dX12_joinedWith_47 rfl ?_
      refine J_iload (pc := 48) 3 dX12_joinedWith_48 rfl ?_
      refine J_aload_n (pc := 50) 0 dX12_joinedWith_50 rfl ?_
      refine J_getA (pc := 51) dX12_joinedWith_51 ho flX12_53 rfl ?_
      refine J_iload_n (pc := 54) 2 dX12_joinedWith_54 rfl ?_
      refine J_iald (pc := 55) dX12_joinedWith_55 ho ha12_10 h (fun x6 h => ?_)
      obtain ⟨x9, σ7, hc8, h⟩ := cI_t h
      refine J_cVi (pc := 56) (ctX12_otherOf l E o v4 x6 ho σ hc8) dX12_joinedWith_56 mlX12_345 mvX12_otherOf ho rfl (by decide) rfl (Nat.le_of_ble_eq_true rfl) ?_
      refine J_istore (pc := 59) (L' := [(5, .int x9), (0, .ref (e_a E o 0)), (2, .int v2), (3, .int v3), (4, .int v4)]) dX12_joinedWith_59 (by decide) rfl ?_
      refine J_iload (pc := 61) 0 dX12_joinedWith_61 rfl ?_
      refine J_iconst (pc := 63) (-1 : Int32) dX12_joinedWith_63 (by decide) ?_
      refine J_icmp_eq (pc := 64) 159 dX12_joinedWith_64 (by decide) h (fun h => ?_) (fun h => ?_)
      · refine J_iinc (pc := 159) (L' := [(4, .int (v4 + (1 : Int32))), (5, .int x9), (0, .ref (e_a E o 0)), (2, .int v2), (3, .int v3)]) 4 (v4 + (1 : Int32)) dX12_joinedWith_159 rfl (by rfl) (by decide) rfl ?_
        refine J_goto (pc := 162) 36 dX12_joinedWith_162 (by decide) ?_
        refine J_sub (L' := [(0, .ref (e_a E o 0)), (2, .int v2), (3, .int v3), (4, .int (v4 + (1 : Int32)))]) [2, 3, 4, 0] rfl ?_
        exact ih v2 v3 (v4 + (1 : Int32)) σ7 h
      · refine J_iload_n (pc := 67) 2 dX12_joinedWith_67 rfl ?_
        refine J_iload (pc := 68) 0 dX12_joinedWith_68 rfl ?_
        refine J_ishr (pc := 70) dX12_joinedWith_70 ?_
        refine J_iconst (pc := 71) (1 : Int32) dX12_joinedWith_71 (by decide) ?_
        refine J_iand (pc := 72) dX12_joinedWith_72 ?_
        refine J_iconst (pc := 73) (1 : Int32) dX12_joinedWith_73 (by decide) ?_
        refine J_icmp_ne (pc := 74) 80 dX12_joinedWith_74 (by decide) h (fun h => ?_) (fun h => ?_)
        · refine J_iload_n (pc := 80) 2 dX12_joinedWith_80 rfl ?_
          refine J_iconst (pc := 81) (1 : Int32) dX12_joinedWith_81 (by decide) ?_
          refine J_iload (pc := 82) 0 dX12_joinedWith_82 rfl ?_
          refine J_ishl (pc := 84) dX12_joinedWith_84 ?_
          refine J_ior (pc := 85) dX12_joinedWith_85 ?_
          refine J_istore_n (pc := 86) (L' := [(2, .int (v2 ||| ((1 : Int32) <<< (x9 &&& 31)))), (5, .int x9), (0, .ref (e_a E o 0)), (3, .int v3), (4, .int v4)]) dX12_joinedWith_86 (by decide) rfl ?_
          refine J_aload_n (pc := 87) 2 dX12_joinedWith_87 rfl ?_
          refine J_getA (pc := 88) dX12_joinedWith_88 ho flX12_56 rfl ?_
          refine J_iload (pc := 91) 1 dX12_joinedWith_91 rfl ?_
          refine J_aload_n (pc := 93) 2 dX12_joinedWith_93 rfl ?_
          refine J_getA (pc := 94) dX12_joinedWith_94 ho flX12_7 rfl ?_
          refine J_bipush (pc := 97) (70 : Int32) dX12_joinedWith_97 (by decide) ?_
          refine J_iconst (pc := 99) (5 : Int32) dX12_joinedWith_99 (by decide) ?_
          refine J_iload (pc := 100) 4 dX12_joinedWith_100 rfl ?_
          refine J_imul (pc := 102) dX12_joinedWith_102 ?_
          refine J_iadd (pc := 103) dX12_joinedWith_103 ?_
          refine J_iconst (pc := 104) (2 : Int32) dX12_joinedWith_104 (by decide) ?_
          refine J_iadd (pc := 105) dX12_joinedWith_105 ?_
          refine J_iald (pc := 106) dX12_joinedWith_106 ho ha12_0 h (fun x10 h => ?_)
          refine J_iconst (pc := 107) (1 : Int32) dX12_joinedWith_107 (by decide) ?_
          refine J_icmp_ne (pc := 108) 125 dX12_joinedWith_108 (by decide) h (fun h => ?_) (fun h => ?_)
          · refine J_aload_n (pc := 125) 2 dX12_joinedWith_125 rfl ?_
            refine J_getA (pc := 126) dX12_joinedWith_126 ho flX12_56 rfl ?_
            refine J_aload_n (pc := 129) 2 dX12_joinedWith_129 rfl ?_
            refine J_getA (pc := 130) dX12_joinedWith_130 ho flX12_53 rfl ?_
            refine J_iload_n (pc := 133) 3 dX12_joinedWith_133 rfl ?_
            refine J_iald (pc := 134) dX12_joinedWith_134 ho ha12_10 h (fun x11 h => ?_)
            refine J_iald (pc := 135) dX12_joinedWith_135 ho ha12_11 h (fun x12 h => ?_)
            refine J_ineg (pc := 136) dX12_joinedWith_136 ?_
            refine J_iast (pc := 137) dX12_joinedWith_137 ho ha12_11 h (fun σ13 h => ?_)
            refine J_aload_n (pc := 138) 2 dX12_joinedWith_138 rfl ?_
            refine J_getA (pc := 139) dX12_joinedWith_139 ho flX12_53 rfl ?_
            refine J_aload_n (pc := 142) 2 dX12_joinedWith_142 rfl ?_
            refine J_getI (pc := 143) dX12_joinedWith_143 ho flX12_342 rfl h (fun x14 h => ?_)
            refine J_iload (pc := 146) 1 dX12_joinedWith_146 rfl ?_
            refine J_iast (pc := 148) dX12_joinedWith_148 ho ha12_10 h (fun σ15 h => ?_)
            refine J_aload_n (pc := 149) 2 dX12_joinedWith_149 rfl ?_
            refine J_dup (pc := 150) dX12_joinedWith_150 rfl ?_
            refine J_getI (pc := 151) dX12_joinedWith_151 ho flX12_342 rfl h (fun x16 h => ?_)
            refine J_iconst (pc := 154) (1 : Int32) dX12_joinedWith_154 (by decide) ?_
            refine J_iadd (pc := 155) dX12_joinedWith_155 ?_
            refine J_putI (pc := 156) dX12_joinedWith_156 ho flX12_342 rfl h (fun σ17 h => ?_)
            refine J_iinc (pc := 159) (L' := [(4, .int (v4 + (1 : Int32))), (2, .int (v2 ||| ((1 : Int32) <<< (x9 &&& 31)))), (5, .int x9), (0, .ref (e_a E o 0)), (3, .int v3)]) 4 (v4 + (1 : Int32)) dX12_joinedWith_159 rfl (by rfl) (by decide) rfl ?_
            refine J_goto (pc := 162) 36 dX12_joinedWith_162 (by decide) ?_
            refine J_sub (L' := [(0, .ref (e_a E o 0)), (2, .int (v2 ||| ((1 : Int32) <<< (x9 &&& 31)))), (3, .int v3), (4, .int (v4 + (1 : Int32)))]) [3, 1, 4, 0] rfl ?_
            exact ih (v2 ||| ((1 : Int32) <<< (x9 &&& 31))) v3 (v4 + (1 : Int32)) σ17 h
          · refine J_aload_n (pc := 111) 2 dX12_joinedWith_111 rfl ?_
            refine J_getA (pc := 112) dX12_joinedWith_112 ho flX12_56 rfl ?_
            refine J_aload_n (pc := 115) 2 dX12_joinedWith_115 rfl ?_
            refine J_getA (pc := 116) dX12_joinedWith_116 ho flX12_53 rfl ?_
            refine J_iload_n (pc := 119) 3 dX12_joinedWith_119 rfl ?_
            refine J_iald (pc := 120) dX12_joinedWith_120 ho ha12_10 h (fun x18 h => ?_)
            refine J_iald (pc := 121) dX12_joinedWith_121 ho ha12_11 h (fun x19 h => ?_)
            refine J_goto (pc := 122) 137 dX12_joinedWith_122 (by decide) ?_
            refine J_iast (pc := 137) dX12_joinedWith_137 ho ha12_11 h (fun σ20 h => ?_)
            refine J_aload_n (pc := 138) 2 dX12_joinedWith_138 rfl ?_
            refine J_getA (pc := 139) dX12_joinedWith_139 ho flX12_53 rfl ?_
            refine J_aload_n (pc := 142) 2 dX12_joinedWith_142 rfl ?_
            refine J_getI (pc := 143) dX12_joinedWith_143 ho flX12_342 rfl h (fun x21 h => ?_)
            refine J_iload (pc := 146) 1 dX12_joinedWith_146 rfl ?_
            refine J_iast (pc := 148) dX12_joinedWith_148 ho ha12_10 h (fun σ22 h => ?_)
            refine J_aload_n (pc := 149) 2 dX12_joinedWith_149 rfl ?_
            refine J_dup (pc := 150) dX12_joinedWith_150 rfl ?_
            refine J_getI (pc := 151) dX12_joinedWith_151 ho flX12_342 rfl h (fun x23 h => ?_)
            refine J_iconst (pc := 154) (1 : Int32) dX12_joinedWith_154 (by decide) ?_
            refine J_iadd (pc := 155) dX12_joinedWith_155 ?_
            refine J_putI (pc := 156) dX12_joinedWith_156 ho flX12_342 rfl h (fun σ24 h => ?_)
            refine J_iinc (pc := 159) (L' := [(4, .int (v4 + (1 : Int32))), (2, .int (v2 ||| ((1 : Int32) <<< (x9 &&& 31)))), (5, .int x9), (0, .ref (e_a E o 0)), (3, .int v3)]) 4 (v4 + (1 : Int32)) dX12_joinedWith_159 rfl (by rfl) (by decide) rfl ?_
            refine J_goto (pc := 162) 36 dX12_joinedWith_162 (by decide) ?_
            refine J_sub (L' := [(0, .ref (e_a E o 0)), (2, .int (v2 ||| ((1 : Int32) <<< (x9 &&& 31)))), (3, .int v3), (4, .int (v4 + (1 : Int32)))]) [3, 1, 4, 0] rfl ?_
            exact ih (v2 ||| ((1 : Int32) <<< (x9 &&& 31))) v3 (v4 + (1 : Int32)) σ24 h
        · refine J_goto (pc := 77) 159 dX12_joinedWith_77 (by decide) ?_
          refine J_iinc (pc := 159) (L' := [(4, .int (v4 + (1 : Int32))), (5, .int x9), (0, .ref (e_a E o 0)), (2, .int v2), (3, .int v3)]) 4 (v4 + (1 : Int32)) dX12_joinedWith_159 rfl (by rfl) (by decide) rfl ?_
          refine J_goto (pc := 162) 36 dX12_joinedWith_162 (by decide) ?_
          refine J_sub (L' := [(0, .ref (e_a E o 0)), (2, .int v2), (3, .int v3), (4, .int (v4 + (1 : Int32)))]) [2, 3, 4, 0] rfl ?_
          exact ih v2 v3 (v4 + (1 : Int32)) σ7 h
def fX12_joinedWith_25 (o : Nat) (a1 : Int32) : Nat → Int32 → Int32 → Mm → Option (Int32 × Mm)
  | 0, _, _, _ => none
  | n + 1, v2, v3, σ => r_sc σ o 32 (fun x4 => if x4 ≤ v3 then (some (v2, σ)) else (fX12_joinedWith_36 o a1 (fX12_joinedWith_25 o a1 n) FU v2 v3 (0 : Int32) σ))
set_option maxRecDepth 100000 in
set_option maxHeartbeats 4000000 in
theorem tX12_joinedWith_25 (l : Launch) (E : EV) {xr : Int32} {τ : Mm} (o : Nat) (a1 : Int32) (ho : KD o = 12) : ∀ (n : Nat) (v2 : Int32) (v3 : Int32) (σ : Mm), fX12_joinedWith_25 o a1 n v2 v3 σ = some (xr, τ) → Jd l E mX12_joinedWith 1 (some (.int xr), τ) σ 25 [(0, .ref (e_a E o 0)), (2, .int v2), (3, .int v3)] [] := by
  intro n
  induction n with
  | zero => intro v2 v3 σ h; rw [fX12_joinedWith_25] at h; cases h
  | succ n ih =>
    intro v2 v3 σ h
    rw [fX12_joinedWith_25] at h
    refine J_iload_n (pc := 25) 2 dX12_joinedWith_25 rfl ?_
    refine J_aload_n (pc := 26) 0 dX12_joinedWith_26 rfl ?_
    refine J_getI (pc := 27) dX12_joinedWith_27 ho flX12_342 rfl h (fun x4 h => ?_)
    refine J_icmp_ge (pc := 30) 171 dX12_joinedWith_30 (by decide) h (fun h => ?_) (fun h => ?_)
    · refine J_iload_n (pc := 171) 1 dX12_joinedWith_171 rfl ?_
      cases h
      exact J_iret (pc := 172) dX12_joinedWith_172 rfl rfl
    · refine J_iconst (pc := 33) (0 : Int32) dX12_joinedWith_33 (by decide) ?_
      refine J_istore (pc := 34) (L' := [(4, .int (0 : Int32)), (0, .ref (e_a E o 0)), (2, .int v2), (3, .int v3)]) dX12_joinedWith_34 (by decide) rfl ?_
      refine J_sub (L' := [(0, .ref (e_a E o 0)), (2, .int v2), (3, .int v3), (4, .int (0 : Int32))]) [1, 2, 3, 0] rfl ?_
      exact tX12_joinedWith_36 l E o a1 ho (fX12_joinedWith_25 o a1 n) ih FU v2 v3 (0 : Int32) σ h
def fX12_joinedWith (o : Nat) (a1 : Int32) (σ : Mm) : Option (Int32 × Mm) := s_ar σ o 10 8 (0 : Int32) a1 (fun σ1 => p_sc σ1 o 32 (1 : Int32) (fun σ2 => s_ar σ2 o 11 8 a1 (1 : Int32) (fun σ3 => fX12_joinedWith_25 o a1 FU ((1 : Int32) <<< (a1 &&& 31)) (0 : Int32) σ3)))
set_option maxRecDepth 100000 in
set_option maxHeartbeats 4000000 in
theorem ctX12_joinedWith (l : Launch) (E : EV) (o : Nat) (a1 : Int32) (ho : KD o = 12) (σ : Mm) {xr : Int32} {τ : Mm} (h : fX12_joinedWith o a1 σ = some (xr, τ)) : Ct l E mX12_joinedWith 1 [.ref (e_a E o 0), .int a1] σ (some (.int xr), τ) := by
  refine Ct.of (by decide +kernel) (Nat.le_of_ble_eq_true rfl) ?_
  show Jd l E mX12_joinedWith 1 (some (.int xr), τ) σ 0 [(0, .ref (e_a E o 0)), (1, .int a1)] []
  unfold fX12_joinedWith at h
  refine J_iconst (pc := 0) (1 : Int32) dX12_joinedWith_0 (by decide) ?_
  refine J_iload_n (pc := 1) 1 dX12_joinedWith_1 rfl ?_
  refine J_ishl (pc := 2) dX12_joinedWith_2 ?_
  refine J_istore_n (pc := 3) (L' := [(2, .int ((1 : Int32) <<< (a1 &&& 31))), (0, .ref (e_a E o 0)), (1, .int a1)]) dX12_joinedWith_3 (by decide) rfl ?_
  refine J_aload_n (pc := 4) 1 dX12_joinedWith_4 rfl ?_
  refine J_getA (pc := 5) dX12_joinedWith_5 ho flX12_53 rfl ?_
  refine J_iconst (pc := 8) (0 : Int32) dX12_joinedWith_8 (by decide) ?_
  refine J_iload_n (pc := 9) 2 dX12_joinedWith_9 rfl ?_
  refine J_iast (pc := 10) dX12_joinedWith_10 ho ha12_10 h (fun σ1 h => ?_)
  refine J_aload_n (pc := 11) 1 dX12_joinedWith_11 rfl ?_
  refine J_iconst (pc := 12) (1 : Int32) dX12_joinedWith_12 (by decide) ?_
  refine J_putI (pc := 13) dX12_joinedWith_13 ho flX12_342 rfl h (fun σ2 h => ?_)
  refine J_aload_n (pc := 16) 1 dX12_joinedWith_16 rfl ?_
  refine J_getA (pc := 17) dX12_joinedWith_17 ho flX12_56 rfl ?_
  refine J_iload_n (pc := 20) 2 dX12_joinedWith_20 rfl ?_
  refine J_iconst (pc := 21) (1 : Int32) dX12_joinedWith_21 (by decide) ?_
  refine J_iast (pc := 22) dX12_joinedWith_22 ho ha12_11 h (fun σ3 h => ?_)
  refine J_iconst (pc := 23) (0 : Int32) dX12_joinedWith_23 (by decide) ?_
  refine J_istore_n (pc := 24) (L' := [(3, .int (0 : Int32)), (2, .int ((1 : Int32) <<< (a1 &&& 31))), (0, .ref (e_a E o 0)), (1, .int a1)]) dX12_joinedWith_24 (by decide) rfl ?_
  refine J_sub (L' := [(0, .ref (e_a E o 0)), (2, .int ((1 : Int32) <<< (a1 &&& 31))), (3, .int (0 : Int32))]) [2, 1, 0] rfl ?_
  exact tX12_joinedWith_25 l E o a1 ho FU ((1 : Int32) <<< (a1 &&& 31)) (0 : Int32) σ3 h
def fX12_joined (o : Nat) (a1 : Int32) (σ : Mm) : Option (Int32 × Mm) := c_I (fX12_isVane o a1 σ) (fun x3 σ1 => if x3 = 0 then (c_I (fX12_refuse o (1 : Int32) σ1) (fun x6 σ4 => some (x6, σ4))) else (c_I (fX12_joinedWith o a1 σ1) (fun x9 σ7 => c_I (fX12_gives o x9 σ7) (fun x12 σ10 => some (x12, σ10)))))
set_option maxRecDepth 100000 in
set_option maxHeartbeats 4000000 in
theorem ctX12_joined (l : Launch) (E : EV) (o : Nat) (a1 : Int32) (ho : KD o = 12) (σ : Mm) {xr : Int32} {τ : Mm} (h : fX12_joined o a1 σ = some (xr, τ)) : Ct l E mX12_joined 2 [.ref (e_a E o 0), .int a1] σ (some (.int xr), τ) := by
  refine Ct.of (by decide +kernel) (Nat.le_of_ble_eq_true rfl) ?_
  show Jd l E mX12_joined 2 (some (.int xr), τ) σ 0 [(0, .ref (e_a E o 0)), (1, .int a1)] []
  unfold fX12_joined at h
  refine J_aload_n (pc := 0) 0 dX12_joined_0 rfl ?_
  refine J_iload_n (pc := 1) 1 dX12_joined_1 rfl ?_
  obtain ⟨x3, σ1, hc2, h⟩ := cI_t h
  refine J_cVi (pc := 2) (ctX12_isVane l E o a1 ho σ hc2) dX12_joined_2 mlX12_243 mvX12_isVane ho rfl (by decide) rfl (Nat.le_of_ble_eq_true rfl) ?_
  refine J_if_eq (pc := 5) 20 dX12_joined_5 (by decide) h (fun h => ?_) (fun h => ?_)
  · refine J_aload_n (pc := 20) 0 dX12_joined_20 rfl ?_
    refine J_iconst (pc := 21) (1 : Int32) dX12_joined_21 (by decide) ?_
    obtain ⟨x6, σ4, hc5, h⟩ := cI_t h
    refine J_cVi (pc := 22) (ctX12_refuse l E o (1 : Int32) ho σ1 hc5) dX12_joined_22 mlX12_83 mvX12_refuse ho rfl (by decide) rfl (Nat.le_of_ble_eq_true rfl) ?_
    cases h
    exact J_iret (pc := 25) dX12_joined_25 rfl rfl
  · refine J_aload_n (pc := 8) 0 dX12_joined_8 rfl ?_
    refine J_aload_n (pc := 9) 0 dX12_joined_9 rfl ?_
    refine J_iload_n (pc := 10) 1 dX12_joined_10 rfl ?_
    obtain ⟨x9, σ7, hc8, h⟩ := cI_t h
    refine J_cVi (pc := 11) (ctX12_joinedWith l E o a1 ho σ1 hc8) dX12_joined_11 mlX12_348 mvX12_joinedWith ho rfl (by decide) rfl (Nat.le_of_ble_eq_true rfl) ?_
    obtain ⟨x12, σ10, hc11, h⟩ := cI_t h
    refine J_cVi (pc := 14) (ctX12_gives l E o x9 ho σ7 hc11) dX12_joined_14 mlX12_87 mvX12_gives ho rfl (by decide) rfl (Nat.le_of_ble_eq_true rfl) ?_
    refine J_goto (pc := 17) 25 dX12_joined_17 (by decide) ?_
    cases h
    exact J_iret (pc := 25) dX12_joined_25 rfl rfl
def fX12_ratio (o : Nat) (a1 : Int32) (a2 : Int32) (σ : Mm) : Option (Int32 × Mm) := c_I (fX12_isVane o a1 σ) (fun x3 σ1 => if x3 = 0 then (c_I (fX12_is o (1 : Int32) σ1) (fun x6 σ4 => b_z x6 σ4)) else (c_I (fX12_isVane o a2 σ1) (fun x10 σ8 => if x10 = 0 then (c_I (fX12_is o (1 : Int32) σ8) (fun x27 σ25 => b_z x27 σ25)) else (c_I (fX12_joinedWith o a1 σ8) (fun x13 σ11 => if ((x13 >>> (a2 &&& 31)) &&& (1 : Int32)) = 0 then (c_I (fX12_is o (7 : Int32) σ11) (fun x23 σ21 => b_z x23 σ21)) else (g_ar σ11 o 11 8 a2 (fun x14 => g_ar σ11 o 0 2950 ((20 : Int32) + ((6 : Int32) * a1)) (fun x15 => g_ar σ11 o 0 2950 ((20 : Int32) + ((6 : Int32) * a2)) (fun x16 => c_I (fX12_tellsBy o (x14.toInt64 * x15.toInt64) x16.toInt64 σ11) (fun x19 σ17 => b_z x19 σ17))))))))))
set_option maxRecDepth 100000 in
set_option maxHeartbeats 4000000 in
theorem ctX12_ratio (l : Launch) (E : EV) (o : Nat) (a1 : Int32) (a2 : Int32) (ho : KD o = 12) (σ : Mm) {xr : Int32} {τ : Mm} (h : fX12_ratio o a1 a2 σ = some (xr, τ)) : Ct l E mX12_ratio 2 [.ref (e_a E o 0), .int a1, .int a2] σ (some (.int xr), τ) := by
  refine Ct.of (by decide +kernel) (Nat.le_of_ble_eq_true rfl) ?_
  show Jd l E mX12_ratio 2 (some (.int xr), τ) σ 0 [(0, .ref (e_a E o 0)), (1, .int a1), (2, .int a2)] []
  unfold fX12_ratio at h
  refine J_aload_n (pc := 0) 0 dX12_ratio_0 rfl ?_
  refine J_iload_n (pc := 1) 1 dX12_ratio_1 rfl ?_
  obtain ⟨x3, σ1, hc2, h⟩ := cI_t h
  refine J_cVi (pc := 2) (ctX12_isVane l E o a1 ho σ hc2) dX12_ratio_2 mlX12_243 mvX12_isVane ho rfl (by decide) rfl (Nat.le_of_ble_eq_true rfl) ?_
  refine J_if_eq (pc := 5) 16 dX12_ratio_5 (by decide) h (fun h => ?_) (fun h => ?_)
  · refine J_aload_n (pc := 16) 0 dX12_ratio_16 rfl ?_
    refine J_iconst (pc := 17) (1 : Int32) dX12_ratio_17 (by decide) ?_
    obtain ⟨x6, σ4, hc5, h⟩ := cI_t h
    refine J_cVi (pc := 18) (ctX12_is l E o (1 : Int32) ho σ1 hc5) dX12_ratio_18 mlX12_90 mvX12_is ho rfl (by decide) rfl (Nat.le_of_ble_eq_true rfl) ?_
    obtain ⟨hz7, h⟩ := bz_t h
    cases h
    exact J_iret (pc := 21) dX12_ratio_21 rfl hz7
  · refine J_aload_n (pc := 8) 0 dX12_ratio_8 rfl ?_
    refine J_iload_n (pc := 9) 2 dX12_ratio_9 rfl ?_
    obtain ⟨x10, σ8, hc9, h⟩ := cI_t h
    refine J_cVi (pc := 10) (ctX12_isVane l E o a2 ho σ1 hc9) dX12_ratio_10 mlX12_243 mvX12_isVane ho rfl (by decide) rfl (Nat.le_of_ble_eq_true rfl) ?_
    refine J_if_ne (pc := 13) 22 dX12_ratio_13 (by decide) h (fun h => ?_) (fun h => ?_)
    · refine J_aload_n (pc := 22) 0 dX12_ratio_22 rfl ?_
      refine J_iload_n (pc := 23) 1 dX12_ratio_23 rfl ?_
      obtain ⟨x13, σ11, hc12, h⟩ := cI_t h
      refine J_cVi (pc := 24) (ctX12_joinedWith l E o a1 ho σ8 hc12) dX12_ratio_24 mlX12_348 mvX12_joinedWith ho rfl (by decide) rfl (Nat.le_of_ble_eq_true rfl) ?_
      refine J_iload_n (pc := 27) 2 dX12_ratio_27 rfl ?_
      refine J_ishr (pc := 28) dX12_ratio_28 ?_
      refine J_iconst (pc := 29) (1 : Int32) dX12_ratio_29 (by decide) ?_
      refine J_iand (pc := 30) dX12_ratio_30 ?_
      refine J_if_ne (pc := 31) 41 dX12_ratio_31 (by decide) h (fun h => ?_) (fun h => ?_)
      · refine J_aload_n (pc := 41) 0 dX12_ratio_41 rfl ?_
        refine J_aload_n (pc := 42) 0 dX12_ratio_42 rfl ?_
        refine J_getA (pc := 43) dX12_ratio_43 ho flX12_56 rfl ?_
        refine J_iload_n (pc := 46) 2 dX12_ratio_46 rfl ?_
        refine J_iald (pc := 47) dX12_ratio_47 ho ha12_11 h (fun x14 h => ?_)
        refine J_i2l (pc := 48) dX12_ratio_48 ?_
        refine J_aload_n (pc := 49) 0 dX12_ratio_49 rfl ?_
        refine J_getA (pc := 50) dX12_ratio_50 ho flX12_7 rfl ?_
        refine J_bipush (pc := 53) (20 : Int32) dX12_ratio_53 (by decide) ?_
        refine J_bipush (pc := 55) (6 : Int32) dX12_ratio_55 (by decide) ?_
        refine J_iload_n (pc := 57) 1 dX12_ratio_57 rfl ?_
        refine J_imul (pc := 58) dX12_ratio_58 ?_
        refine J_iadd (pc := 59) dX12_ratio_59 ?_
        refine J_iald (pc := 60) dX12_ratio_60 ho ha12_0 h (fun x15 h => ?_)
        refine J_i2l (pc := 61) dX12_ratio_61 ?_
        refine J_lmul (pc := 62) dX12_ratio_62 ?_
        refine J_aload_n (pc := 63) 0 dX12_ratio_63 rfl ?_
        refine J_getA (pc := 64) dX12_ratio_64 ho flX12_7 rfl ?_
        refine J_bipush (pc := 67) (20 : Int32) dX12_ratio_67 (by decide) ?_
        refine J_bipush (pc := 69) (6 : Int32) dX12_ratio_69 (by decide) ?_
        refine J_iload_n (pc := 71) 2 dX12_ratio_71 rfl ?_
        refine J_imul (pc := 72) dX12_ratio_72 ?_
        refine J_iadd (pc := 73) dX12_ratio_73 ?_
        refine J_iald (pc := 74) dX12_ratio_74 ho ha12_0 h (fun x16 h => ?_)
        refine J_i2l (pc := 75) dX12_ratio_75 ?_
        obtain ⟨x19, σ17, hc18, h⟩ := cI_t h
        refine J_cVi (pc := 76) (ctX12_tellsBy l E o (x14.toInt64 * x15.toInt64) x16.toInt64 ho σ11 hc18) dX12_ratio_76 mlX12_351 mvX12_tellsBy ho rfl (by decide) rfl (Nat.le_of_ble_eq_true rfl) ?_
        obtain ⟨hz20, h⟩ := bz_t h
        cases h
        exact J_iret (pc := 79) dX12_ratio_79 rfl hz20
      · refine J_aload_n (pc := 34) 0 dX12_ratio_34 rfl ?_
        refine J_bipush (pc := 35) (7 : Int32) dX12_ratio_35 (by decide) ?_
        obtain ⟨x23, σ21, hc22, h⟩ := cI_t h
        refine J_cVi (pc := 37) (ctX12_is l E o (7 : Int32) ho σ11 hc22) dX12_ratio_37 mlX12_90 mvX12_is ho rfl (by decide) rfl (Nat.le_of_ble_eq_true rfl) ?_
        obtain ⟨hz24, h⟩ := bz_t h
        cases h
        exact J_iret (pc := 40) dX12_ratio_40 rfl hz24
    · refine J_aload_n (pc := 16) 0 dX12_ratio_16 rfl ?_
      refine J_iconst (pc := 17) (1 : Int32) dX12_ratio_17 (by decide) ?_
      obtain ⟨x27, σ25, hc26, h⟩ := cI_t h
      refine J_cVi (pc := 18) (ctX12_is l E o (1 : Int32) ho σ8 hc26) dX12_ratio_18 mlX12_90 mvX12_is ho rfl (by decide) rfl (Nat.le_of_ble_eq_true rfl) ?_
      obtain ⟨hz28, h⟩ := bz_t h
      cases h
      exact J_iret (pc := 21) dX12_ratio_21 rfl hz28
def fX12_locked_115 (o : Nat) (k4 : Int32 → Int32 → Mm → Option (Int32 × Mm)) (k23 : Int32 → Int32 → Int32 → Int32 → Mm → Option (Int32 × Mm)) (v1 : Int32) (v2 : Int32) (v3 : Int32) (v4 : Int32) (s0 : Int32) (σ : Mm) : Option (Int32 × Mm) := g_ar σ o 0 2950 (((70 : Int32) + ((5 : Int32) * v4)) + (2 : Int32)) (fun x14 => if x14 = (1 : Int32) then (if s0 = (1 : Int32) then (k23 v1 v2 v3 (v4 + (1 : Int32)) σ) else (k23 (v1 ||| ((1 : Int32) <<< (v2 &&& 31))) v2 v3 (v4 + (1 : Int32)) σ)) else (if s0 = (0 : Int32) then (k23 v1 v2 v3 (v4 + (1 : Int32)) σ) else (k23 (v1 ||| ((1 : Int32) <<< (v2 &&& 31))) v2 v3 (v4 + (1 : Int32)) σ)))
set_option maxRecDepth 100000 in
set_option maxHeartbeats 4000000 in
theorem tX12_locked_115 (l : Launch) (E : EV) {xr : Int32} {τ : Mm} (o : Nat) (ho : KD o = 12) (k4 : Int32 → Int32 → Mm → Option (Int32 × Mm)) (k23 : Int32 → Int32 → Int32 → Int32 → Mm → Option (Int32 × Mm)) (hk4 : ∀ (v1 : Int32) (v2 : Int32) (σ : Mm), k4 v1 v2 σ = some (xr, τ) → Jd l E mX12_locked 2 (some (.int xr), τ) σ 4 [(0, .ref (e_a E o 0)), (1, .int v1), (2, .int v2)] []) (hk23 : ∀ (v1 : Int32) (v2 : Int32) (v3 : Int32) (v4 : Int32) (σ : Mm), k23 v1 v2 v3 v4 σ = some (xr, τ) → Jd l E mX12_locked 2 (some (.int xr), τ) σ 23 [(0, .ref (e_a E o 0)), (1, .int v1), (2, .int v2), (3, .int v3), (4, .int v4)] []) (v1 : Int32) (v2 : Int32) (v3 : Int32) (v4 : Int32) (s0 : Int32) (σ : Mm) (h : fX12_locked_115 o k4 k23 v1 v2 v3 v4 s0 σ = some (xr, τ)) : Jd l E mX12_locked 2 (some (.int xr), τ) σ 115 [(0, .ref (e_a E o 0)), (1, .int v1), (2, .int v2), (3, .int v3), (4, .int v4)] [.int s0] := by
  unfold fX12_locked_115 at h
  refine J_istore (pc := 115) (L' := [(7, .int s0), (0, .ref (e_a E o 0)), (1, .int v1), (2, .int v2), (3, .int v3), (4, .int v4)]) dX12_locked_115 (by decide) rfl ?_
  refine J_iload (pc := 117) 0 dX12_locked_117 rfl ?_
  refine J_aload_n (pc := 119) 1 dX12_locked_119 rfl ?_
  refine J_getA (pc := 120) dX12_locked_120 ho flX12_7 rfl ?_
  refine J_bipush (pc := 123) (70 : Int32) dX12_locked_123 (by decide) ?_
  refine J_iconst (pc := 125) (5 : Int32) dX12_locked_125 (by decide) ?_
  refine J_iload (pc := 126) 5 dX12_locked_126 rfl ?_
  refine J_imul (pc := 128) dX12_locked_128 ?_
  refine J_iadd (pc := 129) dX12_locked_129 ?_
  refine J_iconst (pc := 130) (2 : Int32) dX12_locked_130 (by decide) ?_
  refine J_iadd (pc := 131) dX12_locked_131 ?_
  refine J_iald (pc := 132) dX12_locked_132 ho ha12_0 h (fun x14 h => ?_)
  refine J_iconst (pc := 133) (1 : Int32) dX12_locked_133 (by decide) ?_
  refine J_icmp_ne (pc := 134) 141 dX12_locked_134 (by decide) h (fun h => ?_) (fun h => ?_)
  · refine J_iconst (pc := 141) (0 : Int32) dX12_locked_141 (by decide) ?_
    refine J_icmp_eq (pc := 142) 151 dX12_locked_142 (by decide) h (fun h => ?_) (fun h => ?_)
    · refine J_iinc (pc := 151) (L' := [(4, .int (v4 + (1 : Int32))), (7, .int s0), (0, .ref (e_a E o 0)), (1, .int v1), (2, .int v2), (3, .int v3)]) 5 (v4 + (1 : Int32)) dX12_locked_151 rfl (by rfl) (by decide) rfl ?_
      refine J_goto (pc := 154) 23 dX12_locked_154 (by decide) ?_
      refine J_sub (L' := [(0, .ref (e_a E o 0)), (1, .int v1), (2, .int v2), (3, .int v3), (4, .int (v4 + (1 : Int32)))]) [2, 3, 4, 5, 0] rfl ?_
      exact hk23 v1 v2 v3 (v4 + (1 : Int32)) σ h
    · refine J_iload_n (pc := 145) 2 dX12_locked_145 rfl ?_
      refine J_iconst (pc := 146) (1 : Int32) dX12_locked_146 (by decide) ?_
      refine J_iload_n (pc := 147) 3 dX12_locked_147 rfl ?_
      refine J_ishl (pc := 148) dX12_locked_148 ?_
      refine J_ior (pc := 149) dX12_locked_149 ?_
      refine J_istore_n (pc := 150) (L' := [(1, .int (v1 ||| ((1 : Int32) <<< (v2 &&& 31)))), (7, .int s0), (0, .ref (e_a E o 0)), (2, .int v2), (3, .int v3), (4, .int v4)]) dX12_locked_150 (by decide) rfl ?_
      refine J_iinc (pc := 151) (L' := [(4, .int (v4 + (1 : Int32))), (1, .int (v1 ||| ((1 : Int32) <<< (v2 &&& 31)))), (7, .int s0), (0, .ref (e_a E o 0)), (2, .int v2), (3, .int v3)]) 5 (v4 + (1 : Int32)) dX12_locked_151 rfl (by rfl) (by decide) rfl ?_
      refine J_goto (pc := 154) 23 dX12_locked_154 (by decide) ?_
      refine J_sub (L' := [(0, .ref (e_a E o 0)), (1, .int (v1 ||| ((1 : Int32) <<< (v2 &&& 31)))), (2, .int v2), (3, .int v3), (4, .int (v4 + (1 : Int32)))]) [3, 1, 4, 5, 0] rfl ?_
      exact hk23 (v1 ||| ((1 : Int32) <<< (v2 &&& 31))) v2 v3 (v4 + (1 : Int32)) σ h
  · refine J_iconst (pc := 137) (1 : Int32) dX12_locked_137 (by decide) ?_
    refine J_goto (pc := 138) 142 dX12_locked_138 (by decide) ?_
    refine J_icmp_eq (pc := 142) 151 dX12_locked_142 (by decide) h (fun h => ?_) (fun h => ?_)
    · refine J_iinc (pc := 151) (L' := [(4, .int (v4 + (1 : Int32))), (7, .int s0), (0, .ref (e_a E o 0)), (1, .int v1), (2, .int v2), (3, .int v3)]) 5 (v4 + (1 : Int32)) dX12_locked_151 rfl (by rfl) (by decide) rfl ?_
      refine J_goto (pc := 154) 23 dX12_locked_154 (by decide) ?_
      refine J_sub (L' := [(0, .ref (e_a E o 0)), (1, .int v1), (2, .int v2), (3, .int v3), (4, .int (v4 + (1 : Int32)))]) [2, 3, 4, 5, 0] rfl ?_
      exact hk23 v1 v2 v3 (v4 + (1 : Int32)) σ h
    · refine J_iload_n (pc := 145) 2 dX12_locked_145 rfl ?_
      refine J_iconst (pc := 146) (1 : Int32) dX12_locked_146 (by decide) ?_
      refine J_iload_n (pc := 147) 3 dX12_locked_147 rfl ?_
      refine J_ishl (pc := 148) dX12_locked_148 ?_
      refine J_ior (pc := 149) dX12_locked_149 ?_
      refine J_istore_n (pc := 150) (L' := [(1, .int (v1 ||| ((1 : Int32) <<< (v2 &&& 31)))), (7, .int s0), (0, .ref (e_a E o 0)), (2, .int v2), (3, .int v3), (4, .int v4)]) dX12_locked_150 (by decide) rfl ?_
      refine J_iinc (pc := 151) (L' := [(4, .int (v4 + (1 : Int32))), (1, .int (v1 ||| ((1 : Int32) <<< (v2 &&& 31)))), (7, .int s0), (0, .ref (e_a E o 0)), (2, .int v2), (3, .int v3)]) 5 (v4 + (1 : Int32)) dX12_locked_151 rfl (by rfl) (by decide) rfl ?_
      refine J_goto (pc := 154) 23 dX12_locked_154 (by decide) ?_
      refine J_sub (L' := [(0, .ref (e_a E o 0)), (1, .int (v1 ||| ((1 : Int32) <<< (v2 &&& 31)))), (2, .int v2), (3, .int v3), (4, .int (v4 + (1 : Int32)))]) [3, 1, 4, 5, 0] rfl ?_
      exact hk23 (v1 ||| ((1 : Int32) <<< (v2 &&& 31))) v2 v3 (v4 + (1 : Int32)) σ h
def fX12_locked_23 (o : Nat) (k4 : Int32 → Int32 → Mm → Option (Int32 × Mm)) : Nat → Int32 → Int32 → Int32 → Int32 → Mm → Option (Int32 × Mm)
  | 0, _, _, _, _, _ => none
  | n + 1, v1, v2, v3, v4, σ => g_ar σ o 0 2950 (2 : Int32) (fun x8 => if x8 ≤ v4 then (k4 v1 (v2 + (1 : Int32)) σ) else (g_ar σ o 0 2950 (((70 : Int32) + ((5 : Int32) * v4)) + (0 : Int32)) (fun x9 => g_ar σ o 0 2950 (((70 : Int32) + ((5 : Int32) * v4)) + (1 : Int32)) (fun x10 => g_ar σ o 0 2950 (4 : Int32) (fun x11 => if ((x11 >>> (v4 &&& 31)) &&& (1 : Int32)) = (1 : Int32) then ((fX12_locked_23 o k4 n) v1 v2 v3 (v4 + (1 : Int32)) σ) else (if ((v3 >>> (x9 &&& 31)) &&& (1 : Int32)) = 0 then ((fX12_locked_23 o k4 n) v1 v2 v3 (v4 + (1 : Int32)) σ) else (g_ar σ o 11 8 x9 (fun x12 => g_ar σ o 11 8 x10 (fun x13 => if x12 = x13 then (fX12_locked_115 o k4 (fX12_locked_23 o k4 n) v1 v2 v3 v4 (1 : Int32) σ) else (fX12_locked_115 o k4 (fX12_locked_23 o k4 n) v1 v2 v3 v4 (0 : Int32) σ))))))))))
set_option maxRecDepth 100000 in
set_option maxHeartbeats 4000000 in
theorem tX12_locked_23 (l : Launch) (E : EV) {xr : Int32} {τ : Mm} (o : Nat) (ho : KD o = 12) (k4 : Int32 → Int32 → Mm → Option (Int32 × Mm)) (hk4 : ∀ (v1 : Int32) (v2 : Int32) (σ : Mm), k4 v1 v2 σ = some (xr, τ) → Jd l E mX12_locked 2 (some (.int xr), τ) σ 4 [(0, .ref (e_a E o 0)), (1, .int v1), (2, .int v2)] []) : ∀ (n : Nat) (v1 : Int32) (v2 : Int32) (v3 : Int32) (v4 : Int32) (σ : Mm), fX12_locked_23 o k4 n v1 v2 v3 v4 σ = some (xr, τ) → Jd l E mX12_locked 2 (some (.int xr), τ) σ 23 [(0, .ref (e_a E o 0)), (1, .int v1), (2, .int v2), (3, .int v3), (4, .int v4)] [] := by
  intro n
  induction n with
  | zero => intro v1 v2 v3 v4 σ h; rw [fX12_locked_23] at h; cases h
  | succ n ih =>
    intro v1 v2 v3 v4 σ h
    rw [fX12_locked_23] at h
    refine J_iload (pc := 23) 4 dX12_locked_23 rfl ?_
    refine J_aload_n (pc := 25) 0 dX12_locked_25 rfl ?_
    refine J_getA (pc := 26) dX12_locked_26 ho flX12_7 rfl ?_
    refine J_iconst (pc := 29) (2 : Int32) dX12_locked_29 (by decide) ?_
    refine J_iald (pc := 30) dX12_locked_30 ho ha12_0 h (fun x8 h => ?_)
    refine J_icmp_ge (pc := 31) 157 dX12_locked_31 (by decide) h (fun h => ?_) (fun h => ?_)
    · refine J_iinc (pc := 157) (L' := [(2, .int (v2 + (1 : Int32))), (0, .ref (e_a E o 0)), (1, .int v1), (3, .int v3), (4, .int v4)]) 2 (v2 + (1 : Int32)) dX12_locked_157 rfl (by rfl) (by decide) rfl ?_
      refine J_goto (pc := 160) 4 dX12_locked_160 (by decide) ?_
      refine J_sub (L' := [(0, .ref (e_a E o 0)), (1, .int v1), (2, .int (v2 + (1 : Int32)))]) [1, 2, 0] rfl ?_
      exact hk4 v1 (v2 + (1 : Int32)) σ h
    · refine J_aload_n (pc := 34) 0 dX12_locked_34 rfl ?_
      refine J_getA (pc := 35) dX12_locked_35 ho flX12_7 rfl ?_
      refine J_bipush (pc := 38) (70 : Int32) dX12_locked_38 (by decide) ?_
      refine J_iconst (pc := 40) (5 : Int32) dX12_locked_40 (by decide) ?_
      refine J_iload (pc := 41) 4 dX12_locked_41 rfl ?_
      refine J_imul (pc := 43) dX12_locked_43 ?_
      refine J_iadd (pc := 44) dX12_locked_44 ?_
      refine J_iconst (pc := 45) (0 : Int32) dX12_locked_45 (by decide) ?_
      refine J_iadd (pc := 46) dX12_locked_46 ?_
      refine J_iald (pc := 47) dX12_locked_47 ho ha12_0 h (fun x9 h => ?_)
      refine J_istore (pc := 48) (L' := [(5, .int x9), (0, .ref (e_a E o 0)), (1, .int v1), (2, .int v2), (3, .int v3), (4, .int v4)]) dX12_locked_48 (by decide) rfl ?_
      refine J_aload_n (pc := 50) 1 dX12_locked_50 rfl ?_
      refine J_getA (pc := 51) dX12_locked_51 ho flX12_7 rfl ?_
      refine J_bipush (pc := 54) (70 : Int32) dX12_locked_54 (by decide) ?_
      refine J_iconst (pc := 56) (5 : Int32) dX12_locked_56 (by decide) ?_
      refine J_iload (pc := 57) 5 dX12_locked_57 rfl ?_
      refine J_imul (pc := 59) dX12_locked_59 ?_
      refine J_iadd (pc := 60) dX12_locked_60 ?_
      refine J_iconst (pc := 61) (1 : Int32) dX12_locked_61 (by decide) ?_
      refine J_iadd (pc := 62) dX12_locked_62 ?_
      refine J_iald (pc := 63) dX12_locked_63 ho ha12_0 h (fun x10 h => ?_)
      refine J_istore (pc := 64) (L' := [(6, .int x10), (5, .int x9), (0, .ref (e_a E o 0)), (1, .int v1), (2, .int v2), (3, .int v3), (4, .int v4)]) dX12_locked_64 (by decide) rfl ?_
      refine J_aload_n (pc := 66) 2 dX12_locked_66 rfl ?_
      refine J_getA (pc := 67) dX12_locked_67 ho flX12_7 rfl ?_
      refine J_iconst (pc := 70) (4 : Int32) dX12_locked_70 (by decide) ?_
      refine J_iald (pc := 71) dX12_locked_71 ho ha12_0 h (fun x11 h => ?_)
      refine J_iload (pc := 72) 6 dX12_locked_72 rfl ?_
      refine J_ishr (pc := 74) dX12_locked_74 ?_
      refine J_iconst (pc := 75) (1 : Int32) dX12_locked_75 (by decide) ?_
      refine J_iand (pc := 76) dX12_locked_76 ?_
      refine J_iconst (pc := 77) (1 : Int32) dX12_locked_77 (by decide) ?_
      refine J_icmp_eq (pc := 78) 151 dX12_locked_78 (by decide) h (fun h => ?_) (fun h => ?_)
      · refine J_iinc (pc := 151) (L' := [(4, .int (v4 + (1 : Int32))), (6, .int x10), (5, .int x9), (0, .ref (e_a E o 0)), (1, .int v1), (2, .int v2), (3, .int v3)]) 6 (v4 + (1 : Int32)) dX12_locked_151 rfl (by rfl) (by decide) rfl ?_
        refine J_goto (pc := 154) 23 dX12_locked_154 (by decide) ?_
        refine J_sub (L' := [(0, .ref (e_a E o 0)), (1, .int v1), (2, .int v2), (3, .int v3), (4, .int (v4 + (1 : Int32)))]) [3, 4, 5, 6, 0] rfl ?_
        exact ih v1 v2 v3 (v4 + (1 : Int32)) σ h
      · refine J_iload_n (pc := 81) 5 dX12_locked_81 rfl ?_
        refine J_iload (pc := 82) 1 dX12_locked_82 rfl ?_
        refine J_ishr (pc := 84) dX12_locked_84 ?_
        refine J_iconst (pc := 85) (1 : Int32) dX12_locked_85 (by decide) ?_
        refine J_iand (pc := 86) dX12_locked_86 ?_
        refine J_if_ne (pc := 87) 93 dX12_locked_87 (by decide) h (fun h => ?_) (fun h => ?_)
        · refine J_aload_n (pc := 93) 2 dX12_locked_93 rfl ?_
          refine J_getA (pc := 94) dX12_locked_94 ho flX12_56 rfl ?_
          refine J_iload (pc := 97) 1 dX12_locked_97 rfl ?_
          refine J_iald (pc := 99) dX12_locked_99 ho ha12_11 h (fun x12 h => ?_)
          refine J_aload_n (pc := 100) 2 dX12_locked_100 rfl ?_
          refine J_getA (pc := 101) dX12_locked_101 ho flX12_56 rfl ?_
          refine J_iload (pc := 104) 0 dX12_locked_104 rfl ?_
          refine J_iald (pc := 106) dX12_locked_106 ho ha12_11 h (fun x13 h => ?_)
          refine J_icmp_ne (pc := 107) 114 dX12_locked_107 (by decide) h (fun h => ?_) (fun h => ?_)
          · refine J_iconst (pc := 114) (0 : Int32) dX12_locked_114 (by decide) ?_
            refine J_sub (L' := [(0, .ref (e_a E o 0)), (1, .int v1), (2, .int v2), (3, .int v3), (4, .int v4)]) [2, 3, 4, 5, 6] rfl ?_
            exact tX12_locked_115 l E o ho k4 (fX12_locked_23 o k4 n) hk4 ih v1 v2 v3 v4 (0 : Int32) σ h
          · refine J_iconst (pc := 110) (1 : Int32) dX12_locked_110 (by decide) ?_
            refine J_goto (pc := 111) 115 dX12_locked_111 (by decide) ?_
            refine J_sub (L' := [(0, .ref (e_a E o 0)), (1, .int v1), (2, .int v2), (3, .int v3), (4, .int v4)]) [2, 3, 4, 5, 6] rfl ?_
            exact tX12_locked_115 l E o ho k4 (fX12_locked_23 o k4 n) hk4 ih v1 v2 v3 v4 (1 : Int32) σ h
        · refine J_goto (pc := 90) 151 dX12_locked_90 (by decide) ?_
          refine J_iinc (pc := 151) (L' := [(4, .int (v4 + (1 : Int32))), (6, .int x10), (5, .int x9), (0, .ref (e_a E o 0)), (1, .int v1), (2, .int v2), (3, .int v3)]) 6 (v4 + (1 : Int32)) dX12_locked_151 rfl (by rfl) (by decide) rfl ?_
          refine J_goto (pc := 154) 23 dX12_locked_154 (by decide) ?_
          refine J_sub (L' := [(0, .ref (e_a E o 0)), (1, .int v1), (2, .int v2), (3, .int v3), (4, .int (v4 + (1 : Int32)))]) [3, 4, 5, 6, 0] rfl ?_
          exact ih v1 v2 v3 (v4 + (1 : Int32)) σ h
def fX12_locked_4 (o : Nat) : Nat → Int32 → Int32 → Mm → Option (Int32 × Mm)
  | 0, _, _, _ => none
  | n + 1, v1, v2, σ => g_ar σ o 0 2950 (1 : Int32) (fun x1 => if x1 ≤ v2 then (c_I (fX12_gives o v1 σ) (fun x4 σ2 => some (x4, σ2))) else (c_I (fX12_joinedWith o v2 σ) (fun x7 σ5 => fX12_locked_23 o (fX12_locked_4 o n) FU v1 v2 x7 (0 : Int32) σ5)))
set_option maxRecDepth 100000 in
set_option maxHeartbeats 4000000 in
theorem tX12_locked_4 (l : Launch) (E : EV) {xr : Int32} {τ : Mm} (o : Nat) (ho : KD o = 12) : ∀ (n : Nat) (v1 : Int32) (v2 : Int32) (σ : Mm), fX12_locked_4 o n v1 v2 σ = some (xr, τ) → Jd l E mX12_locked 2 (some (.int xr), τ) σ 4 [(0, .ref (e_a E o 0)), (1, .int v1), (2, .int v2)] [] := by
  intro n
  induction n with
  | zero => intro v1 v2 σ h; rw [fX12_locked_4] at h; cases h
  | succ n ih =>
    intro v1 v2 σ h
    rw [fX12_locked_4] at h
    refine J_iload_n (pc := 4) 2 dX12_locked_4 rfl ?_
    refine J_aload_n (pc := 5) 0 dX12_locked_5 rfl ?_
    refine J_getA (pc := 6) dX12_locked_6 ho flX12_7 rfl ?_
    refine J_iconst (pc := 9) (1 : Int32) dX12_locked_9 (by decide) ?_
    refine J_iald (pc := 10) dX12_locked_10 ho ha12_0 h (fun x1 h => ?_)
    refine J_icmp_ge (pc := 11) 163 dX12_locked_11 (by decide) h (fun h => ?_) (fun h => ?_)
    · refine J_aload_n (pc := 163) 0 dX12_locked_163 rfl ?_
      refine J_iload_n (pc := 164) 1 dX12_locked_164 rfl ?_
      obtain ⟨x4, σ2, hc3, h⟩ := cI_t h
      refine J_cVi (pc := 165) (ctX12_gives l E o v1 ho σ hc3) dX12_locked_165 mlX12_87 mvX12_gives ho rfl (by decide) rfl (Nat.le_of_ble_eq_true rfl) ?_
      cases h
      exact J_iret (pc := 168) dX12_locked_168 rfl rfl
    · refine J_aload_n (pc := 14) 0 dX12_locked_14 rfl ?_
      refine J_iload_n (pc := 15) 2 dX12_locked_15 rfl ?_
      obtain ⟨x7, σ5, hc6, h⟩ := cI_t h
      refine J_cVi (pc := 16) (ctX12_joinedWith l E o v2 ho σ hc6) dX12_locked_16 mlX12_348 mvX12_joinedWith ho rfl (by decide) rfl (Nat.le_of_ble_eq_true rfl) ?_
      refine J_istore_n (pc := 19) (L' := [(3, .int x7), (0, .ref (e_a E o 0)), (1, .int v1), (2, .int v2)]) dX12_locked_19 (by decide) rfl ?_
      refine J_iconst (pc := 20) (0 : Int32) dX12_locked_20 (by decide) ?_
      refine J_istore (pc := 21) (L' := [(4, .int (0 : Int32)), (3, .int x7), (0, .ref (e_a E o 0)), (1, .int v1), (2, .int v2)]) dX12_locked_21 (by decide) rfl ?_
      refine J_sub (L' := [(0, .ref (e_a E o 0)), (1, .int v1), (2, .int v2), (3, .int x7), (4, .int (0 : Int32))]) [2, 3, 4, 1, 0] rfl ?_
      exact tX12_locked_23 l E o ho (fX12_locked_4 o n) ih FU v1 v2 x7 (0 : Int32) σ5 h
def fX12_locked (o : Nat) (σ : Mm) : Option (Int32 × Mm) := fX12_locked_4 o FU (0 : Int32) (0 : Int32) σ
set_option maxRecDepth 100000 in
set_option maxHeartbeats 4000000 in
theorem ctX12_locked (l : Launch) (E : EV) (o : Nat) (ho : KD o = 12) (σ : Mm) {xr : Int32} {τ : Mm} (h : fX12_locked o σ = some (xr, τ)) : Ct l E mX12_locked 2 [.ref (e_a E o 0)] σ (some (.int xr), τ) := by
  refine Ct.of (by decide +kernel) (Nat.le_of_ble_eq_true rfl) ?_
  show Jd l E mX12_locked 2 (some (.int xr), τ) σ 0 [(0, .ref (e_a E o 0))] []
  unfold fX12_locked at h
  refine J_iconst (pc := 0) (0 : Int32) dX12_locked_0 (by decide) ?_
  refine J_istore_n (pc := 1) (L' := [(1, .int (0 : Int32)), (0, .ref (e_a E o 0))]) dX12_locked_1 (by decide) rfl ?_
  refine J_iconst (pc := 2) (0 : Int32) dX12_locked_2 (by decide) ?_
  refine J_istore_n (pc := 3) (L' := [(2, .int (0 : Int32)), (1, .int (0 : Int32)), (0, .ref (e_a E o 0))]) dX12_locked_3 (by decide) rfl ?_
  refine J_sub (L' := [(0, .ref (e_a E o 0)), (1, .int (0 : Int32)), (2, .int (0 : Int32))]) [2, 1, 0] rfl ?_
  exact tX12_locked_4 l E o ho FU (0 : Int32) (0 : Int32) σ h
def fX12_common_95 (o : Nat) (a1 : Int32) (k28 : Int64 → Int32 → Mm → Option (Int64 × Mm)) (v2 : Int64) (v4 : Int32) (v5 : Int64) (σ : Mm) : Option (Int64 × Mm) := n_zl v5 (g_ar σ o 0 2950 ((20 : Int32) + ((6 : Int32) * v4)) (fun x12 => k28 ((v2 / v5) * x12.toInt64) (v4 + (1 : Int32)) σ))
set_option maxRecDepth 100000 in
set_option maxHeartbeats 4000000 in
theorem tX12_common_95 (l : Launch) (E : EV) {xr : Int64} {τ : Mm} (o : Nat) (a1 : Int32) (ho : KD o = 12) (k28 : Int64 → Int32 → Mm → Option (Int64 × Mm)) (hk28 : ∀ (v2 : Int64) (v4 : Int32) (σ : Mm), k28 v2 v4 σ = some (xr, τ) → Jd l E mX12_common 1 (some (.long xr), τ) σ 28 [(0, .ref (e_a E o 0)), (1, .int a1), (2, .long v2), (4, .int v4)] []) (v2 : Int64) (v4 : Int32) (v5 : Int64) (σ : Mm) (h : fX12_common_95 o a1 k28 v2 v4 v5 σ = some (xr, τ)) : Jd l E mX12_common 1 (some (.long xr), τ) σ 95 [(0, .ref (e_a E o 0)), (1, .int a1), (2, .long v2), (4, .int v4), (5, .long v5)] [] := by
  unfold fX12_common_95 at h
  refine J_lload_n (pc := 95) 2 dX12_common_95 rfl ?_
  refine J_lload (pc := 96) 4 dX12_common_96 rfl ?_
  obtain ⟨hz13, h⟩ := nzl_t h
  refine J_ldiv (pc := 98) dX12_common_98 hz13 ?_
  refine J_aload_n (pc := 99) 0 dX12_common_99 rfl ?_
  refine J_getA (pc := 100) dX12_common_100 ho flX12_7 rfl ?_
  refine J_bipush (pc := 103) (20 : Int32) dX12_common_103 (by decide) ?_
  refine J_bipush (pc := 105) (6 : Int32) dX12_common_105 (by decide) ?_
  refine J_iload (pc := 107) 3 dX12_common_107 rfl ?_
  refine J_imul (pc := 109) dX12_common_109 ?_
  refine J_iadd (pc := 110) dX12_common_110 ?_
  refine J_iald (pc := 111) dX12_common_111 ho ha12_0 h (fun x12 h => ?_)
  refine J_i2l (pc := 112) dX12_common_112 ?_
  refine J_lmul (pc := 113) dX12_common_113 ?_
  refine J_lstore_n (pc := 114) (L' := [(2, .long ((v2 / v5) * x12.toInt64)), (0, .ref (e_a E o 0)), (1, .int a1), (4, .int v4), (5, .long v5)]) dX12_common_114 (by decide) rfl ?_
  refine J_iinc (pc := 115) (L' := [(4, .int (v4 + (1 : Int32))), (2, .long ((v2 / v5) * x12.toInt64)), (0, .ref (e_a E o 0)), (1, .int a1), (5, .long v5)]) 3 (v4 + (1 : Int32)) dX12_common_115 rfl (by rfl) (by decide) rfl ?_
  refine J_goto (pc := 118) 28 dX12_common_118 (by decide) ?_
  refine J_sub (L' := [(0, .ref (e_a E o 0)), (1, .int a1), (2, .long ((v2 / v5) * x12.toInt64)), (4, .int (v4 + (1 : Int32)))]) [2, 3, 1, 0] rfl ?_
  exact hk28 ((v2 / v5) * x12.toInt64) (v4 + (1 : Int32)) σ h
def fX12_common_70 (o : Nat) (a1 : Int32) (k28 : Int64 → Int32 → Mm → Option (Int64 × Mm)) : Nat → Int64 → Int32 → Int64 → Int64 → Mm → Option (Int64 × Mm)
  | 0, _, _, _, _, _ => none
  | n + 1, v2, v4, v5, v7, σ => if (lg_cmp v7 (0 : Int64)) = 0 then (fX12_common_95 o a1 k28 v2 v4 v5 σ) else (n_zl v7 ((fX12_common_70 o a1 k28 n) v2 v4 v7 (v5 - v5 / v7 * v7) σ))
set_option maxRecDepth 100000 in
set_option maxHeartbeats 4000000 in
theorem tX12_common_70 (l : Launch) (E : EV) {xr : Int64} {τ : Mm} (o : Nat) (a1 : Int32) (ho : KD o = 12) (k28 : Int64 → Int32 → Mm → Option (Int64 × Mm)) (hk28 : ∀ (v2 : Int64) (v4 : Int32) (σ : Mm), k28 v2 v4 σ = some (xr, τ) → Jd l E mX12_common 1 (some (.long xr), τ) σ 28 [(0, .ref (e_a E o 0)), (1, .int a1), (2, .long v2), (4, .int v4)] []) : ∀ (n : Nat) (v2 : Int64) (v4 : Int32) (v5 : Int64) (v7 : Int64) (σ : Mm), fX12_common_70 o a1 k28 n v2 v4 v5 v7 σ = some (xr, τ) → Jd l E mX12_common 1 (some (.long xr), τ) σ 70 [(0, .ref (e_a E o 0)), (1, .int a1), (2, .long v2), (4, .int v4), (5, .long v5), (7, .long v7)] [] := by
  intro n
  induction n with
  | zero => intro v2 v4 v5 v7 σ h; rw [fX12_common_70] at h; cases h
  | succ n ih =>
    intro v2 v4 v5 v7 σ h
    rw [fX12_common_70] at h
    refine J_lload (pc := 70) 5 dX12_common_70 rfl ?_
    refine J_lconst (pc := 72) (0 : Int64) dX12_common_72 (by decide) ?_
    refine J_lcmp (pc := 73) dX12_common_73 ?_
    refine J_if_eq (pc := 74) 95 dX12_common_74 (by decide) h (fun h => ?_) (fun h => ?_)
    · refine J_sub (L' := [(0, .ref (e_a E o 0)), (1, .int a1), (2, .long v2), (4, .int v4), (5, .long v5)]) [0, 1, 2, 3, 4] rfl ?_
      exact tX12_common_95 l E o a1 ho k28 hk28 v2 v4 v5 σ h
    · refine J_lload (pc := 77) 4 dX12_common_77 rfl ?_
      refine J_lload (pc := 79) 5 dX12_common_79 rfl ?_
      obtain ⟨hz11, h⟩ := nzl_t h
      refine J_lrem (pc := 81) dX12_common_81 hz11 ?_
      refine J_lstore (pc := 82) (L' := [(9, .long (v5 - v5 / v7 * v7)), (0, .ref (e_a E o 0)), (1, .int a1), (2, .long v2), (4, .int v4), (5, .long v5), (7, .long v7)]) dX12_common_82 (by decide) rfl ?_
      refine J_lload (pc := 84) 6 dX12_common_84 rfl ?_
      refine J_lstore (pc := 86) (L' := [(5, .long v7), (9, .long (v5 - v5 / v7 * v7)), (0, .ref (e_a E o 0)), (1, .int a1), (2, .long v2), (4, .int v4), (7, .long v7)]) dX12_common_86 (by decide) rfl ?_
      refine J_lload (pc := 88) 1 dX12_common_88 rfl ?_
      refine J_lstore (pc := 90) (L' := [(7, .long (v5 - v5 / v7 * v7)), (5, .long v7), (9, .long (v5 - v5 / v7 * v7)), (0, .ref (e_a E o 0)), (1, .int a1), (2, .long v2), (4, .int v4)]) dX12_common_90 (by decide) rfl ?_
      refine J_goto (pc := 92) 70 dX12_common_92 (by decide) ?_
      refine J_sub (L' := [(0, .ref (e_a E o 0)), (1, .int a1), (2, .long v2), (4, .int v4), (5, .long v7), (7, .long (v5 - v5 / v7 * v7))]) [3, 4, 5, 6, 1, 0] rfl ?_
      exact ih v2 v4 v7 (v5 - v5 / v7 * v7) σ h
def fX12_common_28 (o : Nat) (a1 : Int32) : Nat → Int64 → Int32 → Mm → Option (Int64 × Mm)
  | 0, _, _, _ => none
  | n + 1, v2, v4, σ => g_ar σ o 0 2950 (1 : Int32) (fun x8 => if x8 ≤ v4 then (p_sc σ o 2 (0 : Int32) (fun σ9 => some (v2, σ9))) else (if ((a1 >>> (v4 &&& 31)) &&& (1 : Int32)) = 0 then ((fX12_common_28 o a1 n) v2 (v4 + (1 : Int32)) σ) else (g_ar σ o 0 2950 ((20 : Int32) + ((6 : Int32) * v4)) (fun x10 => fX12_common_70 o a1 (fX12_common_28 o a1 n) FU v2 v4 v2 x10.toInt64 σ))))
set_option maxRecDepth 100000 in
set_option maxHeartbeats 4000000 in
theorem tX12_common_28 (l : Launch) (E : EV) {xr : Int64} {τ : Mm} (o : Nat) (a1 : Int32) (ho : KD o = 12) : ∀ (n : Nat) (v2 : Int64) (v4 : Int32) (σ : Mm), fX12_common_28 o a1 n v2 v4 σ = some (xr, τ) → Jd l E mX12_common 1 (some (.long xr), τ) σ 28 [(0, .ref (e_a E o 0)), (1, .int a1), (2, .long v2), (4, .int v4)] [] := by
  intro n
  induction n with
  | zero => intro v2 v4 σ h; rw [fX12_common_28] at h; cases h
  | succ n ih =>
    intro v2 v4 σ h
    rw [fX12_common_28] at h
    refine J_iload (pc := 28) 3 dX12_common_28 rfl ?_
    refine J_aload_n (pc := 30) 0 dX12_common_30 rfl ?_
    refine J_getA (pc := 31) dX12_common_31 ho flX12_7 rfl ?_
    refine J_iconst (pc := 34) (1 : Int32) dX12_common_34 (by decide) ?_
    refine J_iald (pc := 35) dX12_common_35 ho ha12_0 h (fun x8 h => ?_)
    refine J_icmp_ge (pc := 36) 121 dX12_common_36 (by decide) h (fun h => ?_) (fun h => ?_)
    · refine J_aload_n (pc := 121) 0 dX12_common_121 rfl ?_
      refine J_iconst (pc := 122) (0 : Int32) dX12_common_122 (by decide) ?_
      refine J_putI (pc := 123) dX12_common_123 ho flX12_77 rfl h (fun σ9 h => ?_)
      refine J_lload_n (pc := 126) 2 dX12_common_126 rfl ?_
      cases h
      exact J_lret (pc := 127) dX12_common_127 rfl
    · refine J_iload_n (pc := 39) 1 dX12_common_39 rfl ?_
      refine J_iload (pc := 40) 3 dX12_common_40 rfl ?_
      refine J_ishr (pc := 42) dX12_common_42 ?_
      refine J_iconst (pc := 43) (1 : Int32) dX12_common_43 (by decide) ?_
      refine J_iand (pc := 44) dX12_common_44 ?_
      refine J_if_ne (pc := 45) 51 dX12_common_45 (by decide) h (fun h => ?_) (fun h => ?_)
      · refine J_lload_n (pc := 51) 2 dX12_common_51 rfl ?_
        refine J_lstore (pc := 52) (L' := [(5, .long v2), (0, .ref (e_a E o 0)), (1, .int a1), (2, .long v2), (4, .int v4)]) dX12_common_52 (by decide) rfl ?_
        refine J_aload_n (pc := 54) 1 dX12_common_54 rfl ?_
        refine J_getA (pc := 55) dX12_common_55 ho flX12_7 rfl ?_
        refine J_bipush (pc := 58) (20 : Int32) dX12_common_58 (by decide) ?_
        refine J_bipush (pc := 60) (6 : Int32) dX12_common_60 (by decide) ?_
        refine J_iload (pc := 62) 4 dX12_common_62 rfl ?_
        refine J_imul (pc := 64) dX12_common_64 ?_
        refine J_iadd (pc := 65) dX12_common_65 ?_
        refine J_iald (pc := 66) dX12_common_66 ho ha12_0 h (fun x10 h => ?_)
        refine J_i2l (pc := 67) dX12_common_67 ?_
        refine J_lstore (pc := 68) (L' := [(7, .long x10.toInt64), (5, .long v2), (0, .ref (e_a E o 0)), (1, .int a1), (2, .long v2), (4, .int v4)]) dX12_common_68 (by decide) rfl ?_
        refine J_sub (L' := [(0, .ref (e_a E o 0)), (1, .int a1), (2, .long v2), (4, .int v4), (5, .long v2), (7, .long x10.toInt64)]) [2, 3, 4, 5, 1, 0] rfl ?_
        exact tX12_common_70 l E o a1 ho (fX12_common_28 o a1 n) ih FU v2 v4 v2 x10.toInt64 σ h
      · refine J_goto (pc := 48) 115 dX12_common_48 (by decide) ?_
        refine J_iinc (pc := 115) (L' := [(4, .int (v4 + (1 : Int32))), (0, .ref (e_a E o 0)), (1, .int a1), (2, .long v2)]) 3 (v4 + (1 : Int32)) dX12_common_115 rfl (by rfl) (by decide) rfl ?_
        refine J_goto (pc := 118) 28 dX12_common_118 (by decide) ?_
        refine J_sub (L' := [(0, .ref (e_a E o 0)), (1, .int a1), (2, .long v2), (4, .int (v4 + (1 : Int32)))]) [1, 2, 3, 0] rfl ?_
        exact ih v2 (v4 + (1 : Int32)) σ h
def fX12_common (o : Nat) (a1 : Int32) (σ : Mm) : Option (Int64 × Mm) := if a1 ≤ 0 then (c_I (fX12_refuse o (1 : Int32) σ) (fun x3 σ1 => some (x3.toInt64, σ1))) else (g_ar σ o 0 2950 (1 : Int32) (fun x4 => if a1 < ((1 : Int32) <<< (x4 &&& 31)) then (fX12_common_28 o a1 FU (1 : Int64) (0 : Int32) σ) else (c_I (fX12_refuse o (1 : Int32) σ) (fun x7 σ5 => some (x7.toInt64, σ5)))))
set_option maxRecDepth 100000 in
set_option maxHeartbeats 4000000 in
theorem ctX12_common (l : Launch) (E : EV) (o : Nat) (a1 : Int32) (ho : KD o = 12) (σ : Mm) {xr : Int64} {τ : Mm} (h : fX12_common o a1 σ = some (xr, τ)) : Ct l E mX12_common 1 [.ref (e_a E o 0), .int a1] σ (some (.long xr), τ) := by
  refine Ct.of (by decide +kernel) (Nat.le_of_ble_eq_true rfl) ?_
  show Jd l E mX12_common 1 (some (.long xr), τ) σ 0 [(0, .ref (e_a E o 0)), (1, .int a1)] []
  unfold fX12_common at h
  refine J_iload_n (pc := 0) 1 dX12_common_0 rfl ?_
  refine J_if_le (pc := 1) 16 dX12_common_1 (by decide) h (fun h => ?_) (fun h => ?_)
  · refine J_aload_n (pc := 16) 0 dX12_common_16 rfl ?_
    refine J_iconst (pc := 17) (1 : Int32) dX12_common_17 (by decide) ?_
    obtain ⟨x3, σ1, hc2, h⟩ := cI_t h
    refine J_cVi (pc := 18) (ctX12_refuse l E o (1 : Int32) ho σ hc2) dX12_common_18 mlX12_83 mvX12_refuse ho rfl (by decide) rfl (Nat.le_of_ble_eq_true rfl) ?_
    refine J_i2l (pc := 21) dX12_common_21 ?_
    cases h
    exact J_lret (pc := 22) dX12_common_22 rfl
  · refine J_iload_n (pc := 4) 1 dX12_common_4 rfl ?_
    refine J_iconst (pc := 5) (1 : Int32) dX12_common_5 (by decide) ?_
    refine J_aload_n (pc := 6) 0 dX12_common_6 rfl ?_
    refine J_getA (pc := 7) dX12_common_7 ho flX12_7 rfl ?_
    refine J_iconst (pc := 10) (1 : Int32) dX12_common_10 (by decide) ?_
    refine J_iald (pc := 11) dX12_common_11 ho ha12_0 h (fun x4 h => ?_)
    refine J_ishl (pc := 12) dX12_common_12 ?_
    refine J_icmp_lt (pc := 13) 23 dX12_common_13 (by decide) h (fun h => ?_) (fun h => ?_)
    · refine J_lconst (pc := 23) (1 : Int64) dX12_common_23 (by decide) ?_
      refine J_lstore_n (pc := 24) (L' := [(2, .long (1 : Int64)), (0, .ref (e_a E o 0)), (1, .int a1)]) dX12_common_24 (by decide) rfl ?_
      refine J_iconst (pc := 25) (0 : Int32) dX12_common_25 (by decide) ?_
      refine J_istore (pc := 26) (L' := [(4, .int (0 : Int32)), (2, .long (1 : Int64)), (0, .ref (e_a E o 0)), (1, .int a1)]) dX12_common_26 (by decide) rfl ?_
      refine J_sub (L' := [(0, .ref (e_a E o 0)), (1, .int a1), (2, .long (1 : Int64)), (4, .int (0 : Int32))]) [2, 3, 1, 0] rfl ?_
      exact tX12_common_28 l E o a1 ho FU (1 : Int64) (0 : Int32) σ h
    · refine J_aload_n (pc := 16) 0 dX12_common_16 rfl ?_
      refine J_iconst (pc := 17) (1 : Int32) dX12_common_17 (by decide) ?_
      obtain ⟨x7, σ5, hc6, h⟩ := cI_t h
      refine J_cVi (pc := 18) (ctX12_refuse l E o (1 : Int32) ho σ hc6) dX12_common_18 mlX12_83 mvX12_refuse ho rfl (by decide) rfl (Nat.le_of_ble_eq_true rfl) ?_
      refine J_i2l (pc := 21) dX12_common_21 ?_
      cases h
      exact J_lret (pc := 22) dX12_common_22 rfl
def fX12_sway_179 (o : Nat) (a1 : Int32) (a2 : Int32) (k56 : Int32 → Mm → Option (Int32 × Mm)) (k65 : Int32 → Int32 → Mm → Option (Int32 × Mm)) (v3 : Int32) (v4 : Int32) (v5 : Int32) (v6 : Int32) (v7 : Int32) (σ : Mm) : Option (Int32 × Mm) := g_ar σ o 12 8 v6 (fun x32 => g_ar σ o 12 8 v5 (fun x33 => if x33 ≤ (x32 + v7) then (k65 v3 (v4 + (1 : Int32)) σ) else (g_ar σ o 12 8 v6 (fun x34 => s_ar σ o 12 8 v5 (x34 + v7) (fun σ35 => k65 v3 (v4 + (1 : Int32)) σ35)))))
set_option maxRecDepth 100000 in
set_option maxHeartbeats 4000000 in
theorem tX12_sway_179 (l : Launch) (E : EV) {xr : Int32} {τ : Mm} (o : Nat) (a1 : Int32) (a2 : Int32) (ho : KD o = 12) (k56 : Int32 → Mm → Option (Int32 × Mm)) (k65 : Int32 → Int32 → Mm → Option (Int32 × Mm)) (hk56 : ∀ (v3 : Int32) (σ : Mm), k56 v3 σ = some (xr, τ) → Jd l E mX12_sway 1 (some (.int xr), τ) σ 56 [(0, .ref (e_a E o 0)), (2, .int a2), (3, .int v3)] []) (hk65 : ∀ (v3 : Int32) (v4 : Int32) (σ : Mm), k65 v3 v4 σ = some (xr, τ) → Jd l E mX12_sway 1 (some (.int xr), τ) σ 65 [(0, .ref (e_a E o 0)), (2, .int a2), (3, .int v3), (4, .int v4)] []) (v3 : Int32) (v4 : Int32) (v5 : Int32) (v6 : Int32) (v7 : Int32) (σ : Mm) (h : fX12_sway_179 o a1 a2 k56 k65 v3 v4 v5 v6 v7 σ = some (xr, τ)) : Jd l E mX12_sway 1 (some (.int xr), τ) σ 179 [(0, .ref (e_a E o 0)), (2, .int a2), (3, .int v3), (4, .int v4), (5, .int v5), (6, .int v6), (7, .int v7)] [] := by
  unfold fX12_sway_179 at h
  refine J_aload_n (pc := 179) 0 dX12_sway_179 rfl ?_
  refine J_getA (pc := 180) dX12_sway_180 ho flX12_59 rfl ?_
  refine J_iload (pc := 183) 5 dX12_sway_183 rfl ?_
  refine J_iald (pc := 185) dX12_sway_185 ho ha12_12 h (fun x32 h => ?_)
  refine J_iload (pc := 186) 6 dX12_sway_186 rfl ?_
  refine J_iadd (pc := 188) dX12_sway_188 ?_
  refine J_aload_n (pc := 189) 0 dX12_sway_189 rfl ?_
  refine J_getA (pc := 190) dX12_sway_190 ho flX12_59 rfl ?_
  refine J_iload (pc := 193) 4 dX12_sway_193 rfl ?_
  refine J_iald (pc := 195) dX12_sway_195 ho ha12_12 h (fun x33 h => ?_)
  refine J_icmp_ge (pc := 196) 216 dX12_sway_196 (by decide) h (fun h => ?_) (fun h => ?_)
  · refine J_iinc (pc := 216) (L' := [(4, .int (v4 + (1 : Int32))), (0, .ref (e_a E o 0)), (2, .int a2), (3, .int v3), (5, .int v5), (6, .int v6), (7, .int v7)]) 3 (v4 + (1 : Int32)) dX12_sway_216 rfl (by rfl) (by decide) rfl ?_
    refine J_goto (pc := 219) 65 dX12_sway_219 (by decide) ?_
    refine J_sub (L' := [(0, .ref (e_a E o 0)), (2, .int a2), (3, .int v3), (4, .int (v4 + (1 : Int32)))]) [1, 2, 3, 0] rfl ?_
    exact hk65 v3 (v4 + (1 : Int32)) σ h
  · refine J_aload_n (pc := 199) 0 dX12_sway_199 rfl ?_
    refine J_getA (pc := 200) dX12_sway_200 ho flX12_59 rfl ?_
    refine J_iload (pc := 203) 4 dX12_sway_203 rfl ?_
    refine J_aload_n (pc := 205) 0 dX12_sway_205 rfl ?_
    refine J_getA (pc := 206) dX12_sway_206 ho flX12_59 rfl ?_
    refine J_iload (pc := 209) 5 dX12_sway_209 rfl ?_
    refine J_iald (pc := 211) dX12_sway_211 ho ha12_12 h (fun x34 h => ?_)
    refine J_iload (pc := 212) 6 dX12_sway_212 rfl ?_
    refine J_iadd (pc := 214) dX12_sway_214 ?_
    refine J_iast (pc := 215) dX12_sway_215 ho ha12_12 h (fun σ35 h => ?_)
    refine J_iinc (pc := 216) (L' := [(4, .int (v4 + (1 : Int32))), (0, .ref (e_a E o 0)), (2, .int a2), (3, .int v3), (5, .int v5), (6, .int v6), (7, .int v7)]) 3 (v4 + (1 : Int32)) dX12_sway_216 rfl (by rfl) (by decide) rfl ?_
    refine J_goto (pc := 219) 65 dX12_sway_219 (by decide) ?_
    refine J_sub (L' := [(0, .ref (e_a E o 0)), (2, .int a2), (3, .int v3), (4, .int (v4 + (1 : Int32)))]) [1, 2, 3, 0] rfl ?_
    exact hk65 v3 (v4 + (1 : Int32)) σ35 h
def fX12_sway_65 (o : Nat) (a1 : Int32) (a2 : Int32) (k56 : Int32 → Mm → Option (Int32 × Mm)) : Nat → Int32 → Int32 → Mm → Option (Int32 × Mm)
  | 0, _, _, _ => none
  | n + 1, v3, v4, σ => g_ar σ o 0 2950 (2 : Int32) (fun x23 => if x23 ≤ v4 then (k56 (v3 + (1 : Int32)) σ) else (g_ar σ o 0 2950 (4 : Int32) (fun x24 => if ((x24 >>> (v4 &&& 31)) &&& (1 : Int32)) = (1 : Int32) then ((fX12_sway_65 o a1 a2 k56 n) v3 (v4 + (1 : Int32)) σ) else (g_ar σ o 0 2950 (((70 : Int32) + ((5 : Int32) * v4)) + (0 : Int32)) (fun x25 => g_ar σ o 0 2950 (((70 : Int32) + ((5 : Int32) * v4)) + (1 : Int32)) (fun x26 => g_ar σ o 0 2950 (((70 : Int32) + ((5 : Int32) * v4)) + (3 : Int32)) (fun x27 => g_ar σ o 12 8 x25 (fun x28 => g_ar σ o 12 8 x26 (fun x29 => if x29 ≤ (x28 + x27) then (fX12_sway_179 o a1 a2 k56 (fX12_sway_65 o a1 a2 k56 n) v3 v4 x25 x26 x27 σ) else (g_ar σ o 12 8 x25 (fun x30 => s_ar σ o 12 8 x26 (x30 + x27) (fun σ31 => fX12_sway_179 o a1 a2 k56 (fX12_sway_65 o a1 a2 k56 n) v3 v4 x25 x26 x27 σ31))))))))))))
set_option maxRecDepth 100000 in
set_option maxHeartbeats 4000000 in
theorem tX12_sway_65 (l : Launch) (E : EV) {xr : Int32} {τ : Mm} (o : Nat) (a1 : Int32) (a2 : Int32) (ho : KD o = 12) (k56 : Int32 → Mm → Option (Int32 × Mm)) (hk56 : ∀ (v3 : Int32) (σ : Mm), k56 v3 σ = some (xr, τ) → Jd l E mX12_sway 1 (some (.int xr), τ) σ 56 [(0, .ref (e_a E o 0)), (2, .int a2), (3, .int v3)] []) : ∀ (n : Nat) (v3 : Int32) (v4 : Int32) (σ : Mm), fX12_sway_65 o a1 a2 k56 n v3 v4 σ = some (xr, τ) → Jd l E mX12_sway 1 (some (.int xr), τ) σ 65 [(0, .ref (e_a E o 0)), (2, .int a2), (3, .int v3), (4, .int v4)] [] := by
  intro n
  induction n with
  | zero => intro v3 v4 σ h; rw [fX12_sway_65] at h; cases h
  | succ n ih =>
    intro v3 v4 σ h
    rw [fX12_sway_65] at h
    refine J_iload (pc := 65) 3 dX12_sway_65 rfl ?_
    refine J_aload_n (pc := 67) 0 dX12_sway_67 rfl ?_
    refine J_getA (pc := 68) dX12_sway_68 ho flX12_7 rfl ?_
    refine J_iconst (pc := 71) (2 : Int32) dX12_sway_71 (by decide) ?_
    refine J_iald (pc := 72) dX12_sway_72 ho ha12_0 h (fun x23 h => ?_)
    refine J_icmp_ge (pc := 73) 222 dX12_sway_73 (by decide) h (fun h => ?_) (fun h => ?_)
    · refine J_iinc (pc := 222) (L' := [(3, .int (v3 + (1 : Int32))), (0, .ref (e_a E o 0)), (2, .int a2), (4, .int v4)]) 2 (v3 + (1 : Int32)) dX12_sway_222 rfl (by rfl) (by decide) rfl ?_
      refine J_goto (pc := 225) 56 dX12_sway_225 (by decide) ?_
      refine J_sub (L' := [(0, .ref (e_a E o 0)), (2, .int a2), (3, .int (v3 + (1 : Int32)))]) [1, 2, 0] rfl ?_
      exact hk56 (v3 + (1 : Int32)) σ h
    · refine J_aload_n (pc := 76) 0 dX12_sway_76 rfl ?_
      refine J_getA (pc := 77) dX12_sway_77 ho flX12_7 rfl ?_
      refine J_iconst (pc := 80) (4 : Int32) dX12_sway_80 (by decide) ?_
      refine J_iald (pc := 81) dX12_sway_81 ho ha12_0 h (fun x24 h => ?_)
      refine J_iload (pc := 82) 3 dX12_sway_82 rfl ?_
      refine J_ishr (pc := 84) dX12_sway_84 ?_
      refine J_iconst (pc := 85) (1 : Int32) dX12_sway_85 (by decide) ?_
      refine J_iand (pc := 86) dX12_sway_86 ?_
      refine J_iconst (pc := 87) (1 : Int32) dX12_sway_87 (by decide) ?_
      refine J_icmp_ne (pc := 88) 94 dX12_sway_88 (by decide) h (fun h => ?_) (fun h => ?_)
      · refine J_aload_n (pc := 94) 0 dX12_sway_94 rfl ?_
        refine J_getA (pc := 95) dX12_sway_95 ho flX12_7 rfl ?_
        refine J_bipush (pc := 98) (70 : Int32) dX12_sway_98 (by decide) ?_
        refine J_iconst (pc := 100) (5 : Int32) dX12_sway_100 (by decide) ?_
        refine J_iload (pc := 101) 3 dX12_sway_101 rfl ?_
        refine J_imul (pc := 103) dX12_sway_103 ?_
        refine J_iadd (pc := 104) dX12_sway_104 ?_
        refine J_iconst (pc := 105) (0 : Int32) dX12_sway_105 (by decide) ?_
        refine J_iadd (pc := 106) dX12_sway_106 ?_
        refine J_iald (pc := 107) dX12_sway_107 ho ha12_0 h (fun x25 h => ?_)
        refine J_istore (pc := 108) (L' := [(5, .int x25), (0, .ref (e_a E o 0)), (2, .int a2), (3, .int v3), (4, .int v4)]) dX12_sway_108 (by decide) rfl ?_
        refine J_aload_n (pc := 110) 1 dX12_sway_110 rfl ?_
        refine J_getA (pc := 111) dX12_sway_111 ho flX12_7 rfl ?_
        refine J_bipush (pc := 114) (70 : Int32) dX12_sway_114 (by decide) ?_
        refine J_iconst (pc := 116) (5 : Int32) dX12_sway_116 (by decide) ?_
        refine J_iload (pc := 117) 4 dX12_sway_117 rfl ?_
        refine J_imul (pc := 119) dX12_sway_119 ?_
        refine J_iadd (pc := 120) dX12_sway_120 ?_
        refine J_iconst (pc := 121) (1 : Int32) dX12_sway_121 (by decide) ?_
        refine J_iadd (pc := 122) dX12_sway_122 ?_
        refine J_iald (pc := 123) dX12_sway_123 ho ha12_0 h (fun x26 h => ?_)
        refine J_istore (pc := 124) (L' := [(6, .int x26), (5, .int x25), (0, .ref (e_a E o 0)), (2, .int a2), (3, .int v3), (4, .int v4)]) dX12_sway_124 (by decide) rfl ?_
        refine J_aload_n (pc := 126) 2 dX12_sway_126 rfl ?_
        refine J_getA (pc := 127) dX12_sway_127 ho flX12_7 rfl ?_
        refine J_bipush (pc := 130) (70 : Int32) dX12_sway_130 (by decide) ?_
        refine J_iconst (pc := 132) (5 : Int32) dX12_sway_132 (by decide) ?_
        refine J_iload (pc := 133) 5 dX12_sway_133 rfl ?_
        refine J_imul (pc := 135) dX12_sway_135 ?_
        refine J_iadd (pc := 136) dX12_sway_136 ?_
        refine J_iconst (pc := 137) (3 : Int32) dX12_sway_137 (by decide) ?_
        refine J_iadd (pc := 138) dX12_sway_138 ?_
        refine J_iald (pc := 139) dX12_sway_139 ho ha12_0 h (fun x27 h => ?_)
        refine J_istore (pc := 140) (L' := [(7, .int x27), (6, .int x26), (5, .int x25), (0, .ref (e_a E o 0)), (2, .int a2), (3, .int v3), (4, .int v4)]) dX12_sway_140 (by decide) rfl ?_
        refine J_aload_n (pc := 142) 3 dX12_sway_142 rfl ?_
        refine J_getA (pc := 143) dX12_sway_143 ho flX12_59 rfl ?_
        refine J_iload (pc := 146) 2 dX12_sway_146 rfl ?_
        refine J_iald (pc := 148) dX12_sway_148 ho ha12_12 h (fun x28 h => ?_)
        refine J_iload (pc := 149) 0 dX12_sway_149 rfl ?_
        refine J_iadd (pc := 151) dX12_sway_151 ?_
        refine J_aload_n (pc := 152) 3 dX12_sway_152 rfl ?_
        refine J_getA (pc := 153) dX12_sway_153 ho flX12_59 rfl ?_
        refine J_iload (pc := 156) 1 dX12_sway_156 rfl ?_
        refine J_iald (pc := 158) dX12_sway_158 ho ha12_12 h (fun x29 h => ?_)
        refine J_icmp_ge (pc := 159) 179 dX12_sway_159 (by decide) h (fun h => ?_) (fun h => ?_)
        · refine J_sub (L' := [(0, .ref (e_a E o 0)), (2, .int a2), (3, .int v3), (4, .int v4), (5, .int x25), (6, .int x26), (7, .int x27)]) [3, 4, 5, 6, 2, 1, 0] rfl ?_
          exact tX12_sway_179 l E o a1 a2 ho k56 (fX12_sway_65 o a1 a2 k56 n) hk56 ih v3 v4 x25 x26 x27 σ h
        · refine J_aload_n (pc := 162) 3 dX12_sway_162 rfl ?_
          refine J_getA (pc := 163) dX12_sway_163 ho flX12_59 rfl ?_
          refine J_iload (pc := 166) 1 dX12_sway_166 rfl ?_
          refine J_aload_n (pc := 168) 3 dX12_sway_168 rfl ?_
          refine J_getA (pc := 169) dX12_sway_169 ho flX12_59 rfl ?_
          refine J_iload (pc := 172) 2 dX12_sway_172 rfl ?_
          refine J_iald (pc := 174) dX12_sway_174 ho ha12_12 h (fun x30 h => ?_)
          refine J_iload (pc := 175) 0 dX12_sway_175 rfl ?_
          refine J_iadd (pc := 177) dX12_sway_177 ?_
          refine J_iast (pc := 178) dX12_sway_178 ho ha12_12 h (fun σ31 h => ?_)
          refine J_sub (L' := [(0, .ref (e_a E o 0)), (2, .int a2), (3, .int v3), (4, .int v4), (5, .int x25), (6, .int x26), (7, .int x27)]) [3, 4, 5, 6, 2, 1, 0] rfl ?_
          exact tX12_sway_179 l E o a1 a2 ho k56 (fX12_sway_65 o a1 a2 k56 n) hk56 ih v3 v4 x25 x26 x27 σ31 h
      · refine J_goto (pc := 91) 216 dX12_sway_91 (by decide) ?_
        refine J_iinc (pc := 216) (L' := [(4, .int (v4 + (1 : Int32))), (0, .ref (e_a E o 0)), (2, .int a2), (3, .int v3)]) 3 (v4 + (1 : Int32)) dX12_sway_216 rfl (by rfl) (by decide) rfl ?_
        refine J_goto (pc := 219) 65 dX12_sway_219 (by decide) ?_
        refine J_sub (L' := [(0, .ref (e_a E o 0)), (2, .int a2), (3, .int v3), (4, .int (v4 + (1 : Int32)))]) [1, 2, 3, 0] rfl ?_
        exact ih v3 (v4 + (1 : Int32)) σ h
def fX12_sway_228 (o : Nat) (a1 : Int32) (a2 : Int32) (σ : Mm) : Option (Int32 × Mm) := g_ar σ o 12 8 a2 (fun x15 => if (1000 : Int32) ≤ x15 then (c_I (fX12_refuse o (7 : Int32) σ) (fun x18 σ16 => some (x18, σ16))) else (g_ar σ o 12 8 a2 (fun x19 => c_I (fX12_gives o x19 σ) (fun x22 σ20 => some (x22, σ20)))))
set_option maxRecDepth 100000 in
set_option maxHeartbeats 4000000 in
theorem tX12_sway_228 (l : Launch) (E : EV) {xr : Int32} {τ : Mm} (o : Nat) (a1 : Int32) (a2 : Int32) (ho : KD o = 12) (σ : Mm) (h : fX12_sway_228 o a1 a2 σ = some (xr, τ)) : Jd l E mX12_sway 1 (some (.int xr), τ) σ 228 [(0, .ref (e_a E o 0)), (2, .int a2)] [] := by
  unfold fX12_sway_228 at h
  refine J_aload_n (pc := 228) 0 dX12_sway_228 rfl ?_
  refine J_getA (pc := 229) dX12_sway_229 ho flX12_59 rfl ?_
  refine J_iload_n (pc := 232) 1 dX12_sway_232 rfl ?_
  refine J_iald (pc := 233) dX12_sway_233 ho ha12_12 h (fun x15 h => ?_)
  refine J_sipush (pc := 234) (1000 : Int32) dX12_sway_234 (by decide) ?_
  refine J_icmp_ge (pc := 237) 253 dX12_sway_237 (by decide) h (fun h => ?_) (fun h => ?_)
  · refine J_aload_n (pc := 253) 0 dX12_sway_253 rfl ?_
    refine J_bipush (pc := 254) (7 : Int32) dX12_sway_254 (by decide) ?_
    obtain ⟨x18, σ16, hc17, h⟩ := cI_t h
    refine J_cVi (pc := 256) (ctX12_refuse l E o (7 : Int32) ho σ hc17) dX12_sway_256 mlX12_83 mvX12_refuse ho rfl (by decide) rfl (Nat.le_of_ble_eq_true rfl) ?_
    cases h
    exact J_iret (pc := 259) dX12_sway_259 rfl rfl
  · refine J_aload_n (pc := 240) 0 dX12_sway_240 rfl ?_
    refine J_aload_n (pc := 241) 0 dX12_sway_241 rfl ?_
    refine J_getA (pc := 242) dX12_sway_242 ho flX12_59 rfl ?_
    refine J_iload_n (pc := 245) 1 dX12_sway_245 rfl ?_
    refine J_iald (pc := 246) dX12_sway_246 ho ha12_12 h (fun x19 h => ?_)
    obtain ⟨x22, σ20, hc21, h⟩ := cI_t h
    refine J_cVi (pc := 247) (ctX12_gives l E o x19 ho σ hc21) dX12_sway_247 mlX12_87 mvX12_gives ho rfl (by decide) rfl (Nat.le_of_ble_eq_true rfl) ?_
    refine J_goto (pc := 250) 259 dX12_sway_250 (by decide) ?_
    cases h
    exact J_iret (pc := 259) dX12_sway_259 rfl rfl
def fX12_sway_56 (o : Nat) (a1 : Int32) (a2 : Int32) : Nat → Int32 → Mm → Option (Int32 × Mm)
  | 0, _, _ => none
  | n + 1, v3, σ => if (8 : Int32) ≤ v3 then (fX12_sway_228 o a1 a2 σ) else (fX12_sway_65 o a1 a2 (fX12_sway_56 o a1 a2 n) FU v3 (0 : Int32) σ)
set_option maxRecDepth 100000 in
set_option maxHeartbeats 4000000 in
theorem tX12_sway_56 (l : Launch) (E : EV) {xr : Int32} {τ : Mm} (o : Nat) (a1 : Int32) (a2 : Int32) (ho : KD o = 12) : ∀ (n : Nat) (v3 : Int32) (σ : Mm), fX12_sway_56 o a1 a2 n v3 σ = some (xr, τ) → Jd l E mX12_sway 1 (some (.int xr), τ) σ 56 [(0, .ref (e_a E o 0)), (2, .int a2), (3, .int v3)] [] := by
  intro n
  induction n with
  | zero => intro v3 σ h; rw [fX12_sway_56] at h; cases h
  | succ n ih =>
    intro v3 σ h
    rw [fX12_sway_56] at h
    refine J_iload_n (pc := 56) 2 dX12_sway_56 rfl ?_
    refine J_bipush (pc := 57) (8 : Int32) dX12_sway_57 (by decide) ?_
    refine J_icmp_ge (pc := 59) 228 dX12_sway_59 (by decide) h (fun h => ?_) (fun h => ?_)
    · refine J_sub (L' := [(0, .ref (e_a E o 0)), (2, .int a2)]) [0, 1] rfl ?_
      exact tX12_sway_228 l E o a1 a2 ho σ h
    · refine J_iconst (pc := 62) (0 : Int32) dX12_sway_62 (by decide) ?_
      refine J_istore (pc := 63) (L' := [(4, .int (0 : Int32)), (0, .ref (e_a E o 0)), (2, .int a2), (3, .int v3)]) dX12_sway_63 (by decide) rfl ?_
      refine J_sub (L' := [(0, .ref (e_a E o 0)), (2, .int a2), (3, .int v3), (4, .int (0 : Int32))]) [1, 2, 3, 0] rfl ?_
      exact tX12_sway_65 l E o a1 a2 ho (fX12_sway_56 o a1 a2 n) ih FU v3 (0 : Int32) σ h
def fX12_sway_24 (o : Nat) (a1 : Int32) (a2 : Int32) : Nat → Int32 → Mm → Option (Int32 × Mm)
  | 0, _, _ => none
  | n + 1, v3, σ => if (8 : Int32) ≤ v3 then (fX12_sway_56 o a1 a2 FU (0 : Int32) σ) else (if v3 = a1 then (s_ar σ o 12 8 v3 (0 : Int32) (fun σ14 => (fX12_sway_24 o a1 a2 n) (v3 + (1 : Int32)) σ14)) else (s_ar σ o 12 8 v3 (1000 : Int32) (fun σ13 => (fX12_sway_24 o a1 a2 n) (v3 + (1 : Int32)) σ13)))
set_option maxRecDepth 100000 in
set_option maxHeartbeats 4000000 in
theorem tX12_sway_24 (l : Launch) (E : EV) {xr : Int32} {τ : Mm} (o : Nat) (a1 : Int32) (a2 : Int32) (ho : KD o = 12) : ∀ (n : Nat) (v3 : Int32) (σ : Mm), fX12_sway_24 o a1 a2 n v3 σ = some (xr, τ) → Jd l E mX12_sway 1 (some (.int xr), τ) σ 24 [(0, .ref (e_a E o 0)), (1, .int a1), (2, .int a2), (3, .int v3)] [] := by
  intro n
  induction n with
  | zero => intro v3 σ h; rw [fX12_sway_24] at h; cases h
  | succ n ih =>
    intro v3 σ h
    rw [fX12_sway_24] at h
    refine J_iload_n (pc := 24) 3 dX12_sway_24 rfl ?_
    refine J_bipush (pc := 25) (8 : Int32) dX12_sway_25 (by decide) ?_
    refine J_icmp_ge (pc := 27) 54 dX12_sway_27 (by decide) h (fun h => ?_) (fun h => ?_)
    · refine J_iconst (pc := 54) (0 : Int32) dX12_sway_54 (by decide) ?_
      refine J_istore_n (pc := 55) (L' := [(3, .int (0 : Int32)), (0, .ref (e_a E o 0)), (1, .int a1), (2, .int a2)]) dX12_sway_55 (by decide) rfl ?_
      refine J_sub (L' := [(0, .ref (e_a E o 0)), (2, .int a2), (3, .int (0 : Int32))]) [1, 3, 0] rfl ?_
      exact tX12_sway_56 l E o a1 a2 ho FU (0 : Int32) σ h
    · refine J_aload_n (pc := 30) 0 dX12_sway_30 rfl ?_
      refine J_getA (pc := 31) dX12_sway_31 ho flX12_59 rfl ?_
      refine J_iload_n (pc := 34) 3 dX12_sway_34 rfl ?_
      refine J_iload_n (pc := 35) 3 dX12_sway_35 rfl ?_
      refine J_iload_n (pc := 36) 1 dX12_sway_36 rfl ?_
      refine J_icmp_ne (pc := 37) 44 dX12_sway_37 (by decide) h (fun h => ?_) (fun h => ?_)
      · refine J_sipush (pc := 44) (1000 : Int32) dX12_sway_44 (by decide) ?_
        refine J_iast (pc := 47) dX12_sway_47 ho ha12_12 h (fun σ13 h => ?_)
        refine J_iinc (pc := 48) (L' := [(3, .int (v3 + (1 : Int32))), (0, .ref (e_a E o 0)), (1, .int a1), (2, .int a2)]) 3 (v3 + (1 : Int32)) dX12_sway_48 rfl (by rfl) (by decide) rfl ?_
        refine J_goto (pc := 51) 24 dX12_sway_51 (by decide) ?_
        refine J_sub (L' := [(0, .ref (e_a E o 0)), (1, .int a1), (2, .int a2), (3, .int (v3 + (1 : Int32)))]) [1, 2, 3, 0] rfl ?_
        exact ih (v3 + (1 : Int32)) σ13 h
      · refine J_iconst (pc := 40) (0 : Int32) dX12_sway_40 (by decide) ?_
        refine J_goto (pc := 41) 47 dX12_sway_41 (by decide) ?_
        refine J_iast (pc := 47) dX12_sway_47 ho ha12_12 h (fun σ14 h => ?_)
        refine J_iinc (pc := 48) (L' := [(3, .int (v3 + (1 : Int32))), (0, .ref (e_a E o 0)), (1, .int a1), (2, .int a2)]) 3 (v3 + (1 : Int32)) dX12_sway_48 rfl (by rfl) (by decide) rfl ?_
        refine J_goto (pc := 51) 24 dX12_sway_51 (by decide) ?_
        refine J_sub (L' := [(0, .ref (e_a E o 0)), (1, .int a1), (2, .int a2), (3, .int (v3 + (1 : Int32)))]) [1, 2, 3, 0] rfl ?_
        exact ih (v3 + (1 : Int32)) σ14 h
def fX12_sway (o : Nat) (a1 : Int32) (a2 : Int32) (σ : Mm) : Option (Int32 × Mm) := c_I (fX12_isVane o a1 σ) (fun x3 σ1 => if x3 = 0 then (c_I (fX12_refuse o (1 : Int32) σ1) (fun x6 σ4 => some (x6, σ4))) else (c_I (fX12_isVane o a2 σ1) (fun x9 σ7 => if x9 = 0 then (c_I (fX12_refuse o (1 : Int32) σ7) (fun x12 σ10 => some (x12, σ10))) else (fX12_sway_24 o a1 a2 FU (0 : Int32) σ7))))
set_option maxRecDepth 100000 in
set_option maxHeartbeats 4000000 in
theorem ctX12_sway (l : Launch) (E : EV) (o : Nat) (a1 : Int32) (a2 : Int32) (ho : KD o = 12) (σ : Mm) {xr : Int32} {τ : Mm} (h : fX12_sway o a1 a2 σ = some (xr, τ)) : Ct l E mX12_sway 1 [.ref (e_a E o 0), .int a1, .int a2] σ (some (.int xr), τ) := by
  refine Ct.of (by decide +kernel) (Nat.le_of_ble_eq_true rfl) ?_
  show Jd l E mX12_sway 1 (some (.int xr), τ) σ 0 [(0, .ref (e_a E o 0)), (1, .int a1), (2, .int a2)] []
  unfold fX12_sway at h
  refine J_aload_n (pc := 0) 0 dX12_sway_0 rfl ?_
  refine J_iload_n (pc := 1) 1 dX12_sway_1 rfl ?_
  obtain ⟨x3, σ1, hc2, h⟩ := cI_t h
  refine J_cVi (pc := 2) (ctX12_isVane l E o a1 ho σ hc2) dX12_sway_2 mlX12_243 mvX12_isVane ho rfl (by decide) rfl (Nat.le_of_ble_eq_true rfl) ?_
  refine J_if_eq (pc := 5) 16 dX12_sway_5 (by decide) h (fun h => ?_) (fun h => ?_)
  · refine J_aload_n (pc := 16) 0 dX12_sway_16 rfl ?_
    refine J_iconst (pc := 17) (1 : Int32) dX12_sway_17 (by decide) ?_
    obtain ⟨x6, σ4, hc5, h⟩ := cI_t h
    refine J_cVi (pc := 18) (ctX12_refuse l E o (1 : Int32) ho σ1 hc5) dX12_sway_18 mlX12_83 mvX12_refuse ho rfl (by decide) rfl (Nat.le_of_ble_eq_true rfl) ?_
    cases h
    exact J_iret (pc := 21) dX12_sway_21 rfl rfl
  · refine J_aload_n (pc := 8) 0 dX12_sway_8 rfl ?_
    refine J_iload_n (pc := 9) 2 dX12_sway_9 rfl ?_
    obtain ⟨x9, σ7, hc8, h⟩ := cI_t h
    refine J_cVi (pc := 10) (ctX12_isVane l E o a2 ho σ1 hc8) dX12_sway_10 mlX12_243 mvX12_isVane ho rfl (by decide) rfl (Nat.le_of_ble_eq_true rfl) ?_
    refine J_if_ne (pc := 13) 22 dX12_sway_13 (by decide) h (fun h => ?_) (fun h => ?_)
    · refine J_iconst (pc := 22) (0 : Int32) dX12_sway_22 (by decide) ?_
      refine J_istore_n (pc := 23) (L' := [(3, .int (0 : Int32)), (0, .ref (e_a E o 0)), (1, .int a1), (2, .int a2)]) dX12_sway_23 (by decide) rfl ?_
      refine J_sub (L' := [(0, .ref (e_a E o 0)), (1, .int a1), (2, .int a2), (3, .int (0 : Int32))]) [1, 2, 3, 0] rfl ?_
      exact tX12_sway_24 l E o a1 a2 ho FU (0 : Int32) σ7 h
    · refine J_aload_n (pc := 16) 0 dX12_sway_16 rfl ?_
      refine J_iconst (pc := 17) (1 : Int32) dX12_sway_17 (by decide) ?_
      obtain ⟨x12, σ10, hc11, h⟩ := cI_t h
      refine J_cVi (pc := 18) (ctX12_refuse l E o (1 : Int32) ho σ7 hc11) dX12_sway_18 mlX12_83 mvX12_refuse ho rfl (by decide) rfl (Nat.le_of_ble_eq_true rfl) ?_
      cases h
      exact J_iret (pc := 21) dX12_sway_21 rfl rfl
def fX12_points (o : Nat) (a1 : Int32) (a2 : Int32) (σ : Mm) : Option (Int32 × Mm) := c_I (fX12_isVane o a1 σ) (fun x3 σ1 => if x3 = 0 then (c_I (fX12_refuse o (1 : Int32) σ1) (fun x6 σ4 => some (x6, σ4))) else (c_I (fX12_isAhead a2 σ1) (fun x9 σ7 => if x9 = 0 then (c_I (fX12_refuse o (1 : Int32) σ7) (fun x22 σ20 => some (x22, σ20))) else (c_V (fX12_begins1 o σ7) (fun σ10 => c_V (fX12_goesBy o a2 σ10) (fun σ12 => c_I (fX12_vaneAt o a1 (3 : Int32) σ12) (fun x16 σ14 => c_I (fX12_gives o x16 σ14) (fun x19 σ17 => some (x19, σ17)))))))))
set_option maxRecDepth 100000 in
set_option maxHeartbeats 4000000 in
theorem ctX12_points (l : Launch) (E : EV) (o : Nat) (a1 : Int32) (a2 : Int32) (ho : KD o = 12) (σ : Mm) {xr : Int32} {τ : Mm} (h : fX12_points o a1 a2 σ = some (xr, τ)) : Ct l E mX12_points 7 [.ref (e_a E o 0), .int a1, .int a2] σ (some (.int xr), τ) := by
  refine Ct.of (by decide +kernel) (Nat.le_of_ble_eq_true rfl) ?_
  show Jd l E mX12_points 7 (some (.int xr), τ) σ 0 [(0, .ref (e_a E o 0)), (1, .int a1), (2, .int a2)] []
  unfold fX12_points at h
  refine J_aload_n (pc := 0) 0 dX12_points_0 rfl ?_
  refine J_iload_n (pc := 1) 1 dX12_points_1 rfl ?_
  obtain ⟨x3, σ1, hc2, h⟩ := cI_t h
  refine J_cVi (pc := 2) (ctX12_isVane l E o a1 ho σ hc2) dX12_points_2 mlX12_243 mvX12_isVane ho rfl (by decide) rfl (Nat.le_of_ble_eq_true rfl) ?_
  refine J_if_eq (pc := 5) 15 dX12_points_5 (by decide) h (fun h => ?_) (fun h => ?_)
  · refine J_aload_n (pc := 15) 0 dX12_points_15 rfl ?_
    refine J_iconst (pc := 16) (1 : Int32) dX12_points_16 (by decide) ?_
    obtain ⟨x6, σ4, hc5, h⟩ := cI_t h
    refine J_cVi (pc := 17) (ctX12_refuse l E o (1 : Int32) ho σ1 hc5) dX12_points_17 mlX12_83 mvX12_refuse ho rfl (by decide) rfl (Nat.le_of_ble_eq_true rfl) ?_
    cases h
    exact J_iret (pc := 20) dX12_points_20 rfl rfl
  · refine J_iload_n (pc := 8) 2 dX12_points_8 rfl ?_
    obtain ⟨x9, σ7, hc8, h⟩ := cI_t h
    refine J_cSi (pc := 9) (ctX12_isAhead l E a2 σ1 hc8) dX12_points_9 mlX12_355 msX12_isAhead rfl (by decide) rfl (Nat.le_of_ble_eq_true rfl) ?_
    refine J_if_ne (pc := 12) 21 dX12_points_12 (by decide) h (fun h => ?_) (fun h => ?_)
    · refine J_aload_n (pc := 21) 0 dX12_points_21 rfl ?_
      obtain ⟨σ10, hc11, h⟩ := cV_t h
      refine J_cVv (pc := 22) (ctX12_begins1 l E o ho σ7 hc11) dX12_points_22 mlX12_325 mvX12_begins1 ho rfl (by decide) rfl (Nat.le_of_ble_eq_true rfl) ?_
      refine J_aload_n (pc := 25) 0 dX12_points_25 rfl ?_
      refine J_iload_n (pc := 26) 2 dX12_points_26 rfl ?_
      obtain ⟨σ12, hc13, h⟩ := cV_t h
      refine J_cVv (pc := 27) (ctX12_goesBy l E o a2 ho σ10 hc13) dX12_points_27 mlX12_328 mvX12_goesBy ho rfl (by decide) rfl (Nat.le_of_ble_eq_true rfl) ?_
      refine J_aload_n (pc := 30) 0 dX12_points_30 rfl ?_
      refine J_aload_n (pc := 31) 0 dX12_points_31 rfl ?_
      refine J_iload_n (pc := 32) 1 dX12_points_32 rfl ?_
      refine J_iconst (pc := 33) (3 : Int32) dX12_points_33 (by decide) ?_
      obtain ⟨x16, σ14, hc15, h⟩ := cI_t h
      refine J_cVi (pc := 34) (ctX12_vaneAt l E o a1 (3 : Int32) ho σ12 hc15) dX12_points_34 mlX12_249 mvX12_vaneAt ho rfl (by decide) rfl (Nat.le_of_ble_eq_true rfl) ?_
      obtain ⟨x19, σ17, hc18, h⟩ := cI_t h
      refine J_cVi (pc := 37) (ctX12_gives l E o x16 ho σ14 hc18) dX12_points_37 mlX12_87 mvX12_gives ho rfl (by decide) rfl (Nat.le_of_ble_eq_true rfl) ?_
      cases h
      exact J_iret (pc := 40) dX12_points_40 rfl rfl
    · refine J_aload_n (pc := 15) 0 dX12_points_15 rfl ?_
      refine J_iconst (pc := 16) (1 : Int32) dX12_points_16 (by decide) ?_
      obtain ⟨x22, σ20, hc21, h⟩ := cI_t h
      refine J_cVi (pc := 17) (ctX12_refuse l E o (1 : Int32) ho σ7 hc21) dX12_points_17 mlX12_83 mvX12_refuse ho rfl (by decide) rfl (Nat.le_of_ble_eq_true rfl) ?_
      cases h
      exact J_iret (pc := 20) dX12_points_20 rfl rfl
def fX12_rights (o : Nat) (a1 : Int32) (σ : Mm) : Option (Int32 × Mm) := c_I (fX12_isAhead a1 σ) (fun x3 σ1 => if x3 = 0 then (c_I (fX12_refuse o (1 : Int32) σ1) (fun x16 σ14 => some (x16, σ14))) else (c_V (fX12_begins1 o σ1) (fun σ4 => c_V (fX12_goesBy o a1 σ4) (fun σ6 => c_I (fX12_rightSet o σ6) (fun x10 σ8 => c_I (fX12_gives o x10 σ8) (fun x13 σ11 => some (x13, σ11)))))))
set_option maxRecDepth 100000 in
set_option maxHeartbeats 4000000 in
theorem ctX12_rights (l : Launch) (E : EV) (o : Nat) (a1 : Int32) (ho : KD o = 12) (σ : Mm) {xr : Int32} {τ : Mm} (h : fX12_rights o a1 σ = some (xr, τ)) : Ct l E mX12_rights 7 [.ref (e_a E o 0), .int a1] σ (some (.int xr), τ) := by
  refine Ct.of (by decide +kernel) (Nat.le_of_ble_eq_true rfl) ?_
  show Jd l E mX12_rights 7 (some (.int xr), τ) σ 0 [(0, .ref (e_a E o 0)), (1, .int a1)] []
  unfold fX12_rights at h
  refine J_iload_n (pc := 0) 1 dX12_rights_0 rfl ?_
  obtain ⟨x3, σ1, hc2, h⟩ := cI_t h
  refine J_cSi (pc := 1) (ctX12_isAhead l E a1 σ hc2) dX12_rights_1 mlX12_355 msX12_isAhead rfl (by decide) rfl (Nat.le_of_ble_eq_true rfl) ?_
  refine J_if_ne (pc := 4) 13 dX12_rights_4 (by decide) h (fun h => ?_) (fun h => ?_)
  · refine J_aload_n (pc := 13) 0 dX12_rights_13 rfl ?_
    obtain ⟨σ4, hc5, h⟩ := cV_t h
    refine J_cVv (pc := 14) (ctX12_begins1 l E o ho σ1 hc5) dX12_rights_14 mlX12_325 mvX12_begins1 ho rfl (by decide) rfl (Nat.le_of_ble_eq_true rfl) ?_
    refine J_aload_n (pc := 17) 0 dX12_rights_17 rfl ?_
    refine J_iload_n (pc := 18) 1 dX12_rights_18 rfl ?_
    obtain ⟨σ6, hc7, h⟩ := cV_t h
    refine J_cVv (pc := 19) (ctX12_goesBy l E o a1 ho σ4 hc7) dX12_rights_19 mlX12_328 mvX12_goesBy ho rfl (by decide) rfl (Nat.le_of_ble_eq_true rfl) ?_
    refine J_aload_n (pc := 22) 0 dX12_rights_22 rfl ?_
    refine J_aload_n (pc := 23) 0 dX12_rights_23 rfl ?_
    obtain ⟨x10, σ8, hc9, h⟩ := cI_t h
    refine J_cVi (pc := 24) (ctX12_rightSet l E o ho σ6 hc9) dX12_rights_24 mlX12_358 mvX12_rightSet ho rfl (by decide) rfl (Nat.le_of_ble_eq_true rfl) ?_
    obtain ⟨x13, σ11, hc12, h⟩ := cI_t h
    refine J_cVi (pc := 27) (ctX12_gives l E o x10 ho σ8 hc12) dX12_rights_27 mlX12_87 mvX12_gives ho rfl (by decide) rfl (Nat.le_of_ble_eq_true rfl) ?_
    cases h
    exact J_iret (pc := 30) dX12_rights_30 rfl rfl
  · refine J_aload_n (pc := 7) 0 dX12_rights_7 rfl ?_
    refine J_iconst (pc := 8) (1 : Int32) dX12_rights_8 (by decide) ?_
    obtain ⟨x16, σ14, hc15, h⟩ := cI_t h
    refine J_cVi (pc := 9) (ctX12_refuse l E o (1 : Int32) ho σ1 hc15) dX12_rights_9 mlX12_83 mvX12_refuse ho rfl (by decide) rfl (Nat.le_of_ble_eq_true rfl) ?_
    cases h
    exact J_iret (pc := 12) dX12_rights_12 rfl rfl
def fX12_isAgain_2 (o : Nat) (a1 : Int32) (a2 : Int32) : Nat → Int32 → Mm → Option (Int32 × Mm)
  | 0, _, _ => none
  | n + 1, v3, σ => if (18 : Int32) ≤ v3 then (some ((1 : Int32), σ)) else (g_ar σ o 13 7300 (((18 : Int32) * a1) + v3) (fun x1 => g_ar σ o 13 7300 (((18 : Int32) * a2) + v3) (fun x2 => if x1 = x2 then ((fX12_isAgain_2 o a1 a2 n) (v3 + (1 : Int32)) σ) else (some ((0 : Int32), σ)))))
set_option maxRecDepth 100000 in
set_option maxHeartbeats 4000000 in
theorem tX12_isAgain_2 (l : Launch) (E : EV) {xr : Int32} {τ : Mm} (o : Nat) (a1 : Int32) (a2 : Int32) (ho : KD o = 12) : ∀ (n : Nat) (v3 : Int32) (σ : Mm), fX12_isAgain_2 o a1 a2 n v3 σ = some (xr, τ) → Jd l E mX12_isAgain 0 (some (.int xr), τ) σ 2 [(0, .ref (e_a E o 0)), (1, .int a1), (2, .int a2), (3, .int v3)] [] := by
  intro n
  induction n with
  | zero => intro v3 σ h; rw [fX12_isAgain_2] at h; cases h
  | succ n ih =>
    intro v3 σ h
    rw [fX12_isAgain_2] at h
    refine J_iload_n (pc := 2) 3 dX12_isAgain_2 rfl ?_
    refine J_bipush (pc := 3) (18 : Int32) dX12_isAgain_3 (by decide) ?_
    refine J_icmp_ge (pc := 5) 41 dX12_isAgain_5 (by decide) h (fun h => ?_) (fun h => ?_)
    · refine J_iconst (pc := 41) (1 : Int32) dX12_isAgain_41 (by decide) ?_
      cases h
      exact J_iret (pc := 42) dX12_isAgain_42 rfl rfl
    · refine J_aload_n (pc := 8) 0 dX12_isAgain_8 rfl ?_
      refine J_getA (pc := 9) dX12_isAgain_9 ho flX12_62 rfl ?_
      refine J_bipush (pc := 12) (18 : Int32) dX12_isAgain_12 (by decide) ?_
      refine J_iload_n (pc := 14) 1 dX12_isAgain_14 rfl ?_
      refine J_imul (pc := 15) dX12_isAgain_15 ?_
      refine J_iload_n (pc := 16) 3 dX12_isAgain_16 rfl ?_
      refine J_iadd (pc := 17) dX12_isAgain_17 ?_
      refine J_iald (pc := 18) dX12_isAgain_18 ho ha12_13 h (fun x1 h => ?_)
      refine J_aload_n (pc := 19) 0 dX12_isAgain_19 rfl ?_
      refine J_getA (pc := 20) dX12_isAgain_20 ho flX12_62 rfl ?_
      refine J_bipush (pc := 23) (18 : Int32) dX12_isAgain_23 (by decide) ?_
      refine J_iload_n (pc := 25) 2 dX12_isAgain_25 rfl ?_
      refine J_imul (pc := 26) dX12_isAgain_26 ?_
      refine J_iload_n (pc := 27) 3 dX12_isAgain_27 rfl ?_
      refine J_iadd (pc := 28) dX12_isAgain_28 ?_
      refine J_iald (pc := 29) dX12_isAgain_29 ho ha12_13 h (fun x2 h => ?_)
      refine J_icmp_eq (pc := 30) 35 dX12_isAgain_30 (by decide) h (fun h => ?_) (fun h => ?_)
      · refine J_iinc (pc := 35) (L' := [(3, .int (v3 + (1 : Int32))), (0, .ref (e_a E o 0)), (1, .int a1), (2, .int a2)]) 3 (v3 + (1 : Int32)) dX12_isAgain_35 rfl (by rfl) (by decide) rfl ?_
        refine J_goto (pc := 38) 2 dX12_isAgain_38 (by decide) ?_
        refine J_sub (L' := [(0, .ref (e_a E o 0)), (1, .int a1), (2, .int a2), (3, .int (v3 + (1 : Int32)))]) [1, 2, 3, 0] rfl ?_
        exact ih (v3 + (1 : Int32)) σ h
      · refine J_iconst (pc := 33) (0 : Int32) dX12_isAgain_33 (by decide) ?_
        cases h
        exact J_iret (pc := 34) dX12_isAgain_34 rfl rfl
def fX12_isAgain (o : Nat) (a1 : Int32) (a2 : Int32) (σ : Mm) : Option (Int32 × Mm) := fX12_isAgain_2 o a1 a2 FU (0 : Int32) σ
set_option maxRecDepth 100000 in
set_option maxHeartbeats 4000000 in
theorem ctX12_isAgain (l : Launch) (E : EV) (o : Nat) (a1 : Int32) (a2 : Int32) (ho : KD o = 12) (σ : Mm) {xr : Int32} {τ : Mm} (h : fX12_isAgain o a1 a2 σ = some (xr, τ)) : Ct l E mX12_isAgain 0 [.ref (e_a E o 0), .int a1, .int a2] σ (some (.int xr), τ) := by
  refine Ct.of (by decide +kernel) (Nat.le_of_ble_eq_true rfl) ?_
  show Jd l E mX12_isAgain 0 (some (.int xr), τ) σ 0 [(0, .ref (e_a E o 0)), (1, .int a1), (2, .int a2)] []
  unfold fX12_isAgain at h
  refine J_iconst (pc := 0) (0 : Int32) dX12_isAgain_0 (by decide) ?_
  refine J_istore_n (pc := 1) (L' := [(3, .int (0 : Int32)), (0, .ref (e_a E o 0)), (1, .int a1), (2, .int a2)]) dX12_isAgain_1 (by decide) rfl ?_
  refine J_sub (L' := [(0, .ref (e_a E o 0)), (1, .int a1), (2, .int a2), (3, .int (0 : Int32))]) [1, 2, 3, 0] rfl ?_
  exact tX12_isAgain_2 l E o a1 a2 ho FU (0 : Int32) σ h
def fX12_again_93 (o : Nat) (a1 : Int32) (k21 : Int32 → Mm → Option (Int32 × Mm)) (v2 : Int32) (σ : Mm) : Option (Int32 × Mm) := c_I (fX12_quarterGoes o σ) (fun x31 σ29 => p_bz σ29 o 29 x31 (fun σ32 => k21 (v2 + (1 : Int32)) σ32))
set_option maxRecDepth 100000 in
set_option maxHeartbeats 4000000 in
theorem tX12_again_93 (l : Launch) (E : EV) {xr : Int32} {τ : Mm} (o : Nat) (a1 : Int32) (ho : KD o = 12) (k21 : Int32 → Mm → Option (Int32 × Mm)) (hk21 : ∀ (v2 : Int32) (σ : Mm), k21 v2 σ = some (xr, τ) → Jd l E mX12_again 6 (some (.int xr), τ) σ 21 [(0, .ref (e_a E o 0)), (1, .int a1), (2, .int v2)] []) (v2 : Int32) (σ : Mm) (h : fX12_again_93 o a1 k21 v2 σ = some (xr, τ)) : Jd l E mX12_again 6 (some (.int xr), τ) σ 93 [(0, .ref (e_a E o 0)), (1, .int a1), (2, .int v2)] [] := by
  unfold fX12_again_93 at h
  refine J_aload_n (pc := 93) 0 dX12_again_93 rfl ?_
  refine J_aload_n (pc := 94) 0 dX12_again_94 rfl ?_
  obtain ⟨x31, σ29, hc30, h⟩ := cI_t h
  refine J_cVi (pc := 95) (ctX12_quarterGoes l E o ho σ hc30) dX12_again_95 mlX12_306 mvX12_quarterGoes ho rfl (by decide) rfl (Nat.le_of_ble_eq_true rfl) ?_
  refine J_putZ (pc := 98) dX12_again_98 ho flX12_309 rfl h (fun σ32 h => ?_)
  refine J_iinc (pc := 101) (L' := [(2, .int (v2 + (1 : Int32))), (0, .ref (e_a E o 0)), (1, .int a1)]) 2 (v2 + (1 : Int32)) dX12_again_101 rfl (by rfl) (by decide) rfl ?_
  refine J_goto (pc := 104) 21 dX12_again_104 (by decide) ?_
  refine J_sub (L' := [(0, .ref (e_a E o 0)), (1, .int a1), (2, .int (v2 + (1 : Int32)))]) [1, 2, 0] rfl ?_
  exact hk21 (v2 + (1 : Int32)) σ32 h
def fX12_again_61 (o : Nat) (a1 : Int32) (k21 : Int32 → Mm → Option (Int32 × Mm)) : Nat → Int32 → Int32 → Mm → Option (Int32 × Mm)
  | 0, _, _, _ => none
  | n + 1, v2, v3, σ => if (10 : Int32) ≤ v3 then (fX12_again_93 o a1 k21 v2 σ) else (c_I (fX12_shaftAt o v3 (4 : Int32) σ) (fun x21 σ19 => s_ar σ19 o 13 7300 ((((18 : Int32) * v2) + (8 : Int32)) + v3) x21 (fun σ22 => (fX12_again_61 o a1 k21 n) v2 (v3 + (1 : Int32)) σ22)))
set_option maxRecDepth 100000 in
set_option maxHeartbeats 4000000 in
theorem tX12_again_61 (l : Launch) (E : EV) {xr : Int32} {τ : Mm} (o : Nat) (a1 : Int32) (ho : KD o = 12) (k21 : Int32 → Mm → Option (Int32 × Mm)) (hk21 : ∀ (v2 : Int32) (σ : Mm), k21 v2 σ = some (xr, τ) → Jd l E mX12_again 6 (some (.int xr), τ) σ 21 [(0, .ref (e_a E o 0)), (1, .int a1), (2, .int v2)] []) : ∀ (n : Nat) (v2 : Int32) (v3 : Int32) (σ : Mm), fX12_again_61 o a1 k21 n v2 v3 σ = some (xr, τ) → Jd l E mX12_again 6 (some (.int xr), τ) σ 61 [(0, .ref (e_a E o 0)), (1, .int a1), (2, .int v2), (3, .int v3)] [] := by
  intro n
  induction n with
  | zero => intro v2 v3 σ h; rw [fX12_again_61] at h; cases h
  | succ n ih =>
    intro v2 v3 σ h
    rw [fX12_again_61] at h
    refine J_iload_n (pc := 61) 3 dX12_again_61 rfl ?_
    refine J_bipush (pc := 62) (10 : Int32) dX12_again_62 (by decide) ?_
    refine J_icmp_ge (pc := 64) 93 dX12_again_64 (by decide) h (fun h => ?_) (fun h => ?_)
    · refine J_sub (L' := [(0, .ref (e_a E o 0)), (1, .int a1), (2, .int v2)]) [0, 1, 2] rfl ?_
      exact tX12_again_93 l E o a1 ho k21 hk21 v2 σ h
    · refine J_aload_n (pc := 67) 0 dX12_again_67 rfl ?_
      refine J_getA (pc := 68) dX12_again_68 ho flX12_62 rfl ?_
      refine J_bipush (pc := 71) (18 : Int32) dX12_again_71 (by decide) ?_
      refine J_iload_n (pc := 73) 2 dX12_again_73 rfl ?_
      refine J_imul (pc := 74) dX12_again_74 ?_
      refine J_bipush (pc := 75) (8 : Int32) dX12_again_75 (by decide) ?_
      refine J_iadd (pc := 77) dX12_again_77 ?_
      refine J_iload_n (pc := 78) 3 dX12_again_78 rfl ?_
      refine J_iadd (pc := 79) dX12_again_79 ?_
      refine J_aload_n (pc := 80) 0 dX12_again_80 rfl ?_
      refine J_iload_n (pc := 81) 3 dX12_again_81 rfl ?_
      refine J_iconst (pc := 82) (4 : Int32) dX12_again_82 (by decide) ?_
      obtain ⟨x21, σ19, hc20, h⟩ := cI_t h
      refine J_cVi (pc := 83) (ctX12_shaftAt l E o v3 (4 : Int32) ho σ hc20) dX12_again_83 mlX12_267 mvX12_shaftAt ho rfl (by decide) rfl (Nat.le_of_ble_eq_true rfl) ?_
      refine J_iast (pc := 86) dX12_again_86 ho ha12_13 h (fun σ22 h => ?_)
      refine J_iinc (pc := 87) (L' := [(3, .int (v3 + (1 : Int32))), (0, .ref (e_a E o 0)), (1, .int a1), (2, .int v2)]) 3 (v3 + (1 : Int32)) dX12_again_87 rfl (by rfl) (by decide) rfl ?_
      refine J_goto (pc := 90) 61 dX12_again_90 (by decide) ?_
      refine J_sub (L' := [(0, .ref (e_a E o 0)), (1, .int a1), (2, .int v2), (3, .int (v3 + (1 : Int32)))]) [1, 2, 3, 0] rfl ?_
      exact ih v2 (v3 + (1 : Int32)) σ22 h
def fX12_again_30 (o : Nat) (a1 : Int32) (k21 : Int32 → Mm → Option (Int32 × Mm)) : Nat → Int32 → Int32 → Mm → Option (Int32 × Mm)
  | 0, _, _, _ => none
  | n + 1, v2, v3, σ => if (8 : Int32) ≤ v3 then (fX12_again_61 o a1 k21 FU v2 (0 : Int32) σ) else (c_I (fX12_vaneAt o v3 (3 : Int32) σ) (fun x14 σ12 => s_ar σ12 o 13 7300 (((18 : Int32) * v2) + v3) x14 (fun σ15 => (fX12_again_30 o a1 k21 n) v2 (v3 + (1 : Int32)) σ15)))
set_option maxRecDepth 100000 in
set_option maxHeartbeats 4000000 in
theorem tX12_again_30 (l : Launch) (E : EV) {xr : Int32} {τ : Mm} (o : Nat) (a1 : Int32) (ho : KD o = 12) (k21 : Int32 → Mm → Option (Int32 × Mm)) (hk21 : ∀ (v2 : Int32) (σ : Mm), k21 v2 σ = some (xr, τ) → Jd l E mX12_again 6 (some (.int xr), τ) σ 21 [(0, .ref (e_a E o 0)), (1, .int a1), (2, .int v2)] []) : ∀ (n : Nat) (v2 : Int32) (v3 : Int32) (σ : Mm), fX12_again_30 o a1 k21 n v2 v3 σ = some (xr, τ) → Jd l E mX12_again 6 (some (.int xr), τ) σ 30 [(0, .ref (e_a E o 0)), (1, .int a1), (2, .int v2), (3, .int v3)] [] := by
  intro n
  induction n with
  | zero => intro v2 v3 σ h; rw [fX12_again_30] at h; cases h
  | succ n ih =>
    intro v2 v3 σ h
    rw [fX12_again_30] at h
    refine J_iload_n (pc := 30) 3 dX12_again_30 rfl ?_
    refine J_bipush (pc := 31) (8 : Int32) dX12_again_31 (by decide) ?_
    refine J_icmp_ge (pc := 33) 59 dX12_again_33 (by decide) h (fun h => ?_) (fun h => ?_)
    · refine J_iconst (pc := 59) (0 : Int32) dX12_again_59 (by decide) ?_
      refine J_istore_n (pc := 60) (L' := [(3, .int (0 : Int32)), (0, .ref (e_a E o 0)), (1, .int a1), (2, .int v2)]) dX12_again_60 (by decide) rfl ?_
      refine J_sub (L' := [(0, .ref (e_a E o 0)), (1, .int a1), (2, .int v2), (3, .int (0 : Int32))]) [1, 2, 3, 0] rfl ?_
      exact tX12_again_61 l E o a1 ho k21 hk21 FU v2 (0 : Int32) σ h
    · refine J_aload_n (pc := 36) 0 dX12_again_36 rfl ?_
      refine J_getA (pc := 37) dX12_again_37 ho flX12_62 rfl ?_
      refine J_bipush (pc := 40) (18 : Int32) dX12_again_40 (by decide) ?_
      refine J_iload_n (pc := 42) 2 dX12_again_42 rfl ?_
      refine J_imul (pc := 43) dX12_again_43 ?_
      refine J_iload_n (pc := 44) 3 dX12_again_44 rfl ?_
      refine J_iadd (pc := 45) dX12_again_45 ?_
      refine J_aload_n (pc := 46) 0 dX12_again_46 rfl ?_
      refine J_iload_n (pc := 47) 3 dX12_again_47 rfl ?_
      refine J_iconst (pc := 48) (3 : Int32) dX12_again_48 (by decide) ?_
      obtain ⟨x14, σ12, hc13, h⟩ := cI_t h
      refine J_cVi (pc := 49) (ctX12_vaneAt l E o v3 (3 : Int32) ho σ hc13) dX12_again_49 mlX12_249 mvX12_vaneAt ho rfl (by decide) rfl (Nat.le_of_ble_eq_true rfl) ?_
      refine J_iast (pc := 52) dX12_again_52 ho ha12_13 h (fun σ15 h => ?_)
      refine J_iinc (pc := 53) (L' := [(3, .int (v3 + (1 : Int32))), (0, .ref (e_a E o 0)), (1, .int a1), (2, .int v2)]) 3 (v3 + (1 : Int32)) dX12_again_53 rfl (by rfl) (by decide) rfl ?_
      refine J_goto (pc := 56) 30 dX12_again_56 (by decide) ?_
      refine J_sub (L' := [(0, .ref (e_a E o 0)), (1, .int a1), (2, .int v2), (3, .int (v3 + (1 : Int32)))]) [1, 2, 3, 0] rfl ?_
      exact ih v2 (v3 + (1 : Int32)) σ15 h
def fX12_again_136 (o : Nat) (a1 : Int32) (v2 : Int32) (v3 : Int32) (σ : Mm) : Option (Int32 × Mm) := if a1 = 0 then (c_I (fX12_gives o v2 σ) (fun x28 σ26 => some (x28, σ26))) else (c_I (fX12_gives o (v3 - v2) σ) (fun x25 σ23 => some (x25, σ23)))
set_option maxRecDepth 100000 in
set_option maxHeartbeats 4000000 in
theorem tX12_again_136 (l : Launch) (E : EV) {xr : Int32} {τ : Mm} (o : Nat) (a1 : Int32) (ho : KD o = 12) (v2 : Int32) (v3 : Int32) (σ : Mm) (h : fX12_again_136 o a1 v2 v3 σ = some (xr, τ)) : Jd l E mX12_again 6 (some (.int xr), τ) σ 136 [(0, .ref (e_a E o 0)), (1, .int a1), (2, .int v2), (3, .int v3)] [] := by
  unfold fX12_again_136 at h
  refine J_aload_n (pc := 136) 0 dX12_again_136 rfl ?_
  refine J_iload_n (pc := 137) 1 dX12_again_137 rfl ?_
  refine J_if_ne (pc := 138) 145 dX12_again_138 (by decide) h (fun h => ?_) (fun h => ?_)
  · refine J_iload_n (pc := 145) 3 dX12_again_145 rfl ?_
    refine J_iload_n (pc := 146) 2 dX12_again_146 rfl ?_
    refine J_isub (pc := 147) dX12_again_147 ?_
    obtain ⟨x25, σ23, hc24, h⟩ := cI_t h
    refine J_cVi (pc := 148) (ctX12_gives l E o (v3 - v2) ho σ hc24) dX12_again_148 mlX12_87 mvX12_gives ho rfl (by decide) rfl (Nat.le_of_ble_eq_true rfl) ?_
    cases h
    exact J_iret (pc := 151) dX12_again_151 rfl rfl
  · refine J_iload_n (pc := 141) 2 dX12_again_141 rfl ?_
    refine J_goto (pc := 142) 148 dX12_again_142 (by decide) ?_
    obtain ⟨x28, σ26, hc27, h⟩ := cI_t h
    refine J_cVi (pc := 148) (ctX12_gives l E o v2 ho σ hc27) dX12_again_148 mlX12_87 mvX12_gives ho rfl (by decide) rfl (Nat.le_of_ble_eq_true rfl) ?_
    cases h
    exact J_iret (pc := 151) dX12_again_151 rfl rfl
def fX12_again_120 (o : Nat) (a1 : Int32) (k109 : Int32 → Mm → Option (Int32 × Mm)) : Nat → Int32 → Int32 → Mm → Option (Int32 × Mm)
  | 0, _, _, _ => none
  | n + 1, v2, v3, σ => if (400 : Int32) < v3 then (k109 (v2 + (1 : Int32)) σ) else (c_I (fX12_isAgain o v2 v3 σ) (fun x18 σ16 => if x18 = 0 then ((fX12_again_120 o a1 k109 n) v2 (v3 + (1 : Int32)) σ16) else (fX12_again_136 o a1 v2 v3 σ16)))
set_option maxRecDepth 100000 in
set_option maxHeartbeats 4000000 in
theorem tX12_again_120 (l : Launch) (E : EV) {xr : Int32} {τ : Mm} (o : Nat) (a1 : Int32) (ho : KD o = 12) (k109 : Int32 → Mm → Option (Int32 × Mm)) (hk109 : ∀ (v2 : Int32) (σ : Mm), k109 v2 σ = some (xr, τ) → Jd l E mX12_again 6 (some (.int xr), τ) σ 109 [(0, .ref (e_a E o 0)), (1, .int a1), (2, .int v2)] []) : ∀ (n : Nat) (v2 : Int32) (v3 : Int32) (σ : Mm), fX12_again_120 o a1 k109 n v2 v3 σ = some (xr, τ) → Jd l E mX12_again 6 (some (.int xr), τ) σ 120 [(0, .ref (e_a E o 0)), (1, .int a1), (2, .int v2), (3, .int v3)] [] := by
  intro n
  induction n with
  | zero => intro v2 v3 σ h; rw [fX12_again_120] at h; cases h
  | succ n ih =>
    intro v2 v3 σ h
    rw [fX12_again_120] at h
    refine J_iload_n (pc := 120) 3 dX12_again_120 rfl ?_
    refine J_sipush (pc := 121) (400 : Int32) dX12_again_121 (by decide) ?_
    refine J_icmp_gt (pc := 124) 158 dX12_again_124 (by decide) h (fun h => ?_) (fun h => ?_)
    · refine J_iinc (pc := 158) (L' := [(2, .int (v2 + (1 : Int32))), (0, .ref (e_a E o 0)), (1, .int a1), (3, .int v3)]) 2 (v2 + (1 : Int32)) dX12_again_158 rfl (by rfl) (by decide) rfl ?_
      refine J_goto (pc := 161) 109 dX12_again_161 (by decide) ?_
      refine J_sub (L' := [(0, .ref (e_a E o 0)), (1, .int a1), (2, .int (v2 + (1 : Int32)))]) [1, 2, 0] rfl ?_
      exact hk109 (v2 + (1 : Int32)) σ h
    · refine J_aload_n (pc := 127) 0 dX12_again_127 rfl ?_
      refine J_iload_n (pc := 128) 2 dX12_again_128 rfl ?_
      refine J_iload_n (pc := 129) 3 dX12_again_129 rfl ?_
      obtain ⟨x18, σ16, hc17, h⟩ := cI_t h
      refine J_cVi (pc := 130) (ctX12_isAgain l E o v2 v3 ho σ hc17) dX12_again_130 mlX12_361 mvX12_isAgain ho rfl (by decide) rfl (Nat.le_of_ble_eq_true rfl) ?_
      refine J_if_eq (pc := 133) 152 dX12_again_133 (by decide) h (fun h => ?_) (fun h => ?_)
      · refine J_iinc (pc := 152) (L' := [(3, .int (v3 + (1 : Int32))), (0, .ref (e_a E o 0)), (1, .int a1), (2, .int v2)]) 3 (v3 + (1 : Int32)) dX12_again_152 rfl (by rfl) (by decide) rfl ?_
        refine J_goto (pc := 155) 120 dX12_again_155 (by decide) ?_
        refine J_sub (L' := [(0, .ref (e_a E o 0)), (1, .int a1), (2, .int v2), (3, .int (v3 + (1 : Int32)))]) [1, 2, 3, 0] rfl ?_
        exact ih v2 (v3 + (1 : Int32)) σ16 h
      · refine J_sub (L' := [(0, .ref (e_a E o 0)), (1, .int a1), (2, .int v2), (3, .int v3)]) [0, 1, 2, 3] rfl ?_
        exact tX12_again_136 l E o a1 ho v2 v3 σ16 h
def fX12_again_109 (o : Nat) (a1 : Int32) : Nat → Int32 → Mm → Option (Int32 × Mm)
  | 0, _, _ => none
  | n + 1, v2, σ => if (400 : Int32) ≤ v2 then (c_I (fX12_refuse o (6 : Int32) σ) (fun x11 σ9 => some (x11, σ9))) else (fX12_again_120 o a1 (fX12_again_109 o a1 n) FU v2 (v2 + (1 : Int32)) σ)
set_option maxRecDepth 100000 in
set_option maxHeartbeats 4000000 in
theorem tX12_again_109 (l : Launch) (E : EV) {xr : Int32} {τ : Mm} (o : Nat) (a1 : Int32) (ho : KD o = 12) : ∀ (n : Nat) (v2 : Int32) (σ : Mm), fX12_again_109 o a1 n v2 σ = some (xr, τ) → Jd l E mX12_again 6 (some (.int xr), τ) σ 109 [(0, .ref (e_a E o 0)), (1, .int a1), (2, .int v2)] [] := by
  intro n
  induction n with
  | zero => intro v2 σ h; rw [fX12_again_109] at h; cases h
  | succ n ih =>
    intro v2 σ h
    rw [fX12_again_109] at h
    refine J_iload_n (pc := 109) 2 dX12_again_109 rfl ?_
    refine J_sipush (pc := 110) (400 : Int32) dX12_again_110 (by decide) ?_
    refine J_icmp_ge (pc := 113) 164 dX12_again_113 (by decide) h (fun h => ?_) (fun h => ?_)
    · refine J_aload_n (pc := 164) 0 dX12_again_164 rfl ?_
      refine J_bipush (pc := 165) (6 : Int32) dX12_again_165 (by decide) ?_
      obtain ⟨x11, σ9, hc10, h⟩ := cI_t h
      refine J_cVi (pc := 167) (ctX12_refuse l E o (6 : Int32) ho σ hc10) dX12_again_167 mlX12_83 mvX12_refuse ho rfl (by decide) rfl (Nat.le_of_ble_eq_true rfl) ?_
      cases h
      exact J_iret (pc := 170) dX12_again_170 rfl rfl
    · refine J_iload_n (pc := 116) 2 dX12_again_116 rfl ?_
      refine J_iconst (pc := 117) (1 : Int32) dX12_again_117 (by decide) ?_
      refine J_iadd (pc := 118) dX12_again_118 ?_
      refine J_istore_n (pc := 119) (L' := [(3, .int (v2 + (1 : Int32))), (0, .ref (e_a E o 0)), (1, .int a1), (2, .int v2)]) dX12_again_119 (by decide) rfl ?_
      refine J_sub (L' := [(0, .ref (e_a E o 0)), (1, .int a1), (2, .int v2), (3, .int (v2 + (1 : Int32)))]) [1, 2, 3, 0] rfl ?_
      exact tX12_again_120 l E o a1 ho (fX12_again_109 o a1 n) ih FU v2 (v2 + (1 : Int32)) σ h
def fX12_again_21 (o : Nat) (a1 : Int32) : Nat → Int32 → Mm → Option (Int32 × Mm)
  | 0, _, _ => none
  | n + 1, v2, σ => if (400 : Int32) < v2 then (fX12_again_109 o a1 FU (0 : Int32) σ) else (fX12_again_30 o a1 (fX12_again_21 o a1 n) FU v2 (0 : Int32) σ)
set_option maxRecDepth 100000 in
set_option maxHeartbeats 4000000 in
theorem tX12_again_21 (l : Launch) (E : EV) {xr : Int32} {τ : Mm} (o : Nat) (a1 : Int32) (ho : KD o = 12) : ∀ (n : Nat) (v2 : Int32) (σ : Mm), fX12_again_21 o a1 n v2 σ = some (xr, τ) → Jd l E mX12_again 6 (some (.int xr), τ) σ 21 [(0, .ref (e_a E o 0)), (1, .int a1), (2, .int v2)] [] := by
  intro n
  induction n with
  | zero => intro v2 σ h; rw [fX12_again_21] at h; cases h
  | succ n ih =>
    intro v2 σ h
    rw [fX12_again_21] at h
    refine J_iload_n (pc := 21) 2 dX12_again_21 rfl ?_
    refine J_sipush (pc := 22) (400 : Int32) dX12_again_22 (by decide) ?_
    refine J_icmp_gt (pc := 25) 107 dX12_again_25 (by decide) h (fun h => ?_) (fun h => ?_)
    · refine J_iconst (pc := 107) (0 : Int32) dX12_again_107 (by decide) ?_
      refine J_istore_n (pc := 108) (L' := [(2, .int (0 : Int32)), (0, .ref (e_a E o 0)), (1, .int a1)]) dX12_again_108 (by decide) rfl ?_
      refine J_sub (L' := [(0, .ref (e_a E o 0)), (1, .int a1), (2, .int (0 : Int32))]) [1, 2, 0] rfl ?_
      exact tX12_again_109 l E o a1 ho FU (0 : Int32) σ h
    · refine J_iconst (pc := 28) (0 : Int32) dX12_again_28 (by decide) ?_
      refine J_istore_n (pc := 29) (L' := [(3, .int (0 : Int32)), (0, .ref (e_a E o 0)), (1, .int a1), (2, .int v2)]) dX12_again_29 (by decide) rfl ?_
      refine J_sub (L' := [(0, .ref (e_a E o 0)), (1, .int a1), (2, .int v2), (3, .int (0 : Int32))]) [1, 2, 3, 0] rfl ?_
      exact tX12_again_30 l E o a1 ho (fX12_again_21 o a1 n) ih FU v2 (0 : Int32) σ h
def fX12_again (o : Nat) (a1 : Int32) (σ : Mm) : Option (Int32 × Mm) := if a1 < 0 then (c_I (fX12_refuse o (1 : Int32) σ) (fun x3 σ1 => some (x3, σ1))) else (if a1 ≤ (1 : Int32) then (c_V (fX12_begins1 o σ) (fun σ4 => fX12_again_21 o a1 FU (0 : Int32) σ4)) else (c_I (fX12_refuse o (1 : Int32) σ) (fun x8 σ6 => some (x8, σ6))))
set_option maxRecDepth 100000 in
set_option maxHeartbeats 4000000 in
theorem ctX12_again (l : Launch) (E : EV) (o : Nat) (a1 : Int32) (ho : KD o = 12) (σ : Mm) {xr : Int32} {τ : Mm} (h : fX12_again o a1 σ = some (xr, τ)) : Ct l E mX12_again 6 [.ref (e_a E o 0), .int a1] σ (some (.int xr), τ) := by
  refine Ct.of (by decide +kernel) (Nat.le_of_ble_eq_true rfl) ?_
  show Jd l E mX12_again 6 (some (.int xr), τ) σ 0 [(0, .ref (e_a E o 0)), (1, .int a1)] []
  unfold fX12_again at h
  refine J_iload_n (pc := 0) 1 dX12_again_0 rfl ?_
  refine J_if_lt (pc := 1) 9 dX12_again_1 (by decide) h (fun h => ?_) (fun h => ?_)
  · refine J_aload_n (pc := 9) 0 dX12_again_9 rfl ?_
    refine J_iconst (pc := 10) (1 : Int32) dX12_again_10 (by decide) ?_
    obtain ⟨x3, σ1, hc2, h⟩ := cI_t h
    refine J_cVi (pc := 11) (ctX12_refuse l E o (1 : Int32) ho σ hc2) dX12_again_11 mlX12_83 mvX12_refuse ho rfl (by decide) rfl (Nat.le_of_ble_eq_true rfl) ?_
    cases h
    exact J_iret (pc := 14) dX12_again_14 rfl rfl
  · refine J_iload_n (pc := 4) 1 dX12_again_4 rfl ?_
    refine J_iconst (pc := 5) (1 : Int32) dX12_again_5 (by decide) ?_
    refine J_icmp_le (pc := 6) 15 dX12_again_6 (by decide) h (fun h => ?_) (fun h => ?_)
    · refine J_aload_n (pc := 15) 0 dX12_again_15 rfl ?_
      obtain ⟨σ4, hc5, h⟩ := cV_t h
      refine J_cVv (pc := 16) (ctX12_begins1 l E o ho σ hc5) dX12_again_16 mlX12_325 mvX12_begins1 ho rfl (by decide) rfl (Nat.le_of_ble_eq_true rfl) ?_
      refine J_iconst (pc := 19) (0 : Int32) dX12_again_19 (by decide) ?_
      refine J_istore_n (pc := 20) (L' := [(2, .int (0 : Int32)), (0, .ref (e_a E o 0)), (1, .int a1)]) dX12_again_20 (by decide) rfl ?_
      refine J_sub (L' := [(0, .ref (e_a E o 0)), (1, .int a1), (2, .int (0 : Int32))]) [1, 2, 0] rfl ?_
      exact tX12_again_21 l E o a1 ho FU (0 : Int32) σ4 h
    · refine J_aload_n (pc := 9) 0 dX12_again_9 rfl ?_
      refine J_iconst (pc := 10) (1 : Int32) dX12_again_10 (by decide) ?_
      obtain ⟨x8, σ6, hc7, h⟩ := cI_t h
      refine J_cVi (pc := 11) (ctX12_refuse l E o (1 : Int32) ho σ hc7) dX12_again_11 mlX12_83 mvX12_refuse ho rfl (by decide) rfl (Nat.le_of_ble_eq_true rfl) ?_
      cases h
      exact J_iret (pc := 14) dX12_again_14 rfl rfl
def fX12_strikes (o : Nat) (a1 : Int32) (a2 : Int32) (σ : Mm) : Option (Int32 × Mm) := c_I (fX12_isVane o a1 σ) (fun x3 σ1 => if x3 = 0 then (c_I (fX12_refuse o (1 : Int32) σ1) (fun x6 σ4 => some (x6, σ4))) else (c_I (fX12_isSpan a2 σ1) (fun x9 σ7 => if x9 = 0 then (c_I (fX12_refuse o (1 : Int32) σ7) (fun x25 σ23 => some (x25, σ23))) else (c_V (fX12_begins1 o σ7) (fun σ10 => c_I (fX12_vaneAt o a1 (5 : Int32) σ10) (fun x14 σ12 => c_V (fX12_goesBy o a2 σ12) (fun σ15 => c_I (fX12_vaneAt o a1 (5 : Int32) σ15) (fun x19 σ17 => c_I (fX12_gives o (x19 - x14) σ17) (fun x22 σ20 => some (x22, σ20))))))))))
set_option maxRecDepth 100000 in
set_option maxHeartbeats 4000000 in
theorem ctX12_strikes (l : Launch) (E : EV) (o : Nat) (a1 : Int32) (a2 : Int32) (ho : KD o = 12) (σ : Mm) {xr : Int32} {τ : Mm} (h : fX12_strikes o a1 a2 σ = some (xr, τ)) : Ct l E mX12_strikes 7 [.ref (e_a E o 0), .int a1, .int a2] σ (some (.int xr), τ) := by
  refine Ct.of (by decide +kernel) (Nat.le_of_ble_eq_true rfl) ?_
  show Jd l E mX12_strikes 7 (some (.int xr), τ) σ 0 [(0, .ref (e_a E o 0)), (1, .int a1), (2, .int a2)] []
  unfold fX12_strikes at h
  refine J_aload_n (pc := 0) 0 dX12_strikes_0 rfl ?_
  refine J_iload_n (pc := 1) 1 dX12_strikes_1 rfl ?_
  obtain ⟨x3, σ1, hc2, h⟩ := cI_t h
  refine J_cVi (pc := 2) (ctX12_isVane l E o a1 ho σ hc2) dX12_strikes_2 mlX12_243 mvX12_isVane ho rfl (by decide) rfl (Nat.le_of_ble_eq_true rfl) ?_
  refine J_if_eq (pc := 5) 15 dX12_strikes_5 (by decide) h (fun h => ?_) (fun h => ?_)
  · refine J_aload_n (pc := 15) 0 dX12_strikes_15 rfl ?_
    refine J_iconst (pc := 16) (1 : Int32) dX12_strikes_16 (by decide) ?_
    obtain ⟨x6, σ4, hc5, h⟩ := cI_t h
    refine J_cVi (pc := 17) (ctX12_refuse l E o (1 : Int32) ho σ1 hc5) dX12_strikes_17 mlX12_83 mvX12_refuse ho rfl (by decide) rfl (Nat.le_of_ble_eq_true rfl) ?_
    cases h
    exact J_iret (pc := 20) dX12_strikes_20 rfl rfl
  · refine J_iload_n (pc := 8) 2 dX12_strikes_8 rfl ?_
    obtain ⟨x9, σ7, hc8, h⟩ := cI_t h
    refine J_cSi (pc := 9) (ctX12_isSpan l E a2 σ1 hc8) dX12_strikes_9 mlX12_364 msX12_isSpan rfl (by decide) rfl (Nat.le_of_ble_eq_true rfl) ?_
    refine J_if_ne (pc := 12) 21 dX12_strikes_12 (by decide) h (fun h => ?_) (fun h => ?_)
    · refine J_aload_n (pc := 21) 0 dX12_strikes_21 rfl ?_
      obtain ⟨σ10, hc11, h⟩ := cV_t h
      refine J_cVv (pc := 22) (ctX12_begins1 l E o ho σ7 hc11) dX12_strikes_22 mlX12_325 mvX12_begins1 ho rfl (by decide) rfl (Nat.le_of_ble_eq_true rfl) ?_
      refine J_aload_n (pc := 25) 0 dX12_strikes_25 rfl ?_
      refine J_iload_n (pc := 26) 1 dX12_strikes_26 rfl ?_
      refine J_iconst (pc := 27) (5 : Int32) dX12_strikes_27 (by decide) ?_
      obtain ⟨x14, σ12, hc13, h⟩ := cI_t h
      refine J_cVi (pc := 28) (ctX12_vaneAt l E o a1 (5 : Int32) ho σ10 hc13) dX12_strikes_28 mlX12_249 mvX12_vaneAt ho rfl (by decide) rfl (Nat.le_of_ble_eq_true rfl) ?_
      refine J_istore_n (pc := 31) (L' := [(3, .int x14), (0, .ref (e_a E o 0)), (1, .int a1), (2, .int a2)]) dX12_strikes_31 (by decide) rfl ?_
      refine J_aload_n (pc := 32) 1 dX12_strikes_32 rfl ?_
      refine J_iload_n (pc := 33) 3 dX12_strikes_33 rfl ?_
      obtain ⟨σ15, hc16, h⟩ := cV_t h
      refine J_cVv (pc := 34) (ctX12_goesBy l E o a2 ho σ12 hc16) dX12_strikes_34 mlX12_328 mvX12_goesBy ho rfl (by decide) rfl (Nat.le_of_ble_eq_true rfl) ?_
      refine J_aload_n (pc := 37) 1 dX12_strikes_37 rfl ?_
      refine J_aload_n (pc := 38) 1 dX12_strikes_38 rfl ?_
      refine J_iload_n (pc := 39) 2 dX12_strikes_39 rfl ?_
      refine J_iconst (pc := 40) (5 : Int32) dX12_strikes_40 (by decide) ?_
      obtain ⟨x19, σ17, hc18, h⟩ := cI_t h
      refine J_cVi (pc := 41) (ctX12_vaneAt l E o a1 (5 : Int32) ho σ15 hc18) dX12_strikes_41 mlX12_249 mvX12_vaneAt ho rfl (by decide) rfl (Nat.le_of_ble_eq_true rfl) ?_
      refine J_iload_n (pc := 44) 0 dX12_strikes_44 rfl ?_
      refine J_isub (pc := 45) dX12_strikes_45 ?_
      obtain ⟨x22, σ20, hc21, h⟩ := cI_t h
      refine J_cVi (pc := 46) (ctX12_gives l E o (x19 - x14) ho σ17 hc21) dX12_strikes_46 mlX12_87 mvX12_gives ho rfl (by decide) rfl (Nat.le_of_ble_eq_true rfl) ?_
      cases h
      exact J_iret (pc := 49) dX12_strikes_49 rfl rfl
    · refine J_aload_n (pc := 15) 0 dX12_strikes_15 rfl ?_
      refine J_iconst (pc := 16) (1 : Int32) dX12_strikes_16 (by decide) ?_
      obtain ⟨x25, σ23, hc24, h⟩ := cI_t h
      refine J_cVi (pc := 17) (ctX12_refuse l E o (1 : Int32) ho σ7 hc24) dX12_strikes_17 mlX12_83 mvX12_refuse ho rfl (by decide) rfl (Nat.le_of_ble_eq_true rfl) ?_
      cases h
      exact J_iret (pc := 20) dX12_strikes_20 rfl rfl
def fX12_bell (o : Nat) (a1 : Int32) (a2 : Int32) (σ : Mm) : Option (Int32 × Mm) := if a1 < 0 then (c_I (fX12_refuse o (1 : Int32) σ) (fun x3 σ1 => some (x3, σ1))) else (c_I (fX12_isSpan a2 σ) (fun x6 σ4 => if x6 = 0 then (c_I (fX12_refuse o (1 : Int32) σ4) (fun x21 σ19 => some (x21, σ19))) else (c_V (fX12_begins1 o σ4) (fun σ7 => c_V (fX12_goesBy o a2 σ7) (fun σ9 => r_sc σ9 o 26 (fun x11 => if a1 < x11 then (g_ar σ9 o 9 12800 a1 (fun x12 => c_I (fX12_gives o x12 σ9) (fun x15 σ13 => some (x15, σ13)))) else (c_I (fX12_refuse o (6 : Int32) σ9) (fun x18 σ16 => some (x18, σ16)))))))))
set_option maxRecDepth 100000 in
set_option maxHeartbeats 4000000 in
theorem ctX12_bell (l : Launch) (E : EV) (o : Nat) (a1 : Int32) (a2 : Int32) (ho : KD o = 12) (σ : Mm) {xr : Int32} {τ : Mm} (h : fX12_bell o a1 a2 σ = some (xr, τ)) : Ct l E mX12_bell 7 [.ref (e_a E o 0), .int a1, .int a2] σ (some (.int xr), τ) := by
  refine Ct.of (by decide +kernel) (Nat.le_of_ble_eq_true rfl) ?_
  show Jd l E mX12_bell 7 (some (.int xr), τ) σ 0 [(0, .ref (e_a E o 0)), (1, .int a1), (2, .int a2)] []
  unfold fX12_bell at h
  refine J_iload_n (pc := 0) 1 dX12_bell_0 rfl ?_
  refine J_if_lt (pc := 1) 11 dX12_bell_1 (by decide) h (fun h => ?_) (fun h => ?_)
  · refine J_aload_n (pc := 11) 0 dX12_bell_11 rfl ?_
    refine J_iconst (pc := 12) (1 : Int32) dX12_bell_12 (by decide) ?_
    obtain ⟨x3, σ1, hc2, h⟩ := cI_t h
    refine J_cVi (pc := 13) (ctX12_refuse l E o (1 : Int32) ho σ hc2) dX12_bell_13 mlX12_83 mvX12_refuse ho rfl (by decide) rfl (Nat.le_of_ble_eq_true rfl) ?_
    cases h
    exact J_iret (pc := 16) dX12_bell_16 rfl rfl
  · refine J_iload_n (pc := 4) 2 dX12_bell_4 rfl ?_
    obtain ⟨x6, σ4, hc5, h⟩ := cI_t h
    refine J_cSi (pc := 5) (ctX12_isSpan l E a2 σ hc5) dX12_bell_5 mlX12_364 msX12_isSpan rfl (by decide) rfl (Nat.le_of_ble_eq_true rfl) ?_
    refine J_if_ne (pc := 8) 17 dX12_bell_8 (by decide) h (fun h => ?_) (fun h => ?_)
    · refine J_aload_n (pc := 17) 0 dX12_bell_17 rfl ?_
      obtain ⟨σ7, hc8, h⟩ := cV_t h
      refine J_cVv (pc := 18) (ctX12_begins1 l E o ho σ4 hc8) dX12_bell_18 mlX12_325 mvX12_begins1 ho rfl (by decide) rfl (Nat.le_of_ble_eq_true rfl) ?_
      refine J_aload_n (pc := 21) 0 dX12_bell_21 rfl ?_
      refine J_iload_n (pc := 22) 2 dX12_bell_22 rfl ?_
      obtain ⟨σ9, hc10, h⟩ := cV_t h
      refine J_cVv (pc := 23) (ctX12_goesBy l E o a2 ho σ7 hc10) dX12_bell_23 mlX12_328 mvX12_goesBy ho rfl (by decide) rfl (Nat.le_of_ble_eq_true rfl) ?_
      refine J_iload_n (pc := 26) 1 dX12_bell_26 rfl ?_
      refine J_aload_n (pc := 27) 0 dX12_bell_27 rfl ?_
      refine J_getI (pc := 28) dX12_bell_28 ho flX12_285 rfl h (fun x11 h => ?_)
      refine J_icmp_lt (pc := 31) 43 dX12_bell_31 (by decide) h (fun h => ?_) (fun h => ?_)
      · refine J_aload_n (pc := 43) 0 dX12_bell_43 rfl ?_
        refine J_aload_n (pc := 44) 0 dX12_bell_44 rfl ?_
        refine J_getA (pc := 45) dX12_bell_45 ho flX12_50 rfl ?_
        refine J_iload_n (pc := 48) 1 dX12_bell_48 rfl ?_
        refine J_iald (pc := 49) dX12_bell_49 ho ha12_9 h (fun x12 h => ?_)
        obtain ⟨x15, σ13, hc14, h⟩ := cI_t h
        refine J_cVi (pc := 50) (ctX12_gives l E o x12 ho σ9 hc14) dX12_bell_50 mlX12_87 mvX12_gives ho rfl (by decide) rfl (Nat.le_of_ble_eq_true rfl) ?_
        cases h
        exact J_iret (pc := 53) dX12_bell_53 rfl rfl
      · refine J_aload_n (pc := 34) 0 dX12_bell_34 rfl ?_
        refine J_bipush (pc := 35) (6 : Int32) dX12_bell_35 (by decide) ?_
        obtain ⟨x18, σ16, hc17, h⟩ := cI_t h
        refine J_cVi (pc := 37) (ctX12_refuse l E o (6 : Int32) ho σ9 hc17) dX12_bell_37 mlX12_83 mvX12_refuse ho rfl (by decide) rfl (Nat.le_of_ble_eq_true rfl) ?_
        refine J_goto (pc := 40) 53 dX12_bell_40 (by decide) ?_
        cases h
        exact J_iret (pc := 53) dX12_bell_53 rfl rfl
    · refine J_aload_n (pc := 11) 0 dX12_bell_11 rfl ?_
      refine J_iconst (pc := 12) (1 : Int32) dX12_bell_12 (by decide) ?_
      obtain ⟨x21, σ19, hc20, h⟩ := cI_t h
      refine J_cVi (pc := 13) (ctX12_refuse l E o (1 : Int32) ho σ4 hc20) dX12_bell_13 mlX12_83 mvX12_refuse ho rfl (by decide) rfl (Nat.le_of_ble_eq_true rfl) ?_
      cases h
      exact J_iret (pc := 16) dX12_bell_16 rfl rfl
def fX12_wrongOf_28 (o : Nat) (a1 : Int32) (a2 : Int32) (k5 : Int32 → Int32 → Mm → Option (Int32 × Mm)) : Nat → Int32 → Int32 → Int32 → Int32 → Mm → Option (Int32 × Mm)
  | 0, _, _, _, _, _ => none
  | n + 1, v3, v4, v5, v6, σ => g_ar σ o 0 2950 (1 : Int32) (fun x8 => if x8 ≤ v6 then (k5 v3 (v4 + (1 : Int32)) σ) else ((fX12_wrongOf_28 o a1 a2 k5 n) (v3 + (((a1 &&& (v5 ^^^ (-1 : Int32))) >>> (v6 &&& 31)) &&& (1 : Int32))) v4 v5 (v6 + (1 : Int32)) σ))
set_option maxRecDepth 100000 in
set_option maxHeartbeats 4000000 in
theorem tX12_wrongOf_28 (l : Launch) (E : EV) {xr : Int32} {τ : Mm} (o : Nat) (a1 : Int32) (a2 : Int32) (ho : KD o = 12) (k5 : Int32 → Int32 → Mm → Option (Int32 × Mm)) (hk5 : ∀ (v3 : Int32) (v4 : Int32) (σ : Mm), k5 v3 v4 σ = some (xr, τ) → Jd l E mX12_wrongOf 6 (some (.int xr), τ) σ 5 [(0, .ref (e_a E o 0)), (1, .int a1), (2, .int a2), (3, .int v3), (4, .int v4)] []) : ∀ (n : Nat) (v3 : Int32) (v4 : Int32) (v5 : Int32) (v6 : Int32) (σ : Mm), fX12_wrongOf_28 o a1 a2 k5 n v3 v4 v5 v6 σ = some (xr, τ) → Jd l E mX12_wrongOf 6 (some (.int xr), τ) σ 28 [(0, .ref (e_a E o 0)), (1, .int a1), (2, .int a2), (3, .int v3), (4, .int v4), (5, .int v5), (6, .int v6)] [] := by
  intro n
  induction n with
  | zero => intro v3 v4 v5 v6 σ h; rw [fX12_wrongOf_28] at h; cases h
  | succ n ih =>
    intro v3 v4 v5 v6 σ h
    rw [fX12_wrongOf_28] at h
    refine J_iload (pc := 28) 6 dX12_wrongOf_28 rfl ?_
    refine J_aload_n (pc := 30) 0 dX12_wrongOf_30 rfl ?_
    refine J_getA (pc := 31) dX12_wrongOf_31 ho flX12_7 rfl ?_
    refine J_iconst (pc := 34) (1 : Int32) dX12_wrongOf_34 (by decide) ?_
    refine J_iald (pc := 35) dX12_wrongOf_35 ho ha12_0 h (fun x8 h => ?_)
    refine J_icmp_ge (pc := 36) 59 dX12_wrongOf_36 (by decide) h (fun h => ?_) (fun h => ?_)
    · refine J_iinc (pc := 59) (L' := [(4, .int (v4 + (1 : Int32))), (0, .ref (e_a E o 0)), (1, .int a1), (2, .int a2), (3, .int v3), (5, .int v5), (6, .int v6)]) 4 (v4 + (1 : Int32)) dX12_wrongOf_59 rfl (by rfl) (by decide) rfl ?_
      refine J_goto (pc := 62) 5 dX12_wrongOf_62 (by decide) ?_
      refine J_sub (L' := [(0, .ref (e_a E o 0)), (1, .int a1), (2, .int a2), (3, .int v3), (4, .int (v4 + (1 : Int32)))]) [1, 2, 3, 4, 0] rfl ?_
      exact hk5 v3 (v4 + (1 : Int32)) σ h
    · refine J_iload_n (pc := 39) 3 dX12_wrongOf_39 rfl ?_
      refine J_iload_n (pc := 40) 1 dX12_wrongOf_40 rfl ?_
      refine J_iload (pc := 41) 5 dX12_wrongOf_41 rfl ?_
      refine J_iconst (pc := 43) (-1 : Int32) dX12_wrongOf_43 (by decide) ?_
      refine J_ixor (pc := 44) dX12_wrongOf_44 ?_
      refine J_iand (pc := 45) dX12_wrongOf_45 ?_
      refine J_iload (pc := 46) 6 dX12_wrongOf_46 rfl ?_
      refine J_ishr (pc := 48) dX12_wrongOf_48 ?_
      refine J_iconst (pc := 49) (1 : Int32) dX12_wrongOf_49 (by decide) ?_
      refine J_iand (pc := 50) dX12_wrongOf_50 ?_
      refine J_iadd (pc := 51) dX12_wrongOf_51 ?_
      refine J_istore_n (pc := 52) (L' := [(3, .int (v3 + (((a1 &&& (v5 ^^^ (-1 : Int32))) >>> (v6 &&& 31)) &&& (1 : Int32)))), (0, .ref (e_a E o 0)), (1, .int a1), (2, .int a2), (4, .int v4), (5, .int v5), (6, .int v6)]) dX12_wrongOf_52 (by decide) rfl ?_
      refine J_iinc (pc := 53) (L' := [(6, .int (v6 + (1 : Int32))), (3, .int (v3 + (((a1 &&& (v5 ^^^ (-1 : Int32))) >>> (v6 &&& 31)) &&& (1 : Int32)))), (0, .ref (e_a E o 0)), (1, .int a1), (2, .int a2), (4, .int v4), (5, .int v5)]) 6 (v6 + (1 : Int32)) dX12_wrongOf_53 rfl (by rfl) (by decide) rfl ?_
      refine J_goto (pc := 56) 28 dX12_wrongOf_56 (by decide) ?_
      refine J_sub (L' := [(0, .ref (e_a E o 0)), (1, .int a1), (2, .int a2), (3, .int (v3 + (((a1 &&& (v5 ^^^ (-1 : Int32))) >>> (v6 &&& 31)) &&& (1 : Int32)))), (4, .int v4), (5, .int v5), (6, .int (v6 + (1 : Int32)))]) [2, 3, 4, 1, 5, 6, 0] rfl ?_
      exact ih (v3 + (((a1 &&& (v5 ^^^ (-1 : Int32))) >>> (v6 &&& 31)) &&& (1 : Int32))) v4 v5 (v6 + (1 : Int32)) σ h
def fX12_wrongOf_5 (o : Nat) (a1 : Int32) (a2 : Int32) : Nat → Int32 → Int32 → Mm → Option (Int32 × Mm)
  | 0, _, _, _ => none
  | n + 1, v3, v4, σ => if a2 ≤ v4 then (some (v3, σ)) else (c_I (fX12_quarterGoes o σ) (fun x3 σ1 => p_bz σ1 o 29 x3 (fun σ4 => c_I (fX12_rightSet o σ4) (fun x7 σ5 => fX12_wrongOf_28 o a1 a2 (fX12_wrongOf_5 o a1 a2 n) FU v3 v4 x7 (0 : Int32) σ5))))
set_option maxRecDepth 100000 in
set_option maxHeartbeats 4000000 in
theorem tX12_wrongOf_5 (l : Launch) (E : EV) {xr : Int32} {τ : Mm} (o : Nat) (a1 : Int32) (a2 : Int32) (ho : KD o = 12) : ∀ (n : Nat) (v3 : Int32) (v4 : Int32) (σ : Mm), fX12_wrongOf_5 o a1 a2 n v3 v4 σ = some (xr, τ) → Jd l E mX12_wrongOf 6 (some (.int xr), τ) σ 5 [(0, .ref (e_a E o 0)), (1, .int a1), (2, .int a2), (3, .int v3), (4, .int v4)] [] := by
  intro n
  induction n with
  | zero => intro v3 v4 σ h; rw [fX12_wrongOf_5] at h; cases h
  | succ n ih =>
    intro v3 v4 σ h
    rw [fX12_wrongOf_5] at h
    refine J_iload (pc := 5) 4 dX12_wrongOf_5 rfl ?_
    refine J_iload_n (pc := 7) 2 dX12_wrongOf_7 rfl ?_
    refine J_icmp_ge (pc := 8) 65 dX12_wrongOf_8 (by decide) h (fun h => ?_) (fun h => ?_)
    · refine J_iload_n (pc := 65) 3 dX12_wrongOf_65 rfl ?_
      cases h
      exact J_iret (pc := 66) dX12_wrongOf_66 rfl rfl
    · refine J_aload_n (pc := 11) 0 dX12_wrongOf_11 rfl ?_
      refine J_aload_n (pc := 12) 0 dX12_wrongOf_12 rfl ?_
      obtain ⟨x3, σ1, hc2, h⟩ := cI_t h
      refine J_cVi (pc := 13) (ctX12_quarterGoes l E o ho σ hc2) dX12_wrongOf_13 mlX12_306 mvX12_quarterGoes ho rfl (by decide) rfl (Nat.le_of_ble_eq_true rfl) ?_
      refine J_putZ (pc := 16) dX12_wrongOf_16 ho flX12_309 rfl h (fun σ4 h => ?_)
      refine J_aload_n (pc := 19) 0 dX12_wrongOf_19 rfl ?_
      obtain ⟨x7, σ5, hc6, h⟩ := cI_t h
      refine J_cVi (pc := 20) (ctX12_rightSet l E o ho σ4 hc6) dX12_wrongOf_20 mlX12_358 mvX12_rightSet ho rfl (by decide) rfl (Nat.le_of_ble_eq_true rfl) ?_
      refine J_istore (pc := 23) (L' := [(5, .int x7), (0, .ref (e_a E o 0)), (1, .int a1), (2, .int a2), (3, .int v3), (4, .int v4)]) dX12_wrongOf_23 (by decide) rfl ?_
      refine J_iconst (pc := 25) (0 : Int32) dX12_wrongOf_25 (by decide) ?_
      refine J_istore (pc := 26) (L' := [(6, .int (0 : Int32)), (5, .int x7), (0, .ref (e_a E o 0)), (1, .int a1), (2, .int a2), (3, .int v3), (4, .int v4)]) dX12_wrongOf_26 (by decide) rfl ?_
      refine J_sub (L' := [(0, .ref (e_a E o 0)), (1, .int a1), (2, .int a2), (3, .int v3), (4, .int v4), (5, .int x7), (6, .int (0 : Int32))]) [2, 3, 4, 5, 6, 1, 0] rfl ?_
      exact tX12_wrongOf_28 l E o a1 a2 ho (fX12_wrongOf_5 o a1 a2 n) ih FU v3 v4 x7 (0 : Int32) σ5 h
def fX12_wrongOf (o : Nat) (a1 : Int32) (a2 : Int32) (σ : Mm) : Option (Int32 × Mm) := fX12_wrongOf_5 o a1 a2 FU (0 : Int32) (0 : Int32) σ
set_option maxRecDepth 100000 in
set_option maxHeartbeats 4000000 in
theorem ctX12_wrongOf (l : Launch) (E : EV) (o : Nat) (a1 : Int32) (a2 : Int32) (ho : KD o = 12) (σ : Mm) {xr : Int32} {τ : Mm} (h : fX12_wrongOf o a1 a2 σ = some (xr, τ)) : Ct l E mX12_wrongOf 6 [.ref (e_a E o 0), .int a1, .int a2] σ (some (.int xr), τ) := by
  refine Ct.of (by decide +kernel) (Nat.le_of_ble_eq_true rfl) ?_
  show Jd l E mX12_wrongOf 6 (some (.int xr), τ) σ 0 [(0, .ref (e_a E o 0)), (1, .int a1), (2, .int a2)] []
  unfold fX12_wrongOf at h
  refine J_iconst (pc := 0) (0 : Int32) dX12_wrongOf_0 (by decide) ?_
  refine J_istore_n (pc := 1) (L' := [(3, .int (0 : Int32)), (0, .ref (e_a E o 0)), (1, .int a1), (2, .int a2)]) dX12_wrongOf_1 (by decide) rfl ?_
  refine J_iconst (pc := 2) (0 : Int32) dX12_wrongOf_2 (by decide) ?_
  refine J_istore (pc := 3) (L' := [(4, .int (0 : Int32)), (3, .int (0 : Int32)), (0, .ref (e_a E o 0)), (1, .int a1), (2, .int a2)]) dX12_wrongOf_3 (by decide) rfl ?_
  refine J_sub (L' := [(0, .ref (e_a E o 0)), (1, .int a1), (2, .int a2), (3, .int (0 : Int32)), (4, .int (0 : Int32))]) [2, 3, 4, 1, 0] rfl ?_
  exact tX12_wrongOf_5 l E o a1 a2 ho FU (0 : Int32) (0 : Int32) σ h
def fX12_wrong (o : Nat) (a1 : Int32) (a2 : Int32) (σ : Mm) : Option (Int32 × Mm) := c_I (fX12_isVane o a1 σ) (fun x3 σ1 => if x3 = 0 then (c_I (fX12_refuse o (1 : Int32) σ1) (fun x6 σ4 => some (x6, σ4))) else (c_I (fX12_isSpan a2 σ1) (fun x9 σ7 => if x9 = 0 then (c_I (fX12_refuse o (1 : Int32) σ7) (fun x20 σ18 => some (x20, σ18))) else (c_V (fX12_begins1 o σ7) (fun σ10 => c_I (fX12_wrongOf o ((1 : Int32) <<< (a1 &&& 31)) a2 σ10) (fun x14 σ12 => c_I (fX12_gives o x14 σ12) (fun x17 σ15 => some (x17, σ15))))))))
set_option maxRecDepth 100000 in
set_option maxHeartbeats 4000000 in
theorem ctX12_wrong (l : Launch) (E : EV) (o : Nat) (a1 : Int32) (a2 : Int32) (ho : KD o = 12) (σ : Mm) {xr : Int32} {τ : Mm} (h : fX12_wrong o a1 a2 σ = some (xr, τ)) : Ct l E mX12_wrong 7 [.ref (e_a E o 0), .int a1, .int a2] σ (some (.int xr), τ) := by
  refine Ct.of (by decide +kernel) (Nat.le_of_ble_eq_true rfl) ?_
  show Jd l E mX12_wrong 7 (some (.int xr), τ) σ 0 [(0, .ref (e_a E o 0)), (1, .int a1), (2, .int a2)] []
  unfold fX12_wrong at h
  refine J_aload_n (pc := 0) 0 dX12_wrong_0 rfl ?_
  refine J_iload_n (pc := 1) 1 dX12_wrong_1 rfl ?_
  obtain ⟨x3, σ1, hc2, h⟩ := cI_t h
  refine J_cVi (pc := 2) (ctX12_isVane l E o a1 ho σ hc2) dX12_wrong_2 mlX12_243 mvX12_isVane ho rfl (by decide) rfl (Nat.le_of_ble_eq_true rfl) ?_
  refine J_if_eq (pc := 5) 15 dX12_wrong_5 (by decide) h (fun h => ?_) (fun h => ?_)
  · refine J_aload_n (pc := 15) 0 dX12_wrong_15 rfl ?_
    refine J_iconst (pc := 16) (1 : Int32) dX12_wrong_16 (by decide) ?_
    obtain ⟨x6, σ4, hc5, h⟩ := cI_t h
    refine J_cVi (pc := 17) (ctX12_refuse l E o (1 : Int32) ho σ1 hc5) dX12_wrong_17 mlX12_83 mvX12_refuse ho rfl (by decide) rfl (Nat.le_of_ble_eq_true rfl) ?_
    cases h
    exact J_iret (pc := 20) dX12_wrong_20 rfl rfl
  · refine J_iload_n (pc := 8) 2 dX12_wrong_8 rfl ?_
    obtain ⟨x9, σ7, hc8, h⟩ := cI_t h
    refine J_cSi (pc := 9) (ctX12_isSpan l E a2 σ1 hc8) dX12_wrong_9 mlX12_364 msX12_isSpan rfl (by decide) rfl (Nat.le_of_ble_eq_true rfl) ?_
    refine J_if_ne (pc := 12) 21 dX12_wrong_12 (by decide) h (fun h => ?_) (fun h => ?_)
    · refine J_aload_n (pc := 21) 0 dX12_wrong_21 rfl ?_
      obtain ⟨σ10, hc11, h⟩ := cV_t h
      refine J_cVv (pc := 22) (ctX12_begins1 l E o ho σ7 hc11) dX12_wrong_22 mlX12_325 mvX12_begins1 ho rfl (by decide) rfl (Nat.le_of_ble_eq_true rfl) ?_
      refine J_aload_n (pc := 25) 0 dX12_wrong_25 rfl ?_
      refine J_aload_n (pc := 26) 0 dX12_wrong_26 rfl ?_
      refine J_iconst (pc := 27) (1 : Int32) dX12_wrong_27 (by decide) ?_
      refine J_iload_n (pc := 28) 1 dX12_wrong_28 rfl ?_
      refine J_ishl (pc := 29) dX12_wrong_29 ?_
      refine J_iload_n (pc := 30) 2 dX12_wrong_30 rfl ?_
      obtain ⟨x14, σ12, hc13, h⟩ := cI_t h
      refine J_cVi (pc := 31) (ctX12_wrongOf l E o ((1 : Int32) <<< (a1 &&& 31)) a2 ho σ10 hc13) dX12_wrong_31 mlX12_367 mvX12_wrongOf ho rfl (by decide) rfl (Nat.le_of_ble_eq_true rfl) ?_
      obtain ⟨x17, σ15, hc16, h⟩ := cI_t h
      refine J_cVi (pc := 34) (ctX12_gives l E o x14 ho σ12 hc16) dX12_wrong_34 mlX12_87 mvX12_gives ho rfl (by decide) rfl (Nat.le_of_ble_eq_true rfl) ?_
      cases h
      exact J_iret (pc := 37) dX12_wrong_37 rfl rfl
    · refine J_aload_n (pc := 15) 0 dX12_wrong_15 rfl ?_
      refine J_iconst (pc := 16) (1 : Int32) dX12_wrong_16 (by decide) ?_
      obtain ⟨x20, σ18, hc19, h⟩ := cI_t h
      refine J_cVi (pc := 17) (ctX12_refuse l E o (1 : Int32) ho σ7 hc19) dX12_wrong_17 mlX12_83 mvX12_refuse ho rfl (by decide) rfl (Nat.le_of_ble_eq_true rfl) ?_
      cases h
      exact J_iret (pc := 20) dX12_wrong_20 rfl rfl
def fX12_holding (o : Nat) (a1 : Int32) (a2 : Int32) (σ : Mm) : Option (Int32 × Mm) := c_I (fX12_isVane o a1 σ) (fun x3 σ1 => if x3 = 0 then (c_I (fX12_refuse o (1 : Int32) σ1) (fun x6 σ4 => some (x6, σ4))) else (c_I (fX12_isSpan a2 σ1) (fun x9 σ7 => if x9 = 0 then (c_I (fX12_refuse o (1 : Int32) σ7) (fun x28 σ26 => some (x28, σ26))) else (g_ar σ7 o 0 2950 (1 : Int32) (fun x10 => c_V (fX12_begins1 o σ7) (fun σ11 => c_I (fX12_wrongOf o ((((1 : Int32) <<< (x10 &&& 31)) - (1 : Int32)) &&& (((1 : Int32) <<< (a1 &&& 31)) ^^^ (-1 : Int32))) a2 σ11) (fun x15 σ13 => c_V (fX12_begins1 o σ13) (fun σ16 => g_ar σ16 o 0 2950 (2455 : Int32) (fun x18 => s_ar σ16 o 0 2950 (2455 : Int32) (x18 ||| ((1 : Int32) <<< (a1 &&& 31))) (fun σ19 => c_I (fX12_wrongOf o ((((1 : Int32) <<< (x10 &&& 31)) - (1 : Int32)) &&& (((1 : Int32) <<< (a1 &&& 31)) ^^^ (-1 : Int32))) a2 σ19) (fun x22 σ20 => c_I (fX12_gives o (x22 - x15) σ20) (fun x25 σ23 => some (x25, σ23)))))))))))))
set_option maxRecDepth 100000 in
set_option maxHeartbeats 4000000 in
theorem ctX12_holding (l : Launch) (E : EV) (o : Nat) (a1 : Int32) (a2 : Int32) (ho : KD o = 12) (σ : Mm) {xr : Int32} {τ : Mm} (h : fX12_holding o a1 a2 σ = some (xr, τ)) : Ct l E mX12_holding 7 [.ref (e_a E o 0), .int a1, .int a2] σ (some (.int xr), τ) := by
  refine Ct.of (by decide +kernel) (Nat.le_of_ble_eq_true rfl) ?_
  show Jd l E mX12_holding 7 (some (.int xr), τ) σ 0 [(0, .ref (e_a E o 0)), (1, .int a1), (2, .int a2)] []
  unfold fX12_holding at h
  refine J_aload_n (pc := 0) 0 dX12_holding_0 rfl ?_
  refine J_iload_n (pc := 1) 1 dX12_holding_1 rfl ?_
  obtain ⟨x3, σ1, hc2, h⟩ := cI_t h
  refine J_cVi (pc := 2) (ctX12_isVane l E o a1 ho σ hc2) dX12_holding_2 mlX12_243 mvX12_isVane ho rfl (by decide) rfl (Nat.le_of_ble_eq_true rfl) ?_
  refine J_if_eq (pc := 5) 15 dX12_holding_5 (by decide) h (fun h => ?_) (fun h => ?_)
  · refine J_aload_n (pc := 15) 0 dX12_holding_15 rfl ?_
    refine J_iconst (pc := 16) (1 : Int32) dX12_holding_16 (by decide) ?_
    obtain ⟨x6, σ4, hc5, h⟩ := cI_t h
    refine J_cVi (pc := 17) (ctX12_refuse l E o (1 : Int32) ho σ1 hc5) dX12_holding_17 mlX12_83 mvX12_refuse ho rfl (by decide) rfl (Nat.le_of_ble_eq_true rfl) ?_
    cases h
    exact J_iret (pc := 20) dX12_holding_20 rfl rfl
  · refine J_iload_n (pc := 8) 2 dX12_holding_8 rfl ?_
    obtain ⟨x9, σ7, hc8, h⟩ := cI_t h
    refine J_cSi (pc := 9) (ctX12_isSpan l E a2 σ1 hc8) dX12_holding_9 mlX12_364 msX12_isSpan rfl (by decide) rfl (Nat.le_of_ble_eq_true rfl) ?_
    refine J_if_ne (pc := 12) 21 dX12_holding_12 (by decide) h (fun h => ?_) (fun h => ?_)
    · refine J_iconst (pc := 21) (1 : Int32) dX12_holding_21 (by decide) ?_
      refine J_aload_n (pc := 22) 0 dX12_holding_22 rfl ?_
      refine J_getA (pc := 23) dX12_holding_23 ho flX12_7 rfl ?_
      refine J_iconst (pc := 26) (1 : Int32) dX12_holding_26 (by decide) ?_
      refine J_iald (pc := 27) dX12_holding_27 ho ha12_0 h (fun x10 h => ?_)
      refine J_ishl (pc := 28) dX12_holding_28 ?_
      refine J_iconst (pc := 29) (1 : Int32) dX12_holding_29 (by decide) ?_
      refine J_isub (pc := 30) dX12_holding_30 ?_
      refine J_iconst (pc := 31) (1 : Int32) dX12_holding_31 (by decide) ?_
      refine J_iload_n (pc := 32) 1 dX12_holding_32 rfl ?_
      refine J_ishl (pc := 33) dX12_holding_33 ?_
      refine J_iconst (pc := 34) (-1 : Int32) dX12_holding_34 (by decide) ?_
      refine J_ixor (pc := 35) dX12_holding_35 ?_
      refine J_iand (pc := 36) dX12_holding_36 ?_
      refine J_istore_n (pc := 37) (L' := [(3, .int ((((1 : Int32) <<< (x10 &&& 31)) - (1 : Int32)) &&& (((1 : Int32) <<< (a1 &&& 31)) ^^^ (-1 : Int32)))), (0, .ref (e_a E o 0)), (1, .int a1), (2, .int a2)]) dX12_holding_37 (by decide) rfl ?_
      refine J_aload_n (pc := 38) 1 dX12_holding_38 rfl ?_
      obtain ⟨σ11, hc12, h⟩ := cV_t h
      refine J_cVv (pc := 39) (ctX12_begins1 l E o ho σ7 hc12) dX12_holding_39 mlX12_325 mvX12_begins1 ho rfl (by decide) rfl (Nat.le_of_ble_eq_true rfl) ?_
      refine J_aload_n (pc := 42) 1 dX12_holding_42 rfl ?_
      refine J_iload_n (pc := 43) 0 dX12_holding_43 rfl ?_
      refine J_iload_n (pc := 44) 3 dX12_holding_44 rfl ?_
      obtain ⟨x15, σ13, hc14, h⟩ := cI_t h
      refine J_cVi (pc := 45) (ctX12_wrongOf l E o ((((1 : Int32) <<< (x10 &&& 31)) - (1 : Int32)) &&& (((1 : Int32) <<< (a1 &&& 31)) ^^^ (-1 : Int32))) a2 ho σ11 hc14) dX12_holding_45 mlX12_367 mvX12_wrongOf ho rfl (by decide) rfl (Nat.le_of_ble_eq_true rfl) ?_
      refine J_istore (pc := 48) (L' := [(4, .int x15), (3, .int ((((1 : Int32) <<< (x10 &&& 31)) - (1 : Int32)) &&& (((1 : Int32) <<< (a1 &&& 31)) ^^^ (-1 : Int32)))), (0, .ref (e_a E o 0)), (1, .int a1), (2, .int a2)]) dX12_holding_48 (by decide) rfl ?_
      refine J_aload_n (pc := 50) 2 dX12_holding_50 rfl ?_
      obtain ⟨σ16, hc17, h⟩ := cV_t h
      refine J_cVv (pc := 51) (ctX12_begins1 l E o ho σ13 hc17) dX12_holding_51 mlX12_325 mvX12_begins1 ho rfl (by decide) rfl (Nat.le_of_ble_eq_true rfl) ?_
      refine J_aload_n (pc := 54) 2 dX12_holding_54 rfl ?_
      refine J_getA (pc := 55) dX12_holding_55 ho flX12_7 rfl ?_
      refine J_sipush (pc := 58) (2455 : Int32) dX12_holding_58 (by decide) ?_
      refine J_dup2 (pc := 61) dX12_holding_61 rfl rfl ?_
      refine J_iald (pc := 62) dX12_holding_62 ho ha12_0 h (fun x18 h => ?_)
      refine J_iconst (pc := 63) (1 : Int32) dX12_holding_63 (by decide) ?_
      refine J_iload_n (pc := 64) 3 dX12_holding_64 rfl ?_
      refine J_ishl (pc := 65) dX12_holding_65 ?_
      refine J_ior (pc := 66) dX12_holding_66 ?_
      refine J_iast (pc := 67) dX12_holding_67 ho ha12_0 h (fun σ19 h => ?_)
      refine J_aload_n (pc := 68) 2 dX12_holding_68 rfl ?_
      refine J_aload_n (pc := 69) 2 dX12_holding_69 rfl ?_
      refine J_iload_n (pc := 70) 1 dX12_holding_70 rfl ?_
      refine J_iload_n (pc := 71) 4 dX12_holding_71 rfl ?_
      obtain ⟨x22, σ20, hc21, h⟩ := cI_t h
      refine J_cVi (pc := 72) (ctX12_wrongOf l E o ((((1 : Int32) <<< (x10 &&& 31)) - (1 : Int32)) &&& (((1 : Int32) <<< (a1 &&& 31)) ^^^ (-1 : Int32))) a2 ho σ19 hc21) dX12_holding_72 mlX12_367 mvX12_wrongOf ho rfl (by decide) rfl (Nat.le_of_ble_eq_true rfl) ?_
      refine J_iload (pc := 75) 0 dX12_holding_75 rfl ?_
      refine J_isub (pc := 77) dX12_holding_77 ?_
      obtain ⟨x25, σ23, hc24, h⟩ := cI_t h
      refine J_cVi (pc := 78) (ctX12_gives l E o (x22 - x15) ho σ20 hc24) dX12_holding_78 mlX12_87 mvX12_gives ho rfl (by decide) rfl (Nat.le_of_ble_eq_true rfl) ?_
      cases h
      exact J_iret (pc := 81) dX12_holding_81 rfl rfl
    · refine J_aload_n (pc := 15) 0 dX12_holding_15 rfl ?_
      refine J_iconst (pc := 16) (1 : Int32) dX12_holding_16 (by decide) ?_
      obtain ⟨x28, σ26, hc27, h⟩ := cI_t h
      refine J_cVi (pc := 17) (ctX12_refuse l E o (1 : Int32) ho σ7 hc27) dX12_holding_17 mlX12_83 mvX12_refuse ho rfl (by decide) rfl (Nat.le_of_ble_eq_true rfl) ?_
      cases h
      exact J_iret (pc := 20) dX12_holding_20 rfl rfl
def fX12_helpers_57 (o : Nat) (a1 : Int32) : Nat → Int32 → Int32 → Mm → Option (Int32 × Mm)
  | 0, _, _, _ => none
  | n + 1, v2, v3, σ => g_ar σ o 0 2950 (1 : Int32) (fun x24 => if x24 ≤ v3 then (c_I (fX12_gives o v2 σ) (fun x27 σ25 => some (x27, σ25))) else (if v3 = a1 then ((fX12_helpers_57 o a1 n) v2 (v3 + (1 : Int32)) σ) else (g_ar σ o 8 8 v3 (fun x28 => if x28 = 0 then ((fX12_helpers_57 o a1 n) v2 (v3 + (1 : Int32)) σ) else (c_I (fX12_isCalm o v3 σ) (fun x31 σ29 => if x31 = 0 then (g_ar σ29 o 8 8 v3 (fun x32 => c_I (fX12_turned o v3 x32 σ29) (fun x35 σ33 => c_I (fX12_farFrom o v3 x35 σ33) (fun x38 σ36 => c_I (fX12_vaneAt o v3 (3 : Int32) σ36) (fun x41 σ39 => c_I (fX12_farFrom o v3 x41 σ39) (fun x44 σ42 => if x44 ≤ x38 then ((fX12_helpers_57 o a1 n) (v2 ||| (0 : Int32)) (v3 + (1 : Int32)) σ42) else ((fX12_helpers_57 o a1 n) (v2 ||| ((1 : Int32) <<< (v3 &&& 31))) (v3 + (1 : Int32)) σ42))))))) else ((fX12_helpers_57 o a1 n) v2 (v3 + (1 : Int32)) σ29)))))))
set_option maxRecDepth 100000 in
set_option maxHeartbeats 4000000 in
theorem tX12_helpers_57 (l : Launch) (E : EV) {xr : Int32} {τ : Mm} (o : Nat) (a1 : Int32) (ho : KD o = 12) : ∀ (n : Nat) (v2 : Int32) (v3 : Int32) (σ : Mm), fX12_helpers_57 o a1 n v2 v3 σ = some (xr, τ) → Jd l E mX12_helpers 4 (some (.int xr), τ) σ 57 [(0, .ref (e_a E o 0)), (1, .int a1), (2, .int v2), (3, .int v3)] [] := by
  intro n
  induction n with
  | zero => intro v2 v3 σ h; rw [fX12_helpers_57] at h; cases h
  | succ n ih =>
    intro v2 v3 σ h
    rw [fX12_helpers_57] at h
    refine J_iload_n (pc := 57) 3 dX12_helpers_57 rfl ?_
    refine J_aload_n (pc := 58) 0 dX12_helpers_58 rfl ?_
    refine J_getA (pc := 59) dX12_helpers_59 ho flX12_7 rfl ?_
    refine J_iconst (pc := 62) (1 : Int32) dX12_helpers_62 (by decide) ?_
    refine J_iald (pc := 63) dX12_helpers_63 ho ha12_0 h (fun x24 h => ?_)
    refine J_icmp_ge (pc := 64) 138 dX12_helpers_64 (by decide) h (fun h => ?_) (fun h => ?_)
    · refine J_aload_n (pc := 138) 0 dX12_helpers_138 rfl ?_
      refine J_iload_n (pc := 139) 2 dX12_helpers_139 rfl ?_
      obtain ⟨x27, σ25, hc26, h⟩ := cI_t h
      refine J_cVi (pc := 140) (ctX12_gives l E o v2 ho σ hc26) dX12_helpers_140 mlX12_87 mvX12_gives ho rfl (by decide) rfl (Nat.le_of_ble_eq_true rfl) ?_
      cases h
      exact J_iret (pc := 143) dX12_helpers_143 rfl rfl
    · refine J_iload_n (pc := 67) 3 dX12_helpers_67 rfl ?_
      refine J_iload_n (pc := 68) 1 dX12_helpers_68 rfl ?_
      refine J_icmp_eq (pc := 69) 132 dX12_helpers_69 (by decide) h (fun h => ?_) (fun h => ?_)
      · refine J_iinc (pc := 132) (L' := [(3, .int (v3 + (1 : Int32))), (0, .ref (e_a E o 0)), (1, .int a1), (2, .int v2)]) 3 (v3 + (1 : Int32)) dX12_helpers_132 rfl (by rfl) (by decide) rfl ?_
        refine J_goto (pc := 135) 57 dX12_helpers_135 (by decide) ?_
        refine J_sub (L' := [(0, .ref (e_a E o 0)), (1, .int a1), (2, .int v2), (3, .int (v3 + (1 : Int32)))]) [1, 2, 3, 0] rfl ?_
        exact ih v2 (v3 + (1 : Int32)) σ h
      · refine J_aload_n (pc := 72) 0 dX12_helpers_72 rfl ?_
        refine J_getA (pc := 73) dX12_helpers_73 ho flX12_47 rfl ?_
        refine J_iload_n (pc := 76) 3 dX12_helpers_76 rfl ?_
        refine J_iald (pc := 77) dX12_helpers_77 ho ha12_8 h (fun x28 h => ?_)
        refine J_if_eq (pc := 78) 132 dX12_helpers_78 (by decide) h (fun h => ?_) (fun h => ?_)
        · refine J_iinc (pc := 132) (L' := [(3, .int (v3 + (1 : Int32))), (0, .ref (e_a E o 0)), (1, .int a1), (2, .int v2)]) 3 (v3 + (1 : Int32)) dX12_helpers_132 rfl (by rfl) (by decide) rfl ?_
          refine J_goto (pc := 135) 57 dX12_helpers_135 (by decide) ?_
          refine J_sub (L' := [(0, .ref (e_a E o 0)), (1, .int a1), (2, .int v2), (3, .int (v3 + (1 : Int32)))]) [1, 2, 3, 0] rfl ?_
          exact ih v2 (v3 + (1 : Int32)) σ h
        · refine J_aload_n (pc := 81) 0 dX12_helpers_81 rfl ?_
          refine J_iload_n (pc := 82) 3 dX12_helpers_82 rfl ?_
          obtain ⟨x31, σ29, hc30, h⟩ := cI_t h
          refine J_cVi (pc := 83) (ctX12_isCalm l E o v3 ho σ hc30) dX12_helpers_83 mlX12_252 mvX12_isCalm ho rfl (by decide) rfl (Nat.le_of_ble_eq_true rfl) ?_
          refine J_if_eq (pc := 86) 92 dX12_helpers_86 (by decide) h (fun h => ?_) (fun h => ?_)
          · refine J_iload_n (pc := 92) 2 dX12_helpers_92 rfl ?_
            refine J_aload_n (pc := 93) 0 dX12_helpers_93 rfl ?_
            refine J_iload_n (pc := 94) 3 dX12_helpers_94 rfl ?_
            refine J_aload_n (pc := 95) 0 dX12_helpers_95 rfl ?_
            refine J_iload_n (pc := 96) 3 dX12_helpers_96 rfl ?_
            refine J_aload_n (pc := 97) 0 dX12_helpers_97 rfl ?_
            refine J_getA (pc := 98) dX12_helpers_98 ho flX12_47 rfl ?_
            refine J_iload_n (pc := 101) 3 dX12_helpers_101 rfl ?_
            refine J_iald (pc := 102) dX12_helpers_102 ho ha12_8 h (fun x32 h => ?_)
            obtain ⟨x35, σ33, hc34, h⟩ := cI_t h
            refine J_cVi (pc := 103) (ctX12_turned l E o v3 x32 ho σ29 hc34) dX12_helpers_103 mlX12_279 mvX12_turned ho rfl (by decide) rfl (Nat.le_of_ble_eq_true rfl) ?_
            obtain ⟨x38, σ36, hc37, h⟩ := cI_t h
            refine J_cVi (pc := 106) (ctX12_farFrom l E o v3 x35 ho σ33 hc37) dX12_helpers_106 mlX12_288 mvX12_farFrom ho rfl (by decide) rfl (Nat.le_of_ble_eq_true rfl) ?_
            refine J_aload_n (pc := 109) 0 dX12_helpers_109 rfl ?_
            refine J_iload_n (pc := 110) 3 dX12_helpers_110 rfl ?_
            refine J_aload_n (pc := 111) 0 dX12_helpers_111 rfl ?_
            refine J_iload_n (pc := 112) 3 dX12_helpers_112 rfl ?_
            refine J_iconst (pc := 113) (3 : Int32) dX12_helpers_113 (by decide) ?_
            obtain ⟨x41, σ39, hc40, h⟩ := cI_t h
            refine J_cVi (pc := 114) (ctX12_vaneAt l E o v3 (3 : Int32) ho σ36 hc40) dX12_helpers_114 mlX12_249 mvX12_vaneAt ho rfl (by decide) rfl (Nat.le_of_ble_eq_true rfl) ?_
            obtain ⟨x44, σ42, hc43, h⟩ := cI_t h
            refine J_cVi (pc := 117) (ctX12_farFrom l E o v3 x41 ho σ39 hc43) dX12_helpers_117 mlX12_288 mvX12_farFrom ho rfl (by decide) rfl (Nat.le_of_ble_eq_true rfl) ?_
            refine J_icmp_ge (pc := 120) 129 dX12_helpers_120 (by decide) h (fun h => ?_) (fun h => ?_)
            · refine J_iconst (pc := 129) (0 : Int32) dX12_helpers_129 (by decide) ?_
              refine J_ior (pc := 130) dX12_helpers_130 ?_
              refine J_istore_n (pc := 131) (L' := [(2, .int (v2 ||| (0 : Int32))), (0, .ref (e_a E o 0)), (1, .int a1), (3, .int v3)]) dX12_helpers_131 (by decide) rfl ?_
              refine J_iinc (pc := 132) (L' := [(3, .int (v3 + (1 : Int32))), (2, .int (v2 ||| (0 : Int32))), (0, .ref (e_a E o 0)), (1, .int a1)]) 3 (v3 + (1 : Int32)) dX12_helpers_132 rfl (by rfl) (by decide) rfl ?_
              refine J_goto (pc := 135) 57 dX12_helpers_135 (by decide) ?_
              refine J_sub (L' := [(0, .ref (e_a E o 0)), (1, .int a1), (2, .int (v2 ||| (0 : Int32))), (3, .int (v3 + (1 : Int32)))]) [2, 3, 1, 0] rfl ?_
              exact ih (v2 ||| (0 : Int32)) (v3 + (1 : Int32)) σ42 h
            · refine J_iconst (pc := 123) (1 : Int32) dX12_helpers_123 (by decide) ?_
              refine J_iload_n (pc := 124) 3 dX12_helpers_124 rfl ?_
              refine J_ishl (pc := 125) dX12_helpers_125 ?_
              refine J_goto (pc := 126) 130 dX12_helpers_126 (by decide) ?_
              refine J_ior (pc := 130) dX12_helpers_130 ?_
              refine J_istore_n (pc := 131) (L' := [(2, .int (v2 ||| ((1 : Int32) <<< (v3 &&& 31)))), (0, .ref (e_a E o 0)), (1, .int a1), (3, .int v3)]) dX12_helpers_131 (by decide) rfl ?_
              refine J_iinc (pc := 132) (L' := [(3, .int (v3 + (1 : Int32))), (2, .int (v2 ||| ((1 : Int32) <<< (v3 &&& 31)))), (0, .ref (e_a E o 0)), (1, .int a1)]) 3 (v3 + (1 : Int32)) dX12_helpers_132 rfl (by rfl) (by decide) rfl ?_
              refine J_goto (pc := 135) 57 dX12_helpers_135 (by decide) ?_
              refine J_sub (L' := [(0, .ref (e_a E o 0)), (1, .int a1), (2, .int (v2 ||| ((1 : Int32) <<< (v3 &&& 31)))), (3, .int (v3 + (1 : Int32)))]) [2, 3, 1, 0] rfl ?_
              exact ih (v2 ||| ((1 : Int32) <<< (v3 &&& 31))) (v3 + (1 : Int32)) σ42 h
          · refine J_goto (pc := 89) 132 dX12_helpers_89 (by decide) ?_
            refine J_iinc (pc := 132) (L' := [(3, .int (v3 + (1 : Int32))), (0, .ref (e_a E o 0)), (1, .int a1), (2, .int v2)]) 3 (v3 + (1 : Int32)) dX12_helpers_132 rfl (by rfl) (by decide) rfl ?_
            refine J_goto (pc := 135) 57 dX12_helpers_135 (by decide) ?_
            refine J_sub (L' := [(0, .ref (e_a E o 0)), (1, .int a1), (2, .int v2), (3, .int (v3 + (1 : Int32)))]) [1, 2, 3, 0] rfl ?_
            exact ih v2 (v3 + (1 : Int32)) σ29 h
def fX12_helpers (o : Nat) (a1 : Int32) (σ : Mm) : Option (Int32 × Mm) := c_I (fX12_isVane o a1 σ) (fun x3 σ1 => if x3 = 0 then (c_I (fX12_refuse o (1 : Int32) σ1) (fun x23 σ21 => some (x23, σ21))) else (c_V (fX12_begins0 o σ1) (fun σ4 => c_I (fX12_isRight o a1 σ4) (fun x8 σ6 => if x8 = 0 then (c_I (fX12_shorter o a1 σ6) (fun x11 σ9 => c_I (fX12_dragsBy o a1 x11 σ9) (fun x14 σ12 => if x14 = 0 then (c_I (fX12_refuse o (7 : Int32) σ12) (fun x17 σ15 => some (x17, σ15))) else (fX12_helpers_57 o a1 FU (0 : Int32) (0 : Int32) σ12)))) else (c_I (fX12_refuse o (6 : Int32) σ6) (fun x20 σ18 => some (x20, σ18)))))))
set_option maxRecDepth 100000 in
set_option maxHeartbeats 4000000 in
theorem ctX12_helpers (l : Launch) (E : EV) (o : Nat) (a1 : Int32) (ho : KD o = 12) (σ : Mm) {xr : Int32} {τ : Mm} (h : fX12_helpers o a1 σ = some (xr, τ)) : Ct l E mX12_helpers 4 [.ref (e_a E o 0), .int a1] σ (some (.int xr), τ) := by
  refine Ct.of (by decide +kernel) (Nat.le_of_ble_eq_true rfl) ?_
  show Jd l E mX12_helpers 4 (some (.int xr), τ) σ 0 [(0, .ref (e_a E o 0)), (1, .int a1)] []
  unfold fX12_helpers at h
  refine J_aload_n (pc := 0) 0 dX12_helpers_0 rfl ?_
  refine J_iload_n (pc := 1) 1 dX12_helpers_1 rfl ?_
  obtain ⟨x3, σ1, hc2, h⟩ := cI_t h
  refine J_cVi (pc := 2) (ctX12_isVane l E o a1 ho σ hc2) dX12_helpers_2 mlX12_243 mvX12_isVane ho rfl (by decide) rfl (Nat.le_of_ble_eq_true rfl) ?_
  refine J_if_ne (pc := 5) 14 dX12_helpers_5 (by decide) h (fun h => ?_) (fun h => ?_)
  · refine J_aload_n (pc := 14) 0 dX12_helpers_14 rfl ?_
    obtain ⟨σ4, hc5, h⟩ := cV_t h
    refine J_cVv (pc := 15) (ctX12_begins0 l E o ho σ1 hc5) dX12_helpers_15 mlX12_261 mvX12_begins0 ho rfl (by decide) rfl (Nat.le_of_ble_eq_true rfl) ?_
    refine J_aload_n (pc := 18) 0 dX12_helpers_18 rfl ?_
    refine J_iload_n (pc := 19) 1 dX12_helpers_19 rfl ?_
    obtain ⟨x8, σ6, hc7, h⟩ := cI_t h
    refine J_cVi (pc := 20) (ctX12_isRight l E o a1 ho σ4 hc7) dX12_helpers_20 mlX12_258 mvX12_isRight ho rfl (by decide) rfl (Nat.le_of_ble_eq_true rfl) ?_
    refine J_if_eq (pc := 23) 33 dX12_helpers_23 (by decide) h (fun h => ?_) (fun h => ?_)
    · refine J_aload_n (pc := 33) 0 dX12_helpers_33 rfl ?_
      refine J_iload_n (pc := 34) 1 dX12_helpers_34 rfl ?_
      refine J_aload_n (pc := 35) 0 dX12_helpers_35 rfl ?_
      refine J_iload_n (pc := 36) 1 dX12_helpers_36 rfl ?_
      obtain ⟨x11, σ9, hc10, h⟩ := cI_t h
      refine J_cVi (pc := 37) (ctX12_shorter l E o a1 ho σ6 hc10) dX12_helpers_37 mlX12_294 mvX12_shorter ho rfl (by decide) rfl (Nat.le_of_ble_eq_true rfl) ?_
      obtain ⟨x14, σ12, hc13, h⟩ := cI_t h
      refine J_cVi (pc := 40) (ctX12_dragsBy l E o a1 x11 ho σ9 hc13) dX12_helpers_40 mlX12_297 mvX12_dragsBy ho rfl (by decide) rfl (Nat.le_of_ble_eq_true rfl) ?_
      refine J_if_ne (pc := 43) 53 dX12_helpers_43 (by decide) h (fun h => ?_) (fun h => ?_)
      · refine J_iconst (pc := 53) (0 : Int32) dX12_helpers_53 (by decide) ?_
        refine J_istore_n (pc := 54) (L' := [(2, .int (0 : Int32)), (0, .ref (e_a E o 0)), (1, .int a1)]) dX12_helpers_54 (by decide) rfl ?_
        refine J_iconst (pc := 55) (0 : Int32) dX12_helpers_55 (by decide) ?_
        refine J_istore_n (pc := 56) (L' := [(3, .int (0 : Int32)), (2, .int (0 : Int32)), (0, .ref (e_a E o 0)), (1, .int a1)]) dX12_helpers_56 (by decide) rfl ?_
        refine J_sub (L' := [(0, .ref (e_a E o 0)), (1, .int a1), (2, .int (0 : Int32)), (3, .int (0 : Int32))]) [2, 3, 1, 0] rfl ?_
        exact tX12_helpers_57 l E o a1 ho FU (0 : Int32) (0 : Int32) σ12 h
      · refine J_aload_n (pc := 46) 0 dX12_helpers_46 rfl ?_
        refine J_bipush (pc := 47) (7 : Int32) dX12_helpers_47 (by decide) ?_
        obtain ⟨x17, σ15, hc16, h⟩ := cI_t h
        refine J_cVi (pc := 49) (ctX12_refuse l E o (7 : Int32) ho σ12 hc16) dX12_helpers_49 mlX12_83 mvX12_refuse ho rfl (by decide) rfl (Nat.le_of_ble_eq_true rfl) ?_
        cases h
        exact J_iret (pc := 52) dX12_helpers_52 rfl rfl
    · refine J_aload_n (pc := 26) 0 dX12_helpers_26 rfl ?_
      refine J_bipush (pc := 27) (6 : Int32) dX12_helpers_27 (by decide) ?_
      obtain ⟨x20, σ18, hc19, h⟩ := cI_t h
      refine J_cVi (pc := 29) (ctX12_refuse l E o (6 : Int32) ho σ6 hc19) dX12_helpers_29 mlX12_83 mvX12_refuse ho rfl (by decide) rfl (Nat.le_of_ble_eq_true rfl) ?_
      cases h
      exact J_iret (pc := 32) dX12_helpers_32 rfl rfl
  · refine J_aload_n (pc := 8) 0 dX12_helpers_8 rfl ?_
    refine J_iconst (pc := 9) (1 : Int32) dX12_helpers_9 (by decide) ?_
    obtain ⟨x23, σ21, hc22, h⟩ := cI_t h
    refine J_cVi (pc := 10) (ctX12_refuse l E o (1 : Int32) ho σ1 hc22) dX12_helpers_10 mlX12_83 mvX12_refuse ho rfl (by decide) rfl (Nat.le_of_ble_eq_true rfl) ?_
    cases h
    exact J_iret (pc := 13) dX12_helpers_13 rfl rfl
def fX12_firstToTurn (o : Nat) (σ : Mm) : Option (Int32 × Mm) := c_V (fX12_begins1 o σ) (fun σ1 => c_I (fX12_quarterGoes o σ1) (fun x5 σ3 => p_bz σ3 o 29 x5 (fun σ6 => r_sc σ6 o 28 (fun x7 => c_I (fX12_orNone o x7 σ6) (fun x10 σ8 => some (x10, σ8))))))
set_option maxRecDepth 100000 in
set_option maxHeartbeats 4000000 in
theorem ctX12_firstToTurn (l : Launch) (E : EV) (o : Nat) (ho : KD o = 12) (σ : Mm) {xr : Int32} {τ : Mm} (h : fX12_firstToTurn o σ = some (xr, τ)) : Ct l E mX12_firstToTurn 6 [.ref (e_a E o 0)] σ (some (.int xr), τ) := by
  refine Ct.of (by decide +kernel) (Nat.le_of_ble_eq_true rfl) ?_
  show Jd l E mX12_firstToTurn 6 (some (.int xr), τ) σ 0 [(0, .ref (e_a E o 0))] []
  unfold fX12_firstToTurn at h
  refine J_aload_n (pc := 0) 0 dX12_firstToTurn_0 rfl ?_
  obtain ⟨σ1, hc2, h⟩ := cV_t h
  refine J_cVv (pc := 1) (ctX12_begins1 l E o ho σ hc2) dX12_firstToTurn_1 mlX12_325 mvX12_begins1 ho rfl (by decide) rfl (Nat.le_of_ble_eq_true rfl) ?_
  refine J_aload_n (pc := 4) 0 dX12_firstToTurn_4 rfl ?_
  refine J_aload_n (pc := 5) 0 dX12_firstToTurn_5 rfl ?_
  obtain ⟨x5, σ3, hc4, h⟩ := cI_t h
  refine J_cVi (pc := 6) (ctX12_quarterGoes l E o ho σ1 hc4) dX12_firstToTurn_6 mlX12_306 mvX12_quarterGoes ho rfl (by decide) rfl (Nat.le_of_ble_eq_true rfl) ?_
  refine J_putZ (pc := 9) dX12_firstToTurn_9 ho flX12_309 rfl h (fun σ6 h => ?_)
  refine J_aload_n (pc := 12) 0 dX12_firstToTurn_12 rfl ?_
  refine J_aload_n (pc := 13) 0 dX12_firstToTurn_13 rfl ?_
  refine J_getI (pc := 14) dX12_firstToTurn_14 ho flX12_291 rfl h (fun x7 h => ?_)
  obtain ⟨x10, σ8, hc9, h⟩ := cI_t h
  refine J_cVi (pc := 17) (ctX12_orNone l E o x7 ho σ6 hc9) dX12_firstToTurn_17 mlX12_370 mvX12_orNone ho rfl (by decide) rfl (Nat.le_of_ble_eq_true rfl) ?_
  cases h
  exact J_iret (pc := 20) dX12_firstToTurn_20 rfl rfl
def fX12_bits_4 (a1 : Int32) : Nat → Int32 → Int32 → Mm → Option (Int32 × Mm)
  | 0, _, _, _ => none
  | n + 1, v1, v2, σ => if v2 = 0 then (some (v1, σ)) else ((fX12_bits_4 a1 n) (v1 + (1 : Int32)) (v2 &&& (v2 - (1 : Int32))) σ)
set_option maxRecDepth 100000 in
set_option maxHeartbeats 4000000 in
theorem tX12_bits_4 (l : Launch) (E : EV) {xr : Int32} {τ : Mm} (a1 : Int32) : ∀ (n : Nat) (v1 : Int32) (v2 : Int32) (σ : Mm), fX12_bits_4 a1 n v1 v2 σ = some (xr, τ) → Jd l E mX12_bits 0 (some (.int xr), τ) σ 4 [(1, .int v1), (2, .int v2)] [] := by
  intro n
  induction n with
  | zero => intro v1 v2 σ h; rw [fX12_bits_4] at h; cases h
  | succ n ih =>
    intro v1 v2 σ h
    rw [fX12_bits_4] at h
    refine J_iload_n (pc := 4) 1 dX12_bits_4 rfl ?_
    refine J_if_eq (pc := 5) 20 dX12_bits_5 (by decide) h (fun h => ?_) (fun h => ?_)
    · refine J_iload_n (pc := 20) 0 dX12_bits_20 rfl ?_
      cases h
      exact J_iret (pc := 21) dX12_bits_21 rfl rfl
    · refine J_iinc (pc := 8) (L' := [(1, .int (v1 + (1 : Int32))), (2, .int v2)]) 0 (v1 + (1 : Int32)) dX12_bits_8 rfl (by rfl) (by decide) rfl ?_
      refine J_iload_n (pc := 11) 1 dX12_bits_11 rfl ?_
      refine J_iload_n (pc := 12) 1 dX12_bits_12 rfl ?_
      refine J_iconst (pc := 13) (1 : Int32) dX12_bits_13 (by decide) ?_
      refine J_isub (pc := 14) dX12_bits_14 ?_
      refine J_iand (pc := 15) dX12_bits_15 ?_
      refine J_istore_n (pc := 16) (L' := [(2, .int (v2 &&& (v2 - (1 : Int32)))), (1, .int (v1 + (1 : Int32)))]) dX12_bits_16 (by decide) rfl ?_
      refine J_goto (pc := 17) 4 dX12_bits_17 (by decide) ?_
      refine J_sub (L' := [(1, .int (v1 + (1 : Int32))), (2, .int (v2 &&& (v2 - (1 : Int32))))]) [1, 0] rfl ?_
      exact ih (v1 + (1 : Int32)) (v2 &&& (v2 - (1 : Int32))) σ h
def fX12_bits (a1 : Int32) (σ : Mm) : Option (Int32 × Mm) := fX12_bits_4 a1 FU (0 : Int32) a1 σ
set_option maxRecDepth 100000 in
set_option maxHeartbeats 4000000 in
theorem ctX12_bits (l : Launch) (E : EV) (a1 : Int32) (σ : Mm) {xr : Int32} {τ : Mm} (h : fX12_bits a1 σ = some (xr, τ)) : Ct l E mX12_bits 0 [.int a1] σ (some (.int xr), τ) := by
  refine Ct.of (by decide +kernel) (Nat.le_of_ble_eq_true rfl) ?_
  show Jd l E mX12_bits 0 (some (.int xr), τ) σ 0 [(0, .int a1)] []
  unfold fX12_bits at h
  refine J_iconst (pc := 0) (0 : Int32) dX12_bits_0 (by decide) ?_
  refine J_istore_n (pc := 1) (L' := [(1, .int (0 : Int32)), (0, .int a1)]) dX12_bits_1 (by decide) rfl ?_
  refine J_iload_n (pc := 2) 1 dX12_bits_2 rfl ?_
  refine J_istore_n (pc := 3) (L' := [(2, .int a1), (1, .int (0 : Int32)), (0, .int a1)]) dX12_bits_3 (by decide) rfl ?_
  refine J_sub (L' := [(1, .int (0 : Int32)), (2, .int a1)]) [1, 0] rfl ?_
  exact tX12_bits_4 l E a1 FU (0 : Int32) a1 σ h
