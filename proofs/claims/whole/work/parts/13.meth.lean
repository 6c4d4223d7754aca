def fX9_readShaft_160 (o : Nat) (v1 : Int32) (σ : Mm) : Option (Int32 × Mm) := r_rf σ o 0 6 (fun q49 => r_rf σ o 1 2 (fun q50 => c_I (fX6_takeVane q49 q50 σ) (fun x53 σ51 => if x53 = 0 then (some ((0 : Int32), σ51)) else (r_rf σ51 o 1 2 (fun q54 => r_rf σ51 o 0 6 (fun q55 => r_sc σ51 q55 10 (fun x56 => s_ar σ51 q54 8 10 v1 x56 (fun σ57 => r_rf σ57 o 0 6 (fun q58 => c_I (fX6_takeOption q58 (9 : Int32) (9 : Int32) σ57) (fun x61 σ59 => if x61 = 0 then (some ((0 : Int32), σ59)) else (r_rf σ59 o 1 2 (fun q62 => r_rf σ59 o 0 6 (fun q63 => r_sc σ59 q63 10 (fun x64 => s_ar σ59 q62 10 10 v1 x64 (fun σ65 => r_rf σ65 o 1 2 (fun q66 => r_sc σ65 q66 2 (fun x67 => p_sc σ65 q66 2 (x67 + (1 : Int32)) (fun σ68 => r_rf σ68 o 0 6 (fun q69 => c_I (fX6_takeSemicolon q69 σ68) (fun x72 σ70 => b_z x72 σ70))))))))))))))))))))
set_option maxRecDepth 100000 in
set_option maxHeartbeats 4000000 in
theorem tX9_readShaft_160 (l : Launch) (E : EV) {xr : Int32} {τ : Mm} (o : Nat) (ho : KD o = 9) (v1 : Int32) (σ : Mm) (h : fX9_readShaft_160 o v1 σ = some (xr, τ)) : Jd l E mX9_readShaft 4 (some (.int xr), τ) σ 160 [(0, .ref (e_a E o 0)), (1, .int v1)] [] := by
  unfold fX9_readShaft_160 at h
  refine J_aload_n (pc := 160) 0 dX9_readShaft_160 rfl ?_
  refine J_getR (pc := 161) dX9_readShaft_161 ho flX9_9 rfl h (fun q49 hq49 h => ?_)
  refine J_aload_n (pc := 164) 0 dX9_readShaft_164 rfl ?_
  refine J_getR (pc := 165) dX9_readShaft_165 ho flX9_15 rfl h (fun q50 hq50 h => ?_)
  obtain ⟨x53, σ51, hc52, h⟩ := cI_t h
  refine J_cVi (pc := 168) (ctX6_takeVane l E q49 q50 hq49 hq50 σ hc52) dX9_readShaft_168 mlX9_118 mvX6_takeVane hq49 rfl (by decide) rfl (Nat.le_of_ble_eq_true rfl) ?_
  refine J_if_ne (pc := 171) 176 dX9_readShaft_171 (by decide) h (fun h => ?_) (fun h => ?_)
  · refine J_aload_n (pc := 176) 0 dX9_readShaft_176 rfl ?_
    refine J_getR (pc := 177) dX9_readShaft_177 ho flX9_15 rfl h (fun q54 hq54 h => ?_)
    refine J_getA (pc := 180) dX9_readShaft_180 hq54 flX9_131 rfl ?_
    refine J_iload_n (pc := 183) 1 dX9_readShaft_183 rfl ?_
    refine J_aload_n (pc := 184) 0 dX9_readShaft_184 rfl ?_
    refine J_getR (pc := 185) dX9_readShaft_185 ho flX9_9 rfl h (fun q55 hq55 h => ?_)
    refine J_getI (pc := 188) dX9_readShaft_188 hq55 flX9_94 rfl h (fun x56 h => ?_)
    refine J_iast (pc := 191) dX9_readShaft_191 hq54 ha2_8 h (fun σ57 h => ?_)
    refine J_aload_n (pc := 192) 0 dX9_readShaft_192 rfl ?_
    refine J_getR (pc := 193) dX9_readShaft_193 ho flX9_9 rfl h (fun q58 hq58 h => ?_)
    refine J_bipush (pc := 196) (9 : Int32) dX9_readShaft_196 (by decide) ?_
    refine J_bipush (pc := 198) (9 : Int32) dX9_readShaft_198 (by decide) ?_
    obtain ⟨x61, σ59, hc60, h⟩ := cI_t h
    refine J_cVi (pc := 200) (ctX6_takeOption l E q58 (9 : Int32) (9 : Int32) hq58 σ57 hc60) dX9_readShaft_200 mlX9_103 mvX6_takeOption hq58 rfl (by decide) rfl (Nat.le_of_ble_eq_true rfl) ?_
    refine J_if_ne (pc := 203) 208 dX9_readShaft_203 (by decide) h (fun h => ?_) (fun h => ?_)
    · refine J_aload_n (pc := 208) 0 dX9_readShaft_208 rfl ?_
      refine J_getR (pc := 209) dX9_readShaft_209 ho flX9_15 rfl h (fun q62 hq62 h => ?_)
      refine J_getA (pc := 212) dX9_readShaft_212 hq62 flX9_134 rfl ?_
      refine J_iload_n (pc := 215) 1 dX9_readShaft_215 rfl ?_
      refine J_aload_n (pc := 216) 0 dX9_readShaft_216 rfl ?_
      refine J_getR (pc := 217) dX9_readShaft_217 ho flX9_9 rfl h (fun q63 hq63 h => ?_)
      refine J_getI (pc := 220) dX9_readShaft_220 hq63 flX9_94 rfl h (fun x64 h => ?_)
      refine J_iast (pc := 223) dX9_readShaft_223 hq62 ha2_10 h (fun σ65 h => ?_)
      refine J_aload_n (pc := 224) 0 dX9_readShaft_224 rfl ?_
      refine J_getR (pc := 225) dX9_readShaft_225 ho flX9_15 rfl h (fun q66 hq66 h => ?_)
      refine J_dup (pc := 228) dX9_readShaft_228 rfl ?_
      refine J_getI (pc := 229) dX9_readShaft_229 hq66 flX9_53 rfl h (fun x67 h => ?_)
      refine J_iconst (pc := 232) (1 : Int32) dX9_readShaft_232 (by decide) ?_
      refine J_iadd (pc := 233) dX9_readShaft_233 ?_
      refine J_putI (pc := 234) dX9_readShaft_234 hq66 flX9_53 rfl h (fun σ68 h => ?_)
      refine J_aload_n (pc := 237) 0 dX9_readShaft_237 rfl ?_
      refine J_getR (pc := 238) dX9_readShaft_238 ho flX9_9 rfl h (fun q69 hq69 h => ?_)
      obtain ⟨x72, σ70, hc71, h⟩ := cI_t h
      refine J_cVi (pc := 241) (ctX6_takeSemicolon l E q69 hq69 σ68 hc71) dX9_readShaft_241 mlX9_73 mvX6_takeSemicolon hq69 rfl (by decide) rfl (Nat.le_of_ble_eq_true rfl) ?_
      obtain ⟨hz73, h⟩ := bz_t h
      cases h
      exact J_iret (pc := 244) dX9_readShaft_244 rfl hz73
    · refine J_iconst (pc := 206) (0 : Int32) dX9_readShaft_206 (by decide) ?_
      cases h
      exact J_iret (pc := 207) dX9_readShaft_207 rfl rfl
  · refine J_iconst (pc := 174) (0 : Int32) dX9_readShaft_174 (by decide) ?_
    cases h
    exact J_iret (pc := 175) dX9_readShaft_175 rfl rfl
def fX9_readShaft_33 (o : Nat) (v1 : Int32) (s0 : Int32) (s1 : Int32) (s2 : Nat) (σ : Mm) : Option (Int32 × Mm) := s_ar σ s2 9 10 s1 s0 (fun σ6 => r_rf σ6 o 0 6 (fun q7 => c_V (fX6_advance q7 σ6) (fun σ8 => r_rf σ8 o 1 2 (fun q10 => r_rf σ8 o 0 6 (fun q11 => r_lg σ8 q11 8 (fun x12 => s_la σ8 q10 2 10 v1 x12 (fun σ13 => r_rf σ13 o 0 6 (fun q14 => r_rf σ13 o 1 2 (fun q15 => c_I (fX6_takeNewName q14 q15 σ13) (fun x18 σ16 => if x18 = 0 then (some ((0 : Int32), σ16)) else (r_rf σ16 o 0 6 (fun q19 => c_I (fX6_takeKeyword q19 (8 : Int32) σ16) (fun x22 σ20 => if x22 = 0 then (some ((0 : Int32), σ20)) else (r_rf σ20 o 0 6 (fun q23 => r_rf σ20 o 1 2 (fun q24 => c_I (fX6_takeVane q23 q24 σ20) (fun x27 σ25 => if x27 = 0 then (some ((0 : Int32), σ25)) else (r_rf σ25 o 1 2 (fun q28 => r_rf σ25 o 0 6 (fun q29 => r_sc σ25 q29 10 (fun x30 => s_ar σ25 q28 7 10 v1 x30 (fun σ31 => r_rf σ31 o 0 6 (fun q32 => c_I (fX6_seesName q32 σ31) (fun x35 σ33 => if x35 = 0 then (fX9_readShaft_160 o v1 σ33) else (r_rf σ33 o 1 2 (fun q36 => r_rf σ33 o 0 6 (fun q37 => r_lg σ33 q37 8 (fun x38 => c_I (fX2_vaneNamed q36 x38 σ33) (fun x41 σ39 => r_rf σ39 o 1 2 (fun q42 => g_ar σ39 q42 7 10 v1 (fun x43 => if x41 = x43 then (r_rf σ39 o 0 6 (fun q44 => c_I (fX6_refuse q44 (5 : Int32) σ39) (fun x47 σ45 => b_z x47 σ45))) else (fX9_readShaft_160 o v1 σ39))))))))))))))))))))))))))))))))
set_option maxRecDepth 100000 in
set_option maxHeartbeats 4000000 in
theorem tX9_readShaft_33 (l : Launch) (E : EV) {xr : Int32} {τ : Mm} (o : Nat) (ho : KD o = 9) (v1 : Int32) (s0 : Int32) (s1 : Int32) (s2 : Nat) (hs2 : KD s2 = 2) (σ : Mm) (h : fX9_readShaft_33 o v1 s0 s1 s2 σ = some (xr, τ)) : Jd l E mX9_readShaft 4 (some (.int xr), τ) σ 33 [(0, .ref (e_a E o 0)), (1, .int v1)] [.int s0, .int s1, .ref (e_a E s2 (9 + 1))] := by
  unfold fX9_readShaft_33 at h
  refine J_iast (pc := 33) dX9_readShaft_33 hs2 ha2_9 h (fun σ6 h => ?_)
  refine J_aload_n (pc := 34) 0 dX9_readShaft_34 rfl ?_
  refine J_getR (pc := 35) dX9_readShaft_35 ho flX9_9 rfl h (fun q7 hq7 h => ?_)
  obtain ⟨σ8, hc9, h⟩ := cV_t h
  refine J_cVv (pc := 38) (ctX6_advance l E q7 hq7 σ6 hc9) dX9_readShaft_38 mlX9_62 mvX6_advance hq7 rfl (by decide) rfl (Nat.le_of_ble_eq_true rfl) ?_
  refine J_aload_n (pc := 41) 0 dX9_readShaft_41 rfl ?_
  refine J_getR (pc := 42) dX9_readShaft_42 ho flX9_15 rfl h (fun q10 hq10 h => ?_)
  refine J_getA (pc := 45) dX9_readShaft_45 hq10 flX9_115 rfl ?_
  refine J_iload_n (pc := 48) 1 dX9_readShaft_48 rfl ?_
  refine J_aload_n (pc := 49) 0 dX9_readShaft_49 rfl ?_
  refine J_getR (pc := 50) dX9_readShaft_50 ho flX9_9 rfl h (fun q11 hq11 h => ?_)
  refine J_getL (pc := 53) dX9_readShaft_53 hq11 flX9_65 rfl h (fun x12 h => ?_)
  refine J_last (pc := 56) dX9_readShaft_56 hq10 ha2_2 h (fun σ13 h => ?_)
  refine J_aload_n (pc := 57) 0 dX9_readShaft_57 rfl ?_
  refine J_getR (pc := 58) dX9_readShaft_58 ho flX9_9 rfl h (fun q14 hq14 h => ?_)
  refine J_aload_n (pc := 61) 0 dX9_readShaft_61 rfl ?_
  refine J_getR (pc := 62) dX9_readShaft_62 ho flX9_15 rfl h (fun q15 hq15 h => ?_)
  obtain ⟨x18, σ16, hc17, h⟩ := cI_t h
  refine J_cVi (pc := 65) (ctX6_takeNewName l E q14 q15 hq14 hq15 σ13 hc17) dX9_readShaft_65 mlX9_69 mvX6_takeNewName hq14 rfl (by decide) rfl (Nat.le_of_ble_eq_true rfl) ?_
  refine J_if_eq (pc := 68) 97 dX9_readShaft_68 (by decide) h (fun h => ?_) (fun h => ?_)
  · refine J_iconst (pc := 97) (0 : Int32) dX9_readShaft_97 (by decide) ?_
    cases h
    exact J_iret (pc := 98) dX9_readShaft_98 rfl rfl
  · refine J_aload_n (pc := 71) 0 dX9_readShaft_71 rfl ?_
    refine J_getR (pc := 72) dX9_readShaft_72 ho flX9_9 rfl h (fun q19 hq19 h => ?_)
    refine J_bipush (pc := 75) (8 : Int32) dX9_readShaft_75 (by decide) ?_
    obtain ⟨x22, σ20, hc21, h⟩ := cI_t h
    refine J_cVi (pc := 77) (ctX6_takeKeyword l E q19 (8 : Int32) hq19 σ16 hc21) dX9_readShaft_77 mlX9_83 mvX6_takeKeyword hq19 rfl (by decide) rfl (Nat.le_of_ble_eq_true rfl) ?_
    refine J_if_eq (pc := 80) 97 dX9_readShaft_80 (by decide) h (fun h => ?_) (fun h => ?_)
    · refine J_iconst (pc := 97) (0 : Int32) dX9_readShaft_97 (by decide) ?_
      cases h
      exact J_iret (pc := 98) dX9_readShaft_98 rfl rfl
    · refine J_aload_n (pc := 83) 0 dX9_readShaft_83 rfl ?_
      refine J_getR (pc := 84) dX9_readShaft_84 ho flX9_9 rfl h (fun q23 hq23 h => ?_)
      refine J_aload_n (pc := 87) 0 dX9_readShaft_87 rfl ?_
      refine J_getR (pc := 88) dX9_readShaft_88 ho flX9_15 rfl h (fun q24 hq24 h => ?_)
      obtain ⟨x27, σ25, hc26, h⟩ := cI_t h
      refine J_cVi (pc := 91) (ctX6_takeVane l E q23 q24 hq23 hq24 σ20 hc26) dX9_readShaft_91 mlX9_118 mvX6_takeVane hq23 rfl (by decide) rfl (Nat.le_of_ble_eq_true rfl) ?_
      refine J_if_ne (pc := 94) 99 dX9_readShaft_94 (by decide) h (fun h => ?_) (fun h => ?_)
      · refine J_aload_n (pc := 99) 0 dX9_readShaft_99 rfl ?_
        refine J_getR (pc := 100) dX9_readShaft_100 ho flX9_15 rfl h (fun q28 hq28 h => ?_)
        refine J_getA (pc := 103) dX9_readShaft_103 hq28 flX9_121 rfl ?_
        refine J_iload_n (pc := 106) 1 dX9_readShaft_106 rfl ?_
        refine J_aload_n (pc := 107) 0 dX9_readShaft_107 rfl ?_
        refine J_getR (pc := 108) dX9_readShaft_108 ho flX9_9 rfl h (fun q29 hq29 h => ?_)
        refine J_getI (pc := 111) dX9_readShaft_111 hq29 flX9_94 rfl h (fun x30 h => ?_)
        refine J_iast (pc := 114) dX9_readShaft_114 hq28 ha2_7 h (fun σ31 h => ?_)
        refine J_aload_n (pc := 115) 0 dX9_readShaft_115 rfl ?_
        refine J_getR (pc := 116) dX9_readShaft_116 ho flX9_9 rfl h (fun q32 hq32 h => ?_)
        obtain ⟨x35, σ33, hc34, h⟩ := cI_t h
        refine J_cVi (pc := 119) (ctX6_seesName l E q32 hq32 σ31 hc34) dX9_readShaft_119 mlX9_124 mvX6_seesName hq32 rfl (by decide) rfl (Nat.le_of_ble_eq_true rfl) ?_
        refine J_if_eq (pc := 122) 160 dX9_readShaft_122 (by decide) h (fun h => ?_) (fun h => ?_)
        · refine J_sub (L' := [(0, .ref (e_a E o 0)), (1, .int v1)]) [0, 1] rfl ?_
          exact tX9_readShaft_160 l E o ho v1 σ33 h
        · refine J_aload_n (pc := 125) 0 dX9_readShaft_125 rfl ?_
          refine J_getR (pc := 126) dX9_readShaft_126 ho flX9_15 rfl h (fun q36 hq36 h => ?_)
          refine J_aload_n (pc := 129) 0 dX9_readShaft_129 rfl ?_
          refine J_getR (pc := 130) dX9_readShaft_130 ho flX9_9 rfl h (fun q37 hq37 h => ?_)
          refine J_getL (pc := 133) dX9_readShaft_133 hq37 flX9_65 rfl h (fun x38 h => ?_)
          obtain ⟨x41, σ39, hc40, h⟩ := cI_t h
          refine J_cVi (pc := 136) (ctX2_vaneNamed l E q36 x38 hq36 σ33 hc40) dX9_readShaft_136 mlX9_127 mvX2_vaneNamed hq36 rfl (by decide) rfl (Nat.le_of_ble_eq_true rfl) ?_
          refine J_aload_n (pc := 139) 0 dX9_readShaft_139 rfl ?_
          refine J_getR (pc := 140) dX9_readShaft_140 ho flX9_15 rfl h (fun q42 hq42 h => ?_)
          refine J_getA (pc := 143) dX9_readShaft_143 hq42 flX9_121 rfl ?_
          refine J_iload_n (pc := 146) 1 dX9_readShaft_146 rfl ?_
          refine J_iald (pc := 147) dX9_readShaft_147 hq42 ha2_7 h (fun x43 h => ?_)
          refine J_icmp_ne (pc := 148) 160 dX9_readShaft_148 (by decide) h (fun h => ?_) (fun h => ?_)
          · refine J_sub (L' := [(0, .ref (e_a E o 0)), (1, .int v1)]) [0, 1] rfl ?_
            exact tX9_readShaft_160 l E o ho v1 σ39 h
          · refine J_aload_n (pc := 151) 0 dX9_readShaft_151 rfl ?_
            refine J_getR (pc := 152) dX9_readShaft_152 ho flX9_9 rfl h (fun q44 hq44 h => ?_)
            refine J_iconst (pc := 155) (5 : Int32) dX9_readShaft_155 (by decide) ?_
            obtain ⟨x47, σ45, hc46, h⟩ := cI_t h
            refine J_cVi (pc := 156) (ctX6_refuse l E q44 (5 : Int32) hq44 σ39 hc46) dX9_readShaft_156 mlX9_43 mvX6_refuse hq44 rfl (by decide) rfl (Nat.le_of_ble_eq_true rfl) ?_
            obtain ⟨hz48, h⟩ := bz_t h
            cases h
            exact J_iret (pc := 159) dX9_readShaft_159 rfl hz48
      · refine J_iconst (pc := 97) (0 : Int32) dX9_readShaft_97 (by decide) ?_
        cases h
        exact J_iret (pc := 98) dX9_readShaft_98 rfl rfl
def fX9_readShaft (o : Nat) (σ : Mm) : Option (Int32 × Mm) := r_rf σ o 1 2 (fun q1 => r_sc σ q1 2 (fun x2 => r_rf σ o 1 2 (fun q3 => r_rf σ o 0 6 (fun q4 => r_sc σ q4 6 (fun x5 => if x5 = (7 : Int32) then (fX9_readShaft_33 o x2 (1 : Int32) x2 q3 σ) else (fX9_readShaft_33 o x2 (-1 : Int32) x2 q3 σ))))))
set_option maxRecDepth 100000 in
set_option maxHeartbeats 4000000 in
theorem ctX9_readShaft (l : Launch) (E : EV) (o : Nat) (ho : KD o = 9) (σ : Mm) {xr : Int32} {τ : Mm} (h : fX9_readShaft o σ = some (xr, τ)) : Ct l E mX9_readShaft 4 [.ref (e_a E o 0)] σ (some (.int xr), τ) := by
  refine Ct.of (by decide +kernel) (Nat.le_of_ble_eq_true rfl) ?_
  show Jd l E mX9_readShaft 4 (some (.int xr), τ) σ 0 [(0, .ref (e_a E o 0))] []
  unfold fX9_readShaft at h
  refine J_aload_n (pc := 0) 0 dX9_readShaft_0 rfl ?_
  refine J_getR (pc := 1) dX9_readShaft_1 ho flX9_15 rfl h (fun q1 hq1 h => ?_)
  refine J_getI (pc := 4) dX9_readShaft_4 hq1 flX9_53 rfl h (fun x2 h => ?_)
  refine J_istore_n (pc := 7) (L' := [(1, .int x2), (0, .ref (e_a E o 0))]) dX9_readShaft_7 (by decide) rfl ?_
  refine J_aload_n (pc := 8) 1 dX9_readShaft_8 rfl ?_
  refine J_getR (pc := 9) dX9_readShaft_9 ho flX9_15 rfl h (fun q3 hq3 h => ?_)
  refine J_getA (pc := 12) dX9_readShaft_12 hq3 flX9_112 rfl ?_
  refine J_iload_n (pc := 15) 0 dX9_readShaft_15 rfl ?_
  refine J_aload_n (pc := 16) 1 dX9_readShaft_16 rfl ?_
  refine J_getR (pc := 17) dX9_readShaft_17 ho flX9_9 rfl h (fun q4 hq4 h => ?_)
  refine J_getI (pc := 20) dX9_readShaft_20 hq4 flX9_34 rfl h (fun x5 h => ?_)
  refine J_bipush (pc := 23) (7 : Int32) dX9_readShaft_23 (by decide) ?_
  refine J_icmp_ne (pc := 25) 32 dX9_readShaft_25 (by decide) h (fun h => ?_) (fun h => ?_)
  · refine J_iconst (pc := 32) (-1 : Int32) dX9_readShaft_32 (by decide) ?_
    refine J_sub (L' := [(0, .ref (e_a E o 0)), (1, .int x2)]) [1, 0] rfl ?_
    exact tX9_readShaft_33 l E o ho x2 (-1 : Int32) x2 q3 hq3 σ h
  · refine J_iconst (pc := 28) (1 : Int32) dX9_readShaft_28 (by decide) ?_
    refine J_goto (pc := 29) 33 dX9_readShaft_29 (by decide) ?_
    refine J_sub (L' := [(0, .ref (e_a E o 0)), (1, .int x2)]) [1, 0] rfl ?_
    exact tX9_readShaft_33 l E o ho x2 (1 : Int32) x2 q3 hq3 σ h
def fX9_readPart (o : Nat) (σ : Mm) : Option (Int32 × Mm) := r_rf σ o 0 6 (fun q1 => r_sc σ q1 6 (fun x2 => if x2 = (0 : Int32) then (r_rf σ o 1 2 (fun q4 => r_sc σ q4 0 (fun x5 => if (4 : Int32) ≤ x5 then (r_rf σ o 0 6 (fun q6 => c_I (fX6_refuse q6 (6 : Int32) σ) (fun x9 σ7 => b_z x9 σ7))) else (c_I (fX9_readPlace o σ) (fun x13 σ11 => b_z x13 σ11))))) else if x2 = (1 : Int32) then (r_rf σ o 1 2 (fun q16 => r_sc σ q16 1 (fun x17 => if (8 : Int32) ≤ x17 then (r_rf σ o 0 6 (fun q18 => c_I (fX6_refuse q18 (6 : Int32) σ) (fun x21 σ19 => b_z x21 σ19))) else (c_I (fX9_readVane o σ) (fun x25 σ23 => b_z x25 σ23))))) else if x2 = (6 : Int32) then (r_rf σ o 1 2 (fun q28 => r_sc σ q28 2 (fun x29 => if (10 : Int32) ≤ x29 then (r_rf σ o 0 6 (fun q30 => c_I (fX6_refuse q30 (6 : Int32) σ) (fun x33 σ31 => b_z x33 σ31))) else (c_I (fX9_readShaft o σ) (fun x37 σ35 => b_z x37 σ35))))) else if x2 = (7 : Int32) then (r_rf σ o 1 2 (fun q40 => r_sc σ q40 2 (fun x41 => if (10 : Int32) ≤ x41 then (r_rf σ o 0 6 (fun q42 => c_I (fX6_refuse q42 (6 : Int32) σ) (fun x45 σ43 => b_z x45 σ43))) else (c_I (fX9_readShaft o σ) (fun x49 σ47 => b_z x49 σ47))))) else (r_rf σ o 0 6 (fun q51 => c_I (fX6_refuseToken q51 σ) (fun x54 σ52 => b_z x54 σ52)))))
set_option maxRecDepth 100000 in
set_option maxHeartbeats 4000000 in
theorem ctX9_readPart (l : Launch) (E : EV) (o : Nat) (ho : KD o = 9) (σ : Mm) {xr : Int32} {τ : Mm} (h : fX9_readPart o σ = some (xr, τ)) : Ct l E mX9_readPart 5 [.ref (e_a E o 0)] σ (some (.int xr), τ) := by
  refine Ct.of (by decide +kernel) (Nat.le_of_ble_eq_true rfl) ?_
  show Jd l E mX9_readPart 5 (some (.int xr), τ) σ 0 [(0, .ref (e_a E o 0))] []
  unfold fX9_readPart at h
  refine J_aload_n (pc := 0) 0 dX9_readPart_0 rfl ?_
  refine J_getR (pc := 1) dX9_readPart_1 ho flX9_9 rfl h (fun q1 hq1 h => ?_)
  refine J_getI (pc := 4) dX9_readPart_4 hq1 flX9_34 rfl h (fun x2 h => ?_)
  by_cases hs3 : x2 = (0 : Int32)
  · rw [if_pos hs3] at h
    refine J_tableIn (pc := 7) 52 dX9_readPart_7 (by rw [hs3]; decide) (by rw [hs3]; decide) (by rw [hs3]; rfl) (by decide) ?_
    refine J_aload_n (pc := 52) 0 dX9_readPart_52 rfl ?_
    refine J_getR (pc := 53) dX9_readPart_53 ho flX9_15 rfl h (fun q4 hq4 h => ?_)
    refine J_getI (pc := 56) dX9_readPart_56 hq4 flX9_37 rfl h (fun x5 h => ?_)
    refine J_iconst (pc := 59) (4 : Int32) dX9_readPart_59 (by decide) ?_
    refine J_icmp_ge (pc := 60) 70 dX9_readPart_60 (by decide) h (fun h => ?_) (fun h => ?_)
    · refine J_aload_n (pc := 70) 0 dX9_readPart_70 rfl ?_
      refine J_getR (pc := 71) dX9_readPart_71 ho flX9_9 rfl h (fun q6 hq6 h => ?_)
      refine J_bipush (pc := 74) (6 : Int32) dX9_readPart_74 (by decide) ?_
      obtain ⟨x9, σ7, hc8, h⟩ := cI_t h
      refine J_cVi (pc := 76) (ctX6_refuse l E q6 (6 : Int32) hq6 σ hc8) dX9_readPart_76 mlX9_43 mvX6_refuse hq6 rfl (by decide) rfl (Nat.le_of_ble_eq_true rfl) ?_
      obtain ⟨hz10, h⟩ := bz_t h
      cases h
      exact J_iret (pc := 79) dX9_readPart_79 rfl hz10
    · refine J_aload_n (pc := 63) 0 dX9_readPart_63 rfl ?_
      obtain ⟨x13, σ11, hc12, h⟩ := cI_t h
      refine J_cVi (pc := 64) (ctX9_readPlace l E o ho σ hc12) dX9_readPart_64 mlX9_40 mvX9_readPlace ho rfl (by decide) rfl (Nat.le_of_ble_eq_true rfl) ?_
      refine J_goto (pc := 67) 79 dX9_readPart_67 (by decide) ?_
      obtain ⟨hz14, h⟩ := bz_t h
      cases h
      exact J_iret (pc := 79) dX9_readPart_79 rfl hz14
  rw [if_neg hs3] at h
  by_cases hs15 : x2 = (1 : Int32)
  · rw [if_pos hs15] at h
    refine J_tableIn (pc := 7) 80 dX9_readPart_7 (by rw [hs15]; decide) (by rw [hs15]; decide) (by rw [hs15]; rfl) (by decide) ?_
    refine J_aload_n (pc := 80) 0 dX9_readPart_80 rfl ?_
    refine J_getR (pc := 81) dX9_readPart_81 ho flX9_15 rfl h (fun q16 hq16 h => ?_)
    refine J_getI (pc := 84) dX9_readPart_84 hq16 flX9_47 rfl h (fun x17 h => ?_)
    refine J_bipush (pc := 87) (8 : Int32) dX9_readPart_87 (by decide) ?_
    refine J_icmp_ge (pc := 89) 99 dX9_readPart_89 (by decide) h (fun h => ?_) (fun h => ?_)
    · refine J_aload_n (pc := 99) 0 dX9_readPart_99 rfl ?_
      refine J_getR (pc := 100) dX9_readPart_100 ho flX9_9 rfl h (fun q18 hq18 h => ?_)
      refine J_bipush (pc := 103) (6 : Int32) dX9_readPart_103 (by decide) ?_
      obtain ⟨x21, σ19, hc20, h⟩ := cI_t h
      refine J_cVi (pc := 105) (ctX6_refuse l E q18 (6 : Int32) hq18 σ hc20) dX9_readPart_105 mlX9_43 mvX6_refuse hq18 rfl (by decide) rfl (Nat.le_of_ble_eq_true rfl) ?_
      obtain ⟨hz22, h⟩ := bz_t h
      cases h
      exact J_iret (pc := 108) dX9_readPart_108 rfl hz22
    · refine J_aload_n (pc := 92) 0 dX9_readPart_92 rfl ?_
      obtain ⟨x25, σ23, hc24, h⟩ := cI_t h
      refine J_cVi (pc := 93) (ctX9_readVane l E o ho σ hc24) dX9_readPart_93 mlX9_50 mvX9_readVane ho rfl (by decide) rfl (Nat.le_of_ble_eq_true rfl) ?_
      refine J_goto (pc := 96) 108 dX9_readPart_96 (by decide) ?_
      obtain ⟨hz26, h⟩ := bz_t h
      cases h
      exact J_iret (pc := 108) dX9_readPart_108 rfl hz26
  rw [if_neg hs15] at h
  by_cases hs27 : x2 = (6 : Int32)
  · rw [if_pos hs27] at h
    refine J_tableIn (pc := 7) 109 dX9_readPart_7 (by rw [hs27]; decide) (by rw [hs27]; decide) (by rw [hs27]; rfl) (by decide) ?_
    refine J_aload_n (pc := 109) 0 dX9_readPart_109 rfl ?_
    refine J_getR (pc := 110) dX9_readPart_110 ho flX9_15 rfl h (fun q28 hq28 h => ?_)
    refine J_getI (pc := 113) dX9_readPart_113 hq28 flX9_53 rfl h (fun x29 h => ?_)
    refine J_bipush (pc := 116) (10 : Int32) dX9_readPart_116 (by decide) ?_
    refine J_icmp_ge (pc := 118) 128 dX9_readPart_118 (by decide) h (fun h => ?_) (fun h => ?_)
    · refine J_aload_n (pc := 128) 0 dX9_readPart_128 rfl ?_
      refine J_getR (pc := 129) dX9_readPart_129 ho flX9_9 rfl h (fun q30 hq30 h => ?_)
      refine J_bipush (pc := 132) (6 : Int32) dX9_readPart_132 (by decide) ?_
      obtain ⟨x33, σ31, hc32, h⟩ := cI_t h
      refine J_cVi (pc := 134) (ctX6_refuse l E q30 (6 : Int32) hq30 σ hc32) dX9_readPart_134 mlX9_43 mvX6_refuse hq30 rfl (by decide) rfl (Nat.le_of_ble_eq_true rfl) ?_
      obtain ⟨hz34, h⟩ := bz_t h
      cases h
      exact J_iret (pc := 137) dX9_readPart_137 rfl hz34
    · refine J_aload_n (pc := 121) 0 dX9_readPart_121 rfl ?_
      obtain ⟨x37, σ35, hc36, h⟩ := cI_t h
      refine J_cVi (pc := 122) (ctX9_readShaft l E o ho σ hc36) dX9_readPart_122 mlX9_56 mvX9_readShaft ho rfl (by decide) rfl (Nat.le_of_ble_eq_true rfl) ?_
      refine J_goto (pc := 125) 137 dX9_readPart_125 (by decide) ?_
      obtain ⟨hz38, h⟩ := bz_t h
      cases h
      exact J_iret (pc := 137) dX9_readPart_137 rfl hz38
  rw [if_neg hs27] at h
  by_cases hs39 : x2 = (7 : Int32)
  · rw [if_pos hs39] at h
    refine J_tableIn (pc := 7) 109 dX9_readPart_7 (by rw [hs39]; decide) (by rw [hs39]; decide) (by rw [hs39]; rfl) (by decide) ?_
    refine J_aload_n (pc := 109) 0 dX9_readPart_109 rfl ?_
    refine J_getR (pc := 110) dX9_readPart_110 ho flX9_15 rfl h (fun q40 hq40 h => ?_)
    refine J_getI (pc := 113) dX9_readPart_113 hq40 flX9_53 rfl h (fun x41 h => ?_)
    refine J_bipush (pc := 116) (10 : Int32) dX9_readPart_116 (by decide) ?_
    refine J_icmp_ge (pc := 118) 128 dX9_readPart_118 (by decide) h (fun h => ?_) (fun h => ?_)
    · refine J_aload_n (pc := 128) 0 dX9_readPart_128 rfl ?_
      refine J_getR (pc := 129) dX9_readPart_129 ho flX9_9 rfl h (fun q42 hq42 h => ?_)
      refine J_bipush (pc := 132) (6 : Int32) dX9_readPart_132 (by decide) ?_
      obtain ⟨x45, σ43, hc44, h⟩ := cI_t h
      refine J_cVi (pc := 134) (ctX6_refuse l E q42 (6 : Int32) hq42 σ hc44) dX9_readPart_134 mlX9_43 mvX6_refuse hq42 rfl (by decide) rfl (Nat.le_of_ble_eq_true rfl) ?_
      obtain ⟨hz46, h⟩ := bz_t h
      cases h
      exact J_iret (pc := 137) dX9_readPart_137 rfl hz46
    · refine J_aload_n (pc := 121) 0 dX9_readPart_121 rfl ?_
      obtain ⟨x49, σ47, hc48, h⟩ := cI_t h
      refine J_cVi (pc := 122) (ctX9_readShaft l E o ho σ hc48) dX9_readPart_122 mlX9_56 mvX9_readShaft ho rfl (by decide) rfl (Nat.le_of_ble_eq_true rfl) ?_
      refine J_goto (pc := 125) 137 dX9_readPart_125 (by decide) ?_
      obtain ⟨hz50, h⟩ := bz_t h
      cases h
      exact J_iret (pc := 137) dX9_readPart_137 rfl hz50
  rw [if_neg hs39] at h
  refine J_tableD (pc := 7) 138 dX9_readPart_7 (by decide) (fun h1 h2 => by have := ne_i hs3 (k := 0) (by decide); have := ne_i hs15 (k := 1) (by decide); have := ne_i hs27 (k := 6) (by decide); have := ne_i hs39 (k := 7) (by decide); rcases (show x2.toInt = 2 ∨ x2.toInt = 3 ∨ x2.toInt = 4 ∨ x2.toInt = 5 by omega) with q | q | q | q <;> rw [q] <;> rfl) ?_
  refine J_aload_n (pc := 138) 0 dX9_readPart_138 rfl ?_
  refine J_getR (pc := 139) dX9_readPart_139 ho flX9_9 rfl h (fun q51 hq51 h => ?_)
  obtain ⟨x54, σ52, hc53, h⟩ := cI_t h
  refine J_cVi (pc := 142) (ctX6_refuseToken l E q51 hq51 σ hc53) dX9_readPart_142 mlX9_59 mvX6_refuseToken hq51 rfl (by decide) rfl (Nat.le_of_ble_eq_true rfl) ?_
  obtain ⟨hz55, h⟩ := bz_t h
  cases h
  exact J_iret (pc := 145) dX9_readPart_145 rfl hz55
def fX9_readAll_19 (o : Nat) (a1 : Nat) (a2 : Nat) : Nat → Int32 → Mm → Option (Int32 × Mm)
  | 0, _, _ => none
  | n + 1, v3, σ => if (900 : Int32) ≤ v3 then (some ((1 : Int32), σ)) else (r_rf σ o 0 6 (fun q6 => r_sc σ q6 5 (fun x7 => if x7 = 0 then (some ((1 : Int32), σ)) else (c_I (fX9_readPart o σ) (fun x10 σ8 => if x10 = 0 then (some ((0 : Int32), σ8)) else ((fX9_readAll_19 o a1 a2 n) (v3 + (1 : Int32)) σ8))))))
set_option maxRecDepth 100000 in
set_option maxHeartbeats 4000000 in
theorem tX9_readAll_19 (l : Launch) (E : EV) {xr : Int32} {τ : Mm} (o : Nat) (a1 : Nat) (a2 : Nat) (ho : KD o = 9) (ha1 : KD a1 = 6) (ha2 : KD a2 = 2) : ∀ (n : Nat) (v3 : Int32) (σ : Mm), fX9_readAll_19 o a1 a2 n v3 σ = some (xr, τ) → Jd l E mX9_readAll 6 (some (.int xr), τ) σ 19 [(0, .ref (e_a E o 0)), (3, .int v3)] [] := by
  intro n
  induction n with
  | zero => intro v3 σ h; rw [fX9_readAll_19] at h; cases h
  | succ n ih =>
    intro v3 σ h
    rw [fX9_readAll_19] at h
    refine J_iload_n (pc := 19) 1 dX9_readAll_19 rfl ?_
    refine J_sipush (pc := 20) (900 : Int32) dX9_readAll_20 (by decide) ?_
    refine J_icmp_ge (pc := 23) 51 dX9_readAll_23 (by decide) h (fun h => ?_) (fun h => ?_)
    · refine J_iconst (pc := 51) (1 : Int32) dX9_readAll_51 (by decide) ?_
      cases h
      exact J_iret (pc := 52) dX9_readAll_52 rfl rfl
    · refine J_aload_n (pc := 26) 0 dX9_readAll_26 rfl ?_
      refine J_getR (pc := 27) dX9_readAll_27 ho flX9_9 rfl h (fun q6 hq6 h => ?_)
      refine J_getI (pc := 30) dX9_readAll_30 hq6 flX9_26 rfl h (fun x7 h => ?_)
      refine J_if_eq (pc := 33) 51 dX9_readAll_33 (by decide) h (fun h => ?_) (fun h => ?_)
      · refine J_iconst (pc := 51) (1 : Int32) dX9_readAll_51 (by decide) ?_
        cases h
        exact J_iret (pc := 52) dX9_readAll_52 rfl rfl
      · refine J_aload_n (pc := 36) 0 dX9_readAll_36 rfl ?_
        obtain ⟨x10, σ8, hc9, h⟩ := cI_t h
        refine J_cVi (pc := 37) (ctX9_readPart l E o ho σ hc9) dX9_readAll_37 mlX9_30 mvX9_readPart ho rfl (by decide) rfl (Nat.le_of_ble_eq_true rfl) ?_
        refine J_if_ne (pc := 40) 45 dX9_readAll_40 (by decide) h (fun h => ?_) (fun h => ?_)
        · refine J_iinc (pc := 45) (L' := [(3, .int (v3 + (1 : Int32))), (0, .ref (e_a E o 0))]) 1 (v3 + (1 : Int32)) dX9_readAll_45 rfl (by rfl) (by decide) rfl ?_
          refine J_goto (pc := 48) 19 dX9_readAll_48 (by decide) ?_
          refine J_sub (L' := [(0, .ref (e_a E o 0)), (3, .int (v3 + (1 : Int32)))]) [1, 0] rfl ?_
          exact ih (v3 + (1 : Int32)) σ8 h
        · refine J_iconst (pc := 43) (0 : Int32) dX9_readAll_43 (by decide) ?_
          cases h
          exact J_iret (pc := 44) dX9_readAll_44 rfl rfl
def fX9_readAll (o : Nat) (a1 : Nat) (a2 : Nat) (σ : Mm) : Option (Int32 × Mm) := p_rf σ o 0 a1 (fun σ1 => p_rf σ1 o 1 a2 (fun σ2 => r_rf σ2 o 1 2 (fun q3 => c_V (fX2_clear q3 σ2) (fun σ4 => fX9_readAll_19 o a1 a2 FU (0 : Int32) σ4))))
set_option maxRecDepth 100000 in
set_option maxHeartbeats 4000000 in
theorem ctX9_readAll (l : Launch) (E : EV) (o : Nat) (a1 : Nat) (a2 : Nat) (ho : KD o = 9) (ha1 : KD a1 = 6) (ha2 : KD a2 = 2) (σ : Mm) {xr : Int32} {τ : Mm} (h : fX9_readAll o a1 a2 σ = some (xr, τ)) : Ct l E mX9_readAll 6 [.ref (e_a E o 0), .ref (e_a E a1 0), .ref (e_a E a2 0)] σ (some (.int xr), τ) := by
  refine Ct.of (by decide +kernel) (Nat.le_of_ble_eq_true rfl) ?_
  show Jd l E mX9_readAll 6 (some (.int xr), τ) σ 0 [(0, .ref (e_a E o 0)), (1, .ref (e_a E a1 0)), (2, .ref (e_a E a2 0))] []
  unfold fX9_readAll at h
  refine J_aload_n (pc := 0) 0 dX9_readAll_0 rfl ?_
  refine J_aload_n (pc := 1) 1 dX9_readAll_1 rfl ?_
  refine J_putR (pc := 2) dX9_readAll_2 ho flX9_9 rfl h (fun σ1 h => ?_)
  refine J_aload_n (pc := 5) 0 dX9_readAll_5 rfl ?_
  refine J_aload_n (pc := 6) 2 dX9_readAll_6 rfl ?_
  refine J_putR (pc := 7) dX9_readAll_7 ho flX9_15 rfl h (fun σ2 h => ?_)
  refine J_aload_n (pc := 10) 0 dX9_readAll_10 rfl ?_
  refine J_getR (pc := 11) dX9_readAll_11 ho flX9_15 rfl h (fun q3 hq3 h => ?_)
  obtain ⟨σ4, hc5, h⟩ := cV_t h
  refine J_cVv (pc := 14) (ctX2_clear l E q3 hq3 σ2 hc5) dX9_readAll_14 mlX9_19 mvX2_clear hq3 rfl (by decide) rfl (Nat.le_of_ble_eq_true rfl) ?_
  refine J_iconst (pc := 17) (0 : Int32) dX9_readAll_17 (by decide) ?_
  refine J_istore_n (pc := 18) (L' := [(3, .int (0 : Int32)), (0, .ref (e_a E o 0)), (1, .ref (e_a E a1 0)), (2, .ref (e_a E a2 0))]) dX9_readAll_18 (by decide) rfl ?_
  refine J_sub (L' := [(0, .ref (e_a E o 0)), (3, .int (0 : Int32))]) [1, 0] rfl ?_
  exact tX9_readAll_19 l E o a1 a2 ho ha1 ha2 FU (0 : Int32) σ4 h
def fX10_blowEverywhere (o : Nat) (a1 : Int32) (a2 : Int32) (σ : Mm) : Option (Mm) := r_rf σ o 1 4 (fun q1 => c_V (fX4_blowEverywhere q1 a1 a2 σ) (fun σ2 => c_V (fX10_aim o σ2) (fun σ4 => some σ4)))
set_option maxRecDepth 100000 in
set_option maxHeartbeats 4000000 in
theorem ctX10_blowEverywhere (l : Launch) (E : EV) (o : Nat) (a1 : Int32) (a2 : Int32) (ho : KD o = 10) (σ : Mm) {τ : Mm} (h : fX10_blowEverywhere o a1 a2 σ = some τ) : Ct l E mX10_blowEverywhere 1 [.ref (e_a E o 0), .int a1, .int a2] σ (none, τ) := by
  refine Ct.of (by decide +kernel) (Nat.le_of_ble_eq_true rfl) ?_
  show Jd l E mX10_blowEverywhere 1 (none, τ) σ 0 [(0, .ref (e_a E o 0)), (1, .int a1), (2, .int a2)] []
  unfold fX10_blowEverywhere at h
  refine J_aload_n (pc := 0) 0 dX10_blowEverywhere_0 rfl ?_
  refine J_getR (pc := 1) dX10_blowEverywhere_1 ho flX10_22 rfl h (fun q1 hq1 h => ?_)
  refine J_iload_n (pc := 4) 1 dX10_blowEverywhere_4 rfl ?_
  refine J_iload_n (pc := 5) 2 dX10_blowEverywhere_5 rfl ?_
  obtain ⟨σ2, hc3, h⟩ := cV_t h
  refine J_cVv (pc := 6) (ctX4_blowEverywhere l E q1 a1 a2 hq1 σ hc3) dX10_blowEverywhere_6 mlX10_54 mvX4_blowEverywhere hq1 rfl (by decide) rfl (Nat.le_of_ble_eq_true rfl) ?_
  refine J_aload_n (pc := 9) 0 dX10_blowEverywhere_9 rfl ?_
  obtain ⟨σ4, hc5, h⟩ := cV_t h
  refine J_cVv (pc := 10) (ctX10_aim l E o ho σ2 hc5) dX10_blowEverywhere_10 mlX10_37 mvX10_aim ho rfl (by decide) rfl (Nat.le_of_ble_eq_true rfl) ?_
  cases h
  exact J_vret (pc := 13) dX10_blowEverywhere_13 rfl
def fX10_gapNow (o : Nat) (a1 : Int32) (σ : Mm) : Option (Int32 × Mm) := g_ar σ o 0 8 a1 (fun x1 => if x1 = (-1 : Int32) then (some ((0 : Int32), σ)) else (r_rf σ o 1 4 (fun q2 => g_ar σ q2 2 8 a1 (fun x3 => c_I (fX10_gap o a1 x3 σ) (fun x6 σ4 => some (x6, σ4))))))
set_option maxRecDepth 100000 in
set_option maxHeartbeats 4000000 in
theorem ctX10_gapNow (l : Launch) (E : EV) (o : Nat) (a1 : Int32) (ho : KD o = 10) (σ : Mm) {xr : Int32} {τ : Mm} (h : fX10_gapNow o a1 σ = some (xr, τ)) : Ct l E mX10_gapNow 1 [.ref (e_a E o 0), .int a1] σ (some (.int xr), τ) := by
  refine Ct.of (by decide +kernel) (Nat.le_of_ble_eq_true rfl) ?_
  show Jd l E mX10_gapNow 1 (some (.int xr), τ) σ 0 [(0, .ref (e_a E o 0)), (1, .int a1)] []
  unfold fX10_gapNow at h
  refine J_aload_n (pc := 0) 0 dX10_gapNow_0 rfl ?_
  refine J_getA (pc := 1) dX10_gapNow_1 ho flX10_9 rfl ?_
  refine J_iload_n (pc := 4) 1 dX10_gapNow_4 rfl ?_
  refine J_iald (pc := 5) dX10_gapNow_5 ho ha10_0 h (fun x1 h => ?_)
  refine J_iconst (pc := 6) (-1 : Int32) dX10_gapNow_6 (by decide) ?_
  refine J_icmp_ne (pc := 7) 14 dX10_gapNow_7 (by decide) h (fun h => ?_) (fun h => ?_)
  · refine J_aload_n (pc := 14) 0 dX10_gapNow_14 rfl ?_
    refine J_iload_n (pc := 15) 1 dX10_gapNow_15 rfl ?_
    refine J_aload_n (pc := 16) 0 dX10_gapNow_16 rfl ?_
    refine J_getR (pc := 17) dX10_gapNow_17 ho flX10_22 rfl h (fun q2 hq2 h => ?_)
    refine J_getA (pc := 20) dX10_gapNow_20 hq2 flX10_69 rfl ?_
    refine J_iload_n (pc := 23) 1 dX10_gapNow_23 rfl ?_
    refine J_iald (pc := 24) dX10_gapNow_24 hq2 ha4_2 h (fun x3 h => ?_)
    obtain ⟨x6, σ4, hc5, h⟩ := cI_t h
    refine J_cVi (pc := 25) (ctX10_gap l E o a1 x3 ho σ hc5) dX10_gapNow_25 mlX10_80 mvX10_gap ho rfl (by decide) rfl (Nat.le_of_ble_eq_true rfl) ?_
    cases h
    exact J_iret (pc := 28) dX10_gapNow_28 rfl rfl
  · refine J_iconst (pc := 10) (0 : Int32) dX10_gapNow_10 (by decide) ?_
    refine J_goto (pc := 11) 28 dX10_gapNow_11 (by decide) ?_
    cases h
    exact J_iret (pc := 28) dX10_gapNow_28 rfl rfl
def fX10_comingNearer_4 (o : Nat) (a1 : Int32) : Nat → Int32 → Int32 → Mm → Option (Int32 × Mm)
  | 0, _, _, _ => none
  | n + 1, v2, v3, σ => r_rf σ o 0 2 (fun q1 => r_sc σ q1 1 (fun x2 => if x2 ≤ v3 then (some (v2, σ)) else (if v3 = a1 then ((fX10_comingNearer_4 o a1 n) v2 (v3 + (1 : Int32)) σ) else (r_sc σ o 4 (fun x3 => c_I (fX11_has x3 v3 σ) (fun x6 σ4 => if x6 = 0 then ((fX10_comingNearer_4 o a1 n) v2 (v3 + (1 : Int32)) σ4) else (c_I (fX10_gain o v3 σ4) (fun x9 σ7 => if x9 ≤ 0 then ((fX10_comingNearer_4 o a1 n) v2 (v3 + (1 : Int32)) σ7) else (c_I (fX11_with v2 v3 (1 : Int32) σ7) (fun x12 σ10 => (fX10_comingNearer_4 o a1 n) x12 (v3 + (1 : Int32)) σ10))))))))))
set_option maxRecDepth 100000 in
set_option maxHeartbeats 4000000 in
theorem tX10_comingNearer_4 (l : Launch) (E : EV) {xr : Int32} {τ : Mm} (o : Nat) (a1 : Int32) (ho : KD o = 10) : ∀ (n : Nat) (v2 : Int32) (v3 : Int32) (σ : Mm), fX10_comingNearer_4 o a1 n v2 v3 σ = some (xr, τ) → Jd l E mX10_comingNearer 2 (some (.int xr), τ) σ 4 [(0, .ref (e_a E o 0)), (1, .int a1), (2, .int v2), (3, .int v3)] [] := by
  intro n
  induction n with
  | zero => intro v2 v3 σ h; rw [fX10_comingNearer_4] at h; cases h
  | succ n ih =>
    intro v2 v3 σ h
    rw [fX10_comingNearer_4] at h
    refine J_iload_n (pc := 4) 3 dX10_comingNearer_4 rfl ?_
    refine J_aload_n (pc := 5) 0 dX10_comingNearer_5 rfl ?_
    refine J_getR (pc := 6) dX10_comingNearer_6 ho flX10_18 rfl h (fun q1 hq1 h => ?_)
    refine J_getI (pc := 9) dX10_comingNearer_9 hq1 flX10_58 rfl h (fun x2 h => ?_)
    refine J_icmp_ge (pc := 12) 52 dX10_comingNearer_12 (by decide) h (fun h => ?_) (fun h => ?_)
    · refine J_iload_n (pc := 52) 2 dX10_comingNearer_52 rfl ?_
      cases h
      exact J_iret (pc := 53) dX10_comingNearer_53 rfl rfl
    · refine J_iload_n (pc := 15) 3 dX10_comingNearer_15 rfl ?_
      refine J_iload_n (pc := 16) 1 dX10_comingNearer_16 rfl ?_
      refine J_icmp_eq (pc := 17) 46 dX10_comingNearer_17 (by decide) h (fun h => ?_) (fun h => ?_)
      · refine J_iinc (pc := 46) (L' := [(3, .int (v3 + (1 : Int32))), (0, .ref (e_a E o 0)), (1, .int a1), (2, .int v2)]) 3 (v3 + (1 : Int32)) dX10_comingNearer_46 rfl (by rfl) (by decide) rfl ?_
        refine J_goto (pc := 49) 4 dX10_comingNearer_49 (by decide) ?_
        refine J_sub (L' := [(0, .ref (e_a E o 0)), (1, .int a1), (2, .int v2), (3, .int (v3 + (1 : Int32)))]) [1, 2, 3, 0] rfl ?_
        exact ih v2 (v3 + (1 : Int32)) σ h
      · refine J_aload_n (pc := 20) 0 dX10_comingNearer_20 rfl ?_
        refine J_getI (pc := 21) dX10_comingNearer_21 ho flX10_84 rfl h (fun x3 h => ?_)
        refine J_iload_n (pc := 24) 3 dX10_comingNearer_24 rfl ?_
        obtain ⟨x6, σ4, hc5, h⟩ := cI_t h
        refine J_cNi (pc := 25) (host := "VaneTown") (ctX11_has l E x3 v3 σ hc5) dX10_comingNearer_25 mnX10_113 msX11_has rfl (by decide) rfl (Nat.le_of_ble_eq_true rfl) ?_
        refine J_if_eq (pc := 28) 46 dX10_comingNearer_28 (by decide) h (fun h => ?_) (fun h => ?_)
        · refine J_iinc (pc := 46) (L' := [(3, .int (v3 + (1 : Int32))), (0, .ref (e_a E o 0)), (1, .int a1), (2, .int v2)]) 3 (v3 + (1 : Int32)) dX10_comingNearer_46 rfl (by rfl) (by decide) rfl ?_
          refine J_goto (pc := 49) 4 dX10_comingNearer_49 (by decide) ?_
          refine J_sub (L' := [(0, .ref (e_a E o 0)), (1, .int a1), (2, .int v2), (3, .int (v3 + (1 : Int32)))]) [1, 2, 3, 0] rfl ?_
          exact ih v2 (v3 + (1 : Int32)) σ4 h
        · refine J_aload_n (pc := 31) 0 dX10_comingNearer_31 rfl ?_
          refine J_iload_n (pc := 32) 3 dX10_comingNearer_32 rfl ?_
          obtain ⟨x9, σ7, hc8, h⟩ := cI_t h
          refine J_cVi (pc := 33) (ctX10_gain l E o v3 ho σ4 hc8) dX10_comingNearer_33 mlX10_142 mvX10_gain ho rfl (by decide) rfl (Nat.le_of_ble_eq_true rfl) ?_
          refine J_if_le (pc := 36) 46 dX10_comingNearer_36 (by decide) h (fun h => ?_) (fun h => ?_)
          · refine J_iinc (pc := 46) (L' := [(3, .int (v3 + (1 : Int32))), (0, .ref (e_a E o 0)), (1, .int a1), (2, .int v2)]) 3 (v3 + (1 : Int32)) dX10_comingNearer_46 rfl (by rfl) (by decide) rfl ?_
            refine J_goto (pc := 49) 4 dX10_comingNearer_49 (by decide) ?_
            refine J_sub (L' := [(0, .ref (e_a E o 0)), (1, .int a1), (2, .int v2), (3, .int (v3 + (1 : Int32)))]) [1, 2, 3, 0] rfl ?_
            exact ih v2 (v3 + (1 : Int32)) σ7 h
          · refine J_iload_n (pc := 39) 2 dX10_comingNearer_39 rfl ?_
            refine J_iload_n (pc := 40) 3 dX10_comingNearer_40 rfl ?_
            refine J_iconst (pc := 41) (1 : Int32) dX10_comingNearer_41 (by decide) ?_
            obtain ⟨x12, σ10, hc11, h⟩ := cI_t h
            refine J_cNi (pc := 42) (host := "VaneTown") (ctX11_with l E v2 v3 (1 : Int32) σ7 hc11) dX10_comingNearer_42 mnX10_76 msX11_with rfl (by decide) rfl (Nat.le_of_ble_eq_true rfl) ?_
            refine J_istore_n (pc := 45) (L' := [(2, .int x12), (0, .ref (e_a E o 0)), (1, .int a1), (3, .int v3)]) dX10_comingNearer_45 (by decide) rfl ?_
            refine J_iinc (pc := 46) (L' := [(3, .int (v3 + (1 : Int32))), (2, .int x12), (0, .ref (e_a E o 0)), (1, .int a1)]) 3 (v3 + (1 : Int32)) dX10_comingNearer_46 rfl (by rfl) (by decide) rfl ?_
            refine J_goto (pc := 49) 4 dX10_comingNearer_49 (by decide) ?_
            refine J_sub (L' := [(0, .ref (e_a E o 0)), (1, .int a1), (2, .int x12), (3, .int (v3 + (1 : Int32)))]) [2, 3, 1, 0] rfl ?_
            exact ih x12 (v3 + (1 : Int32)) σ10 h
def fX10_comingNearer (o : Nat) (a1 : Int32) (σ : Mm) : Option (Int32 × Mm) := fX10_comingNearer_4 o a1 FU (0 : Int32) (0 : Int32) σ
set_option maxRecDepth 100000 in
set_option maxHeartbeats 4000000 in
theorem ctX10_comingNearer (l : Launch) (E : EV) (o : Nat) (a1 : Int32) (ho : KD o = 10) (σ : Mm) {xr : Int32} {τ : Mm} (h : fX10_comingNearer o a1 σ = some (xr, τ)) : Ct l E mX10_comingNearer 2 [.ref (e_a E o 0), .int a1] σ (some (.int xr), τ) := by
  refine Ct.of (by decide +kernel) (Nat.le_of_ble_eq_true rfl) ?_
  show Jd l E mX10_comingNearer 2 (some (.int xr), τ) σ 0 [(0, .ref (e_a E o 0)), (1, .int a1)] []
  unfold fX10_comingNearer at h
  refine J_iconst (pc := 0) (0 : Int32) dX10_comingNearer_0 (by decide) ?_
  refine J_istore_n (pc := 1) (L' := [(2, .int (0 : Int32)), (0, .ref (e_a E o 0)), (1, .int a1)]) dX10_comingNearer_1 (by decide) rfl ?_
  refine J_iconst (pc := 2) (0 : Int32) dX10_comingNearer_2 (by decide) ?_
  refine J_istore_n (pc := 3) (L' := [(3, .int (0 : Int32)), (2, .int (0 : Int32)), (0, .ref (e_a E o 0)), (1, .int a1)]) dX10_comingNearer_3 (by decide) rfl ?_
  refine J_sub (L' := [(0, .ref (e_a E o 0)), (1, .int a1), (2, .int (0 : Int32)), (3, .int (0 : Int32))]) [2, 3, 1, 0] rfl ?_
  exact tX10_comingNearer_4 l E o a1 ho FU (0 : Int32) (0 : Int32) σ h
def fJ6_bitCount_0f7a4 (a1 : Int32) (σ : Mm) : Option (Int32 × Mm) := some (((((((((a1 - (((a1.toUInt32 >>> ((1 : Int32).toUInt32 &&& Int32.toUInt32 31)).toInt32) &&& (1431655765 : Int32))) &&& (858993459 : Int32)) + ((((a1 - (((a1.toUInt32 >>> ((1 : Int32).toUInt32 &&& Int32.toUInt32 31)).toInt32) &&& (1431655765 : Int32))).toUInt32 >>> ((2 : Int32).toUInt32 &&& Int32.toUInt32 31)).toInt32) &&& (858993459 : Int32))) + (((((a1 - (((a1.toUInt32 >>> ((1 : Int32).toUInt32 &&& Int32.toUInt32 31)).toInt32) &&& (1431655765 : Int32))) &&& (858993459 : Int32)) + ((((a1 - (((a1.toUInt32 >>> ((1 : Int32).toUInt32 &&& Int32.toUInt32 31)).toInt32) &&& (1431655765 : Int32))).toUInt32 >>> ((2 : Int32).toUInt32 &&& Int32.toUInt32 31)).toInt32) &&& (858993459 : Int32))).toUInt32 >>> ((4 : Int32).toUInt32 &&& Int32.toUInt32 31)).toInt32)) &&& (252645135 : Int32)) + (((((((a1 - (((a1.toUInt32 >>> ((1 : Int32).toUInt32 &&& Int32.toUInt32 31)).toInt32) &&& (1431655765 : Int32))) &&& (858993459 : Int32)) + ((((a1 - (((a1.toUInt32 >>> ((1 : Int32).toUInt32 &&& Int32.toUInt32 31)).toInt32) &&& (1431655765 : Int32))).toUInt32 >>> ((2 : Int32).toUInt32 &&& Int32.toUInt32 31)).toInt32) &&& (858993459 : Int32))) + (((((a1 - (((a1.toUInt32 >>> ((1 : Int32).toUInt32 &&& Int32.toUInt32 31)).toInt32) &&& (1431655765 : Int32))) &&& (858993459 : Int32)) + ((((a1 - (((a1.toUInt32 >>> ((1 : Int32).toUInt32 &&& Int32.toUInt32 31)).toInt32) &&& (1431655765 : Int32))).toUInt32 >>> ((2 : Int32).toUInt32 &&& Int32.toUInt32 31)).toInt32) &&& (858993459 : Int32))).toUInt32 >>> ((4 : Int32).toUInt32 &&& Int32.toUInt32 31)).toInt32)) &&& (252645135 : Int32)).toUInt32 >>> ((8 : Int32).toUInt32 &&& Int32.toUInt32 31)).toInt32)) + ((((((((a1 - (((a1.toUInt32 >>> ((1 : Int32).toUInt32 &&& Int32.toUInt32 31)).toInt32) &&& (1431655765 : Int32))) &&& (858993459 : Int32)) + ((((a1 - (((a1.toUInt32 >>> ((1 : Int32).toUInt32 &&& Int32.toUInt32 31)).toInt32) &&& (1431655765 : Int32))).toUInt32 >>> ((2 : Int32).toUInt32 &&& Int32.toUInt32 31)).toInt32) &&& (858993459 : Int32))) + (((((a1 - (((a1.toUInt32 >>> ((1 : Int32).toUInt32 &&& Int32.toUInt32 31)).toInt32) &&& (1431655765 : Int32))) &&& (858993459 : Int32)) + ((((a1 - (((a1.toUInt32 >>> ((1 : Int32).toUInt32 &&& Int32.toUInt32 31)).toInt32) &&& (1431655765 : Int32))).toUInt32 >>> ((2 : Int32).toUInt32 &&& Int32.toUInt32 31)).toInt32) &&& (858993459 : Int32))).toUInt32 >>> ((4 : Int32).toUInt32 &&& Int32.toUInt32 31)).toInt32)) &&& (252645135 : Int32)) + (((((((a1 - (((a1.toUInt32 >>> ((1 : Int32).toUInt32 &&& Int32.toUInt32 31)).toInt32) &&& (1431655765 : Int32))) &&& (858993459 : Int32)) + ((((a1 - (((a1.toUInt32 >>> ((1 : Int32).toUInt32 &&& Int32.toUInt32 31)).toInt32) &&& (1431655765 : Int32))).toUInt32 >>> ((2 : Int32).toUInt32 &&& Int32.toUInt32 31)).toInt32) &&& (858993459 : Int32))) + (((((a1 - (((a1.toUInt32 >>> ((1 : Int32).toUInt32 &&& Int32.toUInt32 31)).toInt32) &&& (1431655765 : Int32))) &&& (858993459 : Int32)) + ((((a1 - (((a1.toUInt32 >>> ((1 : Int32).toUInt32 &&& Int32.toUInt32 31)).toInt32) &&& (1431655765 : Int32))).toUInt32 >>> ((2 : Int32).toUInt32 &&& Int32.toUInt32 31)).toInt32) &&& (858993459 : Int32))).toUInt32 >>> ((4 : Int32).toUInt32 &&& Int32.toUInt32 31)).toInt32)) &&& (252645135 : Int32)).toUInt32 >>> ((8 : Int32).toUInt32 &&& Int32.toUInt32 31)).toInt32)).toUInt32 >>> ((16 : Int32).toUInt32 &&& Int32.toUInt32 31)).toInt32)) &&& (63 : Int32)), σ)
set_option maxRecDepth 100000 in
set_option maxHeartbeats 4000000 in
theorem ctJ6_bitCount_0f7a4 (l : Launch) (E : EV) (a1 : Int32) (σ : Mm) {xr : Int32} {τ : Mm} (h : fJ6_bitCount_0f7a4 a1 σ = some (xr, τ)) : Ct l E mJ6_bitCount_0f7a4 0 [.int a1] σ (some (.int xr), τ) := by
  refine Ct.of (by decide +kernel) (Nat.le_of_ble_eq_true rfl) ?_
  show Jd l E mJ6_bitCount_0f7a4 0 (some (.int xr), τ) σ 0 [(0, .int a1)] []
  unfold fJ6_bitCount_0f7a4 at h
  refine J_iload_n (pc := 0) 0 dJ6_bitCount_0f7a4_0 rfl ?_
  refine J_iload_n (pc := 1) 0 dJ6_bitCount_0f7a4_1 rfl ?_
  refine J_iconst (pc := 2) (1 : Int32) dJ6_bitCount_0f7a4_2 (by decide) ?_
  refine J_iushr (pc := 3) dJ6_bitCount_0f7a4_3 ?_
  refine J_ldcw (pc := 4) (1431655765 : Int32) dJ6_bitCount_0f7a4_4 kcJ6_265 ?_
  refine J_iand (pc := 7) dJ6_bitCount_0f7a4_7 ?_
  refine J_isub (pc := 8) dJ6_bitCount_0f7a4_8 ?_
  refine J_istore_n (pc := 9) (L' := [(0, .int (a1 - (((a1.toUInt32 >>> ((1 : Int32).toUInt32 &&& Int32.toUInt32 31)).toInt32) &&& (1431655765 : Int32))))]) dJ6_bitCount_0f7a4_9 (by decide) rfl ?_
  refine J_iload_n (pc := 10) 0 dJ6_bitCount_0f7a4_10 rfl ?_
  refine J_ldcw (pc := 11) (858993459 : Int32) dJ6_bitCount_0f7a4_11 kcJ6_266 ?_
  refine J_iand (pc := 14) dJ6_bitCount_0f7a4_14 ?_
  refine J_iload_n (pc := 15) 0 dJ6_bitCount_0f7a4_15 rfl ?_
  refine J_iconst (pc := 16) (2 : Int32) dJ6_bitCount_0f7a4_16 (by decide) ?_
  refine J_iushr (pc := 17) dJ6_bitCount_0f7a4_17 ?_
  refine J_ldcw (pc := 18) (858993459 : Int32) dJ6_bitCount_0f7a4_18 kcJ6_266 ?_
  refine J_iand (pc := 21) dJ6_bitCount_0f7a4_21 ?_
  refine J_iadd (pc := 22) dJ6_bitCount_0f7a4_22 ?_
  refine J_istore_n (pc := 23) (L' := [(0, .int (((a1 - (((a1.toUInt32 >>> ((1 : Int32).toUInt32 &&& Int32.toUInt32 31)).toInt32) &&& (1431655765 : Int32))) &&& (858993459 : Int32)) + ((((a1 - (((a1.toUInt32 >>> ((1 : Int32).toUInt32 &&& Int32.toUInt32 31)).toInt32) &&& (1431655765 : Int32))).toUInt32 >>> ((2 : Int32).toUInt32 &&& Int32.toUInt32 31)).toInt32) &&& (858993459 : Int32))))]) dJ6_bitCount_0f7a4_23 (by decide) rfl ?_
  refine J_iload_n (pc := 24) 0 dJ6_bitCount_0f7a4_24 rfl ?_
  refine J_iload_n (pc := 25) 0 dJ6_bitCount_0f7a4_25 rfl ?_
  refine J_iconst (pc := 26) (4 : Int32) dJ6_bitCount_0f7a4_26 (by decide) ?_
  refine J_iushr (pc := 27) dJ6_bitCount_0f7a4_27 ?_
  refine J_iadd (pc := 28) dJ6_bitCount_0f7a4_28 ?_
  refine J_ldcw (pc := 29) (252645135 : Int32) dJ6_bitCount_0f7a4_29 kcJ6_267 ?_
  refine J_iand (pc := 32) dJ6_bitCount_0f7a4_32 ?_
  refine J_istore_n (pc := 33) (L' := [(0, .int (((((a1 - (((a1.toUInt32 >>> ((1 : Int32).toUInt32 &&& Int32.toUInt32 31)).toInt32) &&& (1431655765 : Int32))) &&& (858993459 : Int32)) + ((((a1 - (((a1.toUInt32 >>> ((1 : Int32).toUInt32 &&& Int32.toUInt32 31)).toInt32) &&& (1431655765 : Int32))).toUInt32 >>> ((2 : Int32).toUInt32 &&& Int32.toUInt32 31)).toInt32) &&& (858993459 : Int32))) + (((((a1 - (((a1.toUInt32 >>> ((1 : Int32).toUInt32 &&& Int32.toUInt32 31)).toInt32) &&& (1431655765 : Int32))) &&& (858993459 : Int32)) + ((((a1 - (((a1.toUInt32 >>> ((1 : Int32).toUInt32 &&& Int32.toUInt32 31)).toInt32) &&& (1431655765 : Int32))).toUInt32 >>> ((2 : Int32).toUInt32 &&& Int32.toUInt32 31)).toInt32) &&& (858993459 : Int32))).toUInt32 >>> ((4 : Int32).toUInt32 &&& Int32.toUInt32 31)).toInt32)) &&& (252645135 : Int32)))]) dJ6_bitCount_0f7a4_33 (by decide) rfl ?_
  refine J_iload_n (pc := 34) 0 dJ6_bitCount_0f7a4_34 rfl ?_
  refine J_iload_n (pc := 35) 0 dJ6_bitCount_0f7a4_35 rfl ?_
  refine J_bipush (pc := 36) (8 : Int32) dJ6_bitCount_0f7a4_36 (by decide) ?_
  refine J_iushr (pc := 38) dJ6_bitCount_0f7a4_38 ?_
  refine J_iadd (pc := 39) dJ6_bitCount_0f7a4_39 ?_
  refine J_istore_n (pc := 40) (L' := [(0, .int ((((((a1 - (((a1.toUInt32 >>> ((1 : Int32).toUInt32 &&& Int32.toUInt32 31)).toInt32) &&& (1431655765 : Int32))) &&& (858993459 : Int32)) + ((((a1 - (((a1.toUInt32 >>> ((1 : Int32).toUInt32 &&& Int32.toUInt32 31)).toInt32) &&& (1431655765 : Int32))).toUInt32 >>> ((2 : Int32).toUInt32 &&& Int32.toUInt32 31)).toInt32) &&& (858993459 : Int32))) + (((((a1 - (((a1.toUInt32 >>> ((1 : Int32).toUInt32 &&& Int32.toUInt32 31)).toInt32) &&& (1431655765 : Int32))) &&& (858993459 : Int32)) + ((((a1 - (((a1.toUInt32 >>> ((1 : Int32).toUInt32 &&& Int32.toUInt32 31)).toInt32) &&& (1431655765 : Int32))).toUInt32 >>> ((2 : Int32).toUInt32 &&& Int32.toUInt32 31)).toInt32) &&& (858993459 : Int32))).toUInt32 >>> ((4 : Int32).toUInt32 &&& Int32.toUInt32 31)).toInt32)) &&& (252645135 : Int32)) + (((((((a1 - (((a1.toUInt32 >>> ((1 : Int32).toUInt32 &&& Int32.toUInt32 31)).toInt32) &&& (1431655765 : Int32))) &&& (858993459 : Int32)) + ((((a1 - (((a1.toUInt32 >>> ((1 : Int32).toUInt32 &&& Int32.toUInt32 31)).toInt32) &&& (1431655765 : Int32))).toUInt32 >>> ((2 : Int32).toUInt32 &&& Int32.toUInt32 31)).toInt32) &&& (858993459 : Int32))) + (((((a1 - (((a1.toUInt32 >>> ((1 : Int32).toUInt32 &&& Int32.toUInt32 31)).toInt32) &&& (1431655765 : Int32))) &&& (858993459 : Int32)) + ((((a1 - (((a1.toUInt32 >>> ((1 : Int32).toUInt32 &&& Int32.toUInt32 31)).toInt32) &&& (1431655765 : Int32))).toUInt32 >>> ((2 : Int32).toUInt32 &&& Int32.toUInt32 31)).toInt32) &&& (858993459 : Int32))).toUInt32 >>> ((4 : Int32).toUInt32 &&& Int32.toUInt32 31)).toInt32)) &&& (252645135 : Int32)).toUInt32 >>> ((8 : Int32).toUInt32 &&& Int32.toUInt32 31)).toInt32)))]) dJ6_bitCount_0f7a4_40 (by decide) rfl ?_
  refine J_iload_n (pc := 41) 0 dJ6_bitCount_0f7a4_41 rfl ?_
  refine J_iload_n (pc := 42) 0 dJ6_bitCount_0f7a4_42 rfl ?_
  refine J_bipush (pc := 43) (16 : Int32) dJ6_bitCount_0f7a4_43 (by decide) ?_
  refine J_iushr (pc := 45) dJ6_bitCount_0f7a4_45 ?_
  refine J_iadd (pc := 46) dJ6_bitCount_0f7a4_46 ?_
  refine J_istore_n (pc := 47) (L' := [(0, .int (((((((a1 - (((a1.toUInt32 >>> ((1 : Int32).toUInt32 &&& Int32.toUInt32 31)).toInt32) &&& (1431655765 : Int32))) &&& (858993459 : Int32)) + ((((a1 - (((a1.toUInt32 >>> ((1 : Int32).toUInt32 &&& Int32.toUInt32 31)).toInt32) &&& (1431655765 : Int32))).toUInt32 >>> ((2 : Int32).toUInt32 &&& Int32.toUInt32 31)).toInt32) &&& (858993459 : Int32))) + (((((a1 - (((a1.toUInt32 >>> ((1 : Int32).toUInt32 &&& Int32.toUInt32 31)).toInt32) &&& (1431655765 : Int32))) &&& (858993459 : Int32)) + ((((a1 - (((a1.toUInt32 >>> ((1 : Int32).toUInt32 &&& Int32.toUInt32 31)).toInt32) &&& (1431655765 : Int32))).toUInt32 >>> ((2 : Int32).toUInt32 &&& Int32.toUInt32 31)).toInt32) &&& (858993459 : Int32))).toUInt32 >>> ((4 : Int32).toUInt32 &&& Int32.toUInt32 31)).toInt32)) &&& (252645135 : Int32)) + (((((((a1 - (((a1.toUInt32 >>> ((1 : Int32).toUInt32 &&& Int32.toUInt32 31)).toInt32) &&& (1431655765 : Int32))) &&& (858993459 : Int32)) + ((((a1 - (((a1.toUInt32 >>> ((1 : Int32).toUInt32 &&& Int32.toUInt32 31)).toInt32) &&& (1431655765 : Int32))).toUInt32 >>> ((2 : Int32).toUInt32 &&& Int32.toUInt32 31)).toInt32) &&& (858993459 : Int32))) + (((((a1 - (((a1.toUInt32 >>> ((1 : Int32).toUInt32 &&& Int32.toUInt32 31)).toInt32) &&& (1431655765 : Int32))) &&& (858993459 : Int32)) + ((((a1 - (((a1.toUInt32 >>> ((1 : Int32).toUInt32 &&& Int32.toUInt32 31)).toInt32) &&& (1431655765 : Int32))).toUInt32 >>> ((2 : Int32).toUInt32 &&& Int32.toUInt32 31)).toInt32) &&& (858993459 : Int32))).toUInt32 >>> ((4 : Int32).toUInt32 &&& Int32.toUInt32 31)).toInt32)) &&& (252645135 : Int32)).toUInt32 >>> ((8 : Int32).toUInt32 &&& Int32.toUInt32 31)).toInt32)) + ((((((((a1 - (((a1.toUInt32 >>> ((1 : Int32).toUInt32 &&& Int32.toUInt32 31)).toInt32) &&& (1431655765 : Int32))) &&& (858993459 : Int32)) + ((((a1 - (((a1.toUInt32 >>> ((1 : Int32).toUInt32 &&& Int32.toUInt32 31)).toInt32) &&& (1431655765 : Int32))).toUInt32 >>> ((2 : Int32).toUInt32 &&& Int32.toUInt32 31)).toInt32) &&& (858993459 : Int32))) + (((((a1 - (((a1.toUInt32 >>> ((1 : Int32).toUInt32 &&& Int32.toUInt32 31)).toInt32) &&& (1431655765 : Int32))) &&& (858993459 : Int32)) + ((((a1 - (((a1.toUInt32 >>> ((1 : Int32).toUInt32 &&& Int32.toUInt32 31)).toInt32) &&& (1431655765 : Int32))).toUInt32 >>> ((2 : Int32).toUInt32 &&& Int32.toUInt32 31)).toInt32) &&& (858993459 : Int32))).toUInt32 >>> ((4 : Int32).toUInt32 &&& Int32.toUInt32 31)).toInt32)) &&& (252645135 : Int32)) + (((((((a1 - (((a1.toUInt32 >>> ((1 : Int32).toUInt32 &&& Int32.toUInt32 31)).toInt32) &&& (1431655765 : Int32))) &&& (858993459 : Int32)) + ((((a1 - (((a1.toUInt32 >>> ((1 : Int32).toUInt32 &&& Int32.toUInt32 31)).toInt32) &&& (1431655765 : Int32))).toUInt32 >>> ((2 : Int32).toUInt32 &&& Int32.toUInt32 31)).toInt32) &&& (858993459 : Int32))) + (((((a1 - (((a1.toUInt32 >>> ((1 : Int32).toUInt32 &&& Int32.toUInt32 31)).toInt32) &&& (1431655765 : Int32))) &&& (858993459 : Int32)) + ((((a1 - (((a1.toUInt32 >>> ((1 : Int32).toUInt32 &&& Int32.toUInt32 31)).toInt32) &&& (1431655765 : Int32))).toUInt32 >>> ((2 : Int32).toUInt32 &&& Int32.toUInt32 31)).toInt32) &&& (858993459 : Int32))).toUInt32 >>> ((4 : Int32).toUInt32 &&& Int32.toUInt32 31)).toInt32)) &&& (252645135 : Int32)).toUInt32 >>> ((8 : Int32).toUInt32 &&& Int32.toUInt32 31)).toInt32)).toUInt32 >>> ((16 : Int32).toUInt32 &&& Int32.toUInt32 31)).toInt32)))]) dJ6_bitCount_0f7a4_47 (by decide) rfl ?_
  refine J_iload_n (pc := 48) 0 dJ6_bitCount_0f7a4_48 rfl ?_
  refine J_bipush (pc := 49) (63 : Int32) dJ6_bitCount_0f7a4_49 (by decide) ?_
  refine J_iand (pc := 51) dJ6_bitCount_0f7a4_51 ?_
  cases h
  exact J_iret (pc := 52) dJ6_bitCount_0f7a4_52 rfl rfl
def fX10_loadOf (o : Nat) (a1 : Int32) (a2 : Int32) (σ : Mm) : Option (Int32 × Mm) := c_I (fX10_engage o a1 a2 σ) (fun x3 σ1 => if x3 = 0 then (some ((0 : Int32), σ1)) else (r_sc σ1 o 4 (fun x4 => c_I (fJ6_bitCount_0f7a4 x4 σ1) (fun x7 σ5 => some (x7, σ5)))))
set_option maxRecDepth 100000 in
set_option maxHeartbeats 4000000 in
theorem ctX10_loadOf (l : Launch) (E : EV) (o : Nat) (a1 : Int32) (a2 : Int32) (ho : KD o = 10) (σ : Mm) {xr : Int32} {τ : Mm} (h : fX10_loadOf o a1 a2 σ = some (xr, τ)) : Ct l E mX10_loadOf 3 [.ref (e_a E o 0), .int a1, .int a2] σ (some (.int xr), τ) := by
  refine Ct.of (by decide +kernel) (Nat.le_of_ble_eq_true rfl) ?_
  show Jd l E mX10_loadOf 3 (some (.int xr), τ) σ 0 [(0, .ref (e_a E o 0)), (1, .int a1), (2, .int a2)] []
  unfold fX10_loadOf at h
  refine J_aload_n (pc := 0) 0 dX10_loadOf_0 rfl ?_
  refine J_iload_n (pc := 1) 1 dX10_loadOf_1 rfl ?_
  refine J_iload_n (pc := 2) 2 dX10_loadOf_2 rfl ?_
  obtain ⟨x3, σ1, hc2, h⟩ := cI_t h
  refine J_cVi (pc := 3) (ctX10_engage l E o a1 a2 ho σ hc2) dX10_loadOf_3 mlX10_145 mvX10_engage ho rfl (by decide) rfl (Nat.le_of_ble_eq_true rfl) ?_
  refine J_if_eq (pc := 6) 19 dX10_loadOf_6 (by decide) h (fun h => ?_) (fun h => ?_)
  · refine J_iconst (pc := 19) (0 : Int32) dX10_loadOf_19 (by decide) ?_
    cases h
    exact J_iret (pc := 20) dX10_loadOf_20 rfl rfl
  · refine J_aload_n (pc := 9) 0 dX10_loadOf_9 rfl ?_
    refine J_getI (pc := 10) dX10_loadOf_10 ho flX10_84 rfl h (fun x4 h => ?_)
    obtain ⟨x7, σ5, hc6, h⟩ := cI_t h
    refine J_cSi (pc := 13) (ctJ6_bitCount_0f7a4 l E x4 σ1 hc6) dX10_loadOf_13 mlX10_148 msJ6_bitCount_0f7a4 rfl (by decide) rfl (Nat.le_of_ble_eq_true rfl) ?_
    refine J_goto (pc := 16) 20 dX10_loadOf_16 (by decide) ?_
    cases h
    exact J_iret (pc := 20) dX10_loadOf_20 rfl rfl
def fX10_firstDriven_2 (o : Nat) : Nat → Int32 → Mm → Option (Int32 × Mm)
  | 0, _, _ => none
  | n + 1, v1, σ => r_rf σ o 0 2 (fun q1 => r_sc σ q1 1 (fun x2 => if x2 ≤ v1 then (some ((-1 : Int32), σ)) else (c_I (fX10_isDriven o v1 σ) (fun x5 σ3 => if x5 = 0 then ((fX10_firstDriven_2 o n) (v1 + (1 : Int32)) σ3) else (some (v1, σ3))))))
set_option maxRecDepth 100000 in
set_option maxHeartbeats 4000000 in
theorem tX10_firstDriven_2 (l : Launch) (E : EV) {xr : Int32} {τ : Mm} (o : Nat) (ho : KD o = 10) : ∀ (n : Nat) (v1 : Int32) (σ : Mm), fX10_firstDriven_2 o n v1 σ = some (xr, τ) → Jd l E mX10_firstDriven 4 (some (.int xr), τ) σ 2 [(0, .ref (e_a E o 0)), (1, .int v1)] [] := by
  intro n
  induction n with
  | zero => intro v1 σ h; rw [fX10_firstDriven_2] at h; cases h
  | succ n ih =>
    intro v1 σ h
    rw [fX10_firstDriven_2] at h
    refine J_iload_n (pc := 2) 1 dX10_firstDriven_2 rfl ?_
    refine J_aload_n (pc := 3) 0 dX10_firstDriven_3 rfl ?_
    refine J_getR (pc := 4) dX10_firstDriven_4 ho flX10_18 rfl h (fun q1 hq1 h => ?_)
    refine J_getI (pc := 7) dX10_firstDriven_7 hq1 flX10_58 rfl h (fun x2 h => ?_)
    refine J_icmp_ge (pc := 10) 29 dX10_firstDriven_10 (by decide) h (fun h => ?_) (fun h => ?_)
    · refine J_iconst (pc := 29) (-1 : Int32) dX10_firstDriven_29 (by decide) ?_
      cases h
      exact J_iret (pc := 30) dX10_firstDriven_30 rfl rfl
    · refine J_aload_n (pc := 13) 0 dX10_firstDriven_13 rfl ?_
      refine J_iload_n (pc := 14) 1 dX10_firstDriven_14 rfl ?_
      obtain ⟨x5, σ3, hc4, h⟩ := cI_t h
      refine J_cVi (pc := 15) (ctX10_isDriven l E o v1 ho σ hc4) dX10_firstDriven_15 mlX10_162 mvX10_isDriven ho rfl (by decide) rfl (Nat.le_of_ble_eq_true rfl) ?_
      refine J_if_eq (pc := 18) 23 dX10_firstDriven_18 (by decide) h (fun h => ?_) (fun h => ?_)
      · refine J_iinc (pc := 23) (L' := [(1, .int (v1 + (1 : Int32))), (0, .ref (e_a E o 0))]) 1 (v1 + (1 : Int32)) dX10_firstDriven_23 rfl (by rfl) (by decide) rfl ?_
        refine J_goto (pc := 26) 2 dX10_firstDriven_26 (by decide) ?_
        refine J_sub (L' := [(0, .ref (e_a E o 0)), (1, .int (v1 + (1 : Int32)))]) [1, 0] rfl ?_
        exact ih (v1 + (1 : Int32)) σ3 h
      · refine J_iload_n (pc := 21) 1 dX10_firstDriven_21 rfl ?_
        cases h
        exact J_iret (pc := 22) dX10_firstDriven_22 rfl rfl
def fX10_firstDriven (o : Nat) (σ : Mm) : Option (Int32 × Mm) := fX10_firstDriven_2 o FU (0 : Int32) σ
set_option maxRecDepth 100000 in
set_option maxHeartbeats 4000000 in
theorem ctX10_firstDriven (l : Launch) (E : EV) (o : Nat) (ho : KD o = 10) (σ : Mm) {xr : Int32} {τ : Mm} (h : fX10_firstDriven o σ = some (xr, τ)) : Ct l E mX10_firstDriven 4 [.ref (e_a E o 0)] σ (some (.int xr), τ) := by
  refine Ct.of (by decide +kernel) (Nat.le_of_ble_eq_true rfl) ?_
  show Jd l E mX10_firstDriven 4 (some (.int xr), τ) σ 0 [(0, .ref (e_a E o 0))] []
  unfold fX10_firstDriven at h
  refine J_iconst (pc := 0) (0 : Int32) dX10_firstDriven_0 (by decide) ?_
  refine J_istore_n (pc := 1) (L' := [(1, .int (0 : Int32)), (0, .ref (e_a E o 0))]) dX10_firstDriven_1 (by decide) rfl ?_
  refine J_sub (L' := [(0, .ref (e_a E o 0)), (1, .int (0 : Int32))]) [1, 0] rfl ?_
  exact tX10_firstDriven_2 l E o ho FU (0 : Int32) σ h
def fX10_wrongQuarters_24 (o : Nat) (a1 : Int32) (a2 : Int32) (k5 : Int32 → Int32 → Mm → Option (Int32 × Mm)) (v3 : Int32) (v4 : Int32) (s0 : Int32) (σ : Mm) : Option (Int32 × Mm) := c_I (fX10_rightSet o σ) (fun x6 σ4 => c_I (fJ6_bitCount_0f7a4 (a1 &&& (x6 ^^^ (-1 : Int32))) σ4) (fun x9 σ7 => if s0 = 0 then (k5 (v3 + x9) (v4 + (1 : Int32)) σ7) else (some ((v3 + (x9 * (a2 - v4))), σ7))))
set_option maxRecDepth 100000 in
set_option maxHeartbeats 4000000 in
theorem tX10_wrongQuarters_24 (l : Launch) (E : EV) {xr : Int32} {τ : Mm} (o : Nat) (a1 : Int32) (a2 : Int32) (ho : KD o = 10) (k5 : Int32 → Int32 → Mm → Option (Int32 × Mm)) (hk5 : ∀ (v3 : Int32) (v4 : Int32) (σ : Mm), k5 v3 v4 σ = some (xr, τ) → Jd l E mX10_wrongQuarters 5 (some (.int xr), τ) σ 5 [(0, .ref (e_a E o 0)), (1, .int a1), (2, .int a2), (3, .int v3), (4, .int v4)] []) (v3 : Int32) (v4 : Int32) (s0 : Int32) (σ : Mm) (h : fX10_wrongQuarters_24 o a1 a2 k5 v3 v4 s0 σ = some (xr, τ)) : Jd l E mX10_wrongQuarters 5 (some (.int xr), τ) σ 24 [(0, .ref (e_a E o 0)), (1, .int a1), (2, .int a2), (3, .int v3), (4, .int v4)] [.int s0] := by
  unfold fX10_wrongQuarters_24 at h
  refine J_istore (pc := 24) (L' := [(5, .int s0), (0, .ref (e_a E o 0)), (1, .int a1), (2, .int a2), (3, .int v3), (4, .int v4)]) dX10_wrongQuarters_24 (by decide) rfl ?_
  refine J_iload_n (pc := 26) 2 dX10_wrongQuarters_26 rfl ?_
  refine J_aload_n (pc := 27) 1 dX10_wrongQuarters_27 rfl ?_
  obtain ⟨x6, σ4, hc5, h⟩ := cI_t h
  refine J_cVi (pc := 28) (ctX10_rightSet l E o ho σ hc5) dX10_wrongQuarters_28 mlX10_176 mvX10_rightSet ho rfl (by decide) rfl (Nat.le_of_ble_eq_true rfl) ?_
  refine J_iconst (pc := 31) (-1 : Int32) dX10_wrongQuarters_31 (by decide) ?_
  refine J_ixor (pc := 32) dX10_wrongQuarters_32 ?_
  refine J_iand (pc := 33) dX10_wrongQuarters_33 ?_
  obtain ⟨x9, σ7, hc8, h⟩ := cI_t h
  refine J_cSi (pc := 34) (ctJ6_bitCount_0f7a4 l E (a1 &&& (x6 ^^^ (-1 : Int32))) σ4 hc8) dX10_wrongQuarters_34 mlX10_148 msJ6_bitCount_0f7a4 rfl (by decide) rfl (Nat.le_of_ble_eq_true rfl) ?_
  refine J_istore (pc := 37) (L' := [(6, .int x9), (5, .int s0), (0, .ref (e_a E o 0)), (1, .int a1), (2, .int a2), (3, .int v3), (4, .int v4)]) dX10_wrongQuarters_37 (by decide) rfl ?_
  refine J_iload (pc := 39) 1 dX10_wrongQuarters_39 rfl ?_
  refine J_if_eq (pc := 41) 54 dX10_wrongQuarters_41 (by decide) h (fun h => ?_) (fun h => ?_)
  · refine J_iload_n (pc := 54) 5 dX10_wrongQuarters_54 rfl ?_
    refine J_iload (pc := 55) 0 dX10_wrongQuarters_55 rfl ?_
    refine J_iadd (pc := 57) dX10_wrongQuarters_57 ?_
    refine J_istore_n (pc := 58) (L' := [(3, .int (v3 + x9)), (6, .int x9), (5, .int s0), (0, .ref (e_a E o 0)), (1, .int a1), (2, .int a2), (4, .int v4)]) dX10_wrongQuarters_58 (by decide) rfl ?_
    refine J_iinc (pc := 59) (L' := [(4, .int (v4 + (1 : Int32))), (3, .int (v3 + x9)), (6, .int x9), (5, .int s0), (0, .ref (e_a E o 0)), (1, .int a1), (2, .int a2)]) 6 (v4 + (1 : Int32)) dX10_wrongQuarters_59 rfl (by rfl) (by decide) rfl ?_
    refine J_goto (pc := 62) 5 dX10_wrongQuarters_62 (by decide) ?_
    refine J_sub (L' := [(0, .ref (e_a E o 0)), (1, .int a1), (2, .int a2), (3, .int (v3 + x9)), (4, .int (v4 + (1 : Int32)))]) [4, 5, 6, 1, 0] rfl ?_
    exact hk5 (v3 + x9) (v4 + (1 : Int32)) σ7 h
  · refine J_iload_n (pc := 44) 5 dX10_wrongQuarters_44 rfl ?_
    refine J_iload (pc := 45) 0 dX10_wrongQuarters_45 rfl ?_
    refine J_iload_n (pc := 47) 4 dX10_wrongQuarters_47 rfl ?_
    refine J_iload (pc := 48) 6 dX10_wrongQuarters_48 rfl ?_
    refine J_isub (pc := 50) dX10_wrongQuarters_50 ?_
    refine J_imul (pc := 51) dX10_wrongQuarters_51 ?_
    refine J_iadd (pc := 52) dX10_wrongQuarters_52 ?_
    cases h
    exact J_iret (pc := 53) dX10_wrongQuarters_53 rfl rfl
def fX10_wrongQuarters_5 (o : Nat) (a1 : Int32) (a2 : Int32) : Nat → Int32 → Int32 → Mm → Option (Int32 × Mm)
  | 0, _, _, _ => none
  | n + 1, v3, v4, σ => if a2 ≤ v4 then (some (v3, σ)) else (c_I (fX10_goOn o (1 : Int32) σ) (fun x3 σ1 => if x3 = 0 then (fX10_wrongQuarters_24 o a1 a2 (fX10_wrongQuarters_5 o a1 a2 n) v3 v4 (1 : Int32) σ1) else (fX10_wrongQuarters_24 o a1 a2 (fX10_wrongQuarters_5 o a1 a2 n) v3 v4 (0 : Int32) σ1)))
set_option maxRecDepth 100000 in
set_option maxHeartbeats 4000000 in
theorem tX10_wrongQuarters_5 (l : Launch) (E : EV) {xr : Int32} {τ : Mm} (o : Nat) (a1 : Int32) (a2 : Int32) (ho : KD o = 10) : ∀ (n : Nat) (v3 : Int32) (v4 : Int32) (σ : Mm), fX10_wrongQuarters_5 o a1 a2 n v3 v4 σ = some (xr, τ) → Jd l E mX10_wrongQuarters 5 (some (.int xr), τ) σ 5 [(0, .ref (e_a E o 0)), (1, .int a1), (2, .int a2), (3, .int v3), (4, .int v4)] [] := by
  intro n
  induction n with
  | zero => intro v3 v4 σ h; rw [fX10_wrongQuarters_5] at h; cases h
  | succ n ih =>
    intro v3 v4 σ h
    rw [fX10_wrongQuarters_5] at h
    refine J_iload (pc := 5) 4 dX10_wrongQuarters_5 rfl ?_
    refine J_iload_n (pc := 7) 2 dX10_wrongQuarters_7 rfl ?_
    refine J_icmp_ge (pc := 8) 65 dX10_wrongQuarters_8 (by decide) h (fun h => ?_) (fun h => ?_)
    · refine J_iload_n (pc := 65) 3 dX10_wrongQuarters_65 rfl ?_
      cases h
      exact J_iret (pc := 66) dX10_wrongQuarters_66 rfl rfl
    · refine J_aload_n (pc := 11) 0 dX10_wrongQuarters_11 rfl ?_
      refine J_iconst (pc := 12) (1 : Int32) dX10_wrongQuarters_12 (by decide) ?_
      obtain ⟨x3, σ1, hc2, h⟩ := cI_t h
      refine J_cVi (pc := 13) (ctX10_goOn l E o (1 : Int32) ho σ hc2) dX10_wrongQuarters_13 mlX10_173 mvX10_goOn ho rfl (by decide) rfl (Nat.le_of_ble_eq_true rfl) ?_
      refine J_if_ne (pc := 16) 23 dX10_wrongQuarters_16 (by decide) h (fun h => ?_) (fun h => ?_)
      · refine J_iconst (pc := 23) (0 : Int32) dX10_wrongQuarters_23 (by decide) ?_
        refine J_sub (L' := [(0, .ref (e_a E o 0)), (1, .int a1), (2, .int a2), (3, .int v3), (4, .int v4)]) [0, 1, 2, 3, 4] rfl ?_
        exact tX10_wrongQuarters_24 l E o a1 a2 ho (fX10_wrongQuarters_5 o a1 a2 n) ih v3 v4 (0 : Int32) σ1 h
      · refine J_iconst (pc := 19) (1 : Int32) dX10_wrongQuarters_19 (by decide) ?_
        refine J_goto (pc := 20) 24 dX10_wrongQuarters_20 (by decide) ?_
        refine J_sub (L' := [(0, .ref (e_a E o 0)), (1, .int a1), (2, .int a2), (3, .int v3), (4, .int v4)]) [0, 1, 2, 3, 4] rfl ?_
        exact tX10_wrongQuarters_24 l E o a1 a2 ho (fX10_wrongQuarters_5 o a1 a2 n) ih v3 v4 (1 : Int32) σ1 h
def fX10_wrongQuarters (o : Nat) (a1 : Int32) (a2 : Int32) (σ : Mm) : Option (Int32 × Mm) := fX10_wrongQuarters_5 o a1 a2 FU (0 : Int32) (0 : Int32) σ
set_option maxRecDepth 100000 in
set_option maxHeartbeats 4000000 in
theorem ctX10_wrongQuarters (l : Launch) (E : EV) (o : Nat) (a1 : Int32) (a2 : Int32) (ho : KD o = 10) (σ : Mm) {xr : Int32} {τ : Mm} (h : fX10_wrongQuarters o a1 a2 σ = some (xr, τ)) : Ct l E mX10_wrongQuarters 5 [.ref (e_a E o 0), .int a1, .int a2] σ (some (.int xr), τ) := by
  refine Ct.of (by decide +kernel) (Nat.le_of_ble_eq_true rfl) ?_
  show Jd l E mX10_wrongQuarters 5 (some (.int xr), τ) σ 0 [(0, .ref (e_a E o 0)), (1, .int a1), (2, .int a2)] []
  unfold fX10_wrongQuarters at h
  refine J_iconst (pc := 0) (0 : Int32) dX10_wrongQuarters_0 (by decide) ?_
  refine J_istore_n (pc := 1) (L' := [(3, .int (0 : Int32)), (0, .ref (e_a E o 0)), (1, .int a1), (2, .int a2)]) dX10_wrongQuarters_1 (by decide) rfl ?_
  refine J_iconst (pc := 2) (0 : Int32) dX10_wrongQuarters_2 (by decide) ?_
  refine J_istore (pc := 3) (L' := [(4, .int (0 : Int32)), (3, .int (0 : Int32)), (0, .ref (e_a E o 0)), (1, .int a1), (2, .int a2)]) dX10_wrongQuarters_3 (by decide) rfl ?_
  refine J_sub (L' := [(0, .ref (e_a E o 0)), (1, .int a1), (2, .int a2), (3, .int (0 : Int32)), (4, .int (0 : Int32))]) [2, 3, 4, 1, 0] rfl ?_
  exact tX10_wrongQuarters_5 l E o a1 a2 ho FU (0 : Int32) (0 : Int32) σ h
def fX11_status (o : Nat) (σ : Mm) : Option (Int32 × Mm) := r_sc σ o 0 (fun x1 => some (x1, σ))
set_option maxRecDepth 100000 in
set_option maxHeartbeats 4000000 in
theorem ctX11_status (l : Launch) (E : EV) (o : Nat) (ho : KD o = 11) (σ : Mm) {xr : Int32} {τ : Mm} (h : fX11_status o σ = some (xr, τ)) : Ct l E mX11_status 0 [.ref (e_a E o 0)] σ (some (.int xr), τ) := by
  refine Ct.of (by decide +kernel) (Nat.le_of_ble_eq_true rfl) ?_
  show Jd l E mX11_status 0 (some (.int xr), τ) σ 0 [(0, .ref (e_a E o 0))] []
  unfold fX11_status at h
  refine J_aload_n (pc := 0) 0 dX11_status_0 rfl ?_
  refine J_getI (pc := 1) dX11_status_1 ho flX11_101 rfl h (fun x1 h => ?_)
  cases h
  exact J_iret (pc := 4) dX11_status_4 rfl rfl
def fX11_top (o : Nat) (σ : Mm) : Option (Int64 × Mm) := r_lg σ o 1 (fun x1 => some (x1, σ))
set_option maxRecDepth 100000 in
set_option maxHeartbeats 4000000 in
theorem ctX11_top (l : Launch) (E : EV) (o : Nat) (ho : KD o = 11) (σ : Mm) {xr : Int64} {τ : Mm} (h : fX11_top o σ = some (xr, τ)) : Ct l E mX11_top 0 [.ref (e_a E o 0)] σ (some (.long xr), τ) := by
  refine Ct.of (by decide +kernel) (Nat.le_of_ble_eq_true rfl) ?_
  show Jd l E mX11_top 0 (some (.long xr), τ) σ 0 [(0, .ref (e_a E o 0))] []
  unfold fX11_top at h
  refine J_aload_n (pc := 0) 0 dX11_top_0 rfl ?_
  refine J_getL (pc := 1) dX11_top_1 ho flX11_104 rfl h (fun x1 h => ?_)
  cases h
  exact J_lret (pc := 4) dX11_top_4 rfl
def fX11_bottom (o : Nat) (σ : Mm) : Option (Int64 × Mm) := r_lg σ o 2 (fun x1 => some (x1, σ))
set_option maxRecDepth 100000 in
set_option maxHeartbeats 4000000 in
theorem ctX11_bottom (l : Launch) (E : EV) (o : Nat) (ho : KD o = 11) (σ : Mm) {xr : Int64} {τ : Mm} (h : fX11_bottom o σ = some (xr, τ)) : Ct l E mX11_bottom 0 [.ref (e_a E o 0)] σ (some (.long xr), τ) := by
  refine Ct.of (by decide +kernel) (Nat.le_of_ble_eq_true rfl) ?_
  show Jd l E mX11_bottom 0 (some (.long xr), τ) σ 0 [(0, .ref (e_a E o 0))] []
  unfold fX11_bottom at h
  refine J_aload_n (pc := 0) 0 dX11_bottom_0 rfl ?_
  refine J_getL (pc := 1) dX11_bottom_1 ho flX11_7 rfl h (fun x1 h => ?_)
  cases h
  exact J_lret (pc := 4) dX11_bottom_4 rfl
def fX11_isTray (o : Nat) (a1 : Int32) (σ : Mm) : Option (Int32 × Mm) := if a1 < 0 then (some ((0 : Int32), σ)) else (if (4 : Int32) ≤ a1 then (some ((0 : Int32), σ)) else (some ((1 : Int32), σ)))
set_option maxRecDepth 100000 in
set_option maxHeartbeats 4000000 in
theorem ctX11_isTray (l : Launch) (E : EV) (o : Nat) (a1 : Int32) (ho : KD o = 11) (σ : Mm) {xr : Int32} {τ : Mm} (h : fX11_isTray o a1 σ = some (xr, τ)) : Ct l E mX11_isTray 0 [.ref (e_a E o 0), .int a1] σ (some (.int xr), τ) := by
  refine Ct.of (by decide +kernel) (Nat.le_of_ble_eq_true rfl) ?_
  show Jd l E mX11_isTray 0 (some (.int xr), τ) σ 0 [(0, .ref (e_a E o 0)), (1, .int a1)] []
  unfold fX11_isTray at h
  refine J_iload_n (pc := 0) 1 dX11_isTray_0 rfl ?_
  refine J_if_lt (pc := 1) 13 dX11_isTray_1 (by decide) h (fun h => ?_) (fun h => ?_)
  · refine J_iconst (pc := 13) (0 : Int32) dX11_isTray_13 (by decide) ?_
    cases h
    exact J_iret (pc := 14) dX11_isTray_14 rfl rfl
  · refine J_iload_n (pc := 4) 1 dX11_isTray_4 rfl ?_
    refine J_iconst (pc := 5) (4 : Int32) dX11_isTray_5 (by decide) ?_
    refine J_icmp_ge (pc := 6) 13 dX11_isTray_6 (by decide) h (fun h => ?_) (fun h => ?_)
    · refine J_iconst (pc := 13) (0 : Int32) dX11_isTray_13 (by decide) ?_
      cases h
      exact J_iret (pc := 14) dX11_isTray_14 rfl rfl
    · refine J_iconst (pc := 9) (1 : Int32) dX11_isTray_9 (by decide) ?_
      refine J_goto (pc := 10) 14 dX11_isTray_10 (by decide) ?_
      cases h
      exact J_iret (pc := 14) dX11_isTray_14 rfl rfl
def fX11_refuse (o : Nat) (a1 : Int32) (σ : Mm) : Option (Int32 × Mm) := p_sc σ o 0 a1 (fun σ1 => some ((0 : Int32), σ1))
set_option maxRecDepth 100000 in
set_option maxHeartbeats 4000000 in
theorem ctX11_refuse (l : Launch) (E : EV) (o : Nat) (a1 : Int32) (ho : KD o = 11) (σ : Mm) {xr : Int32} {τ : Mm} (h : fX11_refuse o a1 σ = some (xr, τ)) : Ct l E mX11_refuse 0 [.ref (e_a E o 0), .int a1] σ (some (.int xr), τ) := by
  refine Ct.of (by decide +kernel) (Nat.le_of_ble_eq_true rfl) ?_
  show Jd l E mX11_refuse 0 (some (.int xr), τ) σ 0 [(0, .ref (e_a E o 0)), (1, .int a1)] []
  unfold fX11_refuse at h
  refine J_aload_n (pc := 0) 0 dX11_refuse_0 rfl ?_
  refine J_iload_n (pc := 1) 1 dX11_refuse_1 rfl ?_
  refine J_putI (pc := 2) dX11_refuse_2 ho flX11_101 rfl h (fun σ1 h => ?_)
  refine J_iconst (pc := 5) (0 : Int32) dX11_refuse_5 (by decide) ?_
  cases h
  exact J_iret (pc := 6) dX11_refuse_6 rfl rfl
def fX11_agree (o : Nat) (σ : Mm) : Option (Int32 × Mm) := p_sc σ o 0 (0 : Int32) (fun σ1 => some ((1 : Int32), σ1))
set_option maxRecDepth 100000 in
set_option maxHeartbeats 4000000 in
theorem ctX11_agree (l : Launch) (E : EV) (o : Nat) (ho : KD o = 11) (σ : Mm) {xr : Int32} {τ : Mm} (h : fX11_agree o σ = some (xr, τ)) : Ct l E mX11_agree 0 [.ref (e_a E o 0)] σ (some (.int xr), τ) := by
  refine Ct.of (by decide +kernel) (Nat.le_of_ble_eq_true rfl) ?_
  show Jd l E mX11_agree 0 (some (.int xr), τ) σ 0 [(0, .ref (e_a E o 0))] []
  unfold fX11_agree at h
  refine J_aload_n (pc := 0) 0 dX11_agree_0 rfl ?_
  refine J_iconst (pc := 1) (0 : Int32) dX11_agree_1 (by decide) ?_
  refine J_putI (pc := 2) dX11_agree_2 ho flX11_101 rfl h (fun σ1 h => ?_)
  refine J_iconst (pc := 5) (1 : Int32) dX11_agree_5 (by decide) ?_
  cases h
  exact J_iret (pc := 6) dX11_agree_6 rfl rfl
def fX11_tray (o : Nat) (a1 : Int32) (a2 : Int32) (a3 : Int32) (σ : Mm) : Option (Int32 × Mm) := c_I (fX11_isTray o a1 σ) (fun x3 σ1 => if x3 = 0 then (c_I (fX11_refuse o (1 : Int32) σ1) (fun x6 σ4 => b_z x6 σ4)) else (if a2 < 0 then (c_I (fX11_refuse o (1 : Int32) σ1) (fun x10 σ8 => b_z x10 σ8)) else (if (3 : Int32) < a2 then (c_I (fX11_refuse o (1 : Int32) σ1) (fun x14 σ12 => b_z x14 σ12)) else (if a3 < 0 then (c_I (fX11_refuse o (1 : Int32) σ1) (fun x18 σ16 => b_z x18 σ16)) else (if a3 ≤ (60 : Int32) then (g_bl 0 4 a1 (fun q20 => c_V (fX8_lay q20 a2 a3 σ1) (fun σ21 => c_I (fX11_agree o σ21) (fun x25 σ23 => b_z x25 σ23)))) else (c_I (fX11_refuse o (1 : Int32) σ1) (fun x29 σ27 => b_z x29 σ27)))))))
set_option maxRecDepth 100000 in
set_option maxHeartbeats 4000000 in
theorem ctX11_tray (l : Launch) (E : EV) (o : Nat) (a1 : Int32) (a2 : Int32) (a3 : Int32) (ho : KD o = 11) (σ : Mm) {xr : Int32} {τ : Mm} (h : fX11_tray o a1 a2 a3 σ = some (xr, τ)) : Ct l E mX11_tray 1 [.ref (e_a E o 0), .int a1, .int a2, .int a3] σ (some (.int xr), τ) := by
  refine Ct.of (by decide +kernel) (Nat.le_of_ble_eq_true rfl) ?_
  show Jd l E mX11_tray 1 (some (.int xr), τ) σ 0 [(0, .ref (e_a E o 0)), (1, .int a1), (2, .int a2), (3, .int a3)] []
  unfold fX11_tray at h
  refine J_aload_n (pc := 0) 0 dX11_tray_0 rfl ?_
  refine J_iload_n (pc := 1) 1 dX11_tray_1 rfl ?_
  obtain ⟨x3, σ1, hc2, h⟩ := cI_t h
  refine J_cVi (pc := 2) (ctX11_isTray l E o a1 ho σ hc2) dX11_tray_2 mlX11_107 mvX11_isTray ho rfl (by decide) rfl (Nat.le_of_ble_eq_true rfl) ?_
  refine J_if_eq (pc := 5) 27 dX11_tray_5 (by decide) h (fun h => ?_) (fun h => ?_)
  · refine J_aload_n (pc := 27) 0 dX11_tray_27 rfl ?_
    refine J_iconst (pc := 28) (1 : Int32) dX11_tray_28 (by decide) ?_
    obtain ⟨x6, σ4, hc5, h⟩ := cI_t h
    refine J_cVi (pc := 29) (ctX11_refuse l E o (1 : Int32) ho σ1 hc5) dX11_tray_29 mlX11_111 mvX11_refuse ho rfl (by decide) rfl (Nat.le_of_ble_eq_true rfl) ?_
    obtain ⟨hz7, h⟩ := bz_t h
    cases h
    exact J_iret (pc := 32) dX11_tray_32 rfl hz7
  · refine J_iload_n (pc := 8) 2 dX11_tray_8 rfl ?_
    refine J_if_lt (pc := 9) 27 dX11_tray_9 (by decide) h (fun h => ?_) (fun h => ?_)
    · refine J_aload_n (pc := 27) 0 dX11_tray_27 rfl ?_
      refine J_iconst (pc := 28) (1 : Int32) dX11_tray_28 (by decide) ?_
      obtain ⟨x10, σ8, hc9, h⟩ := cI_t h
      refine J_cVi (pc := 29) (ctX11_refuse l E o (1 : Int32) ho σ1 hc9) dX11_tray_29 mlX11_111 mvX11_refuse ho rfl (by decide) rfl (Nat.le_of_ble_eq_true rfl) ?_
      obtain ⟨hz11, h⟩ := bz_t h
      cases h
      exact J_iret (pc := 32) dX11_tray_32 rfl hz11
    · refine J_iload_n (pc := 12) 2 dX11_tray_12 rfl ?_
      refine J_iconst (pc := 13) (3 : Int32) dX11_tray_13 (by decide) ?_
      refine J_icmp_gt (pc := 14) 27 dX11_tray_14 (by decide) h (fun h => ?_) (fun h => ?_)
      · refine J_aload_n (pc := 27) 0 dX11_tray_27 rfl ?_
        refine J_iconst (pc := 28) (1 : Int32) dX11_tray_28 (by decide) ?_
        obtain ⟨x14, σ12, hc13, h⟩ := cI_t h
        refine J_cVi (pc := 29) (ctX11_refuse l E o (1 : Int32) ho σ1 hc13) dX11_tray_29 mlX11_111 mvX11_refuse ho rfl (by decide) rfl (Nat.le_of_ble_eq_true rfl) ?_
        obtain ⟨hz15, h⟩ := bz_t h
        cases h
        exact J_iret (pc := 32) dX11_tray_32 rfl hz15
      · refine J_iload_n (pc := 17) 3 dX11_tray_17 rfl ?_
        refine J_if_lt (pc := 18) 27 dX11_tray_18 (by decide) h (fun h => ?_) (fun h => ?_)
        · refine J_aload_n (pc := 27) 0 dX11_tray_27 rfl ?_
          refine J_iconst (pc := 28) (1 : Int32) dX11_tray_28 (by decide) ?_
          obtain ⟨x18, σ16, hc17, h⟩ := cI_t h
          refine J_cVi (pc := 29) (ctX11_refuse l E o (1 : Int32) ho σ1 hc17) dX11_tray_29 mlX11_111 mvX11_refuse ho rfl (by decide) rfl (Nat.le_of_ble_eq_true rfl) ?_
          obtain ⟨hz19, h⟩ := bz_t h
          cases h
          exact J_iret (pc := 32) dX11_tray_32 rfl hz19
        · refine J_iload_n (pc := 21) 3 dX11_tray_21 rfl ?_
          refine J_bipush (pc := 22) (60 : Int32) dX11_tray_22 (by decide) ?_
          refine J_icmp_le (pc := 24) 33 dX11_tray_24 (by decide) h (fun h => ?_) (fun h => ?_)
          · refine J_aload_n (pc := 33) 0 dX11_tray_33 rfl ?_
            refine J_getA (pc := 34) dX11_tray_34 ho flX11_15 rfl ?_
            refine J_iload_n (pc := 37) 1 dX11_tray_37 rfl ?_
            refine J_aaldK (pc := 38) (t := 0) dX11_tray_38 ho ha11_0 rfl (fun _ q => kr0 q) h (fun q20 hq20 h => ?_)
            refine J_iload_n (pc := 39) 2 dX11_tray_39 rfl ?_
            refine J_iload_n (pc := 40) 3 dX11_tray_40 rfl ?_
            obtain ⟨σ21, hc22, h⟩ := cV_t h
            refine J_cVv (pc := 41) (ctX8_lay l E q20 a2 a3 hq20 σ1 hc22) dX11_tray_41 mlX11_114 mvX8_lay hq20 rfl (by decide) rfl (Nat.le_of_ble_eq_true rfl) ?_
            refine J_aload_n (pc := 44) 0 dX11_tray_44 rfl ?_
            obtain ⟨x25, σ23, hc24, h⟩ := cI_t h
            refine J_cVi (pc := 45) (ctX11_agree l E o ho σ21 hc24) dX11_tray_45 mlX11_118 mvX11_agree ho rfl (by decide) rfl (Nat.le_of_ble_eq_true rfl) ?_
            obtain ⟨hz26, h⟩ := bz_t h
            cases h
            exact J_iret (pc := 48) dX11_tray_48 rfl hz26
          · refine J_aload_n (pc := 27) 0 dX11_tray_27 rfl ?_
            refine J_iconst (pc := 28) (1 : Int32) dX11_tray_28 (by decide) ?_
            obtain ⟨x29, σ27, hc28, h⟩ := cI_t h
            refine J_cVi (pc := 29) (ctX11_refuse l E o (1 : Int32) ho σ1 hc28) dX11_tray_29 mlX11_111 mvX11_refuse ho rfl (by decide) rfl (Nat.le_of_ble_eq_true rfl) ?_
            obtain ⟨hz30, h⟩ := bz_t h
            cases h
            exact J_iret (pc := 32) dX11_tray_32 rfl hz30
def fX11_trayPlaceStatus (o : Nat) (a1 : Int32) (a2 : Int32) (σ : Mm) : Option (Int32 × Mm) := c_I (fX11_isTray o a1 σ) (fun x3 σ1 => if x3 = 0 then (some ((1 : Int32), σ1)) else (g_bl 0 4 a1 (fun q4 => c_I (fX8_isMissing q4 σ1) (fun x7 σ5 => if x7 = 0 then (if a2 < 0 then (some ((3 : Int32), σ5)) else (g_bl 0 4 a1 (fun q8 => r_sc σ5 q8 1 (fun x9 => if a2 < x9 then (some ((0 : Int32), σ5)) else (some ((3 : Int32), σ5)))))) else (some ((2 : Int32), σ5))))))
set_option maxRecDepth 100000 in
set_option maxHeartbeats 4000000 in
theorem ctX11_trayPlaceStatus (l : Launch) (E : EV) (o : Nat) (a1 : Int32) (a2 : Int32) (ho : KD o = 11) (σ : Mm) {xr : Int32} {τ : Mm} (h : fX11_trayPlaceStatus o a1 a2 σ = some (xr, τ)) : Ct l E mX11_trayPlaceStatus 1 [.ref (e_a E o 0), .int a1, .int a2] σ (some (.int xr), τ) := by
  refine Ct.of (by decide +kernel) (Nat.le_of_ble_eq_true rfl) ?_
  show Jd l E mX11_trayPlaceStatus 1 (some (.int xr), τ) σ 0 [(0, .ref (e_a E o 0)), (1, .int a1), (2, .int a2)] []
  unfold fX11_trayPlaceStatus at h
  refine J_aload_n (pc := 0) 0 dX11_trayPlaceStatus_0 rfl ?_
  refine J_iload_n (pc := 1) 1 dX11_trayPlaceStatus_1 rfl ?_
  obtain ⟨x3, σ1, hc2, h⟩ := cI_t h
  refine J_cVi (pc := 2) (ctX11_isTray l E o a1 ho σ hc2) dX11_trayPlaceStatus_2 mlX11_107 mvX11_isTray ho rfl (by decide) rfl (Nat.le_of_ble_eq_true rfl) ?_
  refine J_if_ne (pc := 5) 10 dX11_trayPlaceStatus_5 (by decide) h (fun h => ?_) (fun h => ?_)
  · refine J_aload_n (pc := 10) 0 dX11_trayPlaceStatus_10 rfl ?_
    refine J_getA (pc := 11) dX11_trayPlaceStatus_11 ho flX11_15 rfl ?_
    refine J_iload_n (pc := 14) 1 dX11_trayPlaceStatus_14 rfl ?_
    refine J_aaldK (pc := 15) (t := 0) dX11_trayPlaceStatus_15 ho ha11_0 rfl (fun _ q => kr0 q) h (fun q4 hq4 h => ?_)
    obtain ⟨x7, σ5, hc6, h⟩ := cI_t h
    refine J_cVi (pc := 16) (ctX8_isMissing l E q4 hq4 σ1 hc6) dX11_trayPlaceStatus_16 mlX11_138 mvX8_isMissing hq4 rfl (by decide) rfl (Nat.le_of_ble_eq_true rfl) ?_
    refine J_if_eq (pc := 19) 24 dX11_trayPlaceStatus_19 (by decide) h (fun h => ?_) (fun h => ?_)
    · refine J_iload_n (pc := 24) 2 dX11_trayPlaceStatus_24 rfl ?_
      refine J_if_lt (pc := 25) 41 dX11_trayPlaceStatus_25 (by decide) h (fun h => ?_) (fun h => ?_)
      · refine J_iconst (pc := 41) (3 : Int32) dX11_trayPlaceStatus_41 (by decide) ?_
        refine J_goto (pc := 42) 46 dX11_trayPlaceStatus_42 (by decide) ?_
        cases h
        exact J_iret (pc := 46) dX11_trayPlaceStatus_46 rfl rfl
      · refine J_iload_n (pc := 28) 2 dX11_trayPlaceStatus_28 rfl ?_
        refine J_aload_n (pc := 29) 0 dX11_trayPlaceStatus_29 rfl ?_
        refine J_getA (pc := 30) dX11_trayPlaceStatus_30 ho flX11_15 rfl ?_
        refine J_iload_n (pc := 33) 1 dX11_trayPlaceStatus_33 rfl ?_
        refine J_aaldK (pc := 34) (t := 0) dX11_trayPlaceStatus_34 ho ha11_0 rfl (fun _ q => kr0 q) h (fun q8 hq8 h => ?_)
        refine J_getI (pc := 35) dX11_trayPlaceStatus_35 hq8 flX11_443 rfl h (fun x9 h => ?_)
        refine J_icmp_lt (pc := 38) 45 dX11_trayPlaceStatus_38 (by decide) h (fun h => ?_) (fun h => ?_)
        · refine J_iconst (pc := 45) (0 : Int32) dX11_trayPlaceStatus_45 (by decide) ?_
          cases h
          exact J_iret (pc := 46) dX11_trayPlaceStatus_46 rfl rfl
        · refine J_iconst (pc := 41) (3 : Int32) dX11_trayPlaceStatus_41 (by decide) ?_
          refine J_goto (pc := 42) 46 dX11_trayPlaceStatus_42 (by decide) ?_
          cases h
          exact J_iret (pc := 46) dX11_trayPlaceStatus_46 rfl rfl
    · refine J_iconst (pc := 22) (2 : Int32) dX11_trayPlaceStatus_22 (by decide) ?_
      cases h
      exact J_iret (pc := 23) dX11_trayPlaceStatus_23 rfl rfl
  · refine J_iconst (pc := 8) (1 : Int32) dX11_trayPlaceStatus_8 (by decide) ?_
    cases h
    exact J_iret (pc := 9) dX11_trayPlaceStatus_9 rfl rfl
def fX11_write (o : Nat) (a1 : Int32) (a2 : Int32) (a3 : Int64) (σ : Mm) : Option (Int32 × Mm) := c_I (fX11_trayPlaceStatus o a1 a2 σ) (fun x3 σ1 => if x3 = 0 then (g_bl 0 4 a1 (fun q4 => c_V (fX8_put q4 a2 a3 σ1) (fun σ5 => c_I (fX11_agree o σ5) (fun x9 σ7 => b_z x9 σ7)))) else (c_I (fX11_refuse o x3 σ1) (fun x13 σ11 => b_z x13 σ11)))
set_option maxRecDepth 100000 in
set_option maxHeartbeats 4000000 in
theorem ctX11_write (l : Launch) (E : EV) (o : Nat) (a1 : Int32) (a2 : Int32) (a3 : Int64) (ho : KD o = 11) (σ : Mm) {xr : Int32} {τ : Mm} (h : fX11_write o a1 a2 a3 σ = some (xr, τ)) : Ct l E mX11_write 2 [.ref (e_a E o 0), .int a1, .int a2, .long a3] σ (some (.int xr), τ) := by
  refine Ct.of (by decide +kernel) (Nat.le_of_ble_eq_true rfl) ?_
  show Jd l E mX11_write 2 (some (.int xr), τ) σ 0 [(0, .ref (e_a E o 0)), (1, .int a1), (2, .int a2), (3, .long a3)] []
  unfold fX11_write at h
  refine J_aload_n (pc := 0) 0 dX11_write_0 rfl ?_
  refine J_iload_n (pc := 1) 1 dX11_write_1 rfl ?_
  refine J_iload_n (pc := 2) 2 dX11_write_2 rfl ?_
  obtain ⟨x3, σ1, hc2, h⟩ := cI_t h
  refine J_cVi (pc := 3) (ctX11_trayPlaceStatus l E o a1 a2 ho σ hc2) dX11_write_3 mlX11_122 mvX11_trayPlaceStatus ho rfl (by decide) rfl (Nat.le_of_ble_eq_true rfl) ?_
  refine J_istore (pc := 6) (L' := [(5, .int x3), (0, .ref (e_a E o 0)), (1, .int a1), (2, .int a2), (3, .long a3)]) dX11_write_6 (by decide) rfl ?_
  refine J_iload (pc := 8) 0 dX11_write_8 rfl ?_
  refine J_if_eq (pc := 10) 20 dX11_write_10 (by decide) h (fun h => ?_) (fun h => ?_)
  · refine J_aload_n (pc := 20) 1 dX11_write_20 rfl ?_
    refine J_getA (pc := 21) dX11_write_21 ho flX11_15 rfl ?_
    refine J_iload_n (pc := 24) 2 dX11_write_24 rfl ?_
    refine J_aaldK (pc := 25) (t := 0) dX11_write_25 ho ha11_0 rfl (fun _ q => kr0 q) h (fun q4 hq4 h => ?_)
    refine J_iload_n (pc := 26) 3 dX11_write_26 rfl ?_
    refine J_lload_n (pc := 27) 4 dX11_write_27 rfl ?_
    obtain ⟨σ5, hc6, h⟩ := cV_t h
    refine J_cVv (pc := 28) (ctX8_put l E q4 a2 a3 hq4 σ1 hc6) dX11_write_28 mlX11_126 mvX8_put hq4 rfl (by decide) rfl (Nat.le_of_ble_eq_true rfl) ?_
    refine J_aload_n (pc := 31) 1 dX11_write_31 rfl ?_
    obtain ⟨x9, σ7, hc8, h⟩ := cI_t h
    refine J_cVi (pc := 32) (ctX11_agree l E o ho σ5 hc8) dX11_write_32 mlX11_118 mvX11_agree ho rfl (by decide) rfl (Nat.le_of_ble_eq_true rfl) ?_
    obtain ⟨hz10, h⟩ := bz_t h
    cases h
    exact J_iret (pc := 35) dX11_write_35 rfl hz10
  · refine J_aload_n (pc := 13) 1 dX11_write_13 rfl ?_
    refine J_iload (pc := 14) 0 dX11_write_14 rfl ?_
    obtain ⟨x13, σ11, hc12, h⟩ := cI_t h
    refine J_cVi (pc := 16) (ctX11_refuse l E o x3 ho σ1 hc12) dX11_write_16 mlX11_111 mvX11_refuse ho rfl (by decide) rfl (Nat.le_of_ble_eq_true rfl) ?_
    obtain ⟨hz14, h⟩ := bz_t h
    cases h
    exact J_iret (pc := 19) dX11_write_19 rfl hz14
def fX11_none (o : Nat) (a1 : Int32) (σ : Mm) : Option (Int32 × Mm) := p_sc σ o 0 a1 (fun σ1 => some ((-1 : Int32), σ1))
set_option maxRecDepth 100000 in
set_option maxHeartbeats 4000000 in
theorem ctX11_none (l : Launch) (E : EV) (o : Nat) (a1 : Int32) (ho : KD o = 11) (σ : Mm) {xr : Int32} {τ : Mm} (h : fX11_none o a1 σ = some (xr, τ)) : Ct l E mX11_none 0 [.ref (e_a E o 0), .int a1] σ (some (.int xr), τ) := by
  refine Ct.of (by decide +kernel) (Nat.le_of_ble_eq_true rfl) ?_
  show Jd l E mX11_none 0 (some (.int xr), τ) σ 0 [(0, .ref (e_a E o 0)), (1, .int a1)] []
  unfold fX11_none at h
  refine J_aload_n (pc := 0) 0 dX11_none_0 rfl ?_
  refine J_iload_n (pc := 1) 1 dX11_none_1 rfl ?_
  refine J_putI (pc := 2) dX11_none_2 ho flX11_101 rfl h (fun σ1 h => ?_)
  refine J_iconst (pc := 5) (-1 : Int32) dX11_none_5 (by decide) ?_
  cases h
  exact J_iret (pc := 6) dX11_none_6 rfl rfl
def fX11_read (o : Nat) (a1 : Int32) (a2 : Int32) (σ : Mm) : Option (Int64 × Mm) := c_I (fX11_trayPlaceStatus o a1 a2 σ) (fun x3 σ1 => if x3 = 0 then (p_sc σ1 o 0 (0 : Int32) (fun σ4 => g_bl 0 4 a1 (fun q5 => g_la σ4 q5 0 60 a2 (fun x6 => some (x6, σ4))))) else (c_I (fX11_none o x3 σ1) (fun x9 σ7 => some (x9.toInt64, σ7))))
set_option maxRecDepth 100000 in
set_option maxHeartbeats 4000000 in
theorem ctX11_read (l : Launch) (E : EV) (o : Nat) (a1 : Int32) (a2 : Int32) (ho : KD o = 11) (σ : Mm) {xr : Int64} {τ : Mm} (h : fX11_read o a1 a2 σ = some (xr, τ)) : Ct l E mX11_read 2 [.ref (e_a E o 0), .int a1, .int a2] σ (some (.long xr), τ) := by
  refine Ct.of (by decide +kernel) (Nat.le_of_ble_eq_true rfl) ?_
  show Jd l E mX11_read 2 (some (.long xr), τ) σ 0 [(0, .ref (e_a E o 0)), (1, .int a1), (2, .int a2)] []
  unfold fX11_read at h
  refine J_aload_n (pc := 0) 0 dX11_read_0 rfl ?_
  refine J_iload_n (pc := 1) 1 dX11_read_1 rfl ?_
  refine J_iload_n (pc := 2) 2 dX11_read_2 rfl ?_
  obtain ⟨x3, σ1, hc2, h⟩ := cI_t h
  refine J_cVi (pc := 3) (ctX11_trayPlaceStatus l E o a1 a2 ho σ hc2) dX11_read_3 mlX11_122 mvX11_trayPlaceStatus ho rfl (by decide) rfl (Nat.le_of_ble_eq_true rfl) ?_
  refine J_istore_n (pc := 6) (L' := [(3, .int x3), (0, .ref (e_a E o 0)), (1, .int a1), (2, .int a2)]) dX11_read_6 (by decide) rfl ?_
  refine J_iload_n (pc := 7) 0 dX11_read_7 rfl ?_
  refine J_if_eq (pc := 8) 18 dX11_read_8 (by decide) h (fun h => ?_) (fun h => ?_)
  · refine J_aload_n (pc := 18) 1 dX11_read_18 rfl ?_
    refine J_iconst (pc := 19) (0 : Int32) dX11_read_19 (by decide) ?_
    refine J_putI (pc := 20) dX11_read_20 ho flX11_101 rfl h (fun σ4 h => ?_)
    refine J_aload_n (pc := 23) 1 dX11_read_23 rfl ?_
    refine J_getA (pc := 24) dX11_read_24 ho flX11_15 rfl ?_
    refine J_iload_n (pc := 27) 2 dX11_read_27 rfl ?_
    refine J_aaldK (pc := 28) (t := 0) dX11_read_28 ho ha11_0 rfl (fun _ q => kr0 q) h (fun q5 hq5 h => ?_)
    refine J_getA (pc := 29) dX11_read_29 hq5 flX11_134 rfl ?_
    refine J_iload_n (pc := 32) 3 dX11_read_32 rfl ?_
    refine J_lald (pc := 33) dX11_read_33 hq5 ha8_0 h (fun x6 h => ?_)
    cases h
    exact J_lret (pc := 34) dX11_read_34 rfl
  · refine J_aload_n (pc := 11) 1 dX11_read_11 rfl ?_
    refine J_iload_n (pc := 12) 0 dX11_read_12 rfl ?_
    obtain ⟨x9, σ7, hc8, h⟩ := cI_t h
    refine J_cVi (pc := 13) (ctX11_none l E o x3 ho σ1 hc8) dX11_read_13 mlX11_130 mvX11_none ho rfl (by decide) rfl (Nat.le_of_ble_eq_true rfl) ?_
    refine J_i2l (pc := 16) dX11_read_16 ?_
    cases h
    exact J_lret (pc := 17) dX11_read_17 rfl
def fX11_pour (o : Nat) (a1 : Int32) (a2 : Int32) (a3 : Int32) (a4 : Int32) (a5 : Int32) (σ : Mm) : Option (Int32 × Mm) := c_I (fX11_isTray o a1 σ) (fun x3 σ1 => if x3 = 0 then (c_I (fX11_refuse o (1 : Int32) σ1) (fun x6 σ4 => b_z x6 σ4)) else (c_I (fX11_isTray o a3 σ1) (fun x10 σ8 => if x10 = 0 then (c_I (fX11_refuse o (1 : Int32) σ8) (fun x13 σ11 => b_z x13 σ11)) else (if a2 < 0 then (c_I (fX11_refuse o (1 : Int32) σ8) (fun x17 σ15 => b_z x17 σ15)) else (if a4 < 0 then (c_I (fX11_refuse o (1 : Int32) σ8) (fun x21 σ19 => b_z x21 σ19)) else (if 0 ≤ a5 then (g_bl 0 4 a1 (fun q23 => g_bl 0 4 a3 (fun q24 => c_I (fX8_isMissing q23 σ8) (fun x27 σ25 => if x27 = 0 then (c_I (fX8_isMissing q24 σ25) (fun x34 σ32 => if x34 = 0 then (r_sc σ32 q23 0 (fun x35 => r_sc σ32 q24 0 (fun x36 => if x35 = x36 then (c_I (fX8_hasFrom q23 a2 a5 σ32) (fun x39 σ37 => if x39 = 0 then (c_I (fX11_refuse o (3 : Int32) σ37) (fun x42 σ40 => b_z x42 σ40)) else (c_I (fX8_hasFrom q24 a4 a5 σ37) (fun x46 σ44 => if x46 = 0 then (c_I (fX11_refuse o (3 : Int32) σ44) (fun x54 σ52 => b_z x54 σ52)) else (a_cl σ44 q23 0 60 a2 q24 0 60 a4 a5 (fun σ47 => c_I (fX11_agree o σ47) (fun x50 σ48 => b_z x50 σ48))))))) else (c_I (fX11_refuse o (8 : Int32) σ32) (fun x58 σ56 => b_z x58 σ56))))) else (c_I (fX11_refuse o (2 : Int32) σ32) (fun x62 σ60 => b_z x62 σ60)))) else (c_I (fX11_refuse o (2 : Int32) σ25) (fun x30 σ28 => b_z x30 σ28)))))) else (c_I (fX11_refuse o (1 : Int32) σ8) (fun x66 σ64 => b_z x66 σ64))))))))
set_option maxRecDepth 100000 in
set_option maxHeartbeats 4000000 in
theorem ctX11_pour (l : Launch) (E : EV) (o : Nat) (a1 : Int32) (a2 : Int32) (a3 : Int32) (a4 : Int32) (a5 : Int32) (ho : KD o = 11) (σ : Mm) {xr : Int32} {τ : Mm} (h : fX11_pour o a1 a2 a3 a4 a5 σ = some (xr, τ)) : Ct l E mX11_pour 1 [.ref (e_a E o 0), .int a1, .int a2, .int a3, .int a4, .int a5] σ (some (.int xr), τ) := by
  refine Ct.of (by decide +kernel) (Nat.le_of_ble_eq_true rfl) ?_
  show Jd l E mX11_pour 1 (some (.int xr), τ) σ 0 [(0, .ref (e_a E o 0)), (1, .int a1), (2, .int a2), (3, .int a3), (4, .int a4), (5, .int a5)] []
  unfold fX11_pour at h
  refine J_aload_n (pc := 0) 0 dX11_pour_0 rfl ?_
  refine J_iload_n (pc := 1) 1 dX11_pour_1 rfl ?_
  obtain ⟨x3, σ1, hc2, h⟩ := cI_t h
  refine J_cVi (pc := 2) (ctX11_isTray l E o a1 ho σ hc2) dX11_pour_2 mlX11_107 mvX11_isTray ho rfl (by decide) rfl (Nat.le_of_ble_eq_true rfl) ?_
  refine J_if_eq (pc := 5) 30 dX11_pour_5 (by decide) h (fun h => ?_) (fun h => ?_)
  · refine J_aload_n (pc := 30) 0 dX11_pour_30 rfl ?_
    refine J_iconst (pc := 31) (1 : Int32) dX11_pour_31 (by decide) ?_
    obtain ⟨x6, σ4, hc5, h⟩ := cI_t h
    refine J_cVi (pc := 32) (ctX11_refuse l E o (1 : Int32) ho σ1 hc5) dX11_pour_32 mlX11_111 mvX11_refuse ho rfl (by decide) rfl (Nat.le_of_ble_eq_true rfl) ?_
    obtain ⟨hz7, h⟩ := bz_t h
    cases h
    exact J_iret (pc := 35) dX11_pour_35 rfl hz7
  · refine J_aload_n (pc := 8) 0 dX11_pour_8 rfl ?_
    refine J_iload_n (pc := 9) 3 dX11_pour_9 rfl ?_
    obtain ⟨x10, σ8, hc9, h⟩ := cI_t h
    refine J_cVi (pc := 10) (ctX11_isTray l E o a3 ho σ1 hc9) dX11_pour_10 mlX11_107 mvX11_isTray ho rfl (by decide) rfl (Nat.le_of_ble_eq_true rfl) ?_
    refine J_if_eq (pc := 13) 30 dX11_pour_13 (by decide) h (fun h => ?_) (fun h => ?_)
    · refine J_aload_n (pc := 30) 0 dX11_pour_30 rfl ?_
      refine J_iconst (pc := 31) (1 : Int32) dX11_pour_31 (by decide) ?_
      obtain ⟨x13, σ11, hc12, h⟩ := cI_t h
      refine J_cVi (pc := 32) (ctX11_refuse l E o (1 : Int32) ho σ8 hc12) dX11_pour_32 mlX11_111 mvX11_refuse ho rfl (by decide) rfl (Nat.le_of_ble_eq_true rfl) ?_
      obtain ⟨hz14, h⟩ := bz_t h
      cases h
      exact J_iret (pc := 35) dX11_pour_35 rfl hz14
    · refine J_iload_n (pc := 16) 2 dX11_pour_16 rfl ?_
      refine J_if_lt (pc := 17) 30 dX11_pour_17 (by decide) h (fun h => ?_) (fun h => ?_)
      · refine J_aload_n (pc := 30) 0 dX11_pour_30 rfl ?_
        refine J_iconst (pc := 31) (1 : Int32) dX11_pour_31 (by decide) ?_
        obtain ⟨x17, σ15, hc16, h⟩ := cI_t h
        refine J_cVi (pc := 32) (ctX11_refuse l E o (1 : Int32) ho σ8 hc16) dX11_pour_32 mlX11_111 mvX11_refuse ho rfl (by decide) rfl (Nat.le_of_ble_eq_true rfl) ?_
        obtain ⟨hz18, h⟩ := bz_t h
        cases h
        exact J_iret (pc := 35) dX11_pour_35 rfl hz18
      · refine J_iload (pc := 20) 4 dX11_pour_20 rfl ?_
        refine J_if_lt (pc := 22) 30 dX11_pour_22 (by decide) h (fun h => ?_) (fun h => ?_)
        · refine J_aload_n (pc := 30) 0 dX11_pour_30 rfl ?_
          refine J_iconst (pc := 31) (1 : Int32) dX11_pour_31 (by decide) ?_
          obtain ⟨x21, σ19, hc20, h⟩ := cI_t h
          refine J_cVi (pc := 32) (ctX11_refuse l E o (1 : Int32) ho σ8 hc20) dX11_pour_32 mlX11_111 mvX11_refuse ho rfl (by decide) rfl (Nat.le_of_ble_eq_true rfl) ?_
          obtain ⟨hz22, h⟩ := bz_t h
          cases h
          exact J_iret (pc := 35) dX11_pour_35 rfl hz22
        · refine J_iload (pc := 25) 5 dX11_pour_25 rfl ?_
          refine J_if_ge (pc := 27) 36 dX11_pour_27 (by decide) h (fun h => ?_) (fun h => ?_)
          · refine J_aload_n (pc := 36) 0 dX11_pour_36 rfl ?_
            refine J_getA (pc := 37) dX11_pour_37 ho flX11_15 rfl ?_
            refine J_iload_n (pc := 40) 1 dX11_pour_40 rfl ?_
            refine J_aaldK (pc := 41) (t := 0) dX11_pour_41 ho ha11_0 rfl (fun _ q => kr0 q) h (fun q23 hq23 h => ?_)
            refine J_astore (pc := 42) (L' := [(6, .ref (e_a E q23 0)), (0, .ref (e_a E o 0)), (1, .int a1), (2, .int a2), (3, .int a3), (4, .int a4), (5, .int a5)]) dX11_pour_42 (by decide) rfl ?_
            refine J_aload_n (pc := 44) 1 dX11_pour_44 rfl ?_
            refine J_getA (pc := 45) dX11_pour_45 ho flX11_15 rfl ?_
            refine J_iload_n (pc := 48) 4 dX11_pour_48 rfl ?_
            refine J_aaldK (pc := 49) (t := 0) dX11_pour_49 ho ha11_0 rfl (fun _ q => kr0 q) h (fun q24 hq24 h => ?_)
            refine J_astore (pc := 50) (L' := [(7, .ref (e_a E q24 0)), (6, .ref (e_a E q23 0)), (0, .ref (e_a E o 0)), (1, .int a1), (2, .int a2), (3, .int a3), (4, .int a4), (5, .int a5)]) dX11_pour_50 (by decide) rfl ?_
            refine J_aload (pc := 52) 1 dX11_pour_52 rfl ?_
            obtain ⟨x27, σ25, hc26, h⟩ := cI_t h
            refine J_cVi (pc := 54) (ctX8_isMissing l E q23 hq23 σ8 hc26) dX11_pour_54 mlX11_138 mvX8_isMissing hq23 rfl (by decide) rfl (Nat.le_of_ble_eq_true rfl) ?_
            refine J_if_ne (pc := 57) 68 dX11_pour_57 (by decide) h (fun h => ?_) (fun h => ?_)
            · refine J_aload_n (pc := 68) 2 dX11_pour_68 rfl ?_
              refine J_iconst (pc := 69) (2 : Int32) dX11_pour_69 (by decide) ?_
              obtain ⟨x30, σ28, hc29, h⟩ := cI_t h
              refine J_cVi (pc := 70) (ctX11_refuse l E o (2 : Int32) ho σ25 hc29) dX11_pour_70 mlX11_111 mvX11_refuse ho rfl (by decide) rfl (Nat.le_of_ble_eq_true rfl) ?_
              obtain ⟨hz31, h⟩ := bz_t h
              cases h
              exact J_iret (pc := 73) dX11_pour_73 rfl hz31
            · refine J_aload (pc := 60) 0 dX11_pour_60 rfl ?_
              obtain ⟨x34, σ32, hc33, h⟩ := cI_t h
              refine J_cVi (pc := 62) (ctX8_isMissing l E q24 hq24 σ25 hc33) dX11_pour_62 mlX11_138 mvX8_isMissing hq24 rfl (by decide) rfl (Nat.le_of_ble_eq_true rfl) ?_
              refine J_if_eq (pc := 65) 74 dX11_pour_65 (by decide) h (fun h => ?_) (fun h => ?_)
              · refine J_aload (pc := 74) 1 dX11_pour_74 rfl ?_
                refine J_getI (pc := 76) dX11_pour_76 hq23 flX11_141 rfl h (fun x35 h => ?_)
                refine J_aload (pc := 79) 0 dX11_pour_79 rfl ?_
                refine J_getI (pc := 81) dX11_pour_81 hq24 flX11_141 rfl h (fun x36 h => ?_)
                refine J_icmp_eq (pc := 84) 94 dX11_pour_84 (by decide) h (fun h => ?_) (fun h => ?_)
                · refine J_aload (pc := 94) 1 dX11_pour_94 rfl ?_
                  refine J_iload_n (pc := 96) 4 dX11_pour_96 rfl ?_
                  refine J_iload (pc := 97) 7 dX11_pour_97 rfl ?_
                  obtain ⟨x39, σ37, hc38, h⟩ := cI_t h
                  refine J_cVi (pc := 99) (ctX8_hasFrom l E q23 a2 a5 hq23 σ32 hc38) dX11_pour_99 mlX11_144 mvX8_hasFrom hq23 rfl (by decide) rfl (Nat.le_of_ble_eq_true rfl) ?_
                  refine J_if_eq (pc := 102) 117 dX11_pour_102 (by decide) h (fun h => ?_) (fun h => ?_)
                  · refine J_aload_n (pc := 117) 2 dX11_pour_117 rfl ?_
                    refine J_iconst (pc := 118) (3 : Int32) dX11_pour_118 (by decide) ?_
                    obtain ⟨x42, σ40, hc41, h⟩ := cI_t h
                    refine J_cVi (pc := 119) (ctX11_refuse l E o (3 : Int32) ho σ37 hc41) dX11_pour_119 mlX11_111 mvX11_refuse ho rfl (by decide) rfl (Nat.le_of_ble_eq_true rfl) ?_
                    obtain ⟨hz43, h⟩ := bz_t h
                    cases h
                    exact J_iret (pc := 122) dX11_pour_122 rfl hz43
                  · refine J_aload (pc := 105) 0 dX11_pour_105 rfl ?_
                    refine J_iload (pc := 107) 6 dX11_pour_107 rfl ?_
                    refine J_iload (pc := 109) 7 dX11_pour_109 rfl ?_
                    obtain ⟨x46, σ44, hc45, h⟩ := cI_t h
                    refine J_cVi (pc := 111) (ctX8_hasFrom l E q24 a4 a5 hq24 σ37 hc45) dX11_pour_111 mlX11_144 mvX8_hasFrom hq24 rfl (by decide) rfl (Nat.le_of_ble_eq_true rfl) ?_
                    refine J_if_ne (pc := 114) 123 dX11_pour_114 (by decide) h (fun h => ?_) (fun h => ?_)
                    · refine J_aload (pc := 123) 1 dX11_pour_123 rfl ?_
                      refine J_getA (pc := 125) dX11_pour_125 hq23 flX11_134 rfl ?_
                      refine J_iload_n (pc := 128) 4 dX11_pour_128 rfl ?_
                      refine J_aload (pc := 129) 0 dX11_pour_129 rfl ?_
                      refine J_getA (pc := 131) dX11_pour_131 hq24 flX11_134 rfl ?_
                      refine J_iload (pc := 134) 6 dX11_pour_134 rfl ?_
                      refine J_iload (pc := 136) 7 dX11_pour_136 rfl ?_
                      refine J_cpL (pc := 138) dX11_pour_138 mcX11_148 hq23 ha8_0 hq24 ha8_0 (by decide) (Nat.le_of_ble_eq_true rfl) h (fun σ47 h => ?_)
                      refine J_aload_n (pc := 141) 2 dX11_pour_141 rfl ?_
                      obtain ⟨x50, σ48, hc49, h⟩ := cI_t h
                      refine J_cVi (pc := 142) (ctX11_agree l E o ho σ47 hc49) dX11_pour_142 mlX11_118 mvX11_agree ho rfl (by decide) rfl (Nat.le_of_ble_eq_true rfl) ?_
                      obtain ⟨hz51, h⟩ := bz_t h
                      cases h
                      exact J_iret (pc := 145) dX11_pour_145 rfl hz51
                    · refine J_aload_n (pc := 117) 2 dX11_pour_117 rfl ?_
                      refine J_iconst (pc := 118) (3 : Int32) dX11_pour_118 (by decide) ?_
                      obtain ⟨x54, σ52, hc53, h⟩ := cI_t h
                      refine J_cVi (pc := 119) (ctX11_refuse l E o (3 : Int32) ho σ44 hc53) dX11_pour_119 mlX11_111 mvX11_refuse ho rfl (by decide) rfl (Nat.le_of_ble_eq_true rfl) ?_
                      obtain ⟨hz55, h⟩ := bz_t h
                      cases h
                      exact J_iret (pc := 122) dX11_pour_122 rfl hz55
                · refine J_aload_n (pc := 87) 2 dX11_pour_87 rfl ?_
                  refine J_bipush (pc := 88) (8 : Int32) dX11_pour_88 (by decide) ?_
                  obtain ⟨x58, σ56, hc57, h⟩ := cI_t h
                  refine J_cVi (pc := 90) (ctX11_refuse l E o (8 : Int32) ho σ32 hc57) dX11_pour_90 mlX11_111 mvX11_refuse ho rfl (by decide) rfl (Nat.le_of_ble_eq_true rfl) ?_
                  obtain ⟨hz59, h⟩ := bz_t h
                  cases h
                  exact J_iret (pc := 93) dX11_pour_93 rfl hz59
              · refine J_aload_n (pc := 68) 2 dX11_pour_68 rfl ?_
                refine J_iconst (pc := 69) (2 : Int32) dX11_pour_69 (by decide) ?_
                obtain ⟨x62, σ60, hc61, h⟩ := cI_t h
                refine J_cVi (pc := 70) (ctX11_refuse l E o (2 : Int32) ho σ32 hc61) dX11_pour_70 mlX11_111 mvX11_refuse ho rfl (by decide) rfl (Nat.le_of_ble_eq_true rfl) ?_
                obtain ⟨hz63, h⟩ := bz_t h
                cases h
                exact J_iret (pc := 73) dX11_pour_73 rfl hz63
          · refine J_aload_n (pc := 30) 0 dX11_pour_30 rfl ?_
            refine J_iconst (pc := 31) (1 : Int32) dX11_pour_31 (by decide) ?_
            obtain ⟨x66, σ64, hc65, h⟩ := cI_t h
            refine J_cVi (pc := 32) (ctX11_refuse l E o (1 : Int32) ho σ8 hc65) dX11_pour_32 mlX11_111 mvX11_refuse ho rfl (by decide) rfl (Nat.le_of_ble_eq_true rfl) ?_
            obtain ⟨hz67, h⟩ := bz_t h
            cases h
            exact J_iret (pc := 35) dX11_pour_35 rfl hz67
def fX11_feed (o : Nat) (a1 : Int32) (a2 : Int32) (a3 : Int32) (a4 : Int32) (a5 : Int32) (σ : Mm) : Option (Int32 × Mm) := c_I (fX6_hasRoomFor (tg o 4) (20 : Int32) σ) (fun x3 σ1 => if x3 = 0 then (some ((-1 : Int32), σ1)) else (c_V (fX6_append (tg o 4) a1 σ1) (fun σ4 => c_V (fX6_append (tg o 4) a2 σ4) (fun σ6 => c_V (fX6_append (tg o 4) a3 σ6) (fun σ8 => c_V (fX6_append (tg o 4) a4 σ8) (fun σ10 => c_V (fX6_append (tg o 4) a5 σ10) (fun σ12 => r_sc σ12 (tg o 4) 1 (fun x14 => some (x14, σ12)))))))))
set_option maxRecDepth 100000 in
set_option maxHeartbeats 4000000 in
theorem ctX11_feed (l : Launch) (E : EV) (o : Nat) (a1 : Int32) (a2 : Int32) (a3 : Int32) (a4 : Int32) (a5 : Int32) (ho : KD o = 11) (σ : Mm) {xr : Int32} {τ : Mm} (h : fX11_feed o a1 a2 a3 a4 a5 σ = some (xr, τ)) : Ct l E mX11_feed 1 [.ref (e_a E o 0), .int a1, .int a2, .int a3, .int a4, .int a5] σ (some (.int xr), τ) := by
  refine Ct.of (by decide +kernel) (Nat.le_of_ble_eq_true rfl) ?_
  show Jd l E mX11_feed 1 (some (.int xr), τ) σ 0 [(0, .ref (e_a E o 0)), (1, .int a1), (2, .int a2), (3, .int a3), (4, .int a4), (5, .int a5)] []
  unfold fX11_feed at h
  refine J_aload_n (pc := 0) 0 dX11_feed_0 rfl ?_
  refine J_getT (pc := 1) dX11_feed_1 ho flX11_22 rfl ?_
  refine J_bipush (pc := 4) (20 : Int32) dX11_feed_4 (by decide) ?_
  obtain ⟨x3, σ1, hc2, h⟩ := cI_t h
  refine J_cVi (pc := 6) (ctX6_hasRoomFor l E (tg o 4) (20 : Int32) (tk11_4 ho) σ hc2) dX11_feed_6 mlX11_154 mvX6_hasRoomFor (tk11_4 ho) rfl (by decide) rfl (Nat.le_of_ble_eq_true rfl) ?_
  refine J_if_ne (pc := 9) 14 dX11_feed_9 (by decide) h (fun h => ?_) (fun h => ?_)
  · refine J_aload_n (pc := 14) 0 dX11_feed_14 rfl ?_
    refine J_getT (pc := 15) dX11_feed_15 ho flX11_22 rfl ?_
    refine J_iload_n (pc := 18) 1 dX11_feed_18 rfl ?_
    obtain ⟨σ4, hc5, h⟩ := cV_t h
    refine J_cVv (pc := 19) (ctX6_append l E (tg o 4) a1 (tk11_4 ho) σ1 hc5) dX11_feed_19 mlX11_157 mvX6_append (tk11_4 ho) rfl (by decide) rfl (Nat.le_of_ble_eq_true rfl) ?_
    refine J_aload_n (pc := 22) 0 dX11_feed_22 rfl ?_
    refine J_getT (pc := 23) dX11_feed_23 ho flX11_22 rfl ?_
    refine J_iload_n (pc := 26) 2 dX11_feed_26 rfl ?_
    obtain ⟨σ6, hc7, h⟩ := cV_t h
    refine J_cVv (pc := 27) (ctX6_append l E (tg o 4) a2 (tk11_4 ho) σ4 hc7) dX11_feed_27 mlX11_157 mvX6_append (tk11_4 ho) rfl (by decide) rfl (Nat.le_of_ble_eq_true rfl) ?_
    refine J_aload_n (pc := 30) 0 dX11_feed_30 rfl ?_
    refine J_getT (pc := 31) dX11_feed_31 ho flX11_22 rfl ?_
    refine J_iload_n (pc := 34) 3 dX11_feed_34 rfl ?_
    obtain ⟨σ8, hc9, h⟩ := cV_t h
    refine J_cVv (pc := 35) (ctX6_append l E (tg o 4) a3 (tk11_4 ho) σ6 hc9) dX11_feed_35 mlX11_157 mvX6_append (tk11_4 ho) rfl (by decide) rfl (Nat.le_of_ble_eq_true rfl) ?_
    refine J_aload_n (pc := 38) 0 dX11_feed_38 rfl ?_
    refine J_getT (pc := 39) dX11_feed_39 ho flX11_22 rfl ?_
    refine J_iload (pc := 42) 4 dX11_feed_42 rfl ?_
    obtain ⟨σ10, hc11, h⟩ := cV_t h
    refine J_cVv (pc := 44) (ctX6_append l E (tg o 4) a4 (tk11_4 ho) σ8 hc11) dX11_feed_44 mlX11_157 mvX6_append (tk11_4 ho) rfl (by decide) rfl (Nat.le_of_ble_eq_true rfl) ?_
    refine J_aload_n (pc := 47) 0 dX11_feed_47 rfl ?_
    refine J_getT (pc := 48) dX11_feed_48 ho flX11_22 rfl ?_
    refine J_iload (pc := 51) 5 dX11_feed_51 rfl ?_
    obtain ⟨σ12, hc13, h⟩ := cV_t h
    refine J_cVv (pc := 53) (ctX6_append l E (tg o 4) a5 (tk11_4 ho) σ10 hc13) dX11_feed_53 mlX11_157 mvX6_append (tk11_4 ho) rfl (by decide) rfl (Nat.le_of_ble_eq_true rfl) ?_
    refine J_aload_n (pc := 56) 0 dX11_feed_56 rfl ?_
    refine J_getT (pc := 57) dX11_feed_57 ho flX11_22 rfl ?_
    refine J_getI (pc := 60) dX11_feed_60 (tk11_4 ho) flX11_161 rfl h (fun x14 h => ?_)
    cases h
    exact J_iret (pc := 63) dX11_feed_63 rfl rfl
  · refine J_iconst (pc := 12) (-1 : Int32) dX11_feed_12 (by decide) ?_
    cases h
    exact J_iret (pc := 13) dX11_feed_13 rfl rfl
def fX11_closeText (o : Nat) (σ : Mm) : Option (Mm) := p_sc σ (tg o 4) 1 (0 : Int32) (fun σ1 => r_sc σ1 (tg o 4) 11 (fun x2 => p_sc σ1 o 7 x2 (fun σ3 => r_sc σ3 (tg o 4) 12 (fun x4 => p_sc σ3 o 8 x4 (fun σ5 => some σ5)))))
set_option maxRecDepth 100000 in
set_option maxHeartbeats 4000000 in
theorem ctX11_closeText (l : Launch) (E : EV) (o : Nat) (ho : KD o = 11) (σ : Mm) {τ : Mm} (h : fX11_closeText o σ = some τ) : Ct l E mX11_closeText 0 [.ref (e_a E o 0)] σ (none, τ) := by
  refine Ct.of (by decide +kernel) (Nat.le_of_ble_eq_true rfl) ?_
  show Jd l E mX11_closeText 0 (none, τ) σ 0 [(0, .ref (e_a E o 0))] []
  unfold fX11_closeText at h
  refine J_aload_n (pc := 0) 0 dX11_closeText_0 rfl ?_
  refine J_getT (pc := 1) dX11_closeText_1 ho flX11_22 rfl ?_
  refine J_iconst (pc := 4) (0 : Int32) dX11_closeText_4 (by decide) ?_
  refine J_putI (pc := 5) dX11_closeText_5 (tk11_4 ho) flX11_161 rfl h (fun σ1 h => ?_)
  refine J_aload_n (pc := 8) 0 dX11_closeText_8 rfl ?_
  refine J_aload_n (pc := 9) 0 dX11_closeText_9 rfl ?_
  refine J_getT (pc := 10) dX11_closeText_10 ho flX11_22 rfl ?_
  refine J_getI (pc := 13) dX11_closeText_13 (tk11_4 ho) flX11_439 rfl h (fun x2 h => ?_)
  refine J_putI (pc := 16) dX11_closeText_16 ho flX11_40 rfl h (fun σ3 h => ?_)
  refine J_aload_n (pc := 19) 0 dX11_closeText_19 rfl ?_
  refine J_aload_n (pc := 20) 0 dX11_closeText_20 rfl ?_
  refine J_getT (pc := 21) dX11_closeText_21 ho flX11_22 rfl ?_
  refine J_getI (pc := 24) dX11_closeText_24 (tk11_4 ho) flX11_442 rfl h (fun x4 h => ?_)
  refine J_putI (pc := 27) dX11_closeText_27 ho flX11_44 rfl h (fun σ5 h => ?_)
  cases h
  exact J_vret (pc := 30) dX11_closeText_30 rfl
def fX11_answer (o : Nat) (a1 : Int32) (σ : Mm) : Option (Int32 × Mm) := p_sc σ o 0 (0 : Int32) (fun σ1 => some (a1, σ1))
set_option maxRecDepth 100000 in
set_option maxHeartbeats 4000000 in
theorem ctX11_answer (l : Launch) (E : EV) (o : Nat) (a1 : Int32) (ho : KD o = 11) (σ : Mm) {xr : Int32} {τ : Mm} (h : fX11_answer o a1 σ = some (xr, τ)) : Ct l E mX11_answer 0 [.ref (e_a E o 0), .int a1] σ (some (.int xr), τ) := by
  refine Ct.of (by decide +kernel) (Nat.le_of_ble_eq_true rfl) ?_
  show Jd l E mX11_answer 0 (some (.int xr), τ) σ 0 [(0, .ref (e_a E o 0)), (1, .int a1)] []
  unfold fX11_answer at h
  refine J_aload_n (pc := 0) 0 dX11_answer_0 rfl ?_
  refine J_iconst (pc := 1) (0 : Int32) dX11_answer_1 (by decide) ?_
  refine J_putI (pc := 2) dX11_answer_2 ho flX11_101 rfl h (fun σ1 h => ?_)
  refine J_iload_n (pc := 5) 1 dX11_answer_5 rfl ?_
  cases h
  exact J_iret (pc := 6) dX11_answer_6 rfl rfl
def fX11_village (o : Nat) (a1 : Int32) (σ : Mm) : Option (Int32 × Mm) := if a1 < 0 then (c_I (fX11_none o (1 : Int32) σ) (fun x3 σ1 => some (x3, σ1))) else (r_sc σ (tg o 4) 1 (fun x4 => if a1 ≤ x4 then (c_V (fX6_open (tg o 4) a1 σ) (fun σ5 => r_rf σ5 o 10 2 (fun q7 => c_I (fX9_readAll (tg o 5) (tg o 4) q7 σ5) (fun x10 σ8 => c_V (fX11_closeText o σ8) (fun σ11 => if x10 = 0 then (c_I (fX11_none o (9 : Int32) σ11) (fun x28 σ26 => some (x28, σ26))) else (r_rf σ11 o 10 2 (fun q13 => r_rf σ11 (tg o 9) 0 2 (fun q14 => p_rf σ11 o 10 q14 (fun σ15 => p_rf σ15 (tg o 9) 0 q13 (fun σ16 => c_V (fX4_begin (tg (tg o 9) 1) q13 σ16) (fun σ17 => r_rf σ17 (tg o 9) 2 5 (fun q19 => c_V (fX5_clear q19 σ17) (fun σ20 => r_sc σ20 q13 1 (fun x22 => c_I (fX11_answer o x22 σ20) (fun x25 σ23 => some (x25, σ23)))))))))))))))) else (c_I (fX11_none o (1 : Int32) σ) (fun x31 σ29 => some (x31, σ29)))))
set_option maxRecDepth 100000 in
set_option maxHeartbeats 4000000 in
theorem ctX11_village (l : Launch) (E : EV) (o : Nat) (a1 : Int32) (ho : KD o = 11) (σ : Mm) {xr : Int32} {τ : Mm} (h : fX11_village o a1 σ = some (xr, τ)) : Ct l E mX11_village 7 [.ref (e_a E o 0), .int a1] σ (some (.int xr), τ) := by
  refine Ct.of (by decide +kernel) (Nat.le_of_ble_eq_true rfl) ?_
  show Jd l E mX11_village 7 (some (.int xr), τ) σ 0 [(0, .ref (e_a E o 0)), (1, .int a1)] []
  unfold fX11_village at h
  refine J_iload_n (pc := 0) 1 dX11_village_0 rfl ?_
  refine J_if_lt (pc := 1) 15 dX11_village_1 (by decide) h (fun h => ?_) (fun h => ?_)
  · refine J_aload_n (pc := 15) 0 dX11_village_15 rfl ?_
    refine J_iconst (pc := 16) (1 : Int32) dX11_village_16 (by decide) ?_
    obtain ⟨x3, σ1, hc2, h⟩ := cI_t h
    refine J_cVi (pc := 17) (ctX11_none l E o (1 : Int32) ho σ hc2) dX11_village_17 mlX11_130 mvX11_none ho rfl (by decide) rfl (Nat.le_of_ble_eq_true rfl) ?_
    cases h
    exact J_iret (pc := 20) dX11_village_20 rfl rfl
  · refine J_iload_n (pc := 4) 1 dX11_village_4 rfl ?_
    refine J_aload_n (pc := 5) 0 dX11_village_5 rfl ?_
    refine J_getT (pc := 6) dX11_village_6 ho flX11_22 rfl ?_
    refine J_getI (pc := 9) dX11_village_9 (tk11_4 ho) flX11_161 rfl h (fun x4 h => ?_)
    refine J_icmp_le (pc := 12) 21 dX11_village_12 (by decide) h (fun h => ?_) (fun h => ?_)
    · refine J_aload_n (pc := 21) 0 dX11_village_21 rfl ?_
      refine J_getT (pc := 22) dX11_village_22 ho flX11_22 rfl ?_
      refine J_iload_n (pc := 25) 1 dX11_village_25 rfl ?_
      obtain ⟨σ5, hc6, h⟩ := cV_t h
      refine J_cVv (pc := 26) (ctX6_open l E (tg o 4) a1 (tk11_4 ho) σ hc6) dX11_village_26 mlX11_164 mvX6_open (tk11_4 ho) rfl (by decide) rfl (Nat.le_of_ble_eq_true rfl) ?_
      refine J_aload_n (pc := 29) 0 dX11_village_29 rfl ?_
      refine J_getT (pc := 30) dX11_village_30 ho flX11_29 rfl ?_
      refine J_aload_n (pc := 33) 0 dX11_village_33 rfl ?_
      refine J_getT (pc := 34) dX11_village_34 ho flX11_22 rfl ?_
      refine J_aload_n (pc := 37) 0 dX11_village_37 rfl ?_
      refine J_getR (pc := 38) dX11_village_38 ho flX11_57 rfl h (fun q7 hq7 h => ?_)
      obtain ⟨x10, σ8, hc9, h⟩ := cI_t h
      refine J_cVi (pc := 41) (ctX9_readAll l E (tg o 5) (tg o 4) q7 (tk11_5 ho) (tk11_4 ho) hq7 σ5 hc9) dX11_village_41 mlX11_167 mvX9_readAll (tk11_5 ho) rfl (by decide) rfl (Nat.le_of_ble_eq_true rfl) ?_
      refine J_istore_n (pc := 44) (L' := [(2, .int x10), (0, .ref (e_a E o 0)), (1, .int a1)]) dX11_village_44 (by decide) rfl ?_
      refine J_aload_n (pc := 45) 1 dX11_village_45 rfl ?_
      obtain ⟨σ11, hc12, h⟩ := cV_t h
      refine J_cVv (pc := 46) (ctX11_closeText l E o ho σ8 hc12) dX11_village_46 mlX11_171 mvX11_closeText ho rfl (by decide) rfl (Nat.le_of_ble_eq_true rfl) ?_
      refine J_iload_n (pc := 49) 0 dX11_village_49 rfl ?_
      refine J_if_ne (pc := 50) 60 dX11_village_50 (by decide) h (fun h => ?_) (fun h => ?_)
      · refine J_aload_n (pc := 60) 1 dX11_village_60 rfl ?_
        refine J_getR (pc := 61) dX11_village_61 ho flX11_57 rfl h (fun q13 hq13 h => ?_)
        refine J_astore_n (pc := 64) (L' := [(3, .ref (e_a E q13 0)), (2, .int x10), (0, .ref (e_a E o 0)), (1, .int a1)]) dX11_village_64 (by decide) rfl ?_
        refine J_aload_n (pc := 65) 2 dX11_village_65 rfl ?_
        refine J_aload_n (pc := 66) 2 dX11_village_66 rfl ?_
        refine J_getT (pc := 67) dX11_village_67 ho flX11_50 rfl ?_
        refine J_getR (pc := 70) dX11_village_70 (tk11_9 ho) flX11_174 rfl h (fun q14 hq14 h => ?_)
        refine J_putR (pc := 73) dX11_village_73 ho flX11_57 rfl h (fun σ15 h => ?_)
        refine J_aload_n (pc := 76) 2 dX11_village_76 rfl ?_
        refine J_getT (pc := 77) dX11_village_77 ho flX11_50 rfl ?_
        refine J_aload_n (pc := 80) 0 dX11_village_80 rfl ?_
        refine J_putR (pc := 81) dX11_village_81 (tk11_9 ho) flX11_174 rfl h (fun σ16 h => ?_)
        refine J_aload_n (pc := 84) 2 dX11_village_84 rfl ?_
        refine J_getT (pc := 85) dX11_village_85 ho flX11_50 rfl ?_
        refine J_getT (pc := 88) dX11_village_88 (tk11_9 ho) flX11_177 rfl ?_
        refine J_aload_n (pc := 91) 0 dX11_village_91 rfl ?_
        obtain ⟨σ17, hc18, h⟩ := cV_t h
        refine J_cVv (pc := 92) (ctX4_begin l E (tg (tg o 9) 1) q13 (tk7_1 (tk11_9 ho)) hq13 σ16 hc18) dX11_village_92 mlX11_180 mvX4_begin (tk7_1 (tk11_9 ho)) rfl (by decide) rfl (Nat.le_of_ble_eq_true rfl) ?_
        refine J_aload_n (pc := 95) 2 dX11_village_95 rfl ?_
        refine J_getT (pc := 96) dX11_village_96 ho flX11_50 rfl ?_
        refine J_getR (pc := 99) dX11_village_99 (tk11_9 ho) flX11_184 rfl h (fun q19 hq19 h => ?_)
        obtain ⟨σ20, hc21, h⟩ := cV_t h
        refine J_cVv (pc := 102) (ctX5_clear l E q19 hq19 σ17 hc21) dX11_village_102 mlX11_187 mvX5_clear hq19 rfl (by decide) rfl (Nat.le_of_ble_eq_true rfl) ?_
        refine J_aload_n (pc := 105) 2 dX11_village_105 rfl ?_
        refine J_aload_n (pc := 106) 0 dX11_village_106 rfl ?_
        refine J_getI (pc := 107) dX11_village_107 hq13 flX11_190 rfl h (fun x22 h => ?_)
        obtain ⟨x25, σ23, hc24, h⟩ := cI_t h
        refine J_cVi (pc := 110) (ctX11_answer l E o x22 ho σ20 hc24) dX11_village_110 mlX11_193 mvX11_answer ho rfl (by decide) rfl (Nat.le_of_ble_eq_true rfl) ?_
        cases h
        exact J_iret (pc := 113) dX11_village_113 rfl rfl
      · refine J_aload_n (pc := 53) 1 dX11_village_53 rfl ?_
        refine J_bipush (pc := 54) (9 : Int32) dX11_village_54 (by decide) ?_
        obtain ⟨x28, σ26, hc27, h⟩ := cI_t h
        refine J_cVi (pc := 56) (ctX11_none l E o (9 : Int32) ho σ11 hc27) dX11_village_56 mlX11_130 mvX11_none ho rfl (by decide) rfl (Nat.le_of_ble_eq_true rfl) ?_
        cases h
        exact J_iret (pc := 59) dX11_village_59 rfl rfl
    · refine J_aload_n (pc := 15) 0 dX11_village_15 rfl ?_
      refine J_iconst (pc := 16) (1 : Int32) dX11_village_16 (by decide) ?_
      obtain ⟨x31, σ29, hc30, h⟩ := cI_t h
      refine J_cVi (pc := 17) (ctX11_none l E o (1 : Int32) ho σ hc30) dX11_village_17 mlX11_130 mvX11_none ho rfl (by decide) rfl (Nat.le_of_ble_eq_true rfl) ?_
      cases h
      exact J_iret (pc := 20) dX11_village_20 rfl rfl
def fX11_orders (o : Nat) (a1 : Int32) (σ : Mm) : Option (Int32 × Mm) := if a1 < 0 then (c_I (fX11_none o (1 : Int32) σ) (fun x3 σ1 => some (x3, σ1))) else (r_sc σ (tg o 4) 1 (fun x4 => if x4 < a1 then (c_I (fX11_none o (1 : Int32) σ) (fun x7 σ5 => some (x7, σ5))) else (if a1 ≤ (300 : Int32) then (c_V (fX6_open (tg o 4) a1 σ) (fun σ8 => r_rf σ8 (tg o 9) 0 2 (fun q10 => r_rf σ8 o 11 5 (fun q11 => c_I (fX1_readAll (tg o 6) (tg o 4) q10 q11 σ8) (fun x14 σ12 => c_V (fX11_closeText o σ12) (fun σ15 => if x14 = 0 then (c_I (fX11_none o (9 : Int32) σ15) (fun x27 σ25 => some (x27, σ25))) else (r_rf σ15 o 11 5 (fun q17 => r_rf σ15 (tg o 9) 2 5 (fun q18 => p_rf σ15 o 11 q18 (fun σ19 => p_rf σ19 (tg o 9) 2 q17 (fun σ20 => r_sc σ20 q17 1 (fun x21 => c_I (fX11_answer o x21 σ20) (fun x24 σ22 => some (x24, σ22)))))))))))))) else (c_I (fX11_none o (1 : Int32) σ) (fun x30 σ28 => some (x30, σ28))))))
set_option maxRecDepth 100000 in
set_option maxHeartbeats 4000000 in
theorem ctX11_orders (l : Launch) (E : EV) (o : Nat) (a1 : Int32) (ho : KD o = 11) (σ : Mm) {xr : Int32} {τ : Mm} (h : fX11_orders o a1 σ = some (xr, τ)) : Ct l E mX11_orders 7 [.ref (e_a E o 0), .int a1] σ (some (.int xr), τ) := by
  refine Ct.of (by decide +kernel) (Nat.le_of_ble_eq_true rfl) ?_
  show Jd l E mX11_orders 7 (some (.int xr), τ) σ 0 [(0, .ref (e_a E o 0)), (1, .int a1)] []
  unfold fX11_orders at h
  refine J_iload_n (pc := 0) 1 dX11_orders_0 rfl ?_
  refine J_if_lt (pc := 1) 22 dX11_orders_1 (by decide) h (fun h => ?_) (fun h => ?_)
  · refine J_aload_n (pc := 22) 0 dX11_orders_22 rfl ?_
    refine J_iconst (pc := 23) (1 : Int32) dX11_orders_23 (by decide) ?_
    obtain ⟨x3, σ1, hc2, h⟩ := cI_t h
    refine J_cVi (pc := 24) (ctX11_none l E o (1 : Int32) ho σ hc2) dX11_orders_24 mlX11_130 mvX11_none ho rfl (by decide) rfl (Nat.le_of_ble_eq_true rfl) ?_
    cases h
    exact J_iret (pc := 27) dX11_orders_27 rfl rfl
  · refine J_iload_n (pc := 4) 1 dX11_orders_4 rfl ?_
    refine J_aload_n (pc := 5) 0 dX11_orders_5 rfl ?_
    refine J_getT (pc := 6) dX11_orders_6 ho flX11_22 rfl ?_
    refine J_getI (pc := 9) dX11_orders_9 (tk11_4 ho) flX11_161 rfl h (fun x4 h => ?_)
    refine J_icmp_gt (pc := 12) 22 dX11_orders_12 (by decide) h (fun h => ?_) (fun h => ?_)
    · refine J_aload_n (pc := 22) 0 dX11_orders_22 rfl ?_
      refine J_iconst (pc := 23) (1 : Int32) dX11_orders_23 (by decide) ?_
      obtain ⟨x7, σ5, hc6, h⟩ := cI_t h
      refine J_cVi (pc := 24) (ctX11_none l E o (1 : Int32) ho σ hc6) dX11_orders_24 mlX11_130 mvX11_none ho rfl (by decide) rfl (Nat.le_of_ble_eq_true rfl) ?_
      cases h
      exact J_iret (pc := 27) dX11_orders_27 rfl rfl
    · refine J_iload_n (pc := 15) 1 dX11_orders_15 rfl ?_
      refine J_sipush (pc := 16) (300 : Int32) dX11_orders_16 (by decide) ?_
      refine J_icmp_le (pc := 19) 28 dX11_orders_19 (by decide) h (fun h => ?_) (fun h => ?_)
      · refine J_aload_n (pc := 28) 0 dX11_orders_28 rfl ?_
        refine J_getT (pc := 29) dX11_orders_29 ho flX11_22 rfl ?_
        refine J_iload_n (pc := 32) 1 dX11_orders_32 rfl ?_
        obtain ⟨σ8, hc9, h⟩ := cV_t h
        refine J_cVv (pc := 33) (ctX6_open l E (tg o 4) a1 (tk11_4 ho) σ hc9) dX11_orders_33 mlX11_164 mvX6_open (tk11_4 ho) rfl (by decide) rfl (Nat.le_of_ble_eq_true rfl) ?_
        refine J_aload_n (pc := 36) 0 dX11_orders_36 rfl ?_
        refine J_getT (pc := 37) dX11_orders_37 ho flX11_36 rfl ?_
        refine J_aload_n (pc := 40) 0 dX11_orders_40 rfl ?_
        refine J_getT (pc := 41) dX11_orders_41 ho flX11_22 rfl ?_
        refine J_aload_n (pc := 44) 0 dX11_orders_44 rfl ?_
        refine J_getT (pc := 45) dX11_orders_45 ho flX11_50 rfl ?_
        refine J_getR (pc := 48) dX11_orders_48 (tk11_9 ho) flX11_174 rfl h (fun q10 hq10 h => ?_)
        refine J_aload_n (pc := 51) 0 dX11_orders_51 rfl ?_
        refine J_getR (pc := 52) dX11_orders_52 ho flX11_64 rfl h (fun q11 hq11 h => ?_)
        obtain ⟨x14, σ12, hc13, h⟩ := cI_t h
        refine J_cVi (pc := 55) (ctX1_readAll l E (tg o 6) (tg o 4) q10 q11 (tk11_6 ho) (tk11_4 ho) hq10 hq11 σ8 hc13) dX11_orders_55 mlX11_196 mvX1_readAll (tk11_6 ho) rfl (by decide) rfl (Nat.le_of_ble_eq_true rfl) ?_
        refine J_istore_n (pc := 58) (L' := [(2, .int x14), (0, .ref (e_a E o 0)), (1, .int a1)]) dX11_orders_58 (by decide) rfl ?_
        refine J_aload_n (pc := 59) 1 dX11_orders_59 rfl ?_
        obtain ⟨σ15, hc16, h⟩ := cV_t h
        refine J_cVv (pc := 60) (ctX11_closeText l E o ho σ12 hc16) dX11_orders_60 mlX11_171 mvX11_closeText ho rfl (by decide) rfl (Nat.le_of_ble_eq_true rfl) ?_
        refine J_iload_n (pc := 63) 0 dX11_orders_63 rfl ?_
        refine J_if_ne (pc := 64) 74 dX11_orders_64 (by decide) h (fun h => ?_) (fun h => ?_)
        · refine J_aload_n (pc := 74) 1 dX11_orders_74 rfl ?_
          refine J_getR (pc := 75) dX11_orders_75 ho flX11_64 rfl h (fun q17 hq17 h => ?_)
          refine J_astore_n (pc := 78) (L' := [(3, .ref (e_a E q17 0)), (2, .int x14), (0, .ref (e_a E o 0)), (1, .int a1)]) dX11_orders_78 (by decide) rfl ?_
          refine J_aload_n (pc := 79) 2 dX11_orders_79 rfl ?_
          refine J_aload_n (pc := 80) 2 dX11_orders_80 rfl ?_
          refine J_getT (pc := 81) dX11_orders_81 ho flX11_50 rfl ?_
          refine J_getR (pc := 84) dX11_orders_84 (tk11_9 ho) flX11_184 rfl h (fun q18 hq18 h => ?_)
          refine J_putR (pc := 87) dX11_orders_87 ho flX11_64 rfl h (fun σ19 h => ?_)
          refine J_aload_n (pc := 90) 2 dX11_orders_90 rfl ?_
          refine J_getT (pc := 91) dX11_orders_91 ho flX11_50 rfl ?_
          refine J_aload_n (pc := 94) 0 dX11_orders_94 rfl ?_
          refine J_putR (pc := 95) dX11_orders_95 (tk11_9 ho) flX11_184 rfl h (fun σ20 h => ?_)
          refine J_aload_n (pc := 98) 2 dX11_orders_98 rfl ?_
          refine J_aload_n (pc := 99) 0 dX11_orders_99 rfl ?_
          refine J_getI (pc := 100) dX11_orders_100 hq17 flX11_199 rfl h (fun x21 h => ?_)
          obtain ⟨x24, σ22, hc23, h⟩ := cI_t h
          refine J_cVi (pc := 103) (ctX11_answer l E o x21 ho σ20 hc23) dX11_orders_103 mlX11_193 mvX11_answer ho rfl (by decide) rfl (Nat.le_of_ble_eq_true rfl) ?_
          cases h
          exact J_iret (pc := 106) dX11_orders_106 rfl rfl
        · refine J_aload_n (pc := 67) 1 dX11_orders_67 rfl ?_
          refine J_bipush (pc := 68) (9 : Int32) dX11_orders_68 (by decide) ?_
          obtain ⟨x27, σ25, hc26, h⟩ := cI_t h
          refine J_cVi (pc := 70) (ctX11_none l E o (9 : Int32) ho σ15 hc26) dX11_orders_70 mlX11_130 mvX11_none ho rfl (by decide) rfl (Nat.le_of_ble_eq_true rfl) ?_
          cases h
          exact J_iret (pc := 73) dX11_orders_73 rfl rfl
      · refine J_aload_n (pc := 22) 0 dX11_orders_22 rfl ?_
        refine J_iconst (pc := 23) (1 : Int32) dX11_orders_23 (by decide) ?_
        obtain ⟨x30, σ28, hc29, h⟩ := cI_t h
        refine J_cVi (pc := 24) (ctX11_none l E o (1 : Int32) ho σ hc29) dX11_orders_24 mlX11_130 mvX11_none ho rfl (by decide) rfl (Nat.le_of_ble_eq_true rfl) ?_
        cases h
        exact J_iret (pc := 27) dX11_orders_27 rfl rfl
def fX11_fault (o : Nat) (a1 : Int32) (σ : Mm) : Option (Int32 × Mm) := if a1 = 0 then (r_sc σ o 7 (fun x2 => some (x2, σ))) else (if a1 = (1 : Int32) then (r_sc σ o 8 (fun x1 => some (x1, σ))) else (some ((-1 : Int32), σ)))
set_option maxRecDepth 100000 in
set_option maxHeartbeats 4000000 in
theorem ctX11_fault (l : Launch) (E : EV) (o : Nat) (a1 : Int32) (ho : KD o = 11) (σ : Mm) {xr : Int32} {τ : Mm} (h : fX11_fault o a1 σ = some (xr, τ)) : Ct l E mX11_fault 0 [.ref (e_a E o 0), .int a1] σ (some (.int xr), τ) := by
  refine Ct.of (by decide +kernel) (Nat.le_of_ble_eq_true rfl) ?_
  show Jd l E mX11_fault 0 (some (.int xr), τ) σ 0 [(0, .ref (e_a E o 0)), (1, .int a1)] []
  unfold fX11_fault at h
  refine J_iload_n (pc := 0) 1 dX11_fault_0 rfl ?_
  refine J_if_ne (pc := 1) 9 dX11_fault_1 (by decide) h (fun h => ?_) (fun h => ?_)
  · refine J_iload_n (pc := 9) 1 dX11_fault_9 rfl ?_
    refine J_iconst (pc := 10) (1 : Int32) dX11_fault_10 (by decide) ?_
    refine J_icmp_ne (pc := 11) 21 dX11_fault_11 (by decide) h (fun h => ?_) (fun h => ?_)
    · refine J_iconst (pc := 21) (-1 : Int32) dX11_fault_21 (by decide) ?_
      cases h
      exact J_iret (pc := 22) dX11_fault_22 rfl rfl
    · refine J_aload_n (pc := 14) 0 dX11_fault_14 rfl ?_
      refine J_getI (pc := 15) dX11_fault_15 ho flX11_44 rfl h (fun x1 h => ?_)
      refine J_goto (pc := 18) 22 dX11_fault_18 (by decide) ?_
      cases h
      exact J_iret (pc := 22) dX11_fault_22 rfl rfl
  · refine J_aload_n (pc := 4) 0 dX11_fault_4 rfl ?_
    refine J_getI (pc := 5) dX11_fault_5 ho flX11_40 rfl h (fun x2 h => ?_)
    cases h
    exact J_iret (pc := 8) dX11_fault_8 rfl rfl
def fX11_told (o : Nat) (a1 : Int32) (σ : Mm) : Option (Int32 × Mm) := if a1 = (0 : Int32) then (r_rf σ (tg o 9) 0 2 (fun q2 => r_sc σ q2 0 (fun x3 => c_I (fX11_answer o x3 σ) (fun x6 σ4 => some (x6, σ4))))) else if a1 = (1 : Int32) then (r_rf σ (tg o 9) 0 2 (fun q8 => r_sc σ q8 1 (fun x9 => c_I (fX11_answer o x9 σ) (fun x12 σ10 => some (x12, σ10))))) else if a1 = (2 : Int32) then (r_rf σ (tg o 9) 0 2 (fun q14 => r_sc σ q14 2 (fun x15 => c_I (fX11_answer o x15 σ) (fun x18 σ16 => some (x18, σ16))))) else if a1 = (3 : Int32) then (r_sc σ (tg (tg o 9) 1) 8 (fun x20 => c_I (fX11_answer o x20 σ) (fun x23 σ21 => some (x23, σ21)))) else if a1 = (4 : Int32) then (r_sc σ (tg (tg o 9) 1) 6 (fun x25 => c_I (fX11_answer o x25 σ) (fun x28 σ26 => some (x28, σ26)))) else if a1 = (5 : Int32) then (r_sc σ (tg (tg o 9) 1) 7 (fun x30 => c_I (fX11_answer o x30 σ) (fun x33 σ31 => some (x33, σ31)))) else (c_I (fX11_none o (1 : Int32) σ) (fun x36 σ34 => some (x36, σ34)))
set_option maxRecDepth 100000 in
set_option maxHeartbeats 4000000 in
theorem ctX11_told (l : Launch) (E : EV) (o : Nat) (a1 : Int32) (ho : KD o = 11) (σ : Mm) {xr : Int32} {τ : Mm} (h : fX11_told o a1 σ = some (xr, τ)) : Ct l E mX11_told 1 [.ref (e_a E o 0), .int a1] σ (some (.int xr), τ) := by
  refine Ct.of (by decide +kernel) (Nat.le_of_ble_eq_true rfl) ?_
  show Jd l E mX11_told 1 (some (.int xr), τ) σ 0 [(0, .ref (e_a E o 0)), (1, .int a1)] []
  unfold fX11_told at h
  refine J_iload_n (pc := 0) 1 dX11_told_0 rfl ?_
  by_cases hs1 : a1 = (0 : Int32)
  · rw [if_pos hs1] at h
    refine J_tableIn (pc := 1) 40 dX11_told_1 (by rw [hs1]; decide) (by rw [hs1]; decide) (by rw [hs1]; rfl) (by decide) ?_
    refine J_aload_n (pc := 40) 0 dX11_told_40 rfl ?_
    refine J_aload_n (pc := 41) 0 dX11_told_41 rfl ?_
    refine J_getT (pc := 42) dX11_told_42 ho flX11_50 rfl ?_
    refine J_getR (pc := 45) dX11_told_45 (tk11_9 ho) flX11_174 rfl h (fun q2 hq2 h => ?_)
    refine J_getI (pc := 48) dX11_told_48 hq2 flX11_202 rfl h (fun x3 h => ?_)
    obtain ⟨x6, σ4, hc5, h⟩ := cI_t h
    refine J_cVi (pc := 51) (ctX11_answer l E o x3 ho σ hc5) dX11_told_51 mlX11_193 mvX11_answer ho rfl (by decide) rfl (Nat.le_of_ble_eq_true rfl) ?_
    cases h
    exact J_iret (pc := 54) dX11_told_54 rfl rfl
  rw [if_neg hs1] at h
  by_cases hs7 : a1 = (1 : Int32)
  · rw [if_pos hs7] at h
    refine J_tableIn (pc := 1) 55 dX11_told_1 (by rw [hs7]; decide) (by rw [hs7]; decide) (by rw [hs7]; rfl) (by decide) ?_
    refine J_aload_n (pc := 55) 0 dX11_told_55 rfl ?_
    refine J_aload_n (pc := 56) 0 dX11_told_56 rfl ?_
    refine J_getT (pc := 57) dX11_told_57 ho flX11_50 rfl ?_
    refine J_getR (pc := 60) dX11_told_60 (tk11_9 ho) flX11_174 rfl h (fun q8 hq8 h => ?_)
    refine J_getI (pc := 63) dX11_told_63 hq8 flX11_190 rfl h (fun x9 h => ?_)
    obtain ⟨x12, σ10, hc11, h⟩ := cI_t h
    refine J_cVi (pc := 66) (ctX11_answer l E o x9 ho σ hc11) dX11_told_66 mlX11_193 mvX11_answer ho rfl (by decide) rfl (Nat.le_of_ble_eq_true rfl) ?_
    cases h
    exact J_iret (pc := 69) dX11_told_69 rfl rfl
  rw [if_neg hs7] at h
  by_cases hs13 : a1 = (2 : Int32)
  · rw [if_pos hs13] at h
    refine J_tableIn (pc := 1) 70 dX11_told_1 (by rw [hs13]; decide) (by rw [hs13]; decide) (by rw [hs13]; rfl) (by decide) ?_
    refine J_aload_n (pc := 70) 0 dX11_told_70 rfl ?_
    refine J_aload_n (pc := 71) 0 dX11_told_71 rfl ?_
    refine J_getT (pc := 72) dX11_told_72 ho flX11_50 rfl ?_
    refine J_getR (pc := 75) dX11_told_75 (tk11_9 ho) flX11_174 rfl h (fun q14 hq14 h => ?_)
    refine J_getI (pc := 78) dX11_told_78 hq14 flX11_205 rfl h (fun x15 h => ?_)
    obtain ⟨x18, σ16, hc17, h⟩ := cI_t h
    refine J_cVi (pc := 81) (ctX11_answer l E o x15 ho σ hc17) dX11_told_81 mlX11_193 mvX11_answer ho rfl (by decide) rfl (Nat.le_of_ble_eq_true rfl) ?_
    cases h
    exact J_iret (pc := 84) dX11_told_84 rfl rfl
  rw [if_neg hs13] at h
  by_cases hs19 : a1 = (3 : Int32)
  · rw [if_pos hs19] at h
    refine J_tableIn (pc := 1) 85 dX11_told_1 (by rw [hs19]; decide) (by rw [hs19]; decide) (by rw [hs19]; rfl) (by decide) ?_
    refine J_aload_n (pc := 85) 0 dX11_told_85 rfl ?_
    refine J_aload_n (pc := 86) 0 dX11_told_86 rfl ?_
    refine J_getT (pc := 87) dX11_told_87 ho flX11_50 rfl ?_
    refine J_getT (pc := 90) dX11_told_90 (tk11_9 ho) flX11_177 rfl ?_
    refine J_getI (pc := 93) dX11_told_93 (tk7_1 (tk11_9 ho)) flX11_208 rfl h (fun x20 h => ?_)
    obtain ⟨x23, σ21, hc22, h⟩ := cI_t h
    refine J_cVi (pc := 96) (ctX11_answer l E o x20 ho σ hc22) dX11_told_96 mlX11_193 mvX11_answer ho rfl (by decide) rfl (Nat.le_of_ble_eq_true rfl) ?_
    cases h
    exact J_iret (pc := 99) dX11_told_99 rfl rfl
  rw [if_neg hs19] at h
  by_cases hs24 : a1 = (4 : Int32)
  · rw [if_pos hs24] at h
    refine J_tableIn (pc := 1) 100 dX11_told_1 (by rw [hs24]; decide) (by rw [hs24]; decide) (by rw [hs24]; rfl) (by decide) ?_
    refine J_aload_n (pc := 100) 0 dX11_told_100 rfl ?_
    refine J_aload_n (pc := 101) 0 dX11_told_101 rfl ?_
    refine J_getT (pc := 102) dX11_told_102 ho flX11_50 rfl ?_
    refine J_getT (pc := 105) dX11_told_105 (tk11_9 ho) flX11_177 rfl ?_
    refine J_getI (pc := 108) dX11_told_108 (tk7_1 (tk11_9 ho)) flX11_211 rfl h (fun x25 h => ?_)
    obtain ⟨x28, σ26, hc27, h⟩ := cI_t h
    refine J_cVi (pc := 111) (ctX11_answer l E o x25 ho σ hc27) dX11_told_111 mlX11_193 mvX11_answer ho rfl (by decide) rfl (Nat.le_of_ble_eq_true rfl) ?_
    cases h
    exact J_iret (pc := 114) dX11_told_114 rfl rfl
  rw [if_neg hs24] at h
  by_cases hs29 : a1 = (5 : Int32)
  · rw [if_pos hs29] at h
    refine J_tableIn (pc := 1) 115 dX11_told_1 (by rw [hs29]; decide) (by rw [hs29]; decide) (by rw [hs29]; rfl) (by decide) ?_
    refine J_aload_n (pc := 115) 0 dX11_told_115 rfl ?_
    refine J_aload_n (pc := 116) 0 dX11_told_116 rfl ?_
    refine J_getT (pc := 117) dX11_told_117 ho flX11_50 rfl ?_
    refine J_getT (pc := 120) dX11_told_120 (tk11_9 ho) flX11_177 rfl ?_
    refine J_getI (pc := 123) dX11_told_123 (tk7_1 (tk11_9 ho)) flX11_214 rfl h (fun x30 h => ?_)
    obtain ⟨x33, σ31, hc32, h⟩ := cI_t h
    refine J_cVi (pc := 126) (ctX11_answer l E o x30 ho σ hc32) dX11_told_126 mlX11_193 mvX11_answer ho rfl (by decide) rfl (Nat.le_of_ble_eq_true rfl) ?_
    cases h
    exact J_iret (pc := 129) dX11_told_129 rfl rfl
  rw [if_neg hs29] at h
  refine J_tableOut (pc := 1) 130 dX11_told_1 (by have := ne_i hs1 (k := 0) (by decide); have := ne_i hs7 (k := 1) (by decide); have := ne_i hs13 (k := 2) (by decide); have := ne_i hs19 (k := 3) (by decide); have := ne_i hs24 (k := 4) (by decide); have := ne_i hs29 (k := 5) (by decide); omega) (by decide) ?_
  refine J_aload_n (pc := 130) 0 dX11_told_130 rfl ?_
  refine J_iconst (pc := 131) (1 : Int32) dX11_told_131 (by decide) ?_
  obtain ⟨x36, σ34, hc35, h⟩ := cI_t h
  refine J_cVi (pc := 132) (ctX11_none l E o (1 : Int32) ho σ hc35) dX11_told_132 mlX11_130 mvX11_none ho rfl (by decide) rfl (Nat.le_of_ble_eq_true rfl) ?_
  cases h
  exact J_iret (pc := 135) dX11_told_135 rfl rfl
def fX11_isVane (o : Nat) (a1 : Int32) (σ : Mm) : Option (Int32 × Mm) := if a1 < 0 then (some ((0 : Int32), σ)) else (r_rf σ (tg o 9) 0 2 (fun q1 => r_sc σ q1 1 (fun x2 => if x2 ≤ a1 then (some ((0 : Int32), σ)) else (some ((1 : Int32), σ)))))
set_option maxRecDepth 100000 in
set_option maxHeartbeats 4000000 in
theorem ctX11_isVane (l : Launch) (E : EV) (o : Nat) (a1 : Int32) (ho : KD o = 11) (σ : Mm) {xr : Int32} {τ : Mm} (h : fX11_isVane o a1 σ = some (xr, τ)) : Ct l E mX11_isVane 0 [.ref (e_a E o 0), .int a1] σ (some (.int xr), τ) := by
  refine Ct.of (by decide +kernel) (Nat.le_of_ble_eq_true rfl) ?_
  show Jd l E mX11_isVane 0 (some (.int xr), τ) σ 0 [(0, .ref (e_a E o 0)), (1, .int a1)] []
  unfold fX11_isVane at h
  refine J_iload_n (pc := 0) 1 dX11_isVane_0 rfl ?_
  refine J_if_lt (pc := 1) 22 dX11_isVane_1 (by decide) h (fun h => ?_) (fun h => ?_)
  · refine J_iconst (pc := 22) (0 : Int32) dX11_isVane_22 (by decide) ?_
    cases h
    exact J_iret (pc := 23) dX11_isVane_23 rfl rfl
  · refine J_iload_n (pc := 4) 1 dX11_isVane_4 rfl ?_
    refine J_aload_n (pc := 5) 0 dX11_isVane_5 rfl ?_
    refine J_getT (pc := 6) dX11_isVane_6 ho flX11_50 rfl ?_
    refine J_getR (pc := 9) dX11_isVane_9 (tk11_9 ho) flX11_174 rfl h (fun q1 hq1 h => ?_)
    refine J_getI (pc := 12) dX11_isVane_12 hq1 flX11_190 rfl h (fun x2 h => ?_)
    refine J_icmp_ge (pc := 15) 22 dX11_isVane_15 (by decide) h (fun h => ?_) (fun h => ?_)
    · refine J_iconst (pc := 22) (0 : Int32) dX11_isVane_22 (by decide) ?_
      cases h
      exact J_iret (pc := 23) dX11_isVane_23 rfl rfl
    · refine J_iconst (pc := 18) (1 : Int32) dX11_isVane_18 (by decide) ?_
      refine J_goto (pc := 19) 23 dX11_isVane_19 (by decide) ?_
      cases h
      exact J_iret (pc := 23) dX11_isVane_23 rfl rfl
def fX11_vane (o : Nat) (a1 : Int32) (a2 : Int32) (σ : Mm) : Option (Int32 × Mm) := c_I (fX11_isVane o a1 σ) (fun x3 σ1 => if x3 = 0 then (c_I (fX11_none o (1 : Int32) σ1) (fun x42 σ40 => some (x42, σ40))) else (if a2 = (0 : Int32) then (r_rf σ1 (tg o 9) 0 2 (fun q5 => g_ar σ1 q5 3 8 a1 (fun x6 => c_I (fX11_answer o x6 σ1) (fun x9 σ7 => some (x9, σ7))))) else if a2 = (1 : Int32) then (r_rf σ1 (tg o 9) 0 2 (fun q11 => g_ar σ1 q11 4 8 a1 (fun x12 => c_I (fX11_answer o x12 σ1) (fun x15 σ13 => some (x15, σ13))))) else if a2 = (2 : Int32) then (r_rf σ1 (tg o 9) 0 2 (fun q17 => g_ar σ1 q17 5 8 a1 (fun x18 => c_I (fX11_answer o x18 σ1) (fun x21 σ19 => some (x21, σ19))))) else if a2 = (3 : Int32) then (g_ar σ1 (tg (tg o 9) 1) 2 8 a1 (fun x23 => c_I (fX11_answer o x23 σ1) (fun x26 σ24 => some (x26, σ24)))) else if a2 = (4 : Int32) then (g_ar σ1 (tg (tg o 9) 1) 3 8 a1 (fun x28 => c_I (fX11_answer o x28 σ1) (fun x31 σ29 => some (x31, σ29)))) else if a2 = (5 : Int32) then (g_ar σ1 (tg (tg o 9) 1) 4 8 a1 (fun x33 => c_I (fX11_answer o x33 σ1) (fun x36 σ34 => some (x36, σ34)))) else (c_I (fX11_none o (1 : Int32) σ1) (fun x39 σ37 => some (x39, σ37)))))
set_option maxRecDepth 100000 in
set_option maxHeartbeats 4000000 in
theorem ctX11_vane (l : Launch) (E : EV) (o : Nat) (a1 : Int32) (a2 : Int32) (ho : KD o = 11) (σ : Mm) {xr : Int32} {τ : Mm} (h : fX11_vane o a1 a2 σ = some (xr, τ)) : Ct l E mX11_vane 1 [.ref (e_a E o 0), .int a1, .int a2] σ (some (.int xr), τ) := by
  refine Ct.of (by decide +kernel) (Nat.le_of_ble_eq_true rfl) ?_
  show Jd l E mX11_vane 1 (some (.int xr), τ) σ 0 [(0, .ref (e_a E o 0)), (1, .int a1), (2, .int a2)] []
  unfold fX11_vane at h
  refine J_aload_n (pc := 0) 0 dX11_vane_0 rfl ?_
  refine J_iload_n (pc := 1) 1 dX11_vane_1 rfl ?_
  obtain ⟨x3, σ1, hc2, h⟩ := cI_t h
  refine J_cVi (pc := 2) (ctX11_isVane l E o a1 ho σ hc2) dX11_vane_2 mlX11_217 mvX11_isVane ho rfl (by decide) rfl (Nat.le_of_ble_eq_true rfl) ?_
  refine J_if_ne (pc := 5) 14 dX11_vane_5 (by decide) h (fun h => ?_) (fun h => ?_)
  · refine J_iload_n (pc := 14) 2 dX11_vane_14 rfl ?_
    by_cases hs4 : a2 = (0 : Int32)
    · rw [if_pos hs4] at h
      refine J_tableIn (pc := 15) 52 dX11_vane_15 (by rw [hs4]; decide) (by rw [hs4]; decide) (by rw [hs4]; rfl) (by decide) ?_
      refine J_aload_n (pc := 52) 0 dX11_vane_52 rfl ?_
      refine J_aload_n (pc := 53) 0 dX11_vane_53 rfl ?_
      refine J_getT (pc := 54) dX11_vane_54 ho flX11_50 rfl ?_
      refine J_getR (pc := 57) dX11_vane_57 (tk11_9 ho) flX11_174 rfl h (fun q5 hq5 h => ?_)
      refine J_getA (pc := 60) dX11_vane_60 hq5 flX11_220 rfl ?_
      refine J_iload_n (pc := 63) 1 dX11_vane_63 rfl ?_
      refine J_iald (pc := 64) dX11_vane_64 hq5 ha2_3 h (fun x6 h => ?_)
      obtain ⟨x9, σ7, hc8, h⟩ := cI_t h
      refine J_cVi (pc := 65) (ctX11_answer l E o x6 ho σ1 hc8) dX11_vane_65 mlX11_193 mvX11_answer ho rfl (by decide) rfl (Nat.le_of_ble_eq_true rfl) ?_
      cases h
      exact J_iret (pc := 68) dX11_vane_68 rfl rfl
    rw [if_neg hs4] at h
    by_cases hs10 : a2 = (1 : Int32)
    · rw [if_pos hs10] at h
      refine J_tableIn (pc := 15) 69 dX11_vane_15 (by rw [hs10]; decide) (by rw [hs10]; decide) (by rw [hs10]; rfl) (by decide) ?_
      refine J_aload_n (pc := 69) 0 dX11_vane_69 rfl ?_
      refine J_aload_n (pc := 70) 0 dX11_vane_70 rfl ?_
      refine J_getT (pc := 71) dX11_vane_71 ho flX11_50 rfl ?_
      refine J_getR (pc := 74) dX11_vane_74 (tk11_9 ho) flX11_174 rfl h (fun q11 hq11 h => ?_)
      refine J_getA (pc := 77) dX11_vane_77 hq11 flX11_224 rfl ?_
      refine J_iload_n (pc := 80) 1 dX11_vane_80 rfl ?_
      refine J_iald (pc := 81) dX11_vane_81 hq11 ha2_4 h (fun x12 h => ?_)
      obtain ⟨x15, σ13, hc14, h⟩ := cI_t h
      refine J_cVi (pc := 82) (ctX11_answer l E o x12 ho σ1 hc14) dX11_vane_82 mlX11_193 mvX11_answer ho rfl (by decide) rfl (Nat.le_of_ble_eq_true rfl) ?_
      cases h
      exact J_iret (pc := 85) dX11_vane_85 rfl rfl
    rw [if_neg hs10] at h
    by_cases hs16 : a2 = (2 : Int32)
    · rw [if_pos hs16] at h
      refine J_tableIn (pc := 15) 86 dX11_vane_15 (by rw [hs16]; decide) (by rw [hs16]; decide) (by rw [hs16]; rfl) (by decide) ?_
      refine J_aload_n (pc := 86) 0 dX11_vane_86 rfl ?_
      refine J_aload_n (pc := 87) 0 dX11_vane_87 rfl ?_
      refine J_getT (pc := 88) dX11_vane_88 ho flX11_50 rfl ?_
      refine J_getR (pc := 91) dX11_vane_91 (tk11_9 ho) flX11_174 rfl h (fun q17 hq17 h => ?_)
      refine J_getA (pc := 94) dX11_vane_94 hq17 flX11_227 rfl ?_
      refine J_iload_n (pc := 97) 1 dX11_vane_97 rfl ?_
      refine J_iald (pc := 98) dX11_vane_98 hq17 ha2_5 h (fun x18 h => ?_)
      obtain ⟨x21, σ19, hc20, h⟩ := cI_t h
      refine J_cVi (pc := 99) (ctX11_answer l E o x18 ho σ1 hc20) dX11_vane_99 mlX11_193 mvX11_answer ho rfl (by decide) rfl (Nat.le_of_ble_eq_true rfl) ?_
      cases h
      exact J_iret (pc := 102) dX11_vane_102 rfl rfl
    rw [if_neg hs16] at h
    by_cases hs22 : a2 = (3 : Int32)
    · rw [if_pos hs22] at h
      refine J_tableIn (pc := 15) 103 dX11_vane_15 (by rw [hs22]; decide) (by rw [hs22]; decide) (by rw [hs22]; rfl) (by decide) ?_
      refine J_aload_n (pc := 103) 0 dX11_vane_103 rfl ?_
      refine J_aload_n (pc := 104) 0 dX11_vane_104 rfl ?_
      refine J_getT (pc := 105) dX11_vane_105 ho flX11_50 rfl ?_
      refine J_getT (pc := 108) dX11_vane_108 (tk11_9 ho) flX11_177 rfl ?_
      refine J_getA (pc := 111) dX11_vane_111 (tk7_1 (tk11_9 ho)) flX11_230 rfl ?_
      refine J_iload_n (pc := 114) 1 dX11_vane_114 rfl ?_
      refine J_iald (pc := 115) dX11_vane_115 (tk7_1 (tk11_9 ho)) ha4_2 h (fun x23 h => ?_)
      obtain ⟨x26, σ24, hc25, h⟩ := cI_t h
      refine J_cVi (pc := 116) (ctX11_answer l E o x23 ho σ1 hc25) dX11_vane_116 mlX11_193 mvX11_answer ho rfl (by decide) rfl (Nat.le_of_ble_eq_true rfl) ?_
      cases h
      exact J_iret (pc := 119) dX11_vane_119 rfl rfl
    rw [if_neg hs22] at h
    by_cases hs27 : a2 = (4 : Int32)
    · rw [if_pos hs27] at h
      refine J_tableIn (pc := 15) 120 dX11_vane_15 (by rw [hs27]; decide) (by rw [hs27]; decide) (by rw [hs27]; rfl) (by decide) ?_
      refine J_aload_n (pc := 120) 0 dX11_vane_120 rfl ?_
      refine J_aload_n (pc := 121) 0 dX11_vane_121 rfl ?_
      refine J_getT (pc := 122) dX11_vane_122 ho flX11_50 rfl ?_
      refine J_getT (pc := 125) dX11_vane_125 (tk11_9 ho) flX11_177 rfl ?_
      refine J_getA (pc := 128) dX11_vane_128 (tk7_1 (tk11_9 ho)) flX11_233 rfl ?_
      refine J_iload_n (pc := 131) 1 dX11_vane_131 rfl ?_
      refine J_iald (pc := 132) dX11_vane_132 (tk7_1 (tk11_9 ho)) ha4_3 h (fun x28 h => ?_)
      obtain ⟨x31, σ29, hc30, h⟩ := cI_t h
      refine J_cVi (pc := 133) (ctX11_answer l E o x28 ho σ1 hc30) dX11_vane_133 mlX11_193 mvX11_answer ho rfl (by decide) rfl (Nat.le_of_ble_eq_true rfl) ?_
      cases h
      exact J_iret (pc := 136) dX11_vane_136 rfl rfl
    rw [if_neg hs27] at h
    by_cases hs32 : a2 = (5 : Int32)
    · rw [if_pos hs32] at h
      refine J_tableIn (pc := 15) 137 dX11_vane_15 (by rw [hs32]; decide) (by rw [hs32]; decide) (by rw [hs32]; rfl) (by decide) ?_
      refine J_aload_n (pc := 137) 0 dX11_vane_137 rfl ?_
      refine J_aload_n (pc := 138) 0 dX11_vane_138 rfl ?_
      refine J_getT (pc := 139) dX11_vane_139 ho flX11_50 rfl ?_
      refine J_getT (pc := 142) dX11_vane_142 (tk11_9 ho) flX11_177 rfl ?_
      refine J_getA (pc := 145) dX11_vane_145 (tk7_1 (tk11_9 ho)) flX11_236 rfl ?_
      refine J_iload_n (pc := 148) 1 dX11_vane_148 rfl ?_
      refine J_iald (pc := 149) dX11_vane_149 (tk7_1 (tk11_9 ho)) ha4_4 h (fun x33 h => ?_)
      obtain ⟨x36, σ34, hc35, h⟩ := cI_t h
      refine J_cVi (pc := 150) (ctX11_answer l E o x33 ho σ1 hc35) dX11_vane_150 mlX11_193 mvX11_answer ho rfl (by decide) rfl (Nat.le_of_ble_eq_true rfl) ?_
      cases h
      exact J_iret (pc := 153) dX11_vane_153 rfl rfl
    rw [if_neg hs32] at h
    refine J_tableOut (pc := 15) 154 dX11_vane_15 (by have := ne_i hs4 (k := 0) (by decide); have := ne_i hs10 (k := 1) (by decide); have := ne_i hs16 (k := 2) (by decide); have := ne_i hs22 (k := 3) (by decide); have := ne_i hs27 (k := 4) (by decide); have := ne_i hs32 (k := 5) (by decide); omega) (by decide) ?_
    refine J_aload_n (pc := 154) 0 dX11_vane_154 rfl ?_
    refine J_iconst (pc := 155) (1 : Int32) dX11_vane_155 (by decide) ?_
    obtain ⟨x39, σ37, hc38, h⟩ := cI_t h
    refine J_cVi (pc := 156) (ctX11_none l E o (1 : Int32) ho σ1 hc38) dX11_vane_156 mlX11_130 mvX11_none ho rfl (by decide) rfl (Nat.le_of_ble_eq_true rfl) ?_
    cases h
    exact J_iret (pc := 159) dX11_vane_159 rfl rfl
  · refine J_aload_n (pc := 8) 0 dX11_vane_8 rfl ?_
    refine J_iconst (pc := 9) (1 : Int32) dX11_vane_9 (by decide) ?_
    obtain ⟨x42, σ40, hc41, h⟩ := cI_t h
    refine J_cVi (pc := 10) (ctX11_none l E o (1 : Int32) ho σ1 hc41) dX11_vane_10 mlX11_130 mvX11_none ho rfl (by decide) rfl (Nat.le_of_ble_eq_true rfl) ?_
    cases h
    exact J_iret (pc := 13) dX11_vane_13 rfl rfl
def fX11_isShaft (o : Nat) (a1 : Int32) (σ : Mm) : Option (Int32 × Mm) := if a1 < 0 then (some ((0 : Int32), σ)) else (r_rf σ (tg o 9) 0 2 (fun q1 => r_sc σ q1 2 (fun x2 => if x2 ≤ a1 then (some ((0 : Int32), σ)) else (some ((1 : Int32), σ)))))
set_option maxRecDepth 100000 in
set_option maxHeartbeats 4000000 in
theorem ctX11_isShaft (l : Launch) (E : EV) (o : Nat) (a1 : Int32) (ho : KD o = 11) (σ : Mm) {xr : Int32} {τ : Mm} (h : fX11_isShaft o a1 σ = some (xr, τ)) : Ct l E mX11_isShaft 0 [.ref (e_a E o 0), .int a1] σ (some (.int xr), τ) := by
  refine Ct.of (by decide +kernel) (Nat.le_of_ble_eq_true rfl) ?_
  show Jd l E mX11_isShaft 0 (some (.int xr), τ) σ 0 [(0, .ref (e_a E o 0)), (1, .int a1)] []
  unfold fX11_isShaft at h
  refine J_iload_n (pc := 0) 1 dX11_isShaft_0 rfl ?_
  refine J_if_lt (pc := 1) 22 dX11_isShaft_1 (by decide) h (fun h => ?_) (fun h => ?_)
  · refine J_iconst (pc := 22) (0 : Int32) dX11_isShaft_22 (by decide) ?_
    cases h
    exact J_iret (pc := 23) dX11_isShaft_23 rfl rfl
  · refine J_iload_n (pc := 4) 1 dX11_isShaft_4 rfl ?_
    refine J_aload_n (pc := 5) 0 dX11_isShaft_5 rfl ?_
    refine J_getT (pc := 6) dX11_isShaft_6 ho flX11_50 rfl ?_
    refine J_getR (pc := 9) dX11_isShaft_9 (tk11_9 ho) flX11_174 rfl h (fun q1 hq1 h => ?_)
    refine J_getI (pc := 12) dX11_isShaft_12 hq1 flX11_205 rfl h (fun x2 h => ?_)
    refine J_icmp_ge (pc := 15) 22 dX11_isShaft_15 (by decide) h (fun h => ?_) (fun h => ?_)
    · refine J_iconst (pc := 22) (0 : Int32) dX11_isShaft_22 (by decide) ?_
      cases h
      exact J_iret (pc := 23) dX11_isShaft_23 rfl rfl
    · refine J_iconst (pc := 18) (1 : Int32) dX11_isShaft_18 (by decide) ?_
      refine J_goto (pc := 19) 23 dX11_isShaft_19 (by decide) ?_
      cases h
      exact J_iret (pc := 23) dX11_isShaft_23 rfl rfl
def fX11_shaft (o : Nat) (a1 : Int32) (a2 : Int32) (σ : Mm) : Option (Int32 × Mm) := c_I (fX11_isShaft o a1 σ) (fun x3 σ1 => if x3 = 0 then (c_I (fX11_none o (1 : Int32) σ1) (fun x41 σ39 => some (x41, σ39))) else (if a2 = (0 : Int32) then (r_rf σ1 (tg o 9) 0 2 (fun q5 => g_ar σ1 q5 7 10 a1 (fun x6 => c_I (fX11_answer o x6 σ1) (fun x9 σ7 => some (x9, σ7))))) else if a2 = (1 : Int32) then (r_rf σ1 (tg o 9) 0 2 (fun q11 => g_ar σ1 q11 8 10 a1 (fun x12 => c_I (fX11_answer o x12 σ1) (fun x15 σ13 => some (x15, σ13))))) else if a2 = (2 : Int32) then (r_rf σ1 (tg o 9) 0 2 (fun q17 => g_ar σ1 q17 9 10 a1 (fun x18 => if x18 = (1 : Int32) then (c_I (fX11_answer o (1 : Int32) σ1) (fun x24 σ22 => some (x24, σ22))) else (c_I (fX11_answer o (0 : Int32) σ1) (fun x21 σ19 => some (x21, σ19)))))) else if a2 = (3 : Int32) then (r_rf σ1 (tg o 9) 0 2 (fun q26 => g_ar σ1 q26 10 10 a1 (fun x27 => c_I (fX11_answer o x27 σ1) (fun x30 σ28 => some (x30, σ28))))) else if a2 = (4 : Int32) then (g_ar σ1 (tg (tg o 9) 1) 5 10 a1 (fun x32 => c_I (fX11_answer o x32 σ1) (fun x35 σ33 => some (x35, σ33)))) else (c_I (fX11_none o (1 : Int32) σ1) (fun x38 σ36 => some (x38, σ36)))))
set_option maxRecDepth 100000 in
set_option maxHeartbeats 4000000 in
theorem ctX11_shaft (l : Launch) (E : EV) (o : Nat) (a1 : Int32) (a2 : Int32) (ho : KD o = 11) (σ : Mm) {xr : Int32} {τ : Mm} (h : fX11_shaft o a1 a2 σ = some (xr, τ)) : Ct l E mX11_shaft 1 [.ref (e_a E o 0), .int a1, .int a2] σ (some (.int xr), τ) := by
  refine Ct.of (by decide +kernel) (Nat.le_of_ble_eq_true rfl) ?_
  show Jd l E mX11_shaft 1 (some (.int xr), τ) σ 0 [(0, .ref (e_a E o 0)), (1, .int a1), (2, .int a2)] []
  unfold fX11_shaft at h
  refine J_aload_n (pc := 0) 0 dX11_shaft_0 rfl ?_
  refine J_iload_n (pc := 1) 1 dX11_shaft_1 rfl ?_
  obtain ⟨x3, σ1, hc2, h⟩ := cI_t h
  refine J_cVi (pc := 2) (ctX11_isShaft l E o a1 ho σ hc2) dX11_shaft_2 mlX11_239 mvX11_isShaft ho rfl (by decide) rfl (Nat.le_of_ble_eq_true rfl) ?_
  refine J_if_ne (pc := 5) 14 dX11_shaft_5 (by decide) h (fun h => ?_) (fun h => ?_)
  · refine J_iload_n (pc := 14) 2 dX11_shaft_14 rfl ?_
    by_cases hs4 : a2 = (0 : Int32)
    · rw [if_pos hs4] at h
      refine J_tableIn (pc := 15) 48 dX11_shaft_15 (by rw [hs4]; decide) (by rw [hs4]; decide) (by rw [hs4]; rfl) (by decide) ?_
      refine J_aload_n (pc := 48) 0 dX11_shaft_48 rfl ?_
      refine J_aload_n (pc := 49) 0 dX11_shaft_49 rfl ?_
      refine J_getT (pc := 50) dX11_shaft_50 ho flX11_50 rfl ?_
      refine J_getR (pc := 53) dX11_shaft_53 (tk11_9 ho) flX11_174 rfl h (fun q5 hq5 h => ?_)
      refine J_getA (pc := 56) dX11_shaft_56 hq5 flX11_242 rfl ?_
      refine J_iload_n (pc := 59) 1 dX11_shaft_59 rfl ?_
      refine J_iald (pc := 60) dX11_shaft_60 hq5 ha2_7 h (fun x6 h => ?_)
      obtain ⟨x9, σ7, hc8, h⟩ := cI_t h
      refine J_cVi (pc := 61) (ctX11_answer l E o x6 ho σ1 hc8) dX11_shaft_61 mlX11_193 mvX11_answer ho rfl (by decide) rfl (Nat.le_of_ble_eq_true rfl) ?_
      cases h
      exact J_iret (pc := 64) dX11_shaft_64 rfl rfl
    rw [if_neg hs4] at h
    by_cases hs10 : a2 = (1 : Int32)
    · rw [if_pos hs10] at h
      refine J_tableIn (pc := 15) 65 dX11_shaft_15 (by rw [hs10]; decide) (by rw [hs10]; decide) (by rw [hs10]; rfl) (by decide) ?_
      refine J_aload_n (pc := 65) 0 dX11_shaft_65 rfl ?_
      refine J_aload_n (pc := 66) 0 dX11_shaft_66 rfl ?_
      refine J_getT (pc := 67) dX11_shaft_67 ho flX11_50 rfl ?_
      refine J_getR (pc := 70) dX11_shaft_70 (tk11_9 ho) flX11_174 rfl h (fun q11 hq11 h => ?_)
      refine J_getA (pc := 73) dX11_shaft_73 hq11 flX11_245 rfl ?_
      refine J_iload_n (pc := 76) 1 dX11_shaft_76 rfl ?_
      refine J_iald (pc := 77) dX11_shaft_77 hq11 ha2_8 h (fun x12 h => ?_)
      obtain ⟨x15, σ13, hc14, h⟩ := cI_t h
      refine J_cVi (pc := 78) (ctX11_answer l E o x12 ho σ1 hc14) dX11_shaft_78 mlX11_193 mvX11_answer ho rfl (by decide) rfl (Nat.le_of_ble_eq_true rfl) ?_
      cases h
      exact J_iret (pc := 81) dX11_shaft_81 rfl rfl
    rw [if_neg hs10] at h
    by_cases hs16 : a2 = (2 : Int32)
    · rw [if_pos hs16] at h
      refine J_tableIn (pc := 15) 82 dX11_shaft_15 (by rw [hs16]; decide) (by rw [hs16]; decide) (by rw [hs16]; rfl) (by decide) ?_
      refine J_aload_n (pc := 82) 0 dX11_shaft_82 rfl ?_
      refine J_aload_n (pc := 83) 0 dX11_shaft_83 rfl ?_
      refine J_getT (pc := 84) dX11_shaft_84 ho flX11_50 rfl ?_
      refine J_getR (pc := 87) dX11_shaft_87 (tk11_9 ho) flX11_174 rfl h (fun q17 hq17 h => ?_)
      refine J_getA (pc := 90) dX11_shaft_90 hq17 flX11_248 rfl ?_
      refine J_iload_n (pc := 93) 1 dX11_shaft_93 rfl ?_
      refine J_iald (pc := 94) dX11_shaft_94 hq17 ha2_9 h (fun x18 h => ?_)
      refine J_iconst (pc := 95) (1 : Int32) dX11_shaft_95 (by decide) ?_
      refine J_icmp_ne (pc := 96) 103 dX11_shaft_96 (by decide) h (fun h => ?_) (fun h => ?_)
      · refine J_iconst (pc := 103) (0 : Int32) dX11_shaft_103 (by decide) ?_
        obtain ⟨x21, σ19, hc20, h⟩ := cI_t h
        refine J_cVi (pc := 104) (ctX11_answer l E o (0 : Int32) ho σ1 hc20) dX11_shaft_104 mlX11_193 mvX11_answer ho rfl (by decide) rfl (Nat.le_of_ble_eq_true rfl) ?_
        cases h
        exact J_iret (pc := 107) dX11_shaft_107 rfl rfl
      · refine J_iconst (pc := 99) (1 : Int32) dX11_shaft_99 (by decide) ?_
        refine J_goto (pc := 100) 104 dX11_shaft_100 (by decide) ?_
        obtain ⟨x24, σ22, hc23, h⟩ := cI_t h
        refine J_cVi (pc := 104) (ctX11_answer l E o (1 : Int32) ho σ1 hc23) dX11_shaft_104 mlX11_193 mvX11_answer ho rfl (by decide) rfl (Nat.le_of_ble_eq_true rfl) ?_
        cases h
        exact J_iret (pc := 107) dX11_shaft_107 rfl rfl
    rw [if_neg hs16] at h
    by_cases hs25 : a2 = (3 : Int32)
    · rw [if_pos hs25] at h
      refine J_tableIn (pc := 15) 108 dX11_shaft_15 (by rw [hs25]; decide) (by rw [hs25]; decide) (by rw [hs25]; rfl) (by decide) ?_
      refine J_aload_n (pc := 108) 0 dX11_shaft_108 rfl ?_
      refine J_aload_n (pc := 109) 0 dX11_shaft_109 rfl ?_
      refine J_getT (pc := 110) dX11_shaft_110 ho flX11_50 rfl ?_
      refine J_getR (pc := 113) dX11_shaft_113 (tk11_9 ho) flX11_174 rfl h (fun q26 hq26 h => ?_)
      refine J_getA (pc := 116) dX11_shaft_116 hq26 flX11_251 rfl ?_
      refine J_iload_n (pc := 119) 1 dX11_shaft_119 rfl ?_
      refine J_iald (pc := 120) dX11_shaft_120 hq26 ha2_10 h (fun x27 h => ?_)
      obtain ⟨x30, σ28, hc29, h⟩ := cI_t h
      refine J_cVi (pc := 121) (ctX11_answer l E o x27 ho σ1 hc29) dX11_shaft_121 mlX11_193 mvX11_answer ho rfl (by decide) rfl (Nat.le_of_ble_eq_true rfl) ?_
      cases h
      exact J_iret (pc := 124) dX11_shaft_124 rfl rfl
    rw [if_neg hs25] at h
    by_cases hs31 : a2 = (4 : Int32)
    · rw [if_pos hs31] at h
      refine J_tableIn (pc := 15) 125 dX11_shaft_15 (by rw [hs31]; decide) (by rw [hs31]; decide) (by rw [hs31]; rfl) (by decide) ?_
      refine J_aload_n (pc := 125) 0 dX11_shaft_125 rfl ?_
      refine J_aload_n (pc := 126) 0 dX11_shaft_126 rfl ?_
      refine J_getT (pc := 127) dX11_shaft_127 ho flX11_50 rfl ?_
      refine J_getT (pc := 130) dX11_shaft_130 (tk11_9 ho) flX11_177 rfl ?_
      refine J_getA (pc := 133) dX11_shaft_133 (tk7_1 (tk11_9 ho)) flX11_254 rfl ?_
      refine J_iload_n (pc := 136) 1 dX11_shaft_136 rfl ?_
      refine J_iald (pc := 137) dX11_shaft_137 (tk7_1 (tk11_9 ho)) ha4_5 h (fun x32 h => ?_)
      obtain ⟨x35, σ33, hc34, h⟩ := cI_t h
      refine J_cVi (pc := 138) (ctX11_answer l E o x32 ho σ1 hc34) dX11_shaft_138 mlX11_193 mvX11_answer ho rfl (by decide) rfl (Nat.le_of_ble_eq_true rfl) ?_
      cases h
      exact J_iret (pc := 141) dX11_shaft_141 rfl rfl
    rw [if_neg hs31] at h
    refine J_tableOut (pc := 15) 142 dX11_shaft_15 (by have := ne_i hs4 (k := 0) (by decide); have := ne_i hs10 (k := 1) (by decide); have := ne_i hs16 (k := 2) (by decide); have := ne_i hs25 (k := 3) (by decide); have := ne_i hs31 (k := 4) (by decide); omega) (by decide) ?_
    refine J_aload_n (pc := 142) 0 dX11_shaft_142 rfl ?_
    refine J_iconst (pc := 143) (1 : Int32) dX11_shaft_143 (by decide) ?_
    obtain ⟨x38, σ36, hc37, h⟩ := cI_t h
    refine J_cVi (pc := 144) (ctX11_none l E o (1 : Int32) ho σ1 hc37) dX11_shaft_144 mlX11_130 mvX11_none ho rfl (by decide) rfl (Nat.le_of_ble_eq_true rfl) ?_
    cases h
    exact J_iret (pc := 147) dX11_shaft_147 rfl rfl
  · refine J_aload_n (pc := 8) 0 dX11_shaft_8 rfl ?_
    refine J_iconst (pc := 9) (1 : Int32) dX11_shaft_9 (by decide) ?_
    obtain ⟨x41, σ39, hc40, h⟩ := cI_t h
    refine J_cVi (pc := 10) (ctX11_none l E o (1 : Int32) ho σ1 hc40) dX11_shaft_10 mlX11_130 mvX11_none ho rfl (by decide) rfl (Nat.le_of_ble_eq_true rfl) ?_
    cases h
    exact J_iret (pc := 13) dX11_shaft_13 rfl rfl
