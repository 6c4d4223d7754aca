def fX6_takeShaft (o : Nat) (a1 : Nat) (σ : Mm) : Option (Int32 × Mm) := c_I (fX6_seesName o σ) (fun x3 σ1 => if x3 = 0 then (some ((0 : Int32), σ1)) else (r_lg σ1 o 8 (fun x4 => c_I (fX2_shaftNamed a1 x4 σ1) (fun x7 σ5 => c_I (fX6_takeThing o x7 σ5) (fun x10 σ8 => if x10 = 0 then (some ((0 : Int32), σ8)) else (some ((1 : Int32), σ8)))))))
set_option maxRecDepth 100000 in
set_option maxHeartbeats 4000000 in
theorem ctX6_takeShaft (l : Launch) (E : EV) (o : Nat) (a1 : Nat) (ho : KD o = 6) (ha1 : KD a1 = 2) (σ : Mm) {xr : Int32} {τ : Mm} (h : fX6_takeShaft o a1 σ = some (xr, τ)) : Ct l E mX6_takeShaft 3 [.ref (e_a E o 0), .ref (e_a E a1 0)] σ (some (.int xr), τ) := by
  refine Ct.of (by decide +kernel) (Nat.le_of_ble_eq_true rfl) ?_
  show Jd l E mX6_takeShaft 3 (some (.int xr), τ) σ 0 [(0, .ref (e_a E o 0)), (1, .ref (e_a E a1 0))] []
  unfold fX6_takeShaft at h
  refine J_aload_n (pc := 0) 0 dX6_takeShaft_0 rfl ?_
  obtain ⟨x3, σ1, hc2, h⟩ := cI_t h
  refine J_cVi (pc := 1) (ctX6_seesName l E o ho σ hc2) dX6_takeShaft_1 mlX6_87 mvX6_seesName ho rfl (by decide) rfl (Nat.le_of_ble_eq_true rfl) ?_
  refine J_if_eq (pc := 4) 26 dX6_takeShaft_4 (by decide) h (fun h => ?_) (fun h => ?_)
  · refine J_iconst (pc := 26) (0 : Int32) dX6_takeShaft_26 (by decide) ?_
    cases h
    exact J_iret (pc := 27) dX6_takeShaft_27 rfl rfl
  · refine J_aload_n (pc := 7) 0 dX6_takeShaft_7 rfl ?_
    refine J_aload_n (pc := 8) 1 dX6_takeShaft_8 rfl ?_
    refine J_aload_n (pc := 9) 0 dX6_takeShaft_9 rfl ?_
    refine J_getL (pc := 10) dX6_takeShaft_10 ho flX6_62 rfl h (fun x4 h => ?_)
    obtain ⟨x7, σ5, hc6, h⟩ := cI_t h
    refine J_cVi (pc := 13) (ctX2_shaftNamed l E a1 x4 ha1 σ1 hc6) dX6_takeShaft_13 mlX6_106 mvX2_shaftNamed ha1 rfl (by decide) rfl (Nat.le_of_ble_eq_true rfl) ?_
    obtain ⟨x10, σ8, hc9, h⟩ := cI_t h
    refine J_cVi (pc := 16) (ctX6_takeThing l E o x7 ho σ5 hc9) dX6_takeShaft_16 mlX6_100 mvX6_takeThing ho rfl (by decide) rfl (Nat.le_of_ble_eq_true rfl) ?_
    refine J_if_eq (pc := 19) 26 dX6_takeShaft_19 (by decide) h (fun h => ?_) (fun h => ?_)
    · refine J_iconst (pc := 26) (0 : Int32) dX6_takeShaft_26 (by decide) ?_
      cases h
      exact J_iret (pc := 27) dX6_takeShaft_27 rfl rfl
    · refine J_iconst (pc := 22) (1 : Int32) dX6_takeShaft_22 (by decide) ?_
      refine J_goto (pc := 23) 27 dX6_takeShaft_23 (by decide) ?_
      cases h
      exact J_iret (pc := 27) dX6_takeShaft_27 rfl rfl
def fX1_readNumbers (o : Nat) (a1 : Int32) (a2 : Int32) (σ : Mm) : Option (Int32 × Mm) := if a1 = (10 : Int32) then (r_rf σ o 0 6 (fun q2 => r_rf σ o 1 2 (fun q3 => c_I (fX6_takePlace q2 q3 σ) (fun x6 σ4 => if x6 = 0 then (some ((0 : Int32), σ4)) else (c_I (fX1_keepWhat o a2 σ4) (fun x9 σ7 => if x9 = 0 then (some ((0 : Int32), σ7)) else (r_rf σ7 o 0 6 (fun q10 => c_I (fX6_takeNumber q10 (0 : Int32) (15 : Int32) σ7) (fun x13 σ11 => if x13 = 0 then (some ((0 : Int32), σ11)) else (c_I (fX1_keepHow o a2 σ11) (fun x16 σ14 => if x16 = 0 then (some ((0 : Int32), σ14)) else (r_rf σ14 o 0 6 (fun q17 => c_I (fX6_takeNumber q17 (0 : Int32) (99 : Int32) σ14) (fun x20 σ18 => if x20 = 0 then (some ((0 : Int32), σ18)) else (c_I (fX1_keepMuch o a2 σ18) (fun x23 σ21 => if x23 = 0 then (some ((0 : Int32), σ21)) else (some ((1 : Int32), σ21)))))))))))))))))) else if a1 = (11 : Int32) then (r_rf σ o 0 6 (fun q25 => c_I (fX6_takeNumber q25 (1 : Int32) (99 : Int32) σ) (fun x28 σ26 => if x28 = 0 then (some ((0 : Int32), σ26)) else (c_I (fX1_keepMuch o a2 σ26) (fun x31 σ29 => if x31 = 0 then (some ((0 : Int32), σ29)) else (some ((1 : Int32), σ29))))))) else if a1 = (12 : Int32) then (r_rf σ o 0 6 (fun q33 => r_rf σ o 1 2 (fun q34 => c_I (fX6_takeShaft q33 q34 σ) (fun x37 σ35 => if x37 = 0 then (some ((0 : Int32), σ35)) else (c_I (fX1_keepWhat o a2 σ35) (fun x40 σ38 => if x40 = 0 then (some ((0 : Int32), σ38)) else (some ((1 : Int32), σ38)))))))) else if a1 = (13 : Int32) then (r_rf σ o 0 6 (fun q42 => r_rf σ o 1 2 (fun q43 => c_I (fX6_takeShaft q42 q43 σ) (fun x46 σ44 => if x46 = 0 then (some ((0 : Int32), σ44)) else (c_I (fX1_keepWhat o a2 σ44) (fun x49 σ47 => if x49 = 0 then (some ((0 : Int32), σ47)) else (some ((1 : Int32), σ47)))))))) else if a1 = (14 : Int32) then (r_rf σ o 0 6 (fun q51 => r_rf σ o 1 2 (fun q52 => c_I (fX6_takeVane q51 q52 σ) (fun x55 σ53 => if x55 = 0 then (some ((0 : Int32), σ53)) else (c_I (fX1_keepWhat o a2 σ53) (fun x58 σ56 => if x58 = 0 then (some ((0 : Int32), σ56)) else (some ((1 : Int32), σ56)))))))) else if a1 = (15 : Int32) then (r_rf σ o 0 6 (fun q60 => r_rf σ o 1 2 (fun q61 => c_I (fX6_takeVane q60 q61 σ) (fun x64 σ62 => if x64 = 0 then (some ((0 : Int32), σ62)) else (c_I (fX1_keepWhat o a2 σ62) (fun x67 σ65 => if x67 = 0 then (some ((0 : Int32), σ65)) else (some ((1 : Int32), σ65)))))))) else if a1 = (16 : Int32) then (r_rf σ o 0 6 (fun q69 => r_rf σ o 1 2 (fun q70 => c_I (fX6_takeVane q69 q70 σ) (fun x73 σ71 => if x73 = 0 then (some ((0 : Int32), σ71)) else (c_I (fX1_keepWhat o a2 σ71) (fun x76 σ74 => if x76 = 0 then (some ((0 : Int32), σ74)) else (r_rf σ74 o 0 6 (fun q77 => c_I (fX6_takeNumber q77 (1 : Int32) (99 : Int32) σ74) (fun x80 σ78 => if x80 = 0 then (some ((0 : Int32), σ78)) else (c_I (fX1_keepMuch o a2 σ78) (fun x83 σ81 => if x83 = 0 then (some ((0 : Int32), σ81)) else (some ((1 : Int32), σ81))))))))))))) else if a1 = (17 : Int32) then (r_rf σ o 0 6 (fun q85 => c_I (fX6_takeNumber q85 (0 : Int32) (99 : Int32) σ) (fun x88 σ86 => if x88 = 0 then (some ((0 : Int32), σ86)) else (c_I (fX1_keepMuch o a2 σ86) (fun x91 σ89 => if x91 = 0 then (some ((0 : Int32), σ89)) else (some ((1 : Int32), σ89))))))) else if a1 = (20 : Int32) then (r_rf σ o 0 6 (fun q93 => c_I (fX6_takeNumber q93 (1 : Int32) (99 : Int32) σ) (fun x96 σ94 => if x96 = 0 then (some ((0 : Int32), σ94)) else (c_I (fX1_keepMuch o a2 σ94) (fun x99 σ97 => if x99 = 0 then (some ((0 : Int32), σ97)) else (some ((1 : Int32), σ97))))))) else (some ((1 : Int32), σ))
set_option maxRecDepth 100000 in
set_option maxHeartbeats 4000000 in
theorem ctX1_readNumbers (l : Launch) (E : EV) (o : Nat) (a1 : Int32) (a2 : Int32) (ho : KD o = 1) (σ : Mm) {xr : Int32} {τ : Mm} (h : fX1_readNumbers o a1 a2 σ = some (xr, τ)) : Ct l E mX1_readNumbers 4 [.ref (e_a E o 0), .int a1, .int a2] σ (some (.int xr), τ) := by
  refine Ct.of (by decide +kernel) (Nat.le_of_ble_eq_true rfl) ?_
  show Jd l E mX1_readNumbers 4 (some (.int xr), τ) σ 0 [(0, .ref (e_a E o 0)), (1, .int a1), (2, .int a2)] []
  unfold fX1_readNumbers at h
  refine J_iload_n (pc := 0) 1 dX1_readNumbers_0 rfl ?_
  by_cases hs1 : a1 = (10 : Int32)
  · rw [if_pos hs1] at h
    refine J_tableIn (pc := 1) 60 dX1_readNumbers_1 (by rw [hs1]; decide) (by rw [hs1]; decide) (by rw [hs1]; rfl) (by decide) ?_
    refine J_aload_n (pc := 60) 0 dX1_readNumbers_60 rfl ?_
    refine J_getR (pc := 61) dX1_readNumbers_61 ho flX1_15 rfl h (fun q2 hq2 h => ?_)
    refine J_aload_n (pc := 64) 0 dX1_readNumbers_64 rfl ?_
    refine J_getR (pc := 65) dX1_readNumbers_65 ho flX1_19 rfl h (fun q3 hq3 h => ?_)
    obtain ⟨x6, σ4, hc5, h⟩ := cI_t h
    refine J_cVi (pc := 68) (ctX6_takePlace l E q2 q3 hq2 hq3 σ hc5) dX1_readNumbers_68 mlX1_93 mvX6_takePlace hq2 rfl (by decide) rfl (Nat.le_of_ble_eq_true rfl) ?_
    refine J_if_eq (pc := 71) 128 dX1_readNumbers_71 (by decide) h (fun h => ?_) (fun h => ?_)
    · refine J_iconst (pc := 128) (0 : Int32) dX1_readNumbers_128 (by decide) ?_
      cases h
      exact J_iret (pc := 129) dX1_readNumbers_129 rfl rfl
    · refine J_aload_n (pc := 74) 0 dX1_readNumbers_74 rfl ?_
      refine J_iload_n (pc := 75) 2 dX1_readNumbers_75 rfl ?_
      obtain ⟨x9, σ7, hc8, h⟩ := cI_t h
      refine J_cVi (pc := 76) (ctX1_keepWhat l E o a2 ho σ4 hc8) dX1_readNumbers_76 mlX1_97 mvX1_keepWhat ho rfl (by decide) rfl (Nat.le_of_ble_eq_true rfl) ?_
      refine J_if_eq (pc := 79) 128 dX1_readNumbers_79 (by decide) h (fun h => ?_) (fun h => ?_)
      · refine J_iconst (pc := 128) (0 : Int32) dX1_readNumbers_128 (by decide) ?_
        cases h
        exact J_iret (pc := 129) dX1_readNumbers_129 rfl rfl
      · refine J_aload_n (pc := 82) 0 dX1_readNumbers_82 rfl ?_
        refine J_getR (pc := 83) dX1_readNumbers_83 ho flX1_15 rfl h (fun q10 hq10 h => ?_)
        refine J_iconst (pc := 86) (0 : Int32) dX1_readNumbers_86 (by decide) ?_
        refine J_bipush (pc := 87) (15 : Int32) dX1_readNumbers_87 (by decide) ?_
        obtain ⟨x13, σ11, hc12, h⟩ := cI_t h
        refine J_cVi (pc := 89) (ctX6_takeNumber l E q10 (0 : Int32) (15 : Int32) hq10 σ7 hc12) dX1_readNumbers_89 mlX1_100 mvX6_takeNumber hq10 rfl (by decide) rfl (Nat.le_of_ble_eq_true rfl) ?_
        refine J_if_eq (pc := 92) 128 dX1_readNumbers_92 (by decide) h (fun h => ?_) (fun h => ?_)
        · refine J_iconst (pc := 128) (0 : Int32) dX1_readNumbers_128 (by decide) ?_
          cases h
          exact J_iret (pc := 129) dX1_readNumbers_129 rfl rfl
        · refine J_aload_n (pc := 95) 0 dX1_readNumbers_95 rfl ?_
          refine J_iload_n (pc := 96) 2 dX1_readNumbers_96 rfl ?_
          obtain ⟨x16, σ14, hc15, h⟩ := cI_t h
          refine J_cVi (pc := 97) (ctX1_keepHow l E o a2 ho σ11 hc15) dX1_readNumbers_97 mlX1_103 mvX1_keepHow ho rfl (by decide) rfl (Nat.le_of_ble_eq_true rfl) ?_
          refine J_if_eq (pc := 100) 128 dX1_readNumbers_100 (by decide) h (fun h => ?_) (fun h => ?_)
          · refine J_iconst (pc := 128) (0 : Int32) dX1_readNumbers_128 (by decide) ?_
            cases h
            exact J_iret (pc := 129) dX1_readNumbers_129 rfl rfl
          · refine J_aload_n (pc := 103) 0 dX1_readNumbers_103 rfl ?_
            refine J_getR (pc := 104) dX1_readNumbers_104 ho flX1_15 rfl h (fun q17 hq17 h => ?_)
            refine J_iconst (pc := 107) (0 : Int32) dX1_readNumbers_107 (by decide) ?_
            refine J_bipush (pc := 108) (99 : Int32) dX1_readNumbers_108 (by decide) ?_
            obtain ⟨x20, σ18, hc19, h⟩ := cI_t h
            refine J_cVi (pc := 110) (ctX6_takeNumber l E q17 (0 : Int32) (99 : Int32) hq17 σ14 hc19) dX1_readNumbers_110 mlX1_100 mvX6_takeNumber hq17 rfl (by decide) rfl (Nat.le_of_ble_eq_true rfl) ?_
            refine J_if_eq (pc := 113) 128 dX1_readNumbers_113 (by decide) h (fun h => ?_) (fun h => ?_)
            · refine J_iconst (pc := 128) (0 : Int32) dX1_readNumbers_128 (by decide) ?_
              cases h
              exact J_iret (pc := 129) dX1_readNumbers_129 rfl rfl
            · refine J_aload_n (pc := 116) 0 dX1_readNumbers_116 rfl ?_
              refine J_iload_n (pc := 117) 2 dX1_readNumbers_117 rfl ?_
              obtain ⟨x23, σ21, hc22, h⟩ := cI_t h
              refine J_cVi (pc := 118) (ctX1_keepMuch l E o a2 ho σ18 hc22) dX1_readNumbers_118 mlX1_106 mvX1_keepMuch ho rfl (by decide) rfl (Nat.le_of_ble_eq_true rfl) ?_
              refine J_if_eq (pc := 121) 128 dX1_readNumbers_121 (by decide) h (fun h => ?_) (fun h => ?_)
              · refine J_iconst (pc := 128) (0 : Int32) dX1_readNumbers_128 (by decide) ?_
                cases h
                exact J_iret (pc := 129) dX1_readNumbers_129 rfl rfl
              · refine J_iconst (pc := 124) (1 : Int32) dX1_readNumbers_124 (by decide) ?_
                refine J_goto (pc := 125) 129 dX1_readNumbers_125 (by decide) ?_
                cases h
                exact J_iret (pc := 129) dX1_readNumbers_129 rfl rfl
  rw [if_neg hs1] at h
  by_cases hs24 : a1 = (11 : Int32)
  · rw [if_pos hs24] at h
    refine J_tableIn (pc := 1) 157 dX1_readNumbers_1 (by rw [hs24]; decide) (by rw [hs24]; decide) (by rw [hs24]; rfl) (by decide) ?_
    refine J_aload_n (pc := 157) 0 dX1_readNumbers_157 rfl ?_
    refine J_getR (pc := 158) dX1_readNumbers_158 ho flX1_15 rfl h (fun q25 hq25 h => ?_)
    refine J_iconst (pc := 161) (1 : Int32) dX1_readNumbers_161 (by decide) ?_
    refine J_bipush (pc := 162) (99 : Int32) dX1_readNumbers_162 (by decide) ?_
    obtain ⟨x28, σ26, hc27, h⟩ := cI_t h
    refine J_cVi (pc := 164) (ctX6_takeNumber l E q25 (1 : Int32) (99 : Int32) hq25 σ hc27) dX1_readNumbers_164 mlX1_100 mvX6_takeNumber hq25 rfl (by decide) rfl (Nat.le_of_ble_eq_true rfl) ?_
    refine J_if_eq (pc := 167) 182 dX1_readNumbers_167 (by decide) h (fun h => ?_) (fun h => ?_)
    · refine J_iconst (pc := 182) (0 : Int32) dX1_readNumbers_182 (by decide) ?_
      cases h
      exact J_iret (pc := 183) dX1_readNumbers_183 rfl rfl
    · refine J_aload_n (pc := 170) 0 dX1_readNumbers_170 rfl ?_
      refine J_iload_n (pc := 171) 2 dX1_readNumbers_171 rfl ?_
      obtain ⟨x31, σ29, hc30, h⟩ := cI_t h
      refine J_cVi (pc := 172) (ctX1_keepMuch l E o a2 ho σ26 hc30) dX1_readNumbers_172 mlX1_106 mvX1_keepMuch ho rfl (by decide) rfl (Nat.le_of_ble_eq_true rfl) ?_
      refine J_if_eq (pc := 175) 182 dX1_readNumbers_175 (by decide) h (fun h => ?_) (fun h => ?_)
      · refine J_iconst (pc := 182) (0 : Int32) dX1_readNumbers_182 (by decide) ?_
        cases h
        exact J_iret (pc := 183) dX1_readNumbers_183 rfl rfl
      · refine J_iconst (pc := 178) (1 : Int32) dX1_readNumbers_178 (by decide) ?_
        refine J_goto (pc := 179) 183 dX1_readNumbers_179 (by decide) ?_
        cases h
        exact J_iret (pc := 183) dX1_readNumbers_183 rfl rfl
  rw [if_neg hs24] at h
  by_cases hs32 : a1 = (12 : Int32)
  · rw [if_pos hs32] at h
    refine J_tableIn (pc := 1) 184 dX1_readNumbers_1 (by rw [hs32]; decide) (by rw [hs32]; decide) (by rw [hs32]; rfl) (by decide) ?_
    refine J_aload_n (pc := 184) 0 dX1_readNumbers_184 rfl ?_
    refine J_getR (pc := 185) dX1_readNumbers_185 ho flX1_15 rfl h (fun q33 hq33 h => ?_)
    refine J_aload_n (pc := 188) 0 dX1_readNumbers_188 rfl ?_
    refine J_getR (pc := 189) dX1_readNumbers_189 ho flX1_19 rfl h (fun q34 hq34 h => ?_)
    obtain ⟨x37, σ35, hc36, h⟩ := cI_t h
    refine J_cVi (pc := 192) (ctX6_takeShaft l E q33 q34 hq33 hq34 σ hc36) dX1_readNumbers_192 mlX1_109 mvX6_takeShaft hq33 rfl (by decide) rfl (Nat.le_of_ble_eq_true rfl) ?_
    refine J_if_eq (pc := 195) 210 dX1_readNumbers_195 (by decide) h (fun h => ?_) (fun h => ?_)
    · refine J_iconst (pc := 210) (0 : Int32) dX1_readNumbers_210 (by decide) ?_
      cases h
      exact J_iret (pc := 211) dX1_readNumbers_211 rfl rfl
    · refine J_aload_n (pc := 198) 0 dX1_readNumbers_198 rfl ?_
      refine J_iload_n (pc := 199) 2 dX1_readNumbers_199 rfl ?_
      obtain ⟨x40, σ38, hc39, h⟩ := cI_t h
      refine J_cVi (pc := 200) (ctX1_keepWhat l E o a2 ho σ35 hc39) dX1_readNumbers_200 mlX1_97 mvX1_keepWhat ho rfl (by decide) rfl (Nat.le_of_ble_eq_true rfl) ?_
      refine J_if_eq (pc := 203) 210 dX1_readNumbers_203 (by decide) h (fun h => ?_) (fun h => ?_)
      · refine J_iconst (pc := 210) (0 : Int32) dX1_readNumbers_210 (by decide) ?_
        cases h
        exact J_iret (pc := 211) dX1_readNumbers_211 rfl rfl
      · refine J_iconst (pc := 206) (1 : Int32) dX1_readNumbers_206 (by decide) ?_
        refine J_goto (pc := 207) 211 dX1_readNumbers_207 (by decide) ?_
        cases h
        exact J_iret (pc := 211) dX1_readNumbers_211 rfl rfl
  rw [if_neg hs32] at h
  by_cases hs41 : a1 = (13 : Int32)
  · rw [if_pos hs41] at h
    refine J_tableIn (pc := 1) 184 dX1_readNumbers_1 (by rw [hs41]; decide) (by rw [hs41]; decide) (by rw [hs41]; rfl) (by decide) ?_
    refine J_aload_n (pc := 184) 0 dX1_readNumbers_184 rfl ?_
    refine J_getR (pc := 185) dX1_readNumbers_185 ho flX1_15 rfl h (fun q42 hq42 h => ?_)
    refine J_aload_n (pc := 188) 0 dX1_readNumbers_188 rfl ?_
    refine J_getR (pc := 189) dX1_readNumbers_189 ho flX1_19 rfl h (fun q43 hq43 h => ?_)
    obtain ⟨x46, σ44, hc45, h⟩ := cI_t h
    refine J_cVi (pc := 192) (ctX6_takeShaft l E q42 q43 hq42 hq43 σ hc45) dX1_readNumbers_192 mlX1_109 mvX6_takeShaft hq42 rfl (by decide) rfl (Nat.le_of_ble_eq_true rfl) ?_
    refine J_if_eq (pc := 195) 210 dX1_readNumbers_195 (by decide) h (fun h => ?_) (fun h => ?_)
    · refine J_iconst (pc := 210) (0 : Int32) dX1_readNumbers_210 (by decide) ?_
      cases h
      exact J_iret (pc := 211) dX1_readNumbers_211 rfl rfl
    · refine J_aload_n (pc := 198) 0 dX1_readNumbers_198 rfl ?_
      refine J_iload_n (pc := 199) 2 dX1_readNumbers_199 rfl ?_
      obtain ⟨x49, σ47, hc48, h⟩ := cI_t h
      refine J_cVi (pc := 200) (ctX1_keepWhat l E o a2 ho σ44 hc48) dX1_readNumbers_200 mlX1_97 mvX1_keepWhat ho rfl (by decide) rfl (Nat.le_of_ble_eq_true rfl) ?_
      refine J_if_eq (pc := 203) 210 dX1_readNumbers_203 (by decide) h (fun h => ?_) (fun h => ?_)
      · refine J_iconst (pc := 210) (0 : Int32) dX1_readNumbers_210 (by decide) ?_
        cases h
        exact J_iret (pc := 211) dX1_readNumbers_211 rfl rfl
      · refine J_iconst (pc := 206) (1 : Int32) dX1_readNumbers_206 (by decide) ?_
        refine J_goto (pc := 207) 211 dX1_readNumbers_207 (by decide) ?_
        cases h
        exact J_iret (pc := 211) dX1_readNumbers_211 rfl rfl
  rw [if_neg hs41] at h
  by_cases hs50 : a1 = (14 : Int32)
  · rw [if_pos hs50] at h
    refine J_tableIn (pc := 1) 212 dX1_readNumbers_1 (by rw [hs50]; decide) (by rw [hs50]; decide) (by rw [hs50]; rfl) (by decide) ?_
    refine J_aload_n (pc := 212) 0 dX1_readNumbers_212 rfl ?_
    refine J_getR (pc := 213) dX1_readNumbers_213 ho flX1_15 rfl h (fun q51 hq51 h => ?_)
    refine J_aload_n (pc := 216) 0 dX1_readNumbers_216 rfl ?_
    refine J_getR (pc := 217) dX1_readNumbers_217 ho flX1_19 rfl h (fun q52 hq52 h => ?_)
    obtain ⟨x55, σ53, hc54, h⟩ := cI_t h
    refine J_cVi (pc := 220) (ctX6_takeVane l E q51 q52 hq51 hq52 σ hc54) dX1_readNumbers_220 mlX1_112 mvX6_takeVane hq51 rfl (by decide) rfl (Nat.le_of_ble_eq_true rfl) ?_
    refine J_if_eq (pc := 223) 238 dX1_readNumbers_223 (by decide) h (fun h => ?_) (fun h => ?_)
    · refine J_iconst (pc := 238) (0 : Int32) dX1_readNumbers_238 (by decide) ?_
      cases h
      exact J_iret (pc := 239) dX1_readNumbers_239 rfl rfl
    · refine J_aload_n (pc := 226) 0 dX1_readNumbers_226 rfl ?_
      refine J_iload_n (pc := 227) 2 dX1_readNumbers_227 rfl ?_
      obtain ⟨x58, σ56, hc57, h⟩ := cI_t h
      refine J_cVi (pc := 228) (ctX1_keepWhat l E o a2 ho σ53 hc57) dX1_readNumbers_228 mlX1_97 mvX1_keepWhat ho rfl (by decide) rfl (Nat.le_of_ble_eq_true rfl) ?_
      refine J_if_eq (pc := 231) 238 dX1_readNumbers_231 (by decide) h (fun h => ?_) (fun h => ?_)
      · refine J_iconst (pc := 238) (0 : Int32) dX1_readNumbers_238 (by decide) ?_
        cases h
        exact J_iret (pc := 239) dX1_readNumbers_239 rfl rfl
      · refine J_iconst (pc := 234) (1 : Int32) dX1_readNumbers_234 (by decide) ?_
        refine J_goto (pc := 235) 239 dX1_readNumbers_235 (by decide) ?_
        cases h
        exact J_iret (pc := 239) dX1_readNumbers_239 rfl rfl
  rw [if_neg hs50] at h
  by_cases hs59 : a1 = (15 : Int32)
  · rw [if_pos hs59] at h
    refine J_tableIn (pc := 1) 212 dX1_readNumbers_1 (by rw [hs59]; decide) (by rw [hs59]; decide) (by rw [hs59]; rfl) (by decide) ?_
    refine J_aload_n (pc := 212) 0 dX1_readNumbers_212 rfl ?_
    refine J_getR (pc := 213) dX1_readNumbers_213 ho flX1_15 rfl h (fun q60 hq60 h => ?_)
    refine J_aload_n (pc := 216) 0 dX1_readNumbers_216 rfl ?_
    refine J_getR (pc := 217) dX1_readNumbers_217 ho flX1_19 rfl h (fun q61 hq61 h => ?_)
    obtain ⟨x64, σ62, hc63, h⟩ := cI_t h
    refine J_cVi (pc := 220) (ctX6_takeVane l E q60 q61 hq60 hq61 σ hc63) dX1_readNumbers_220 mlX1_112 mvX6_takeVane hq60 rfl (by decide) rfl (Nat.le_of_ble_eq_true rfl) ?_
    refine J_if_eq (pc := 223) 238 dX1_readNumbers_223 (by decide) h (fun h => ?_) (fun h => ?_)
    · refine J_iconst (pc := 238) (0 : Int32) dX1_readNumbers_238 (by decide) ?_
      cases h
      exact J_iret (pc := 239) dX1_readNumbers_239 rfl rfl
    · refine J_aload_n (pc := 226) 0 dX1_readNumbers_226 rfl ?_
      refine J_iload_n (pc := 227) 2 dX1_readNumbers_227 rfl ?_
      obtain ⟨x67, σ65, hc66, h⟩ := cI_t h
      refine J_cVi (pc := 228) (ctX1_keepWhat l E o a2 ho σ62 hc66) dX1_readNumbers_228 mlX1_97 mvX1_keepWhat ho rfl (by decide) rfl (Nat.le_of_ble_eq_true rfl) ?_
      refine J_if_eq (pc := 231) 238 dX1_readNumbers_231 (by decide) h (fun h => ?_) (fun h => ?_)
      · refine J_iconst (pc := 238) (0 : Int32) dX1_readNumbers_238 (by decide) ?_
        cases h
        exact J_iret (pc := 239) dX1_readNumbers_239 rfl rfl
      · refine J_iconst (pc := 234) (1 : Int32) dX1_readNumbers_234 (by decide) ?_
        refine J_goto (pc := 235) 239 dX1_readNumbers_235 (by decide) ?_
        cases h
        exact J_iret (pc := 239) dX1_readNumbers_239 rfl rfl
  rw [if_neg hs59] at h
  by_cases hs68 : a1 = (16 : Int32)
  · rw [if_pos hs68] at h
    refine J_tableIn (pc := 1) 240 dX1_readNumbers_1 (by rw [hs68]; decide) (by rw [hs68]; decide) (by rw [hs68]; rfl) (by decide) ?_
    refine J_aload_n (pc := 240) 0 dX1_readNumbers_240 rfl ?_
    refine J_getR (pc := 241) dX1_readNumbers_241 ho flX1_15 rfl h (fun q69 hq69 h => ?_)
    refine J_aload_n (pc := 244) 0 dX1_readNumbers_244 rfl ?_
    refine J_getR (pc := 245) dX1_readNumbers_245 ho flX1_19 rfl h (fun q70 hq70 h => ?_)
    obtain ⟨x73, σ71, hc72, h⟩ := cI_t h
    refine J_cVi (pc := 248) (ctX6_takeVane l E q69 q70 hq69 hq70 σ hc72) dX1_readNumbers_248 mlX1_112 mvX6_takeVane hq69 rfl (by decide) rfl (Nat.le_of_ble_eq_true rfl) ?_
    refine J_if_eq (pc := 251) 287 dX1_readNumbers_251 (by decide) h (fun h => ?_) (fun h => ?_)
    · refine J_iconst (pc := 287) (0 : Int32) dX1_readNumbers_287 (by decide) ?_
      cases h
      exact J_iret (pc := 288) dX1_readNumbers_288 rfl rfl
    · refine J_aload_n (pc := 254) 0 dX1_readNumbers_254 rfl ?_
      refine J_iload_n (pc := 255) 2 dX1_readNumbers_255 rfl ?_
      obtain ⟨x76, σ74, hc75, h⟩ := cI_t h
      refine J_cVi (pc := 256) (ctX1_keepWhat l E o a2 ho σ71 hc75) dX1_readNumbers_256 mlX1_97 mvX1_keepWhat ho rfl (by decide) rfl (Nat.le_of_ble_eq_true rfl) ?_
      refine J_if_eq (pc := 259) 287 dX1_readNumbers_259 (by decide) h (fun h => ?_) (fun h => ?_)
      · refine J_iconst (pc := 287) (0 : Int32) dX1_readNumbers_287 (by decide) ?_
        cases h
        exact J_iret (pc := 288) dX1_readNumbers_288 rfl rfl
      · refine J_aload_n (pc := 262) 0 dX1_readNumbers_262 rfl ?_
        refine J_getR (pc := 263) dX1_readNumbers_263 ho flX1_15 rfl h (fun q77 hq77 h => ?_)
        refine J_iconst (pc := 266) (1 : Int32) dX1_readNumbers_266 (by decide) ?_
        refine J_bipush (pc := 267) (99 : Int32) dX1_readNumbers_267 (by decide) ?_
        obtain ⟨x80, σ78, hc79, h⟩ := cI_t h
        refine J_cVi (pc := 269) (ctX6_takeNumber l E q77 (1 : Int32) (99 : Int32) hq77 σ74 hc79) dX1_readNumbers_269 mlX1_100 mvX6_takeNumber hq77 rfl (by decide) rfl (Nat.le_of_ble_eq_true rfl) ?_
        refine J_if_eq (pc := 272) 287 dX1_readNumbers_272 (by decide) h (fun h => ?_) (fun h => ?_)
        · refine J_iconst (pc := 287) (0 : Int32) dX1_readNumbers_287 (by decide) ?_
          cases h
          exact J_iret (pc := 288) dX1_readNumbers_288 rfl rfl
        · refine J_aload_n (pc := 275) 0 dX1_readNumbers_275 rfl ?_
          refine J_iload_n (pc := 276) 2 dX1_readNumbers_276 rfl ?_
          obtain ⟨x83, σ81, hc82, h⟩ := cI_t h
          refine J_cVi (pc := 277) (ctX1_keepMuch l E o a2 ho σ78 hc82) dX1_readNumbers_277 mlX1_106 mvX1_keepMuch ho rfl (by decide) rfl (Nat.le_of_ble_eq_true rfl) ?_
          refine J_if_eq (pc := 280) 287 dX1_readNumbers_280 (by decide) h (fun h => ?_) (fun h => ?_)
          · refine J_iconst (pc := 287) (0 : Int32) dX1_readNumbers_287 (by decide) ?_
            cases h
            exact J_iret (pc := 288) dX1_readNumbers_288 rfl rfl
          · refine J_iconst (pc := 283) (1 : Int32) dX1_readNumbers_283 (by decide) ?_
            refine J_goto (pc := 284) 288 dX1_readNumbers_284 (by decide) ?_
            cases h
            exact J_iret (pc := 288) dX1_readNumbers_288 rfl rfl
  rw [if_neg hs68] at h
  by_cases hs84 : a1 = (17 : Int32)
  · rw [if_pos hs84] at h
    refine J_tableIn (pc := 1) 130 dX1_readNumbers_1 (by rw [hs84]; decide) (by rw [hs84]; decide) (by rw [hs84]; rfl) (by decide) ?_
    refine J_aload_n (pc := 130) 0 dX1_readNumbers_130 rfl ?_
    refine J_getR (pc := 131) dX1_readNumbers_131 ho flX1_15 rfl h (fun q85 hq85 h => ?_)
    refine J_iconst (pc := 134) (0 : Int32) dX1_readNumbers_134 (by decide) ?_
    refine J_bipush (pc := 135) (99 : Int32) dX1_readNumbers_135 (by decide) ?_
    obtain ⟨x88, σ86, hc87, h⟩ := cI_t h
    refine J_cVi (pc := 137) (ctX6_takeNumber l E q85 (0 : Int32) (99 : Int32) hq85 σ hc87) dX1_readNumbers_137 mlX1_100 mvX6_takeNumber hq85 rfl (by decide) rfl (Nat.le_of_ble_eq_true rfl) ?_
    refine J_if_eq (pc := 140) 155 dX1_readNumbers_140 (by decide) h (fun h => ?_) (fun h => ?_)
    · refine J_iconst (pc := 155) (0 : Int32) dX1_readNumbers_155 (by decide) ?_
      cases h
      exact J_iret (pc := 156) dX1_readNumbers_156 rfl rfl
    · refine J_aload_n (pc := 143) 0 dX1_readNumbers_143 rfl ?_
      refine J_iload_n (pc := 144) 2 dX1_readNumbers_144 rfl ?_
      obtain ⟨x91, σ89, hc90, h⟩ := cI_t h
      refine J_cVi (pc := 145) (ctX1_keepMuch l E o a2 ho σ86 hc90) dX1_readNumbers_145 mlX1_106 mvX1_keepMuch ho rfl (by decide) rfl (Nat.le_of_ble_eq_true rfl) ?_
      refine J_if_eq (pc := 148) 155 dX1_readNumbers_148 (by decide) h (fun h => ?_) (fun h => ?_)
      · refine J_iconst (pc := 155) (0 : Int32) dX1_readNumbers_155 (by decide) ?_
        cases h
        exact J_iret (pc := 156) dX1_readNumbers_156 rfl rfl
      · refine J_iconst (pc := 151) (1 : Int32) dX1_readNumbers_151 (by decide) ?_
        refine J_goto (pc := 152) 156 dX1_readNumbers_152 (by decide) ?_
        cases h
        exact J_iret (pc := 156) dX1_readNumbers_156 rfl rfl
  rw [if_neg hs84] at h
  by_cases hs92 : a1 = (20 : Int32)
  · rw [if_pos hs92] at h
    refine J_tableIn (pc := 1) 157 dX1_readNumbers_1 (by rw [hs92]; decide) (by rw [hs92]; decide) (by rw [hs92]; rfl) (by decide) ?_
    refine J_aload_n (pc := 157) 0 dX1_readNumbers_157 rfl ?_
    refine J_getR (pc := 158) dX1_readNumbers_158 ho flX1_15 rfl h (fun q93 hq93 h => ?_)
    refine J_iconst (pc := 161) (1 : Int32) dX1_readNumbers_161 (by decide) ?_
    refine J_bipush (pc := 162) (99 : Int32) dX1_readNumbers_162 (by decide) ?_
    obtain ⟨x96, σ94, hc95, h⟩ := cI_t h
    refine J_cVi (pc := 164) (ctX6_takeNumber l E q93 (1 : Int32) (99 : Int32) hq93 σ hc95) dX1_readNumbers_164 mlX1_100 mvX6_takeNumber hq93 rfl (by decide) rfl (Nat.le_of_ble_eq_true rfl) ?_
    refine J_if_eq (pc := 167) 182 dX1_readNumbers_167 (by decide) h (fun h => ?_) (fun h => ?_)
    · refine J_iconst (pc := 182) (0 : Int32) dX1_readNumbers_182 (by decide) ?_
      cases h
      exact J_iret (pc := 183) dX1_readNumbers_183 rfl rfl
    · refine J_aload_n (pc := 170) 0 dX1_readNumbers_170 rfl ?_
      refine J_iload_n (pc := 171) 2 dX1_readNumbers_171 rfl ?_
      obtain ⟨x99, σ97, hc98, h⟩ := cI_t h
      refine J_cVi (pc := 172) (ctX1_keepMuch l E o a2 ho σ94 hc98) dX1_readNumbers_172 mlX1_106 mvX1_keepMuch ho rfl (by decide) rfl (Nat.le_of_ble_eq_true rfl) ?_
      refine J_if_eq (pc := 175) 182 dX1_readNumbers_175 (by decide) h (fun h => ?_) (fun h => ?_)
      · refine J_iconst (pc := 182) (0 : Int32) dX1_readNumbers_182 (by decide) ?_
        cases h
        exact J_iret (pc := 183) dX1_readNumbers_183 rfl rfl
      · refine J_iconst (pc := 178) (1 : Int32) dX1_readNumbers_178 (by decide) ?_
        refine J_goto (pc := 179) 183 dX1_readNumbers_179 (by decide) ?_
        cases h
        exact J_iret (pc := 183) dX1_readNumbers_183 rfl rfl
  rw [if_neg hs92] at h
  refine J_tableD (pc := 1) 289 dX1_readNumbers_1 (by decide) (fun h1 h2 => by have := ne_i hs1 (k := 10) (by decide); have := ne_i hs24 (k := 11) (by decide); have := ne_i hs32 (k := 12) (by decide); have := ne_i hs41 (k := 13) (by decide); have := ne_i hs50 (k := 14) (by decide); have := ne_i hs59 (k := 15) (by decide); have := ne_i hs68 (k := 16) (by decide); have := ne_i hs84 (k := 17) (by decide); have := ne_i hs92 (k := 20) (by decide); rcases (show a1.toInt = 18 ∨ a1.toInt = 19 by omega) with q | q <;> rw [q] <;> rfl) ?_
  refine J_iconst (pc := 289) (1 : Int32) dX1_readNumbers_289 (by decide) ?_
  cases h
  exact J_iret (pc := 290) dX1_readNumbers_290 rfl rfl
def fX1_readRow_148 (o : Nat) (v1 : Int32) (v2 : Int32) (v3 : Int32) (s0 : Int32) (σ : Mm) : Option (Int32 × Mm) := if s0 = 0 then (some ((0 : Int32), σ)) else (r_rf σ o 0 6 (fun q56 => c_I (fX6_takeSemicolon q56 σ) (fun x59 σ57 => if x59 = 0 then (some ((0 : Int32), σ57)) else (c_V (fX1_addRow o v1 σ57) (fun σ60 => r_rf σ60 o 2 5 (fun q62 => r_sc σ60 q62 1 (fun x63 => p_sc σ60 q62 1 (x63 + (1 : Int32)) (fun σ64 => if v2 = 0 then (some ((1 : Int32), σ64)) else (r_sc σ64 o 4 (fun x65 => s_ar σ64 o 0 3 x65 v3 (fun σ66 => r_sc σ66 o 4 (fun x67 => p_sc σ66 o 4 (x67 + (1 : Int32)) (fun σ68 => some ((1 : Int32), σ68))))))))))))))
set_option maxRecDepth 100000 in
set_option maxHeartbeats 4000000 in
theorem tX1_readRow_148 (l : Launch) (E : EV) {xr : Int32} {τ : Mm} (o : Nat) (ho : KD o = 1) (v1 : Int32) (v2 : Int32) (v3 : Int32) (s0 : Int32) (σ : Mm) (h : fX1_readRow_148 o v1 v2 v3 s0 σ = some (xr, τ)) : Jd l E mX1_readRow 5 (some (.int xr), τ) σ 148 [(0, .ref (e_a E o 0)), (1, .int v1), (2, .int v2), (3, .int v3)] [.int s0] := by
  unfold fX1_readRow_148 at h
  refine J_istore (pc := 148) (L' := [(4, .int s0), (0, .ref (e_a E o 0)), (1, .int v1), (2, .int v2), (3, .int v3)]) dX1_readRow_148 (by decide) rfl ?_
  refine J_iload (pc := 150) 0 dX1_readRow_150 rfl ?_
  refine J_if_eq (pc := 152) 165 dX1_readRow_152 (by decide) h (fun h => ?_) (fun h => ?_)
  · refine J_iconst (pc := 165) (0 : Int32) dX1_readRow_165 (by decide) ?_
    cases h
    exact J_iret (pc := 166) dX1_readRow_166 rfl rfl
  · refine J_aload_n (pc := 155) 1 dX1_readRow_155 rfl ?_
    refine J_getR (pc := 156) dX1_readRow_156 ho flX1_15 rfl h (fun q56 hq56 h => ?_)
    obtain ⟨x59, σ57, hc58, h⟩ := cI_t h
    refine J_cVi (pc := 159) (ctX6_takeSemicolon l E q56 hq56 σ hc58) dX1_readRow_159 mlX1_81 mvX6_takeSemicolon hq56 rfl (by decide) rfl (Nat.le_of_ble_eq_true rfl) ?_
    refine J_if_ne (pc := 162) 167 dX1_readRow_162 (by decide) h (fun h => ?_) (fun h => ?_)
    · refine J_aload_n (pc := 167) 1 dX1_readRow_167 rfl ?_
      refine J_iload_n (pc := 168) 2 dX1_readRow_168 rfl ?_
      obtain ⟨σ60, hc61, h⟩ := cV_t h
      refine J_cVv (pc := 169) (ctX1_addRow l E o v1 ho σ57 hc61) dX1_readRow_169 mlX1_84 mvX1_addRow ho rfl (by decide) rfl (Nat.le_of_ble_eq_true rfl) ?_
      refine J_aload_n (pc := 172) 1 dX1_readRow_172 rfl ?_
      refine J_getR (pc := 173) dX1_readRow_173 ho flX1_23 rfl h (fun q62 hq62 h => ?_)
      refine J_dup (pc := 176) dX1_readRow_176 rfl ?_
      refine J_getI (pc := 177) dX1_readRow_177 hq62 flX1_62 rfl h (fun x63 h => ?_)
      refine J_iconst (pc := 180) (1 : Int32) dX1_readRow_180 (by decide) ?_
      refine J_iadd (pc := 181) dX1_readRow_181 ?_
      refine J_putI (pc := 182) dX1_readRow_182 hq62 flX1_62 rfl h (fun σ64 h => ?_)
      refine J_iload_n (pc := 185) 3 dX1_readRow_185 rfl ?_
      refine J_if_eq (pc := 186) 209 dX1_readRow_186 (by decide) h (fun h => ?_) (fun h => ?_)
      · refine J_iconst (pc := 209) (1 : Int32) dX1_readRow_209 (by decide) ?_
        cases h
        exact J_iret (pc := 210) dX1_readRow_210 rfl rfl
      · refine J_aload_n (pc := 189) 1 dX1_readRow_189 rfl ?_
        refine J_getA (pc := 190) dX1_readRow_190 ho flX1_11 rfl ?_
        refine J_aload_n (pc := 193) 1 dX1_readRow_193 rfl ?_
        refine J_getI (pc := 194) dX1_readRow_194 ho flX1_32 rfl h (fun x65 h => ?_)
        refine J_iload_n (pc := 197) 4 dX1_readRow_197 rfl ?_
        refine J_iast (pc := 198) dX1_readRow_198 ho ha1_0 h (fun σ66 h => ?_)
        refine J_aload_n (pc := 199) 1 dX1_readRow_199 rfl ?_
        refine J_dup (pc := 200) dX1_readRow_200 rfl ?_
        refine J_getI (pc := 201) dX1_readRow_201 ho flX1_32 rfl h (fun x67 h => ?_)
        refine J_iconst (pc := 204) (1 : Int32) dX1_readRow_204 (by decide) ?_
        refine J_iadd (pc := 205) dX1_readRow_205 ?_
        refine J_putI (pc := 206) dX1_readRow_206 ho flX1_32 rfl h (fun σ68 h => ?_)
        refine J_iconst (pc := 209) (1 : Int32) dX1_readRow_209 (by decide) ?_
        cases h
        exact J_iret (pc := 210) dX1_readRow_210 rfl rfl
    · refine J_iconst (pc := 165) (0 : Int32) dX1_readRow_165 (by decide) ?_
      cases h
      exact J_iret (pc := 166) dX1_readRow_166 rfl rfl
def fX1_readRow_90 (o : Nat) (v1 : Int32) (s0 : Int32) (σ : Mm) : Option (Int32 × Mm) := if s0 = 0 then (r_rf σ o 2 5 (fun q28 => r_sc σ q28 2 (fun x29 => r_rf σ o 0 6 (fun q30 => c_V (fX6_advance q30 σ) (fun σ31 => if v1 = (18 : Int32) then (c_I (fX1_readTest o x29 σ31) (fun x38 σ36 => fX1_readRow_148 o v1 s0 x29 x38 σ36)) else (c_I (fX1_readNumbers o v1 x29 σ31) (fun x35 σ33 => fX1_readRow_148 o v1 s0 x29 x35 σ33))))))) else (r_sc σ o 4 (fun x39 => if x39 < (3 : Int32) then (r_rf σ o 2 5 (fun q40 => r_sc σ q40 2 (fun x41 => r_rf σ o 0 6 (fun q42 => c_V (fX6_advance q42 σ) (fun σ43 => if v1 = (18 : Int32) then (c_I (fX1_readTest o x41 σ43) (fun x50 σ48 => fX1_readRow_148 o v1 s0 x41 x50 σ48)) else (c_I (fX1_readNumbers o v1 x41 σ43) (fun x47 σ45 => fX1_readRow_148 o v1 s0 x41 x47 σ45))))))) else (r_rf σ o 0 6 (fun q51 => c_I (fX6_refuse q51 (7 : Int32) σ) (fun x54 σ52 => b_z x54 σ52)))))
set_option maxRecDepth 100000 in
set_option maxHeartbeats 4000000 in
theorem tX1_readRow_90 (l : Launch) (E : EV) {xr : Int32} {τ : Mm} (o : Nat) (ho : KD o = 1) (v1 : Int32) (s0 : Int32) (σ : Mm) (h : fX1_readRow_90 o v1 s0 σ = some (xr, τ)) : Jd l E mX1_readRow 5 (some (.int xr), τ) σ 90 [(0, .ref (e_a E o 0)), (1, .int v1)] [.int s0] := by
  unfold fX1_readRow_90 at h
  refine J_istore_n (pc := 90) (L' := [(2, .int s0), (0, .ref (e_a E o 0)), (1, .int v1)]) dX1_readRow_90 (by decide) rfl ?_
  refine J_iload_n (pc := 91) 0 dX1_readRow_91 rfl ?_
  refine J_if_eq (pc := 92) 113 dX1_readRow_92 (by decide) h (fun h => ?_) (fun h => ?_)
  · refine J_aload_n (pc := 113) 1 dX1_readRow_113 rfl ?_
    refine J_getR (pc := 114) dX1_readRow_114 ho flX1_23 rfl h (fun q28 hq28 h => ?_)
    refine J_getI (pc := 117) dX1_readRow_117 hq28 flX1_68 rfl h (fun x29 h => ?_)
    refine J_istore_n (pc := 120) (L' := [(3, .int x29), (2, .int s0), (0, .ref (e_a E o 0)), (1, .int v1)]) dX1_readRow_120 (by decide) rfl ?_
    refine J_aload_n (pc := 121) 2 dX1_readRow_121 rfl ?_
    refine J_getR (pc := 122) dX1_readRow_122 ho flX1_15 rfl h (fun q30 hq30 h => ?_)
    obtain ⟨σ31, hc32, h⟩ := cV_t h
    refine J_cVv (pc := 125) (ctX6_advance l E q30 hq30 σ hc32) dX1_readRow_125 mlX1_71 mvX6_advance hq30 rfl (by decide) rfl (Nat.le_of_ble_eq_true rfl) ?_
    refine J_iload_n (pc := 128) 3 dX1_readRow_128 rfl ?_
    refine J_bipush (pc := 129) (18 : Int32) dX1_readRow_129 (by decide) ?_
    refine J_icmp_ne (pc := 131) 142 dX1_readRow_131 (by decide) h (fun h => ?_) (fun h => ?_)
    · refine J_aload_n (pc := 142) 2 dX1_readRow_142 rfl ?_
      refine J_iload_n (pc := 143) 3 dX1_readRow_143 rfl ?_
      refine J_iload_n (pc := 144) 0 dX1_readRow_144 rfl ?_
      obtain ⟨x35, σ33, hc34, h⟩ := cI_t h
      refine J_cVi (pc := 145) (ctX1_readNumbers l E o v1 x29 ho σ31 hc34) dX1_readRow_145 mlX1_77 mvX1_readNumbers ho rfl (by decide) rfl (Nat.le_of_ble_eq_true rfl) ?_
      refine J_sub (L' := [(0, .ref (e_a E o 0)), (1, .int v1), (2, .int s0), (3, .int x29)]) [2, 3, 1, 0] rfl ?_
      exact tX1_readRow_148 l E o ho v1 s0 x29 x35 σ33 h
    · refine J_aload_n (pc := 134) 2 dX1_readRow_134 rfl ?_
      refine J_iload_n (pc := 135) 0 dX1_readRow_135 rfl ?_
      obtain ⟨x38, σ36, hc37, h⟩ := cI_t h
      refine J_cVi (pc := 136) (ctX1_readTest l E o x29 ho σ31 hc37) dX1_readRow_136 mlX1_74 mvX1_readTest ho rfl (by decide) rfl (Nat.le_of_ble_eq_true rfl) ?_
      refine J_goto (pc := 139) 148 dX1_readRow_139 (by decide) ?_
      refine J_sub (L' := [(0, .ref (e_a E o 0)), (1, .int v1), (2, .int s0), (3, .int x29)]) [2, 3, 1, 0] rfl ?_
      exact tX1_readRow_148 l E o ho v1 s0 x29 x38 σ36 h
  · refine J_aload_n (pc := 95) 1 dX1_readRow_95 rfl ?_
    refine J_getI (pc := 96) dX1_readRow_96 ho flX1_32 rfl h (fun x39 h => ?_)
    refine J_iconst (pc := 99) (3 : Int32) dX1_readRow_99 (by decide) ?_
    refine J_icmp_lt (pc := 100) 113 dX1_readRow_100 (by decide) h (fun h => ?_) (fun h => ?_)
    · refine J_aload_n (pc := 113) 1 dX1_readRow_113 rfl ?_
      refine J_getR (pc := 114) dX1_readRow_114 ho flX1_23 rfl h (fun q40 hq40 h => ?_)
      refine J_getI (pc := 117) dX1_readRow_117 hq40 flX1_68 rfl h (fun x41 h => ?_)
      refine J_istore_n (pc := 120) (L' := [(3, .int x41), (2, .int s0), (0, .ref (e_a E o 0)), (1, .int v1)]) dX1_readRow_120 (by decide) rfl ?_
      refine J_aload_n (pc := 121) 2 dX1_readRow_121 rfl ?_
      refine J_getR (pc := 122) dX1_readRow_122 ho flX1_15 rfl h (fun q42 hq42 h => ?_)
      obtain ⟨σ43, hc44, h⟩ := cV_t h
      refine J_cVv (pc := 125) (ctX6_advance l E q42 hq42 σ hc44) dX1_readRow_125 mlX1_71 mvX6_advance hq42 rfl (by decide) rfl (Nat.le_of_ble_eq_true rfl) ?_
      refine J_iload_n (pc := 128) 3 dX1_readRow_128 rfl ?_
      refine J_bipush (pc := 129) (18 : Int32) dX1_readRow_129 (by decide) ?_
      refine J_icmp_ne (pc := 131) 142 dX1_readRow_131 (by decide) h (fun h => ?_) (fun h => ?_)
      · refine J_aload_n (pc := 142) 2 dX1_readRow_142 rfl ?_
        refine J_iload_n (pc := 143) 3 dX1_readRow_143 rfl ?_
        refine J_iload_n (pc := 144) 0 dX1_readRow_144 rfl ?_
        obtain ⟨x47, σ45, hc46, h⟩ := cI_t h
        refine J_cVi (pc := 145) (ctX1_readNumbers l E o v1 x41 ho σ43 hc46) dX1_readRow_145 mlX1_77 mvX1_readNumbers ho rfl (by decide) rfl (Nat.le_of_ble_eq_true rfl) ?_
        refine J_sub (L' := [(0, .ref (e_a E o 0)), (1, .int v1), (2, .int s0), (3, .int x41)]) [2, 3, 1, 0] rfl ?_
        exact tX1_readRow_148 l E o ho v1 s0 x41 x47 σ45 h
      · refine J_aload_n (pc := 134) 2 dX1_readRow_134 rfl ?_
        refine J_iload_n (pc := 135) 0 dX1_readRow_135 rfl ?_
        obtain ⟨x50, σ48, hc49, h⟩ := cI_t h
        refine J_cVi (pc := 136) (ctX1_readTest l E o x41 ho σ43 hc49) dX1_readRow_136 mlX1_74 mvX1_readTest ho rfl (by decide) rfl (Nat.le_of_ble_eq_true rfl) ?_
        refine J_goto (pc := 139) 148 dX1_readRow_139 (by decide) ?_
        refine J_sub (L' := [(0, .ref (e_a E o 0)), (1, .int v1), (2, .int s0), (3, .int x41)]) [2, 3, 1, 0] rfl ?_
        exact tX1_readRow_148 l E o ho v1 s0 x41 x50 σ48 h
    · refine J_aload_n (pc := 103) 1 dX1_readRow_103 rfl ?_
      refine J_getR (pc := 104) dX1_readRow_104 ho flX1_15 rfl h (fun q51 hq51 h => ?_)
      refine J_bipush (pc := 107) (7 : Int32) dX1_readRow_107 (by decide) ?_
      obtain ⟨x54, σ52, hc53, h⟩ := cI_t h
      refine J_cVi (pc := 109) (ctX6_refuse l E q51 (7 : Int32) hq51 σ hc53) dX1_readRow_109 mlX1_65 mvX6_refuse hq51 rfl (by decide) rfl (Nat.le_of_ble_eq_true rfl) ?_
      obtain ⟨hz55, h⟩ := bz_t h
      cases h
      exact J_iret (pc := 112) dX1_readRow_112 rfl hz55
def fX1_readRow (o : Nat) (σ : Mm) : Option (Int32 × Mm) := r_rf σ o 0 6 (fun q1 => r_sc σ q1 6 (fun x2 => if x2 = (21 : Int32) then (r_sc σ o 4 (fun x18 => if x18 ≤ 0 then (r_rf σ o 0 6 (fun q19 => c_I (fX6_refuseToken q19 σ) (fun x22 σ20 => b_z x22 σ20))) else (c_I (fX1_readEnd o σ) (fun x26 σ24 => b_z x26 σ24)))) else (c_I (fX1_isStep x2 σ) (fun x5 σ3 => if x5 = 0 then (r_rf σ3 o 0 6 (fun q13 => c_I (fX6_refuseToken q13 σ3) (fun x16 σ14 => b_z x16 σ14))) else (r_rf σ3 o 2 5 (fun q6 => r_sc σ3 q6 1 (fun x7 => if x7 < (30 : Int32) then (if x2 = (18 : Int32) then (fX1_readRow_90 o x2 (1 : Int32) σ3) else (if x2 = (20 : Int32) then (fX1_readRow_90 o x2 (1 : Int32) σ3) else (fX1_readRow_90 o x2 (0 : Int32) σ3))) else (r_rf σ3 o 0 6 (fun q8 => c_I (fX6_refuse q8 (6 : Int32) σ3) (fun x11 σ9 => b_z x11 σ9))))))))))
set_option maxRecDepth 100000 in
set_option maxHeartbeats 4000000 in
theorem ctX1_readRow (l : Launch) (E : EV) (o : Nat) (ho : KD o = 1) (σ : Mm) {xr : Int32} {τ : Mm} (h : fX1_readRow o σ = some (xr, τ)) : Ct l E mX1_readRow 5 [.ref (e_a E o 0)] σ (some (.int xr), τ) := by
  refine Ct.of (by decide +kernel) (Nat.le_of_ble_eq_true rfl) ?_
  show Jd l E mX1_readRow 5 (some (.int xr), τ) σ 0 [(0, .ref (e_a E o 0))] []
  unfold fX1_readRow at h
  refine J_aload_n (pc := 0) 0 dX1_readRow_0 rfl ?_
  refine J_getR (pc := 1) dX1_readRow_1 ho flX1_15 rfl h (fun q1 hq1 h => ?_)
  refine J_getI (pc := 4) dX1_readRow_4 hq1 flX1_52 rfl h (fun x2 h => ?_)
  refine J_istore_n (pc := 7) (L' := [(1, .int x2), (0, .ref (e_a E o 0))]) dX1_readRow_7 (by decide) rfl ?_
  refine J_iload_n (pc := 8) 0 dX1_readRow_8 rfl ?_
  refine J_bipush (pc := 9) (21 : Int32) dX1_readRow_9 (by decide) ?_
  refine J_icmp_ne (pc := 11) 36 dX1_readRow_11 (by decide) h (fun h => ?_) (fun h => ?_)
  · refine J_iload_n (pc := 36) 0 dX1_readRow_36 rfl ?_
    obtain ⟨x5, σ3, hc4, h⟩ := cI_t h
    refine J_cSi (pc := 37) (ctX1_isStep l E x2 σ hc4) dX1_readRow_37 mlX1_58 msX1_isStep rfl (by decide) rfl (Nat.le_of_ble_eq_true rfl) ?_
    refine J_if_ne (pc := 40) 51 dX1_readRow_40 (by decide) h (fun h => ?_) (fun h => ?_)
    · refine J_aload_n (pc := 51) 1 dX1_readRow_51 rfl ?_
      refine J_getR (pc := 52) dX1_readRow_52 ho flX1_23 rfl h (fun q6 hq6 h => ?_)
      refine J_getI (pc := 55) dX1_readRow_55 hq6 flX1_62 rfl h (fun x7 h => ?_)
      refine J_bipush (pc := 58) (30 : Int32) dX1_readRow_58 (by decide) ?_
      refine J_icmp_lt (pc := 60) 73 dX1_readRow_60 (by decide) h (fun h => ?_) (fun h => ?_)
      · refine J_iload_n (pc := 73) 0 dX1_readRow_73 rfl ?_
        refine J_bipush (pc := 74) (18 : Int32) dX1_readRow_74 (by decide) ?_
        refine J_icmp_eq (pc := 76) 85 dX1_readRow_76 (by decide) h (fun h => ?_) (fun h => ?_)
        · refine J_iconst (pc := 85) (1 : Int32) dX1_readRow_85 (by decide) ?_
          refine J_goto (pc := 86) 90 dX1_readRow_86 (by decide) ?_
          refine J_sub (L' := [(0, .ref (e_a E o 0)), (1, .int x2)]) [1, 0] rfl ?_
          exact tX1_readRow_90 l E o ho x2 (1 : Int32) σ3 h
        · refine J_iload_n (pc := 79) 0 dX1_readRow_79 rfl ?_
          refine J_bipush (pc := 80) (20 : Int32) dX1_readRow_80 (by decide) ?_
          refine J_icmp_ne (pc := 82) 89 dX1_readRow_82 (by decide) h (fun h => ?_) (fun h => ?_)
          · refine J_iconst (pc := 89) (0 : Int32) dX1_readRow_89 (by decide) ?_
            refine J_sub (L' := [(0, .ref (e_a E o 0)), (1, .int x2)]) [1, 0] rfl ?_
            exact tX1_readRow_90 l E o ho x2 (0 : Int32) σ3 h
          · refine J_iconst (pc := 85) (1 : Int32) dX1_readRow_85 (by decide) ?_
            refine J_goto (pc := 86) 90 dX1_readRow_86 (by decide) ?_
            refine J_sub (L' := [(0, .ref (e_a E o 0)), (1, .int x2)]) [1, 0] rfl ?_
            exact tX1_readRow_90 l E o ho x2 (1 : Int32) σ3 h
      · refine J_aload_n (pc := 63) 1 dX1_readRow_63 rfl ?_
        refine J_getR (pc := 64) dX1_readRow_64 ho flX1_15 rfl h (fun q8 hq8 h => ?_)
        refine J_bipush (pc := 67) (6 : Int32) dX1_readRow_67 (by decide) ?_
        obtain ⟨x11, σ9, hc10, h⟩ := cI_t h
        refine J_cVi (pc := 69) (ctX6_refuse l E q8 (6 : Int32) hq8 σ3 hc10) dX1_readRow_69 mlX1_65 mvX6_refuse hq8 rfl (by decide) rfl (Nat.le_of_ble_eq_true rfl) ?_
        obtain ⟨hz12, h⟩ := bz_t h
        cases h
        exact J_iret (pc := 72) dX1_readRow_72 rfl hz12
    · refine J_aload_n (pc := 43) 1 dX1_readRow_43 rfl ?_
      refine J_getR (pc := 44) dX1_readRow_44 ho flX1_15 rfl h (fun q13 hq13 h => ?_)
      obtain ⟨x16, σ14, hc15, h⟩ := cI_t h
      refine J_cVi (pc := 47) (ctX6_refuseToken l E q13 hq13 σ3 hc15) dX1_readRow_47 mlX1_45 mvX6_refuseToken hq13 rfl (by decide) rfl (Nat.le_of_ble_eq_true rfl) ?_
      obtain ⟨hz17, h⟩ := bz_t h
      cases h
      exact J_iret (pc := 50) dX1_readRow_50 rfl hz17
  · refine J_aload_n (pc := 14) 1 dX1_readRow_14 rfl ?_
    refine J_getI (pc := 15) dX1_readRow_15 ho flX1_32 rfl h (fun x18 h => ?_)
    refine J_if_le (pc := 18) 28 dX1_readRow_18 (by decide) h (fun h => ?_) (fun h => ?_)
    · refine J_aload_n (pc := 28) 1 dX1_readRow_28 rfl ?_
      refine J_getR (pc := 29) dX1_readRow_29 ho flX1_15 rfl h (fun q19 hq19 h => ?_)
      obtain ⟨x22, σ20, hc21, h⟩ := cI_t h
      refine J_cVi (pc := 32) (ctX6_refuseToken l E q19 hq19 σ hc21) dX1_readRow_32 mlX1_45 mvX6_refuseToken hq19 rfl (by decide) rfl (Nat.le_of_ble_eq_true rfl) ?_
      obtain ⟨hz23, h⟩ := bz_t h
      cases h
      exact J_iret (pc := 35) dX1_readRow_35 rfl hz23
    · refine J_aload_n (pc := 21) 1 dX1_readRow_21 rfl ?_
      obtain ⟨x26, σ24, hc25, h⟩ := cI_t h
      refine J_cVi (pc := 22) (ctX1_readEnd l E o ho σ hc25) dX1_readRow_22 mlX1_55 mvX1_readEnd ho rfl (by decide) rfl (Nat.le_of_ble_eq_true rfl) ?_
      refine J_goto (pc := 25) 35 dX1_readRow_25 (by decide) ?_
      obtain ⟨hz27, h⟩ := bz_t h
      cases h
      exact J_iret (pc := 35) dX1_readRow_35 rfl hz27
def fX1_readAll_62 (o : Nat) (a1 : Nat) (a2 : Nat) (a3 : Nat) (σ : Mm) : Option (Int32 × Mm) := r_sc σ o 4 (fun x13 => if 0 < x13 then (r_rf σ o 0 6 (fun q14 => c_I (fX6_refuseToken q14 σ) (fun x17 σ15 => b_z x17 σ15))) else (r_rf σ o 0 6 (fun q19 => r_sc σ q19 5 (fun x20 => if x20 = 0 then (r_rf σ o 2 5 (fun q21 => p_bz σ q21 0 (1 : Int32) (fun σ22 => some ((1 : Int32), σ22)))) else (r_rf σ o 0 6 (fun q23 => c_I (fX6_refuseToken q23 σ) (fun x26 σ24 => b_z x26 σ24)))))))
set_option maxRecDepth 100000 in
set_option maxHeartbeats 4000000 in
theorem tX1_readAll_62 (l : Launch) (E : EV) {xr : Int32} {τ : Mm} (o : Nat) (a1 : Nat) (a2 : Nat) (a3 : Nat) (ho : KD o = 1) (ha1 : KD a1 = 6) (ha2 : KD a2 = 2) (ha3 : KD a3 = 5) (σ : Mm) (h : fX1_readAll_62 o a1 a2 a3 σ = some (xr, τ)) : Jd l E mX1_readAll 6 (some (.int xr), τ) σ 62 [(0, .ref (e_a E o 0))] [] := by
  unfold fX1_readAll_62 at h
  refine J_aload_n (pc := 62) 0 dX1_readAll_62 rfl ?_
  refine J_getI (pc := 63) dX1_readAll_63 ho flX1_32 rfl h (fun x13 h => ?_)
  refine J_if_gt (pc := 66) 79 dX1_readAll_66 (by decide) h (fun h => ?_) (fun h => ?_)
  · refine J_aload_n (pc := 79) 0 dX1_readAll_79 rfl ?_
    refine J_getR (pc := 80) dX1_readAll_80 ho flX1_15 rfl h (fun q14 hq14 h => ?_)
    obtain ⟨x17, σ15, hc16, h⟩ := cI_t h
    refine J_cVi (pc := 83) (ctX6_refuseToken l E q14 hq14 σ hc16) dX1_readAll_83 mlX1_45 mvX6_refuseToken hq14 rfl (by decide) rfl (Nat.le_of_ble_eq_true rfl) ?_
    obtain ⟨hz18, h⟩ := bz_t h
    cases h
    exact J_iret (pc := 86) dX1_readAll_86 rfl hz18
  · refine J_aload_n (pc := 69) 0 dX1_readAll_69 rfl ?_
    refine J_getR (pc := 70) dX1_readAll_70 ho flX1_15 rfl h (fun q19 hq19 h => ?_)
    refine J_getI (pc := 73) dX1_readAll_73 hq19 flX1_36 rfl h (fun x20 h => ?_)
    refine J_if_eq (pc := 76) 87 dX1_readAll_76 (by decide) h (fun h => ?_) (fun h => ?_)
    · refine J_aload_n (pc := 87) 0 dX1_readAll_87 rfl ?_
      refine J_getR (pc := 88) dX1_readAll_88 ho flX1_23 rfl h (fun q21 hq21 h => ?_)
      refine J_iconst (pc := 91) (1 : Int32) dX1_readAll_91 (by decide) ?_
      refine J_putZ (pc := 92) dX1_readAll_92 hq21 flX1_48 rfl h (fun σ22 h => ?_)
      refine J_iconst (pc := 95) (1 : Int32) dX1_readAll_95 (by decide) ?_
      cases h
      exact J_iret (pc := 96) dX1_readAll_96 rfl rfl
    · refine J_aload_n (pc := 79) 0 dX1_readAll_79 rfl ?_
      refine J_getR (pc := 80) dX1_readAll_80 ho flX1_15 rfl h (fun q23 hq23 h => ?_)
      obtain ⟨x26, σ24, hc25, h⟩ := cI_t h
      refine J_cVi (pc := 83) (ctX6_refuseToken l E q23 hq23 σ hc25) dX1_readAll_83 mlX1_45 mvX6_refuseToken hq23 rfl (by decide) rfl (Nat.le_of_ble_eq_true rfl) ?_
      obtain ⟨hz27, h⟩ := bz_t h
      cases h
      exact J_iret (pc := 86) dX1_readAll_86 rfl hz27
def fX1_readAll_30 (o : Nat) (a1 : Nat) (a2 : Nat) (a3 : Nat) : Nat → Int32 → Mm → Option (Int32 × Mm)
  | 0, _, _ => none
  | n + 1, v4, σ => if (60 : Int32) < v4 then (fX1_readAll_62 o a1 a2 a3 σ) else (r_rf σ o 0 6 (fun q8 => r_sc σ q8 5 (fun x9 => if x9 = 0 then (fX1_readAll_62 o a1 a2 a3 σ) else (c_I (fX1_readRow o σ) (fun x12 σ10 => if x12 = 0 then (some ((0 : Int32), σ10)) else ((fX1_readAll_30 o a1 a2 a3 n) (v4 + (1 : Int32)) σ10))))))
set_option maxRecDepth 100000 in
set_option maxHeartbeats 4000000 in
theorem tX1_readAll_30 (l : Launch) (E : EV) {xr : Int32} {τ : Mm} (o : Nat) (a1 : Nat) (a2 : Nat) (a3 : Nat) (ho : KD o = 1) (ha1 : KD a1 = 6) (ha2 : KD a2 = 2) (ha3 : KD a3 = 5) : ∀ (n : Nat) (v4 : Int32) (σ : Mm), fX1_readAll_30 o a1 a2 a3 n v4 σ = some (xr, τ) → Jd l E mX1_readAll 6 (some (.int xr), τ) σ 30 [(0, .ref (e_a E o 0)), (4, .int v4)] [] := by
  intro n
  induction n with
  | zero => intro v4 σ h; rw [fX1_readAll_30] at h; cases h
  | succ n ih =>
    intro v4 σ h
    rw [fX1_readAll_30] at h
    refine J_iload (pc := 30) 1 dX1_readAll_30 rfl ?_
    refine J_bipush (pc := 32) (60 : Int32) dX1_readAll_32 (by decide) ?_
    refine J_icmp_gt (pc := 34) 62 dX1_readAll_34 (by decide) h (fun h => ?_) (fun h => ?_)
    · refine J_sub (L' := [(0, .ref (e_a E o 0))]) [0] rfl ?_
      exact tX1_readAll_62 l E o a1 a2 a3 ho ha1 ha2 ha3 σ h
    · refine J_aload_n (pc := 37) 0 dX1_readAll_37 rfl ?_
      refine J_getR (pc := 38) dX1_readAll_38 ho flX1_15 rfl h (fun q8 hq8 h => ?_)
      refine J_getI (pc := 41) dX1_readAll_41 hq8 flX1_36 rfl h (fun x9 h => ?_)
      refine J_if_eq (pc := 44) 62 dX1_readAll_44 (by decide) h (fun h => ?_) (fun h => ?_)
      · refine J_sub (L' := [(0, .ref (e_a E o 0))]) [0] rfl ?_
        exact tX1_readAll_62 l E o a1 a2 a3 ho ha1 ha2 ha3 σ h
      · refine J_aload_n (pc := 47) 0 dX1_readAll_47 rfl ?_
        obtain ⟨x12, σ10, hc11, h⟩ := cI_t h
        refine J_cVi (pc := 48) (ctX1_readRow l E o ho σ hc11) dX1_readAll_48 mlX1_41 mvX1_readRow ho rfl (by decide) rfl (Nat.le_of_ble_eq_true rfl) ?_
        refine J_if_ne (pc := 51) 56 dX1_readAll_51 (by decide) h (fun h => ?_) (fun h => ?_)
        · refine J_iinc (pc := 56) (L' := [(4, .int (v4 + (1 : Int32))), (0, .ref (e_a E o 0))]) 1 (v4 + (1 : Int32)) dX1_readAll_56 rfl (by rfl) (by decide) rfl ?_
          refine J_goto (pc := 59) 30 dX1_readAll_59 (by decide) ?_
          refine J_sub (L' := [(0, .ref (e_a E o 0)), (4, .int (v4 + (1 : Int32)))]) [1, 0] rfl ?_
          exact ih (v4 + (1 : Int32)) σ10 h
        · refine J_iconst (pc := 54) (0 : Int32) dX1_readAll_54 (by decide) ?_
          cases h
          exact J_iret (pc := 55) dX1_readAll_55 rfl rfl
def fX1_readAll (o : Nat) (a1 : Nat) (a2 : Nat) (a3 : Nat) (σ : Mm) : Option (Int32 × Mm) := p_rf σ o 0 a1 (fun σ1 => p_rf σ1 o 1 a2 (fun σ2 => p_rf σ2 o 2 a3 (fun σ3 => r_rf σ3 o 2 5 (fun q4 => c_V (fX5_clear q4 σ3) (fun σ5 => p_sc σ5 o 4 (0 : Int32) (fun σ7 => fX1_readAll_30 o a1 a2 a3 FU (0 : Int32) σ7))))))
set_option maxRecDepth 100000 in
set_option maxHeartbeats 4000000 in
theorem ctX1_readAll (l : Launch) (E : EV) (o : Nat) (a1 : Nat) (a2 : Nat) (a3 : Nat) (ho : KD o = 1) (ha1 : KD a1 = 6) (ha2 : KD a2 = 2) (ha3 : KD a3 = 5) (σ : Mm) {xr : Int32} {τ : Mm} (h : fX1_readAll o a1 a2 a3 σ = some (xr, τ)) : Ct l E mX1_readAll 6 [.ref (e_a E o 0), .ref (e_a E a1 0), .ref (e_a E a2 0), .ref (e_a E a3 0)] σ (some (.int xr), τ) := by
  refine Ct.of (by decide +kernel) (Nat.le_of_ble_eq_true rfl) ?_
  show Jd l E mX1_readAll 6 (some (.int xr), τ) σ 0 [(0, .ref (e_a E o 0)), (1, .ref (e_a E a1 0)), (2, .ref (e_a E a2 0)), (3, .ref (e_a E a3 0))] []
  unfold fX1_readAll at h
  refine J_aload_n (pc := 0) 0 dX1_readAll_0 rfl ?_
  refine J_aload_n (pc := 1) 1 dX1_readAll_1 rfl ?_
  refine J_putR (pc := 2) dX1_readAll_2 ho flX1_15 rfl h (fun σ1 h => ?_)
  refine J_aload_n (pc := 5) 0 dX1_readAll_5 rfl ?_
  refine J_aload_n (pc := 6) 2 dX1_readAll_6 rfl ?_
  refine J_putR (pc := 7) dX1_readAll_7 ho flX1_19 rfl h (fun σ2 h => ?_)
  refine J_aload_n (pc := 10) 0 dX1_readAll_10 rfl ?_
  refine J_aload_n (pc := 11) 3 dX1_readAll_11 rfl ?_
  refine J_putR (pc := 12) dX1_readAll_12 ho flX1_23 rfl h (fun σ3 h => ?_)
  refine J_aload_n (pc := 15) 0 dX1_readAll_15 rfl ?_
  refine J_getR (pc := 16) dX1_readAll_16 ho flX1_23 rfl h (fun q4 hq4 h => ?_)
  obtain ⟨σ5, hc6, h⟩ := cV_t h
  refine J_cVv (pc := 19) (ctX5_clear l E q4 hq4 σ3 hc6) dX1_readAll_19 mlX1_27 mvX5_clear hq4 rfl (by decide) rfl (Nat.le_of_ble_eq_true rfl) ?_
  refine J_aload_n (pc := 22) 0 dX1_readAll_22 rfl ?_
  refine J_iconst (pc := 23) (0 : Int32) dX1_readAll_23 (by decide) ?_
  refine J_putI (pc := 24) dX1_readAll_24 ho flX1_32 rfl h (fun σ7 h => ?_)
  refine J_iconst (pc := 27) (0 : Int32) dX1_readAll_27 (by decide) ?_
  refine J_istore (pc := 28) (L' := [(4, .int (0 : Int32)), (0, .ref (e_a E o 0)), (1, .ref (e_a E a1 0)), (2, .ref (e_a E a2 0)), (3, .ref (e_a E a3 0))]) dX1_readAll_28 (by decide) rfl ?_
  refine J_sub (L' := [(0, .ref (e_a E o 0)), (4, .int (0 : Int32))]) [1, 0] rfl ?_
  exact tX1_readAll_30 l E o a1 a2 a3 ho ha1 ha2 ha3 FU (0 : Int32) σ7 h
def fX2_clear (o : Nat) (σ : Mm) : Option (Mm) := p_sc σ o 0 (0 : Int32) (fun σ1 => p_sc σ1 o 1 (0 : Int32) (fun σ2 => p_sc σ2 o 2 (0 : Int32) (fun σ3 => some σ3)))
set_option maxRecDepth 100000 in
set_option maxHeartbeats 4000000 in
theorem ctX2_clear (l : Launch) (E : EV) (o : Nat) (ho : KD o = 2) (σ : Mm) {τ : Mm} (h : fX2_clear o σ = some τ) : Ct l E mX2_clear 0 [.ref (e_a E o 0)] σ (none, τ) := by
  refine Ct.of (by decide +kernel) (Nat.le_of_ble_eq_true rfl) ?_
  show Jd l E mX2_clear 0 (none, τ) σ 0 [(0, .ref (e_a E o 0))] []
  unfold fX2_clear at h
  refine J_aload_n (pc := 0) 0 dX2_clear_0 rfl ?_
  refine J_iconst (pc := 1) (0 : Int32) dX2_clear_1 (by decide) ?_
  refine J_putI (pc := 2) dX2_clear_2 ho flX2_46 rfl h (fun σ1 h => ?_)
  refine J_aload_n (pc := 5) 0 dX2_clear_5 rfl ?_
  refine J_iconst (pc := 6) (0 : Int32) dX2_clear_6 (by decide) ?_
  refine J_putI (pc := 7) dX2_clear_7 ho flX2_50 rfl h (fun σ2 h => ?_)
  refine J_aload_n (pc := 10) 0 dX2_clear_10 rfl ?_
  refine J_iconst (pc := 11) (0 : Int32) dX2_clear_11 (by decide) ?_
  refine J_putI (pc := 12) dX2_clear_12 ho flX2_53 rfl h (fun σ3 h => ?_)
  cases h
  exact J_vret (pc := 15) dX2_clear_15 rfl
def fX2_isTaken (o : Nat) (a1 : Int64) (σ : Mm) : Option (Int32 × Mm) := c_I (fX2_placeNamed o a1 σ) (fun x3 σ1 => if x3 = (-1 : Int32) then (c_I (fX2_vaneNamed o a1 σ1) (fun x6 σ4 => if x6 = (-1 : Int32) then (c_I (fX2_shaftNamed o a1 σ4) (fun x9 σ7 => if x9 = (-1 : Int32) then (some ((0 : Int32), σ7)) else (some ((1 : Int32), σ7)))) else (some ((1 : Int32), σ4)))) else (some ((1 : Int32), σ1)))
set_option maxRecDepth 100000 in
set_option maxHeartbeats 4000000 in
theorem ctX2_isTaken (l : Launch) (E : EV) (o : Nat) (a1 : Int64) (ho : KD o = 2) (σ : Mm) {xr : Int32} {τ : Mm} (h : fX2_isTaken o a1 σ = some (xr, τ)) : Ct l E mX2_isTaken 2 [.ref (e_a E o 0), .long a1] σ (some (.int xr), τ) := by
  refine Ct.of (by decide +kernel) (Nat.le_of_ble_eq_true rfl) ?_
  show Jd l E mX2_isTaken 2 (some (.int xr), τ) σ 0 [(0, .ref (e_a E o 0)), (1, .long a1)] []
  unfold fX2_isTaken at h
  refine J_aload_n (pc := 0) 0 dX2_isTaken_0 rfl ?_
  refine J_lload_n (pc := 1) 1 dX2_isTaken_1 rfl ?_
  obtain ⟨x3, σ1, hc2, h⟩ := cI_t h
  refine J_cVi (pc := 2) (ctX2_placeNamed l E o a1 ho σ hc2) dX2_isTaken_2 mlX2_60 mvX2_placeNamed ho rfl (by decide) rfl (Nat.le_of_ble_eq_true rfl) ?_
  refine J_iconst (pc := 5) (-1 : Int32) dX2_isTaken_5 (by decide) ?_
  refine J_icmp_ne (pc := 6) 27 dX2_isTaken_6 (by decide) h (fun h => ?_) (fun h => ?_)
  · refine J_iconst (pc := 27) (1 : Int32) dX2_isTaken_27 (by decide) ?_
    refine J_goto (pc := 28) 32 dX2_isTaken_28 (by decide) ?_
    cases h
    exact J_iret (pc := 32) dX2_isTaken_32 rfl rfl
  · refine J_aload_n (pc := 9) 0 dX2_isTaken_9 rfl ?_
    refine J_lload_n (pc := 10) 1 dX2_isTaken_10 rfl ?_
    obtain ⟨x6, σ4, hc5, h⟩ := cI_t h
    refine J_cVi (pc := 11) (ctX2_vaneNamed l E o a1 ho σ1 hc5) dX2_isTaken_11 mlX2_64 mvX2_vaneNamed ho rfl (by decide) rfl (Nat.le_of_ble_eq_true rfl) ?_
    refine J_iconst (pc := 14) (-1 : Int32) dX2_isTaken_14 (by decide) ?_
    refine J_icmp_ne (pc := 15) 27 dX2_isTaken_15 (by decide) h (fun h => ?_) (fun h => ?_)
    · refine J_iconst (pc := 27) (1 : Int32) dX2_isTaken_27 (by decide) ?_
      refine J_goto (pc := 28) 32 dX2_isTaken_28 (by decide) ?_
      cases h
      exact J_iret (pc := 32) dX2_isTaken_32 rfl rfl
    · refine J_aload_n (pc := 18) 0 dX2_isTaken_18 rfl ?_
      refine J_lload_n (pc := 19) 1 dX2_isTaken_19 rfl ?_
      obtain ⟨x9, σ7, hc8, h⟩ := cI_t h
      refine J_cVi (pc := 20) (ctX2_shaftNamed l E o a1 ho σ4 hc8) dX2_isTaken_20 mlX2_67 mvX2_shaftNamed ho rfl (by decide) rfl (Nat.le_of_ble_eq_true rfl) ?_
      refine J_iconst (pc := 23) (-1 : Int32) dX2_isTaken_23 (by decide) ?_
      refine J_icmp_eq (pc := 24) 31 dX2_isTaken_24 (by decide) h (fun h => ?_) (fun h => ?_)
      · refine J_iconst (pc := 31) (0 : Int32) dX2_isTaken_31 (by decide) ?_
        cases h
        exact J_iret (pc := 32) dX2_isTaken_32 rfl rfl
      · refine J_iconst (pc := 27) (1 : Int32) dX2_isTaken_27 (by decide) ?_
        refine J_goto (pc := 28) 32 dX2_isTaken_28 (by decide) ?_
        cases h
        exact J_iret (pc := 32) dX2_isTaken_32 rfl rfl
def fX2_copyFrom (o : Nat) (a1 : Nat) (σ : Mm) : Option (Mm) := r_sc σ a1 0 (fun x1 => p_sc σ o 0 x1 (fun σ2 => r_sc σ2 a1 1 (fun x3 => p_sc σ2 o 1 x3 (fun σ4 => r_sc σ4 a1 2 (fun x5 => p_sc σ4 o 2 x5 (fun σ6 => a_cl σ6 a1 0 4 (0 : Int32) o 0 4 (0 : Int32) (4 : Int32) (fun σ7 => a_cl σ7 a1 1 8 (0 : Int32) o 1 8 (0 : Int32) (8 : Int32) (fun σ8 => a_cl σ8 a1 2 10 (0 : Int32) o 2 10 (0 : Int32) (10 : Int32) (fun σ9 => a_ci σ9 a1 3 8 (0 : Int32) o 3 8 (0 : Int32) (8 : Int32) (fun σ10 => a_ci σ10 a1 4 8 (0 : Int32) o 4 8 (0 : Int32) (8 : Int32) (fun σ11 => a_ci σ11 a1 5 8 (0 : Int32) o 5 8 (0 : Int32) (8 : Int32) (fun σ12 => a_ci σ12 a1 6 8 (0 : Int32) o 6 8 (0 : Int32) (8 : Int32) (fun σ13 => a_ci σ13 a1 7 10 (0 : Int32) o 7 10 (0 : Int32) (10 : Int32) (fun σ14 => a_ci σ14 a1 8 10 (0 : Int32) o 8 10 (0 : Int32) (10 : Int32) (fun σ15 => a_ci σ15 a1 9 10 (0 : Int32) o 9 10 (0 : Int32) (10 : Int32) (fun σ16 => a_ci σ16 a1 10 10 (0 : Int32) o 10 10 (0 : Int32) (10 : Int32) (fun σ17 => some σ17)))))))))))))))))
set_option maxRecDepth 100000 in
set_option maxHeartbeats 4000000 in
theorem ctX2_copyFrom (l : Launch) (E : EV) (o : Nat) (a1 : Nat) (ho : KD o = 2) (ha1 : KD a1 = 2) (σ : Mm) {τ : Mm} (h : fX2_copyFrom o a1 σ = some τ) : Ct l E mX2_copyFrom 1 [.ref (e_a E o 0), .ref (e_a E a1 0)] σ (none, τ) := by
  refine Ct.of (by decide +kernel) (Nat.le_of_ble_eq_true rfl) ?_
  show Jd l E mX2_copyFrom 1 (none, τ) σ 0 [(0, .ref (e_a E o 0)), (1, .ref (e_a E a1 0))] []
  unfold fX2_copyFrom at h
  refine J_aload_n (pc := 0) 0 dX2_copyFrom_0 rfl ?_
  refine J_aload_n (pc := 1) 1 dX2_copyFrom_1 rfl ?_
  refine J_getI (pc := 2) dX2_copyFrom_2 ha1 flX2_46 rfl h (fun x1 h => ?_)
  refine J_putI (pc := 5) dX2_copyFrom_5 ho flX2_46 rfl h (fun σ2 h => ?_)
  refine J_aload_n (pc := 8) 0 dX2_copyFrom_8 rfl ?_
  refine J_aload_n (pc := 9) 1 dX2_copyFrom_9 rfl ?_
  refine J_getI (pc := 10) dX2_copyFrom_10 ha1 flX2_50 rfl h (fun x3 h => ?_)
  refine J_putI (pc := 13) dX2_copyFrom_13 ho flX2_50 rfl h (fun σ4 h => ?_)
  refine J_aload_n (pc := 16) 0 dX2_copyFrom_16 rfl ?_
  refine J_aload_n (pc := 17) 1 dX2_copyFrom_17 rfl ?_
  refine J_getI (pc := 18) dX2_copyFrom_18 ha1 flX2_53 rfl h (fun x5 h => ?_)
  refine J_putI (pc := 21) dX2_copyFrom_21 ho flX2_53 rfl h (fun σ6 h => ?_)
  refine J_aload_n (pc := 24) 1 dX2_copyFrom_24 rfl ?_
  refine J_getA (pc := 25) dX2_copyFrom_25 ha1 flX2_9 rfl ?_
  refine J_iconst (pc := 28) (0 : Int32) dX2_copyFrom_28 (by decide) ?_
  refine J_aload_n (pc := 29) 0 dX2_copyFrom_29 rfl ?_
  refine J_getA (pc := 30) dX2_copyFrom_30 ho flX2_9 rfl ?_
  refine J_iconst (pc := 33) (0 : Int32) dX2_copyFrom_33 (by decide) ?_
  refine J_iconst (pc := 34) (4 : Int32) dX2_copyFrom_34 (by decide) ?_
  refine J_cpL (pc := 35) dX2_copyFrom_35 mcX2_70 ha1 ha2_0 ho ha2_0 (by decide) (Nat.le_of_ble_eq_true rfl) h (fun σ7 h => ?_)
  refine J_aload_n (pc := 38) 1 dX2_copyFrom_38 rfl ?_
  refine J_getA (pc := 39) dX2_copyFrom_39 ha1 flX2_15 rfl ?_
  refine J_iconst (pc := 42) (0 : Int32) dX2_copyFrom_42 (by decide) ?_
  refine J_aload_n (pc := 43) 0 dX2_copyFrom_43 rfl ?_
  refine J_getA (pc := 44) dX2_copyFrom_44 ho flX2_15 rfl ?_
  refine J_iconst (pc := 47) (0 : Int32) dX2_copyFrom_47 (by decide) ?_
  refine J_bipush (pc := 48) (8 : Int32) dX2_copyFrom_48 (by decide) ?_
  refine J_cpL (pc := 50) dX2_copyFrom_50 mcX2_70 ha1 ha2_1 ho ha2_1 (by decide) (Nat.le_of_ble_eq_true rfl) h (fun σ8 h => ?_)
  refine J_aload_n (pc := 53) 1 dX2_copyFrom_53 rfl ?_
  refine J_getA (pc := 54) dX2_copyFrom_54 ha1 flX2_18 rfl ?_
  refine J_iconst (pc := 57) (0 : Int32) dX2_copyFrom_57 (by decide) ?_
  refine J_aload_n (pc := 58) 0 dX2_copyFrom_58 rfl ?_
  refine J_getA (pc := 59) dX2_copyFrom_59 ho flX2_18 rfl ?_
  refine J_iconst (pc := 62) (0 : Int32) dX2_copyFrom_62 (by decide) ?_
  refine J_bipush (pc := 63) (10 : Int32) dX2_copyFrom_63 (by decide) ?_
  refine J_cpL (pc := 65) dX2_copyFrom_65 mcX2_70 ha1 ha2_2 ho ha2_2 (by decide) (Nat.le_of_ble_eq_true rfl) h (fun σ9 h => ?_)
  refine J_aload_n (pc := 68) 1 dX2_copyFrom_68 rfl ?_
  refine J_getA (pc := 69) dX2_copyFrom_69 ha1 flX2_21 rfl ?_
  refine J_iconst (pc := 72) (0 : Int32) dX2_copyFrom_72 (by decide) ?_
  refine J_aload_n (pc := 73) 0 dX2_copyFrom_73 rfl ?_
  refine J_getA (pc := 74) dX2_copyFrom_74 ho flX2_21 rfl ?_
  refine J_iconst (pc := 77) (0 : Int32) dX2_copyFrom_77 (by decide) ?_
  refine J_bipush (pc := 78) (8 : Int32) dX2_copyFrom_78 (by decide) ?_
  refine J_cpI (pc := 80) dX2_copyFrom_80 mcX2_70 ha1 ha2_3 ho ha2_3 (by decide) (Nat.le_of_ble_eq_true rfl) h (fun σ10 h => ?_)
  refine J_aload_n (pc := 83) 1 dX2_copyFrom_83 rfl ?_
  refine J_getA (pc := 84) dX2_copyFrom_84 ha1 flX2_25 rfl ?_
  refine J_iconst (pc := 87) (0 : Int32) dX2_copyFrom_87 (by decide) ?_
  refine J_aload_n (pc := 88) 0 dX2_copyFrom_88 rfl ?_
  refine J_getA (pc := 89) dX2_copyFrom_89 ho flX2_25 rfl ?_
  refine J_iconst (pc := 92) (0 : Int32) dX2_copyFrom_92 (by decide) ?_
  refine J_bipush (pc := 93) (8 : Int32) dX2_copyFrom_93 (by decide) ?_
  refine J_cpI (pc := 95) dX2_copyFrom_95 mcX2_70 ha1 ha2_4 ho ha2_4 (by decide) (Nat.le_of_ble_eq_true rfl) h (fun σ11 h => ?_)
  refine J_aload_n (pc := 98) 1 dX2_copyFrom_98 rfl ?_
  refine J_getA (pc := 99) dX2_copyFrom_99 ha1 flX2_28 rfl ?_
  refine J_iconst (pc := 102) (0 : Int32) dX2_copyFrom_102 (by decide) ?_
  refine J_aload_n (pc := 103) 0 dX2_copyFrom_103 rfl ?_
  refine J_getA (pc := 104) dX2_copyFrom_104 ho flX2_28 rfl ?_
  refine J_iconst (pc := 107) (0 : Int32) dX2_copyFrom_107 (by decide) ?_
  refine J_bipush (pc := 108) (8 : Int32) dX2_copyFrom_108 (by decide) ?_
  refine J_cpI (pc := 110) dX2_copyFrom_110 mcX2_70 ha1 ha2_5 ho ha2_5 (by decide) (Nat.le_of_ble_eq_true rfl) h (fun σ12 h => ?_)
  refine J_aload_n (pc := 113) 1 dX2_copyFrom_113 rfl ?_
  refine J_getA (pc := 114) dX2_copyFrom_114 ha1 flX2_31 rfl ?_
  refine J_iconst (pc := 117) (0 : Int32) dX2_copyFrom_117 (by decide) ?_
  refine J_aload_n (pc := 118) 0 dX2_copyFrom_118 rfl ?_
  refine J_getA (pc := 119) dX2_copyFrom_119 ho flX2_31 rfl ?_
  refine J_iconst (pc := 122) (0 : Int32) dX2_copyFrom_122 (by decide) ?_
  refine J_bipush (pc := 123) (8 : Int32) dX2_copyFrom_123 (by decide) ?_
  refine J_cpI (pc := 125) dX2_copyFrom_125 mcX2_70 ha1 ha2_6 ho ha2_6 (by decide) (Nat.le_of_ble_eq_true rfl) h (fun σ13 h => ?_)
  refine J_aload_n (pc := 128) 1 dX2_copyFrom_128 rfl ?_
  refine J_getA (pc := 129) dX2_copyFrom_129 ha1 flX2_34 rfl ?_
  refine J_iconst (pc := 132) (0 : Int32) dX2_copyFrom_132 (by decide) ?_
  refine J_aload_n (pc := 133) 0 dX2_copyFrom_133 rfl ?_
  refine J_getA (pc := 134) dX2_copyFrom_134 ho flX2_34 rfl ?_
  refine J_iconst (pc := 137) (0 : Int32) dX2_copyFrom_137 (by decide) ?_
  refine J_bipush (pc := 138) (10 : Int32) dX2_copyFrom_138 (by decide) ?_
  refine J_cpI (pc := 140) dX2_copyFrom_140 mcX2_70 ha1 ha2_7 ho ha2_7 (by decide) (Nat.le_of_ble_eq_true rfl) h (fun σ14 h => ?_)
  refine J_aload_n (pc := 143) 1 dX2_copyFrom_143 rfl ?_
  refine J_getA (pc := 144) dX2_copyFrom_144 ha1 flX2_37 rfl ?_
  refine J_iconst (pc := 147) (0 : Int32) dX2_copyFrom_147 (by decide) ?_
  refine J_aload_n (pc := 148) 0 dX2_copyFrom_148 rfl ?_
  refine J_getA (pc := 149) dX2_copyFrom_149 ho flX2_37 rfl ?_
  refine J_iconst (pc := 152) (0 : Int32) dX2_copyFrom_152 (by decide) ?_
  refine J_bipush (pc := 153) (10 : Int32) dX2_copyFrom_153 (by decide) ?_
  refine J_cpI (pc := 155) dX2_copyFrom_155 mcX2_70 ha1 ha2_8 ho ha2_8 (by decide) (Nat.le_of_ble_eq_true rfl) h (fun σ15 h => ?_)
  refine J_aload_n (pc := 158) 1 dX2_copyFrom_158 rfl ?_
  refine J_getA (pc := 159) dX2_copyFrom_159 ha1 flX2_40 rfl ?_
  refine J_iconst (pc := 162) (0 : Int32) dX2_copyFrom_162 (by decide) ?_
  refine J_aload_n (pc := 163) 0 dX2_copyFrom_163 rfl ?_
  refine J_getA (pc := 164) dX2_copyFrom_164 ho flX2_40 rfl ?_
  refine J_iconst (pc := 167) (0 : Int32) dX2_copyFrom_167 (by decide) ?_
  refine J_bipush (pc := 168) (10 : Int32) dX2_copyFrom_168 (by decide) ?_
  refine J_cpI (pc := 170) dX2_copyFrom_170 mcX2_70 ha1 ha2_9 ho ha2_9 (by decide) (Nat.le_of_ble_eq_true rfl) h (fun σ16 h => ?_)
  refine J_aload_n (pc := 173) 1 dX2_copyFrom_173 rfl ?_
  refine J_getA (pc := 174) dX2_copyFrom_174 ha1 flX2_43 rfl ?_
  refine J_iconst (pc := 177) (0 : Int32) dX2_copyFrom_177 (by decide) ?_
  refine J_aload_n (pc := 178) 0 dX2_copyFrom_178 rfl ?_
  refine J_getA (pc := 179) dX2_copyFrom_179 ho flX2_43 rfl ?_
  refine J_iconst (pc := 182) (0 : Int32) dX2_copyFrom_182 (by decide) ?_
  refine J_bipush (pc := 183) (10 : Int32) dX2_copyFrom_183 (by decide) ?_
  refine J_cpI (pc := 185) dX2_copyFrom_185 mcX2_70 ha1 ha2_10 ho ha2_10 (by decide) (Nat.le_of_ble_eq_true rfl) h (fun σ17 h => ?_)
  cases h
  exact J_vret (pc := 188) dX2_copyFrom_188 rfl
def fX4_copyFrom (o : Nat) (a1 : Nat) (σ : Mm) : Option (Mm) := a_ci σ a1 0 4 (0 : Int32) o 0 4 (0 : Int32) (4 : Int32) (fun σ1 => a_ci σ1 a1 1 4 (0 : Int32) o 1 4 (0 : Int32) (4 : Int32) (fun σ2 => a_ci σ2 a1 2 8 (0 : Int32) o 2 8 (0 : Int32) (8 : Int32) (fun σ3 => a_ci σ3 a1 3 8 (0 : Int32) o 3 8 (0 : Int32) (8 : Int32) (fun σ4 => a_ci σ4 a1 4 8 (0 : Int32) o 4 8 (0 : Int32) (8 : Int32) (fun σ5 => a_ci σ5 a1 5 10 (0 : Int32) o 5 10 (0 : Int32) (10 : Int32) (fun σ6 => r_sc σ6 a1 6 (fun x7 => p_sc σ6 o 6 x7 (fun σ8 => r_sc σ8 a1 7 (fun x9 => p_sc σ8 o 7 x9 (fun σ10 => r_sc σ10 a1 8 (fun x11 => p_sc σ10 o 8 x11 (fun σ12 => some σ12))))))))))))
set_option maxRecDepth 100000 in
set_option maxHeartbeats 4000000 in
theorem ctX4_copyFrom (l : Launch) (E : EV) (o : Nat) (a1 : Nat) (ho : KD o = 4) (ha1 : KD a1 = 4) (σ : Mm) {τ : Mm} (h : fX4_copyFrom o a1 σ = some τ) : Ct l E mX4_copyFrom 1 [.ref (e_a E o 0), .ref (e_a E a1 0)] σ (none, τ) := by
  refine Ct.of (by decide +kernel) (Nat.le_of_ble_eq_true rfl) ?_
  show Jd l E mX4_copyFrom 1 (none, τ) σ 0 [(0, .ref (e_a E o 0)), (1, .ref (e_a E a1 0))] []
  unfold fX4_copyFrom at h
  refine J_aload_n (pc := 0) 1 dX4_copyFrom_0 rfl ?_
  refine J_getA (pc := 1) dX4_copyFrom_1 ha1 flX4_9 rfl ?_
  refine J_iconst (pc := 4) (0 : Int32) dX4_copyFrom_4 (by decide) ?_
  refine J_aload_n (pc := 5) 0 dX4_copyFrom_5 rfl ?_
  refine J_getA (pc := 6) dX4_copyFrom_6 ho flX4_9 rfl ?_
  refine J_iconst (pc := 9) (0 : Int32) dX4_copyFrom_9 (by decide) ?_
  refine J_iconst (pc := 10) (4 : Int32) dX4_copyFrom_10 (by decide) ?_
  refine J_cpI (pc := 11) dX4_copyFrom_11 mcX4_52 ha1 ha4_0 ho ha4_0 (by decide) (Nat.le_of_ble_eq_true rfl) h (fun σ1 h => ?_)
  refine J_aload_n (pc := 14) 1 dX4_copyFrom_14 rfl ?_
  refine J_getA (pc := 15) dX4_copyFrom_15 ha1 flX4_15 rfl ?_
  refine J_iconst (pc := 18) (0 : Int32) dX4_copyFrom_18 (by decide) ?_
  refine J_aload_n (pc := 19) 0 dX4_copyFrom_19 rfl ?_
  refine J_getA (pc := 20) dX4_copyFrom_20 ho flX4_15 rfl ?_
  refine J_iconst (pc := 23) (0 : Int32) dX4_copyFrom_23 (by decide) ?_
  refine J_iconst (pc := 24) (4 : Int32) dX4_copyFrom_24 (by decide) ?_
  refine J_cpI (pc := 25) dX4_copyFrom_25 mcX4_52 ha1 ha4_1 ho ha4_1 (by decide) (Nat.le_of_ble_eq_true rfl) h (fun σ2 h => ?_)
  refine J_aload_n (pc := 28) 1 dX4_copyFrom_28 rfl ?_
  refine J_getA (pc := 29) dX4_copyFrom_29 ha1 flX4_18 rfl ?_
  refine J_iconst (pc := 32) (0 : Int32) dX4_copyFrom_32 (by decide) ?_
  refine J_aload_n (pc := 33) 0 dX4_copyFrom_33 rfl ?_
  refine J_getA (pc := 34) dX4_copyFrom_34 ho flX4_18 rfl ?_
  refine J_iconst (pc := 37) (0 : Int32) dX4_copyFrom_37 (by decide) ?_
  refine J_bipush (pc := 38) (8 : Int32) dX4_copyFrom_38 (by decide) ?_
  refine J_cpI (pc := 40) dX4_copyFrom_40 mcX4_52 ha1 ha4_2 ho ha4_2 (by decide) (Nat.le_of_ble_eq_true rfl) h (fun σ3 h => ?_)
  refine J_aload_n (pc := 43) 1 dX4_copyFrom_43 rfl ?_
  refine J_getA (pc := 44) dX4_copyFrom_44 ha1 flX4_21 rfl ?_
  refine J_iconst (pc := 47) (0 : Int32) dX4_copyFrom_47 (by decide) ?_
  refine J_aload_n (pc := 48) 0 dX4_copyFrom_48 rfl ?_
  refine J_getA (pc := 49) dX4_copyFrom_49 ho flX4_21 rfl ?_
  refine J_iconst (pc := 52) (0 : Int32) dX4_copyFrom_52 (by decide) ?_
  refine J_bipush (pc := 53) (8 : Int32) dX4_copyFrom_53 (by decide) ?_
  refine J_cpI (pc := 55) dX4_copyFrom_55 mcX4_52 ha1 ha4_3 ho ha4_3 (by decide) (Nat.le_of_ble_eq_true rfl) h (fun σ4 h => ?_)
  refine J_aload_n (pc := 58) 1 dX4_copyFrom_58 rfl ?_
  refine J_getA (pc := 59) dX4_copyFrom_59 ha1 flX4_24 rfl ?_
  refine J_iconst (pc := 62) (0 : Int32) dX4_copyFrom_62 (by decide) ?_
  refine J_aload_n (pc := 63) 0 dX4_copyFrom_63 rfl ?_
  refine J_getA (pc := 64) dX4_copyFrom_64 ho flX4_24 rfl ?_
  refine J_iconst (pc := 67) (0 : Int32) dX4_copyFrom_67 (by decide) ?_
  refine J_bipush (pc := 68) (8 : Int32) dX4_copyFrom_68 (by decide) ?_
  refine J_cpI (pc := 70) dX4_copyFrom_70 mcX4_52 ha1 ha4_4 ho ha4_4 (by decide) (Nat.le_of_ble_eq_true rfl) h (fun σ5 h => ?_)
  refine J_aload_n (pc := 73) 1 dX4_copyFrom_73 rfl ?_
  refine J_getA (pc := 74) dX4_copyFrom_74 ha1 flX4_27 rfl ?_
  refine J_iconst (pc := 77) (0 : Int32) dX4_copyFrom_77 (by decide) ?_
  refine J_aload_n (pc := 78) 0 dX4_copyFrom_78 rfl ?_
  refine J_getA (pc := 79) dX4_copyFrom_79 ho flX4_27 rfl ?_
  refine J_iconst (pc := 82) (0 : Int32) dX4_copyFrom_82 (by decide) ?_
  refine J_bipush (pc := 83) (10 : Int32) dX4_copyFrom_83 (by decide) ?_
  refine J_cpI (pc := 85) dX4_copyFrom_85 mcX4_52 ha1 ha4_5 ho ha4_5 (by decide) (Nat.le_of_ble_eq_true rfl) h (fun σ6 h => ?_)
  refine J_aload_n (pc := 88) 0 dX4_copyFrom_88 rfl ?_
  refine J_aload_n (pc := 89) 1 dX4_copyFrom_89 rfl ?_
  refine J_getI (pc := 90) dX4_copyFrom_90 ha1 flX4_43 rfl h (fun x7 h => ?_)
  refine J_putI (pc := 93) dX4_copyFrom_93 ho flX4_43 rfl h (fun σ8 h => ?_)
  refine J_aload_n (pc := 96) 0 dX4_copyFrom_96 rfl ?_
  refine J_aload_n (pc := 97) 1 dX4_copyFrom_97 rfl ?_
  refine J_getI (pc := 98) dX4_copyFrom_98 ha1 flX4_46 rfl h (fun x9 h => ?_)
  refine J_putI (pc := 101) dX4_copyFrom_101 ho flX4_46 rfl h (fun σ10 h => ?_)
  refine J_aload_n (pc := 104) 0 dX4_copyFrom_104 rfl ?_
  refine J_aload_n (pc := 105) 1 dX4_copyFrom_105 rfl ?_
  refine J_getI (pc := 106) dX4_copyFrom_106 ha1 flX4_49 rfl h (fun x11 h => ?_)
  refine J_putI (pc := 109) dX4_copyFrom_109 ho flX4_49 rfl h (fun σ12 h => ?_)
  cases h
  exact J_vret (pc := 112) dX4_copyFrom_112 rfl
def fX10_listenFor (o : Nat) (a1 : Int32) (σ : Mm) : Option (Mm) := p_sc σ o 7 a1 (fun σ1 => p_sc σ1 o 8 (-1 : Int32) (fun σ2 => some σ2))
set_option maxRecDepth 100000 in
set_option maxHeartbeats 4000000 in
theorem ctX10_listenFor (l : Launch) (E : EV) (o : Nat) (a1 : Int32) (ho : KD o = 10) (σ : Mm) {τ : Mm} (h : fX10_listenFor o a1 σ = some τ) : Ct l E mX10_listenFor 0 [.ref (e_a E o 0), .int a1] σ (none, τ) := by
  refine Ct.of (by decide +kernel) (Nat.le_of_ble_eq_true rfl) ?_
  show Jd l E mX10_listenFor 0 (none, τ) σ 0 [(0, .ref (e_a E o 0)), (1, .int a1)] []
  unfold fX10_listenFor at h
  refine J_aload_n (pc := 0) 0 dX10_listenFor_0 rfl ?_
  refine J_iload_n (pc := 1) 1 dX10_listenFor_1 rfl ?_
  refine J_putI (pc := 2) dX10_listenFor_2 ho flX10_40 rfl h (fun σ1 h => ?_)
  refine J_aload_n (pc := 5) 0 dX10_listenFor_5 rfl ?_
  refine J_iconst (pc := 6) (-1 : Int32) dX10_listenFor_6 (by decide) ?_
  refine J_putI (pc := 7) dX10_listenFor_7 ho flX10_43 rfl h (fun σ2 h => ?_)
  cases h
  exact J_vret (pc := 10) dX10_listenFor_10 rfl
def fX10_aim_2 (o : Nat) : Nat → Int32 → Mm → Option (Mm)
  | 0, _, _ => none
  | n + 1, v1, σ => r_rf σ o 0 2 (fun q1 => r_sc σ q1 1 (fun x2 => if x2 ≤ v1 then (some σ) else (r_rf σ o 0 2 (fun q3 => g_ar σ q3 3 8 v1 (fun x4 => r_rf σ o 0 2 (fun q5 => g_ar σ q5 4 8 v1 (fun x6 => r_rf σ o 1 4 (fun q7 => g_ar σ q7 0 4 x6 (fun x8 => r_rf σ o 1 4 (fun q9 => g_ar σ q9 1 4 x6 (fun x10 => if x10 = 0 then (s_ar σ o 0 8 v1 (-1 : Int32) (fun σ13 => (fX10_aim_2 o n) (v1 + (1 : Int32)) σ13)) else (if (((x4 * x8) + (8 : Int32)) / (16 : Int32)) < x4 then (s_ar σ o 0 8 v1 (((x4 * x8) + (8 : Int32)) / (16 : Int32)) (fun σ11 => (fX10_aim_2 o n) (v1 + (1 : Int32)) σ11)) else (s_ar σ o 0 8 v1 (0 : Int32) (fun σ12 => (fX10_aim_2 o n) (v1 + (1 : Int32)) σ12))))))))))))))
set_option maxRecDepth 100000 in
set_option maxHeartbeats 4000000 in
theorem tX10_aim_2 (l : Launch) (E : EV) {τ : Mm} (o : Nat) (ho : KD o = 10) : ∀ (n : Nat) (v1 : Int32) (σ : Mm), fX10_aim_2 o n v1 σ = some τ → Jd l E mX10_aim 0 (none, τ) σ 2 [(0, .ref (e_a E o 0)), (1, .int v1)] [] := by
  intro n
  induction n with
  | zero => intro v1 σ h; rw [fX10_aim_2] at h; cases h
  | succ n ih =>
    intro v1 σ h
    rw [fX10_aim_2] at h
    refine J_iload_n (pc := 2) 1 dX10_aim_2 rfl ?_
    refine J_aload_n (pc := 3) 0 dX10_aim_3 rfl ?_
    refine J_getR (pc := 4) dX10_aim_4 ho flX10_18 rfl h (fun q1 hq1 h => ?_)
    refine J_getI (pc := 7) dX10_aim_7 hq1 flX10_58 rfl h (fun x2 h => ?_)
    refine J_icmp_ge (pc := 10) 98 dX10_aim_10 (by decide) h (fun h => ?_) (fun h => ?_)
    · cases h
      exact J_vret (pc := 98) dX10_aim_98 rfl
    · refine J_aload_n (pc := 13) 0 dX10_aim_13 rfl ?_
      refine J_getR (pc := 14) dX10_aim_14 ho flX10_18 rfl h (fun q3 hq3 h => ?_)
      refine J_getA (pc := 17) dX10_aim_17 hq3 flX10_63 rfl ?_
      refine J_iload_n (pc := 20) 1 dX10_aim_20 rfl ?_
      refine J_iald (pc := 21) dX10_aim_21 hq3 ha2_3 h (fun x4 h => ?_)
      refine J_istore_n (pc := 22) (L' := [(2, .int x4), (0, .ref (e_a E o 0)), (1, .int v1)]) dX10_aim_22 (by decide) rfl ?_
      refine J_aload_n (pc := 23) 1 dX10_aim_23 rfl ?_
      refine J_getR (pc := 24) dX10_aim_24 ho flX10_18 rfl h (fun q5 hq5 h => ?_)
      refine J_getA (pc := 27) dX10_aim_27 hq5 flX10_66 rfl ?_
      refine J_iload_n (pc := 30) 2 dX10_aim_30 rfl ?_
      refine J_iald (pc := 31) dX10_aim_31 hq5 ha2_4 h (fun x6 h => ?_)
      refine J_istore_n (pc := 32) (L' := [(3, .int x6), (2, .int x4), (0, .ref (e_a E o 0)), (1, .int v1)]) dX10_aim_32 (by decide) rfl ?_
      refine J_iload_n (pc := 33) 1 dX10_aim_33 rfl ?_
      refine J_aload_n (pc := 34) 2 dX10_aim_34 rfl ?_
      refine J_getR (pc := 35) dX10_aim_35 ho flX10_22 rfl h (fun q7 hq7 h => ?_)
      refine J_getA (pc := 38) dX10_aim_38 hq7 flX10_46 rfl ?_
      refine J_iload_n (pc := 41) 0 dX10_aim_41 rfl ?_
      refine J_iald (pc := 42) dX10_aim_42 hq7 ha4_0 h (fun x8 h => ?_)
      refine J_imul (pc := 43) dX10_aim_43 ?_
      refine J_bipush (pc := 44) (8 : Int32) dX10_aim_44 (by decide) ?_
      refine J_iadd (pc := 46) dX10_aim_46 ?_
      refine J_bipush (pc := 47) (16 : Int32) dX10_aim_47 (by decide) ?_
      refine J_idiv (pc := 49) dX10_aim_49 (by decide) ?_
      refine J_istore (pc := 50) (L' := [(4, .int (((x4 * x8) + (8 : Int32)) / (16 : Int32))), (3, .int x6), (2, .int x4), (0, .ref (e_a E o 0)), (1, .int v1)]) dX10_aim_50 (by decide) rfl ?_
      refine J_aload_n (pc := 52) 3 dX10_aim_52 rfl ?_
      refine J_getR (pc := 53) dX10_aim_53 ho flX10_22 rfl h (fun q9 hq9 h => ?_)
      refine J_getA (pc := 56) dX10_aim_56 hq9 flX10_51 rfl ?_
      refine J_iload_n (pc := 59) 1 dX10_aim_59 rfl ?_
      refine J_iald (pc := 60) dX10_aim_60 hq9 ha4_1 h (fun x10 h => ?_)
      refine J_if_ne (pc := 61) 74 dX10_aim_61 (by decide) h (fun h => ?_) (fun h => ?_)
      · refine J_aload_n (pc := 74) 3 dX10_aim_74 rfl ?_
        refine J_getA (pc := 75) dX10_aim_75 ho flX10_9 rfl ?_
        refine J_iload_n (pc := 78) 4 dX10_aim_78 rfl ?_
        refine J_iload (pc := 79) 0 dX10_aim_79 rfl ?_
        refine J_iload_n (pc := 81) 2 dX10_aim_81 rfl ?_
        refine J_icmp_lt (pc := 82) 89 dX10_aim_82 (by decide) h (fun h => ?_) (fun h => ?_)
        · refine J_iload (pc := 89) 0 dX10_aim_89 rfl ?_
          refine J_iast (pc := 91) dX10_aim_91 ho ha10_0 h (fun σ11 h => ?_)
          refine J_iinc (pc := 92) (L' := [(1, .int (v1 + (1 : Int32))), (4, .int (((x4 * x8) + (8 : Int32)) / (16 : Int32))), (3, .int x6), (2, .int x4), (0, .ref (e_a E o 0))]) 4 (v1 + (1 : Int32)) dX10_aim_92 rfl (by rfl) (by decide) rfl ?_
          refine J_goto (pc := 95) 2 dX10_aim_95 (by decide) ?_
          refine J_sub (L' := [(0, .ref (e_a E o 0)), (1, .int (v1 + (1 : Int32)))]) [4, 0] rfl ?_
          exact ih (v1 + (1 : Int32)) σ11 h
        · refine J_iconst (pc := 85) (0 : Int32) dX10_aim_85 (by decide) ?_
          refine J_goto (pc := 86) 91 dX10_aim_86 (by decide) ?_
          refine J_iast (pc := 91) dX10_aim_91 ho ha10_0 h (fun σ12 h => ?_)
          refine J_iinc (pc := 92) (L' := [(1, .int (v1 + (1 : Int32))), (4, .int (((x4 * x8) + (8 : Int32)) / (16 : Int32))), (3, .int x6), (2, .int x4), (0, .ref (e_a E o 0))]) 4 (v1 + (1 : Int32)) dX10_aim_92 rfl (by rfl) (by decide) rfl ?_
          refine J_goto (pc := 95) 2 dX10_aim_95 (by decide) ?_
          refine J_sub (L' := [(0, .ref (e_a E o 0)), (1, .int (v1 + (1 : Int32)))]) [4, 0] rfl ?_
          exact ih (v1 + (1 : Int32)) σ12 h
      · refine J_aload_n (pc := 64) 3 dX10_aim_64 rfl ?_
        refine J_getA (pc := 65) dX10_aim_65 ho flX10_9 rfl ?_
        refine J_iload_n (pc := 68) 4 dX10_aim_68 rfl ?_
        refine J_iconst (pc := 69) (-1 : Int32) dX10_aim_69 (by decide) ?_
        refine J_iast (pc := 70) dX10_aim_70 ho ha10_0 h (fun σ13 h => ?_)
        refine J_goto (pc := 71) 92 dX10_aim_71 (by decide) ?_
        refine J_iinc (pc := 92) (L' := [(1, .int (v1 + (1 : Int32))), (4, .int (((x4 * x8) + (8 : Int32)) / (16 : Int32))), (3, .int x6), (2, .int x4), (0, .ref (e_a E o 0))]) 4 (v1 + (1 : Int32)) dX10_aim_92 rfl (by rfl) (by decide) rfl ?_
        refine J_goto (pc := 95) 2 dX10_aim_95 (by decide) ?_
        refine J_sub (L' := [(0, .ref (e_a E o 0)), (1, .int (v1 + (1 : Int32)))]) [4, 0] rfl ?_
        exact ih (v1 + (1 : Int32)) σ13 h
def fX10_aim (o : Nat) (σ : Mm) : Option (Mm) := fX10_aim_2 o FU (0 : Int32) σ
set_option maxRecDepth 100000 in
set_option maxHeartbeats 4000000 in
theorem ctX10_aim (l : Launch) (E : EV) (o : Nat) (ho : KD o = 10) (σ : Mm) {τ : Mm} (h : fX10_aim o σ = some τ) : Ct l E mX10_aim 0 [.ref (e_a E o 0)] σ (none, τ) := by
  refine Ct.of (by decide +kernel) (Nat.le_of_ble_eq_true rfl) ?_
  show Jd l E mX10_aim 0 (none, τ) σ 0 [(0, .ref (e_a E o 0))] []
  unfold fX10_aim at h
  refine J_iconst (pc := 0) (0 : Int32) dX10_aim_0 (by decide) ?_
  refine J_istore_n (pc := 1) (L' := [(1, .int (0 : Int32)), (0, .ref (e_a E o 0))]) dX10_aim_1 (by decide) rfl ?_
  refine J_sub (L' := [(0, .ref (e_a E o 0)), (1, .int (0 : Int32))]) [1, 0] rfl ?_
  exact tX10_aim_2 l E o ho FU (0 : Int32) σ h
def fX10_use (o : Nat) (a1 : Nat) (a2 : Nat) (σ : Mm) : Option (Mm) := p_rf σ o 0 a1 (fun σ1 => p_rf σ1 o 1 a2 (fun σ2 => p_sc σ2 o 5 (0 : Int32) (fun σ3 => p_sc σ3 o 6 (0 : Int32) (fun σ4 => c_V (fX10_listenFor o (-1 : Int32) σ4) (fun σ5 => c_V (fX10_aim o σ5) (fun σ7 => some σ7))))))
set_option maxRecDepth 100000 in
set_option maxHeartbeats 4000000 in
theorem ctX10_use (l : Launch) (E : EV) (o : Nat) (a1 : Nat) (a2 : Nat) (ho : KD o = 10) (ha1 : KD a1 = 2) (ha2 : KD a2 = 4) (σ : Mm) {τ : Mm} (h : fX10_use o a1 a2 σ = some τ) : Ct l E mX10_use 1 [.ref (e_a E o 0), .ref (e_a E a1 0), .ref (e_a E a2 0)] σ (none, τ) := by
  refine Ct.of (by decide +kernel) (Nat.le_of_ble_eq_true rfl) ?_
  show Jd l E mX10_use 1 (none, τ) σ 0 [(0, .ref (e_a E o 0)), (1, .ref (e_a E a1 0)), (2, .ref (e_a E a2 0))] []
  unfold fX10_use at h
  refine J_aload_n (pc := 0) 0 dX10_use_0 rfl ?_
  refine J_aload_n (pc := 1) 1 dX10_use_1 rfl ?_
  refine J_putR (pc := 2) dX10_use_2 ho flX10_18 rfl h (fun σ1 h => ?_)
  refine J_aload_n (pc := 5) 0 dX10_use_5 rfl ?_
  refine J_aload_n (pc := 6) 2 dX10_use_6 rfl ?_
  refine J_putR (pc := 7) dX10_use_7 ho flX10_22 rfl h (fun σ2 h => ?_)
  refine J_aload_n (pc := 10) 0 dX10_use_10 rfl ?_
  refine J_iconst (pc := 11) (0 : Int32) dX10_use_11 (by decide) ?_
  refine J_putI (pc := 12) dX10_use_12 ho flX10_26 rfl h (fun σ3 h => ?_)
  refine J_aload_n (pc := 15) 0 dX10_use_15 rfl ?_
  refine J_iconst (pc := 16) (0 : Int32) dX10_use_16 (by decide) ?_
  refine J_putI (pc := 17) dX10_use_17 ho flX10_30 rfl h (fun σ4 h => ?_)
  refine J_aload_n (pc := 20) 0 dX10_use_20 rfl ?_
  refine J_iconst (pc := 21) (-1 : Int32) dX10_use_21 (by decide) ?_
  obtain ⟨σ5, hc6, h⟩ := cV_t h
  refine J_cVv (pc := 22) (ctX10_listenFor l E o (-1 : Int32) ho σ4 hc6) dX10_use_22 mlX10_33 mvX10_listenFor ho rfl (by decide) rfl (Nat.le_of_ble_eq_true rfl) ?_
  refine J_aload_n (pc := 25) 0 dX10_use_25 rfl ?_
  obtain ⟨σ7, hc8, h⟩ := cV_t h
  refine J_cVv (pc := 26) (ctX10_aim l E o ho σ5 hc8) dX10_use_26 mlX10_37 mvX10_aim ho rfl (by decide) rfl (Nat.le_of_ble_eq_true rfl) ?_
  cases h
  exact J_vret (pc := 29) dX10_use_29 rfl
def fX3_rowBehindEnd (o : Nat) (a1 : Int32) (σ : Mm) : Option (Int32 × Mm) := r_rf σ o 2 5 (fun q1 => g_ar σ q1 4 60 a1 (fun x2 => r_rf σ o 2 5 (fun q3 => g_ar σ q3 0 60 x2 (fun x4 => if x4 = (20 : Int32) then (g_ar σ o 0 60 x2 (fun x5 => if x5 ≤ (1 : Int32) then (some ((a1 + (1 : Int32)), σ)) else (g_ar σ o 0 60 x2 (fun x6 => s_ar σ o 0 60 x2 (x6 - (1 : Int32)) (fun σ7 => some ((x2 + (1 : Int32)), σ7)))))) else (some ((a1 + (1 : Int32)), σ))))))
set_option maxRecDepth 100000 in
set_option maxHeartbeats 4000000 in
theorem ctX3_rowBehindEnd (l : Launch) (E : EV) (o : Nat) (a1 : Int32) (ho : KD o = 3) (σ : Mm) {xr : Int32} {τ : Mm} (h : fX3_rowBehindEnd o a1 σ = some (xr, τ)) : Ct l E mX3_rowBehindEnd 0 [.ref (e_a E o 0), .int a1] σ (some (.int xr), τ) := by
  refine Ct.of (by decide +kernel) (Nat.le_of_ble_eq_true rfl) ?_
  show Jd l E mX3_rowBehindEnd 0 (some (.int xr), τ) σ 0 [(0, .ref (e_a E o 0)), (1, .int a1)] []
  unfold fX3_rowBehindEnd at h
  refine J_aload_n (pc := 0) 0 dX3_rowBehindEnd_0 rfl ?_
  refine J_getR (pc := 1) dX3_rowBehindEnd_1 ho flX3_46 rfl h (fun q1 hq1 h => ?_)
  refine J_getA (pc := 4) dX3_rowBehindEnd_4 hq1 flX3_123 rfl ?_
  refine J_iload_n (pc := 7) 1 dX3_rowBehindEnd_7 rfl ?_
  refine J_iald (pc := 8) dX3_rowBehindEnd_8 hq1 ha5_4 h (fun x2 h => ?_)
  refine J_istore_n (pc := 9) (L' := [(2, .int x2), (0, .ref (e_a E o 0)), (1, .int a1)]) dX3_rowBehindEnd_9 (by decide) rfl ?_
  refine J_aload_n (pc := 10) 1 dX3_rowBehindEnd_10 rfl ?_
  refine J_getR (pc := 11) dX3_rowBehindEnd_11 ho flX3_46 rfl h (fun q3 hq3 h => ?_)
  refine J_getA (pc := 14) dX3_rowBehindEnd_14 hq3 flX3_77 rfl ?_
  refine J_iload_n (pc := 17) 0 dX3_rowBehindEnd_17 rfl ?_
  refine J_iald (pc := 18) dX3_rowBehindEnd_18 hq3 ha5_0 h (fun x4 h => ?_)
  refine J_bipush (pc := 19) (20 : Int32) dX3_rowBehindEnd_19 (by decide) ?_
  refine J_icmp_ne (pc := 21) 48 dX3_rowBehindEnd_21 (by decide) h (fun h => ?_) (fun h => ?_)
  · refine J_iload_n (pc := 48) 2 dX3_rowBehindEnd_48 rfl ?_
    refine J_iconst (pc := 49) (1 : Int32) dX3_rowBehindEnd_49 (by decide) ?_
    refine J_iadd (pc := 50) dX3_rowBehindEnd_50 ?_
    cases h
    exact J_iret (pc := 51) dX3_rowBehindEnd_51 rfl rfl
  · refine J_aload_n (pc := 24) 1 dX3_rowBehindEnd_24 rfl ?_
    refine J_getA (pc := 25) dX3_rowBehindEnd_25 ho flX3_20 rfl ?_
    refine J_iload_n (pc := 28) 0 dX3_rowBehindEnd_28 rfl ?_
    refine J_iald (pc := 29) dX3_rowBehindEnd_29 ho ha3_0 h (fun x5 h => ?_)
    refine J_iconst (pc := 30) (1 : Int32) dX3_rowBehindEnd_30 (by decide) ?_
    refine J_icmp_le (pc := 31) 48 dX3_rowBehindEnd_31 (by decide) h (fun h => ?_) (fun h => ?_)
    · refine J_iload_n (pc := 48) 2 dX3_rowBehindEnd_48 rfl ?_
      refine J_iconst (pc := 49) (1 : Int32) dX3_rowBehindEnd_49 (by decide) ?_
      refine J_iadd (pc := 50) dX3_rowBehindEnd_50 ?_
      cases h
      exact J_iret (pc := 51) dX3_rowBehindEnd_51 rfl rfl
    · refine J_aload_n (pc := 34) 1 dX3_rowBehindEnd_34 rfl ?_
      refine J_getA (pc := 35) dX3_rowBehindEnd_35 ho flX3_20 rfl ?_
      refine J_iload_n (pc := 38) 0 dX3_rowBehindEnd_38 rfl ?_
      refine J_dup2 (pc := 39) dX3_rowBehindEnd_39 rfl rfl ?_
      refine J_iald (pc := 40) dX3_rowBehindEnd_40 ho ha3_0 h (fun x6 h => ?_)
      refine J_iconst (pc := 41) (1 : Int32) dX3_rowBehindEnd_41 (by decide) ?_
      refine J_isub (pc := 42) dX3_rowBehindEnd_42 ?_
      refine J_iast (pc := 43) dX3_rowBehindEnd_43 ho ha3_0 h (fun σ7 h => ?_)
      refine J_iload_n (pc := 44) 0 dX3_rowBehindEnd_44 rfl ?_
      refine J_iconst (pc := 45) (1 : Int32) dX3_rowBehindEnd_45 (by decide) ?_
      refine J_iadd (pc := 46) dX3_rowBehindEnd_46 ?_
      cases h
      exact J_iret (pc := 47) dX3_rowBehindEnd_47 rfl rfl
def fX10_blow (o : Nat) (a1 : Int32) (a2 : Int32) (a3 : Int32) (σ : Mm) : Option (Mm) := r_rf σ o 1 4 (fun q1 => s_ar σ q1 0 4 a1 a2 (fun σ2 => r_rf σ2 o 1 4 (fun q3 => s_ar σ2 q3 1 4 a1 a3 (fun σ4 => c_V (fX10_aim o σ4) (fun σ5 => some σ5)))))
set_option maxRecDepth 100000 in
set_option maxHeartbeats 4000000 in
theorem ctX10_blow (l : Launch) (E : EV) (o : Nat) (a1 : Int32) (a2 : Int32) (a3 : Int32) (ho : KD o = 10) (σ : Mm) {τ : Mm} (h : fX10_blow o a1 a2 a3 σ = some τ) : Ct l E mX10_blow 1 [.ref (e_a E o 0), .int a1, .int a2, .int a3] σ (none, τ) := by
  refine Ct.of (by decide +kernel) (Nat.le_of_ble_eq_true rfl) ?_
  show Jd l E mX10_blow 1 (none, τ) σ 0 [(0, .ref (e_a E o 0)), (1, .int a1), (2, .int a2), (3, .int a3)] []
  unfold fX10_blow at h
  refine J_aload_n (pc := 0) 0 dX10_blow_0 rfl ?_
  refine J_getR (pc := 1) dX10_blow_1 ho flX10_22 rfl h (fun q1 hq1 h => ?_)
  refine J_getA (pc := 4) dX10_blow_4 hq1 flX10_46 rfl ?_
  refine J_iload_n (pc := 7) 1 dX10_blow_7 rfl ?_
  refine J_iload_n (pc := 8) 2 dX10_blow_8 rfl ?_
  refine J_iast (pc := 9) dX10_blow_9 hq1 ha4_0 h (fun σ2 h => ?_)
  refine J_aload_n (pc := 10) 0 dX10_blow_10 rfl ?_
  refine J_getR (pc := 11) dX10_blow_11 ho flX10_22 rfl h (fun q3 hq3 h => ?_)
  refine J_getA (pc := 14) dX10_blow_14 hq3 flX10_51 rfl ?_
  refine J_iload_n (pc := 17) 1 dX10_blow_17 rfl ?_
  refine J_iload_n (pc := 18) 3 dX10_blow_18 rfl ?_
  refine J_iast (pc := 19) dX10_blow_19 hq3 ha4_1 h (fun σ4 h => ?_)
  refine J_aload_n (pc := 20) 0 dX10_blow_20 rfl ?_
  obtain ⟨σ5, hc6, h⟩ := cV_t h
  refine J_cVv (pc := 21) (ctX10_aim l E o ho σ4 hc6) dX10_blow_21 mlX10_37 mvX10_aim ho rfl (by decide) rfl (Nat.le_of_ble_eq_true rfl) ?_
  cases h
  exact J_vret (pc := 24) dX10_blow_24 rfl
def fX3_drawWinds_2 (o : Nat) (a1 : Int32) : Nat → Int32 → Mm → Option (Mm)
  | 0, _, _ => none
  | n + 1, v2, σ => r_rf σ o 1 2 (fun q1 => r_sc σ q1 0 (fun x2 => if x2 ≤ v2 then (some σ) else (r_sc σ o 5 (fun x3 => p_sc σ o 5 (((x3 * (2683 : Int32)) + (11587 : Int32)) - ((x3 * (2683 : Int32)) + (11587 : Int32)) / (65536 : Int32) * (65536 : Int32)) (fun σ4 => r_rf σ4 o 3 10 (fun q5 => r_sc σ4 o 5 (fun x6 => c_V (fX10_blow q5 v2 ((x6 / (8 : Int32)) - (x6 / (8 : Int32)) / (16 : Int32) * (16 : Int32)) a1 σ4) (fun σ7 => (fX3_drawWinds_2 o a1 n) (v2 + (1 : Int32)) σ7))))))))
set_option maxRecDepth 100000 in
set_option maxHeartbeats 4000000 in
theorem tX3_drawWinds_2 (l : Launch) (E : EV) {τ : Mm} (o : Nat) (a1 : Int32) (ho : KD o = 3) : ∀ (n : Nat) (v2 : Int32) (σ : Mm), fX3_drawWinds_2 o a1 n v2 σ = some τ → Jd l E mX3_drawWinds 2 (none, τ) σ 2 [(0, .ref (e_a E o 0)), (1, .int a1), (2, .int v2)] [] := by
  intro n
  induction n with
  | zero => intro v2 σ h; rw [fX3_drawWinds_2] at h; cases h
  | succ n ih =>
    intro v2 σ h
    rw [fX3_drawWinds_2] at h
    refine J_iload_n (pc := 2) 2 dX3_drawWinds_2 rfl ?_
    refine J_aload_n (pc := 3) 0 dX3_drawWinds_3 rfl ?_
    refine J_getR (pc := 4) dX3_drawWinds_4 ho flX3_41 rfl h (fun q1 hq1 h => ?_)
    refine J_getI (pc := 7) dX3_drawWinds_7 hq1 flX3_166 rfl h (fun x2 h => ?_)
    refine J_icmp_ge (pc := 10) 57 dX3_drawWinds_10 (by decide) h (fun h => ?_) (fun h => ?_)
    · cases h
      exact J_vret (pc := 57) dX3_drawWinds_57 rfl
    · refine J_aload_n (pc := 13) 0 dX3_drawWinds_13 rfl ?_
      refine J_aload_n (pc := 14) 0 dX3_drawWinds_14 rfl ?_
      refine J_getI (pc := 15) dX3_drawWinds_15 ho flX3_59 rfl h (fun x3 h => ?_)
      refine J_sipush (pc := 18) (2683 : Int32) dX3_drawWinds_18 (by decide) ?_
      refine J_imul (pc := 21) dX3_drawWinds_21 ?_
      refine J_sipush (pc := 22) (11587 : Int32) dX3_drawWinds_22 (by decide) ?_
      refine J_iadd (pc := 25) dX3_drawWinds_25 ?_
      refine J_ldc (pc := 26) (65536 : Int32) dX3_drawWinds_26 kcX3_169 ?_
      refine J_irem (pc := 28) dX3_drawWinds_28 (by decide) ?_
      refine J_putI (pc := 29) dX3_drawWinds_29 ho flX3_59 rfl h (fun σ4 h => ?_)
      refine J_aload_n (pc := 32) 0 dX3_drawWinds_32 rfl ?_
      refine J_getR (pc := 33) dX3_drawWinds_33 ho flX3_49 rfl h (fun q5 hq5 h => ?_)
      refine J_iload_n (pc := 36) 2 dX3_drawWinds_36 rfl ?_
      refine J_aload_n (pc := 37) 0 dX3_drawWinds_37 rfl ?_
      refine J_getI (pc := 38) dX3_drawWinds_38 ho flX3_59 rfl h (fun x6 h => ?_)
      refine J_bipush (pc := 41) (8 : Int32) dX3_drawWinds_41 (by decide) ?_
      refine J_idiv (pc := 43) dX3_drawWinds_43 (by decide) ?_
      refine J_bipush (pc := 44) (16 : Int32) dX3_drawWinds_44 (by decide) ?_
      refine J_irem (pc := 46) dX3_drawWinds_46 (by decide) ?_
      refine J_iload_n (pc := 47) 1 dX3_drawWinds_47 rfl ?_
      obtain ⟨σ7, hc8, h⟩ := cV_t h
      refine J_cVv (pc := 48) (ctX10_blow l E q5 v2 ((x6 / (8 : Int32)) - (x6 / (8 : Int32)) / (16 : Int32) * (16 : Int32)) a1 hq5 σ4 hc8) dX3_drawWinds_48 mlX3_142 mvX10_blow hq5 rfl (by decide) rfl (Nat.le_of_ble_eq_true rfl) ?_
      refine J_iinc (pc := 51) (L' := [(2, .int (v2 + (1 : Int32))), (0, .ref (e_a E o 0)), (1, .int a1)]) 2 (v2 + (1 : Int32)) dX3_drawWinds_51 rfl (by rfl) (by decide) rfl ?_
      refine J_goto (pc := 54) 2 dX3_drawWinds_54 (by decide) ?_
      refine J_sub (L' := [(0, .ref (e_a E o 0)), (1, .int a1), (2, .int (v2 + (1 : Int32)))]) [1, 2, 0] rfl ?_
      exact ih (v2 + (1 : Int32)) σ7 h
def fX3_drawWinds (o : Nat) (a1 : Int32) (σ : Mm) : Option (Mm) := fX3_drawWinds_2 o a1 FU (0 : Int32) σ
set_option maxRecDepth 100000 in
set_option maxHeartbeats 4000000 in
theorem ctX3_drawWinds (l : Launch) (E : EV) (o : Nat) (a1 : Int32) (ho : KD o = 3) (σ : Mm) {τ : Mm} (h : fX3_drawWinds o a1 σ = some τ) : Ct l E mX3_drawWinds 2 [.ref (e_a E o 0), .int a1] σ (none, τ) := by
  refine Ct.of (by decide +kernel) (Nat.le_of_ble_eq_true rfl) ?_
  show Jd l E mX3_drawWinds 2 (none, τ) σ 0 [(0, .ref (e_a E o 0)), (1, .int a1)] []
  unfold fX3_drawWinds at h
  refine J_iconst (pc := 0) (0 : Int32) dX3_drawWinds_0 (by decide) ?_
  refine J_istore_n (pc := 1) (L' := [(2, .int (0 : Int32)), (0, .ref (e_a E o 0)), (1, .int a1)]) dX3_drawWinds_1 (by decide) rfl ?_
  refine J_sub (L' := [(0, .ref (e_a E o 0)), (1, .int a1), (2, .int (0 : Int32))]) [1, 2, 0] rfl ?_
  exact tX3_drawWinds_2 l E o a1 ho FU (0 : Int32) σ h
def fX10_isRight (o : Nat) (a1 : Int32) (σ : Mm) : Option (Int32 × Mm) := g_ar σ o 0 8 a1 (fun x1 => if x1 = (-1 : Int32) then (some ((1 : Int32), σ)) else (g_ar σ o 0 8 a1 (fun x2 => r_rf σ o 1 4 (fun q3 => g_ar σ q3 2 8 a1 (fun x4 => if x2 = x4 then (some ((1 : Int32), σ)) else (some ((0 : Int32), σ)))))))
set_option maxRecDepth 100000 in
set_option maxHeartbeats 4000000 in
theorem ctX10_isRight (l : Launch) (E : EV) (o : Nat) (a1 : Int32) (ho : KD o = 10) (σ : Mm) {xr : Int32} {τ : Mm} (h : fX10_isRight o a1 σ = some (xr, τ)) : Ct l E mX10_isRight 0 [.ref (e_a E o 0), .int a1] σ (some (.int xr), τ) := by
  refine Ct.of (by decide +kernel) (Nat.le_of_ble_eq_true rfl) ?_
  show Jd l E mX10_isRight 0 (some (.int xr), τ) σ 0 [(0, .ref (e_a E o 0)), (1, .int a1)] []
  unfold fX10_isRight at h
  refine J_aload_n (pc := 0) 0 dX10_isRight_0 rfl ?_
  refine J_getA (pc := 1) dX10_isRight_1 ho flX10_9 rfl ?_
  refine J_iload_n (pc := 4) 1 dX10_isRight_4 rfl ?_
  refine J_iald (pc := 5) dX10_isRight_5 ho ha10_0 h (fun x1 h => ?_)
  refine J_iconst (pc := 6) (-1 : Int32) dX10_isRight_6 (by decide) ?_
  refine J_icmp_eq (pc := 7) 28 dX10_isRight_7 (by decide) h (fun h => ?_) (fun h => ?_)
  · refine J_iconst (pc := 28) (1 : Int32) dX10_isRight_28 (by decide) ?_
    refine J_goto (pc := 29) 33 dX10_isRight_29 (by decide) ?_
    cases h
    exact J_iret (pc := 33) dX10_isRight_33 rfl rfl
  · refine J_aload_n (pc := 10) 0 dX10_isRight_10 rfl ?_
    refine J_getA (pc := 11) dX10_isRight_11 ho flX10_9 rfl ?_
    refine J_iload_n (pc := 14) 1 dX10_isRight_14 rfl ?_
    refine J_iald (pc := 15) dX10_isRight_15 ho ha10_0 h (fun x2 h => ?_)
    refine J_aload_n (pc := 16) 0 dX10_isRight_16 rfl ?_
    refine J_getR (pc := 17) dX10_isRight_17 ho flX10_22 rfl h (fun q3 hq3 h => ?_)
    refine J_getA (pc := 20) dX10_isRight_20 hq3 flX10_69 rfl ?_
    refine J_iload_n (pc := 23) 1 dX10_isRight_23 rfl ?_
    refine J_iald (pc := 24) dX10_isRight_24 hq3 ha4_2 h (fun x4 h => ?_)
    refine J_icmp_ne (pc := 25) 32 dX10_isRight_25 (by decide) h (fun h => ?_) (fun h => ?_)
    · refine J_iconst (pc := 32) (0 : Int32) dX10_isRight_32 (by decide) ?_
      cases h
      exact J_iret (pc := 33) dX10_isRight_33 rfl rfl
    · refine J_iconst (pc := 28) (1 : Int32) dX10_isRight_28 (by decide) ?_
      refine J_goto (pc := 29) 33 dX10_isRight_29 (by decide) ?_
      cases h
      exact J_iret (pc := 33) dX10_isRight_33 rfl rfl
def fX10_shorterWay (o : Nat) (a1 : Int32) (σ : Mm) : Option (Int32 × Mm) := g_ar σ o 0 8 a1 (fun x1 => r_rf σ o 1 4 (fun q2 => g_ar σ q2 2 8 a1 (fun x3 => if 0 ≤ (x1 - x3) then (r_rf σ o 0 2 (fun q4 => g_ar σ q4 3 8 a1 (fun x5 => if (x5 - (x1 - x3)) < (x1 - x3) then (some ((-1 : Int32), σ)) else (some ((1 : Int32), σ))))) else (r_rf σ o 0 2 (fun q6 => g_ar σ q6 3 8 a1 (fun x7 => r_rf σ o 0 2 (fun q8 => g_ar σ q8 3 8 a1 (fun x9 => if (x9 - ((x1 - x3) + x7)) < ((x1 - x3) + x7) then (some ((-1 : Int32), σ)) else (some ((1 : Int32), σ))))))))))
set_option maxRecDepth 100000 in
set_option maxHeartbeats 4000000 in
theorem ctX10_shorterWay (l : Launch) (E : EV) (o : Nat) (a1 : Int32) (ho : KD o = 10) (σ : Mm) {xr : Int32} {τ : Mm} (h : fX10_shorterWay o a1 σ = some (xr, τ)) : Ct l E mX10_shorterWay 0 [.ref (e_a E o 0), .int a1] σ (some (.int xr), τ) := by
  refine Ct.of (by decide +kernel) (Nat.le_of_ble_eq_true rfl) ?_
  show Jd l E mX10_shorterWay 0 (some (.int xr), τ) σ 0 [(0, .ref (e_a E o 0)), (1, .int a1)] []
  unfold fX10_shorterWay at h
  refine J_aload_n (pc := 0) 0 dX10_shorterWay_0 rfl ?_
  refine J_getA (pc := 1) dX10_shorterWay_1 ho flX10_9 rfl ?_
  refine J_iload_n (pc := 4) 1 dX10_shorterWay_4 rfl ?_
  refine J_iald (pc := 5) dX10_shorterWay_5 ho ha10_0 h (fun x1 h => ?_)
  refine J_aload_n (pc := 6) 0 dX10_shorterWay_6 rfl ?_
  refine J_getR (pc := 7) dX10_shorterWay_7 ho flX10_22 rfl h (fun q2 hq2 h => ?_)
  refine J_getA (pc := 10) dX10_shorterWay_10 hq2 flX10_69 rfl ?_
  refine J_iload_n (pc := 13) 1 dX10_shorterWay_13 rfl ?_
  refine J_iald (pc := 14) dX10_shorterWay_14 hq2 ha4_2 h (fun x3 h => ?_)
  refine J_isub (pc := 15) dX10_shorterWay_15 ?_
  refine J_istore_n (pc := 16) (L' := [(2, .int (x1 - x3)), (0, .ref (e_a E o 0)), (1, .int a1)]) dX10_shorterWay_16 (by decide) rfl ?_
  refine J_iload_n (pc := 17) 0 dX10_shorterWay_17 rfl ?_
  refine J_if_ge (pc := 18) 33 dX10_shorterWay_18 (by decide) h (fun h => ?_) (fun h => ?_)
  · refine J_iload_n (pc := 33) 0 dX10_shorterWay_33 rfl ?_
    refine J_aload_n (pc := 34) 1 dX10_shorterWay_34 rfl ?_
    refine J_getR (pc := 35) dX10_shorterWay_35 ho flX10_18 rfl h (fun q4 hq4 h => ?_)
    refine J_getA (pc := 38) dX10_shorterWay_38 hq4 flX10_63 rfl ?_
    refine J_iload_n (pc := 41) 2 dX10_shorterWay_41 rfl ?_
    refine J_iald (pc := 42) dX10_shorterWay_42 hq4 ha2_3 h (fun x5 h => ?_)
    refine J_iload_n (pc := 43) 0 dX10_shorterWay_43 rfl ?_
    refine J_isub (pc := 44) dX10_shorterWay_44 ?_
    refine J_icmp_gt (pc := 45) 52 dX10_shorterWay_45 (by decide) h (fun h => ?_) (fun h => ?_)
    · refine J_iconst (pc := 52) (-1 : Int32) dX10_shorterWay_52 (by decide) ?_
      cases h
      exact J_iret (pc := 53) dX10_shorterWay_53 rfl rfl
    · refine J_iconst (pc := 48) (1 : Int32) dX10_shorterWay_48 (by decide) ?_
      refine J_goto (pc := 49) 53 dX10_shorterWay_49 (by decide) ?_
      cases h
      exact J_iret (pc := 53) dX10_shorterWay_53 rfl rfl
  · refine J_iload_n (pc := 21) 0 dX10_shorterWay_21 rfl ?_
    refine J_aload_n (pc := 22) 1 dX10_shorterWay_22 rfl ?_
    refine J_getR (pc := 23) dX10_shorterWay_23 ho flX10_18 rfl h (fun q6 hq6 h => ?_)
    refine J_getA (pc := 26) dX10_shorterWay_26 hq6 flX10_63 rfl ?_
    refine J_iload_n (pc := 29) 2 dX10_shorterWay_29 rfl ?_
    refine J_iald (pc := 30) dX10_shorterWay_30 hq6 ha2_3 h (fun x7 h => ?_)
    refine J_iadd (pc := 31) dX10_shorterWay_31 ?_
    refine J_istore_n (pc := 32) (L' := [(2, .int ((x1 - x3) + x7)), (0, .ref (e_a E o 0)), (1, .int a1)]) dX10_shorterWay_32 (by decide) rfl ?_
    refine J_iload_n (pc := 33) 0 dX10_shorterWay_33 rfl ?_
    refine J_aload_n (pc := 34) 1 dX10_shorterWay_34 rfl ?_
    refine J_getR (pc := 35) dX10_shorterWay_35 ho flX10_18 rfl h (fun q8 hq8 h => ?_)
    refine J_getA (pc := 38) dX10_shorterWay_38 hq8 flX10_63 rfl ?_
    refine J_iload_n (pc := 41) 2 dX10_shorterWay_41 rfl ?_
    refine J_iald (pc := 42) dX10_shorterWay_42 hq8 ha2_3 h (fun x9 h => ?_)
    refine J_iload_n (pc := 43) 0 dX10_shorterWay_43 rfl ?_
    refine J_isub (pc := 44) dX10_shorterWay_44 ?_
    refine J_icmp_gt (pc := 45) 52 dX10_shorterWay_45 (by decide) h (fun h => ?_) (fun h => ?_)
    · refine J_iconst (pc := 52) (-1 : Int32) dX10_shorterWay_52 (by decide) ?_
      cases h
      exact J_iret (pc := 53) dX10_shorterWay_53 rfl rfl
    · refine J_iconst (pc := 48) (1 : Int32) dX10_shorterWay_48 (by decide) ?_
      refine J_goto (pc := 49) 53 dX10_shorterWay_49 (by decide) ?_
      cases h
      exact J_iret (pc := 53) dX10_shorterWay_53 rfl rfl
def fX10_playChange (o : Nat) (a1 : Int32) (σ : Mm) : Option (Int32 × Mm) := r_rf σ o 0 2 (fun q1 => g_ar σ q1 7 10 a1 (fun x2 => g_ar σ o 1 8 x2 (fun x3 => r_rf σ o 0 2 (fun q4 => g_ar σ q4 9 10 a1 (fun x5 => r_rf σ o 0 2 (fun q6 => g_ar σ q6 8 10 a1 (fun x7 => g_ar σ o 1 8 x7 (fun x8 => some ((x3 - (x5 * x8)), σ)))))))))
set_option maxRecDepth 100000 in
set_option maxHeartbeats 4000000 in
theorem ctX10_playChange (l : Launch) (E : EV) (o : Nat) (a1 : Int32) (ho : KD o = 10) (σ : Mm) {xr : Int32} {τ : Mm} (h : fX10_playChange o a1 σ = some (xr, τ)) : Ct l E mX10_playChange 0 [.ref (e_a E o 0), .int a1] σ (some (.int xr), τ) := by
  refine Ct.of (by decide +kernel) (Nat.le_of_ble_eq_true rfl) ?_
  show Jd l E mX10_playChange 0 (some (.int xr), τ) σ 0 [(0, .ref (e_a E o 0)), (1, .int a1)] []
  unfold fX10_playChange at h
  refine J_aload_n (pc := 0) 0 dX10_playChange_0 rfl ?_
  refine J_getA (pc := 1) dX10_playChange_1 ho flX10_15 rfl ?_
  refine J_aload_n (pc := 4) 0 dX10_playChange_4 rfl ?_
  refine J_getR (pc := 5) dX10_playChange_5 ho flX10_18 rfl h (fun q1 hq1 h => ?_)
  refine J_getA (pc := 8) dX10_playChange_8 hq1 flX10_91 rfl ?_
  refine J_iload_n (pc := 11) 1 dX10_playChange_11 rfl ?_
  refine J_iald (pc := 12) dX10_playChange_12 hq1 ha2_7 h (fun x2 h => ?_)
  refine J_iald (pc := 13) dX10_playChange_13 ho ha10_1 h (fun x3 h => ?_)
  refine J_aload_n (pc := 14) 0 dX10_playChange_14 rfl ?_
  refine J_getR (pc := 15) dX10_playChange_15 ho flX10_18 rfl h (fun q4 hq4 h => ?_)
  refine J_getA (pc := 18) dX10_playChange_18 hq4 flX10_97 rfl ?_
  refine J_iload_n (pc := 21) 1 dX10_playChange_21 rfl ?_
  refine J_iald (pc := 22) dX10_playChange_22 hq4 ha2_9 h (fun x5 h => ?_)
  refine J_aload_n (pc := 23) 0 dX10_playChange_23 rfl ?_
  refine J_getA (pc := 24) dX10_playChange_24 ho flX10_15 rfl ?_
  refine J_aload_n (pc := 27) 0 dX10_playChange_27 rfl ?_
  refine J_getR (pc := 28) dX10_playChange_28 ho flX10_18 rfl h (fun q6 hq6 h => ?_)
  refine J_getA (pc := 31) dX10_playChange_31 hq6 flX10_94 rfl ?_
  refine J_iload_n (pc := 34) 1 dX10_playChange_34 rfl ?_
  refine J_iald (pc := 35) dX10_playChange_35 hq6 ha2_8 h (fun x7 h => ?_)
  refine J_iald (pc := 36) dX10_playChange_36 ho ha10_1 h (fun x8 h => ?_)
  refine J_imul (pc := 37) dX10_playChange_37 ?_
  refine J_isub (pc := 38) dX10_playChange_38 ?_
  cases h
  exact J_iret (pc := 39) dX10_playChange_39 rfl rfl
def fX10_isInBounds (o : Nat) (a1 : Int32) (a2 : Int32) (σ : Mm) : Option (Int32 × Mm) := if a2 < 0 then (some ((0 : Int32), σ)) else (r_rf σ o 0 2 (fun q1 => g_ar σ q1 10 10 a1 (fun x2 => if x2 < a2 then (some ((0 : Int32), σ)) else (some ((1 : Int32), σ)))))
set_option maxRecDepth 100000 in
set_option maxHeartbeats 4000000 in
theorem ctX10_isInBounds (l : Launch) (E : EV) (o : Nat) (a1 : Int32) (a2 : Int32) (ho : KD o = 10) (σ : Mm) {xr : Int32} {τ : Mm} (h : fX10_isInBounds o a1 a2 σ = some (xr, τ)) : Ct l E mX10_isInBounds 0 [.ref (e_a E o 0), .int a1, .int a2] σ (some (.int xr), τ) := by
  refine Ct.of (by decide +kernel) (Nat.le_of_ble_eq_true rfl) ?_
  show Jd l E mX10_isInBounds 0 (some (.int xr), τ) σ 0 [(0, .ref (e_a E o 0)), (1, .int a1), (2, .int a2)] []
  unfold fX10_isInBounds at h
  refine J_iload_n (pc := 0) 2 dX10_isInBounds_0 rfl ?_
  refine J_if_lt (pc := 1) 21 dX10_isInBounds_1 (by decide) h (fun h => ?_) (fun h => ?_)
  · refine J_iconst (pc := 21) (0 : Int32) dX10_isInBounds_21 (by decide) ?_
    cases h
    exact J_iret (pc := 22) dX10_isInBounds_22 rfl rfl
  · refine J_iload_n (pc := 4) 2 dX10_isInBounds_4 rfl ?_
    refine J_aload_n (pc := 5) 0 dX10_isInBounds_5 rfl ?_
    refine J_getR (pc := 6) dX10_isInBounds_6 ho flX10_18 rfl h (fun q1 hq1 h => ?_)
    refine J_getA (pc := 9) dX10_isInBounds_9 hq1 flX10_127 rfl ?_
    refine J_iload_n (pc := 12) 1 dX10_isInBounds_12 rfl ?_
    refine J_iald (pc := 13) dX10_isInBounds_13 hq1 ha2_10 h (fun x2 h => ?_)
    refine J_icmp_gt (pc := 14) 21 dX10_isInBounds_14 (by decide) h (fun h => ?_) (fun h => ?_)
    · refine J_iconst (pc := 21) (0 : Int32) dX10_isInBounds_21 (by decide) ?_
      cases h
      exact J_iret (pc := 22) dX10_isInBounds_22 rfl rfl
    · refine J_iconst (pc := 17) (1 : Int32) dX10_isInBounds_17 (by decide) ?_
      refine J_goto (pc := 18) 22 dX10_isInBounds_18 (by decide) ?_
      cases h
      exact J_iret (pc := 22) dX10_isInBounds_22 rfl rfl
def fX10_draggingShaft_65 (o : Nat) (k2 : Int32 → Mm → Option (Int32 × Mm)) (v1 : Int32) (s0 : Int32) (σ : Mm) : Option (Int32 × Mm) := if s0 = 0 then (k2 (v1 + (1 : Int32)) σ) else (r_rf σ o 1 4 (fun q9 => r_sc σ q9 6 (fun x10 => c_I (fX11_has x10 v1 σ) (fun x13 σ11 => if x13 = 0 then (r_rf σ11 o 1 4 (fun q14 => g_ar σ11 q14 5 10 v1 (fun x15 => c_I (fX10_playChange o v1 σ11) (fun x18 σ16 => c_I (fX10_isInBounds o v1 (x15 + x18) σ16) (fun x21 σ19 => if x21 = 0 then (some (v1, σ19)) else (k2 (v1 + (1 : Int32)) σ19)))))) else (k2 (v1 + (1 : Int32)) σ11)))))
set_option maxRecDepth 100000 in
set_option maxHeartbeats 4000000 in
theorem tX10_draggingShaft_65 (l : Launch) (E : EV) {xr : Int32} {τ : Mm} (o : Nat) (ho : KD o = 10) (k2 : Int32 → Mm → Option (Int32 × Mm)) (hk2 : ∀ (v1 : Int32) (σ : Mm), k2 v1 σ = some (xr, τ) → Jd l E mX10_draggingShaft 1 (some (.int xr), τ) σ 2 [(0, .ref (e_a E o 0)), (1, .int v1)] []) (v1 : Int32) (s0 : Int32) (σ : Mm) (h : fX10_draggingShaft_65 o k2 v1 s0 σ = some (xr, τ)) : Jd l E mX10_draggingShaft 1 (some (.int xr), τ) σ 65 [(0, .ref (e_a E o 0)), (1, .int v1)] [.int s0] := by
  unfold fX10_draggingShaft_65 at h
  refine J_istore_n (pc := 65) (L' := [(2, .int s0), (0, .ref (e_a E o 0)), (1, .int v1)]) dX10_draggingShaft_65 (by decide) rfl ?_
  refine J_iload_n (pc := 66) 0 dX10_draggingShaft_66 rfl ?_
  refine J_if_eq (pc := 67) 109 dX10_draggingShaft_67 (by decide) h (fun h => ?_) (fun h => ?_)
  · refine J_iinc (pc := 109) (L' := [(1, .int (v1 + (1 : Int32))), (2, .int s0), (0, .ref (e_a E o 0))]) 2 (v1 + (1 : Int32)) dX10_draggingShaft_109 rfl (by rfl) (by decide) rfl ?_
    refine J_goto (pc := 112) 2 dX10_draggingShaft_112 (by decide) ?_
    refine J_sub (L' := [(0, .ref (e_a E o 0)), (1, .int (v1 + (1 : Int32)))]) [2, 0] rfl ?_
    exact hk2 (v1 + (1 : Int32)) σ h
  · refine J_aload_n (pc := 70) 1 dX10_draggingShaft_70 rfl ?_
    refine J_getR (pc := 71) dX10_draggingShaft_71 ho flX10_22 rfl h (fun q9 hq9 h => ?_)
    refine J_getI (pc := 74) dX10_draggingShaft_74 hq9 flX10_110 rfl h (fun x10 h => ?_)
    refine J_iload_n (pc := 77) 2 dX10_draggingShaft_77 rfl ?_
    obtain ⟨x13, σ11, hc12, h⟩ := cI_t h
    refine J_cNi (pc := 78) (host := "VaneTown") (ctX11_has l E x10 v1 σ hc12) dX10_draggingShaft_78 mnX10_113 msX11_has rfl (by decide) rfl (Nat.le_of_ble_eq_true rfl) ?_
    refine J_if_ne (pc := 81) 109 dX10_draggingShaft_81 (by decide) h (fun h => ?_) (fun h => ?_)
    · refine J_iinc (pc := 109) (L' := [(1, .int (v1 + (1 : Int32))), (2, .int s0), (0, .ref (e_a E o 0))]) 2 (v1 + (1 : Int32)) dX10_draggingShaft_109 rfl (by rfl) (by decide) rfl ?_
      refine J_goto (pc := 112) 2 dX10_draggingShaft_112 (by decide) ?_
      refine J_sub (L' := [(0, .ref (e_a E o 0)), (1, .int (v1 + (1 : Int32)))]) [2, 0] rfl ?_
      exact hk2 (v1 + (1 : Int32)) σ11 h
    · refine J_aload_n (pc := 84) 1 dX10_draggingShaft_84 rfl ?_
      refine J_iload_n (pc := 85) 2 dX10_draggingShaft_85 rfl ?_
      refine J_aload_n (pc := 86) 1 dX10_draggingShaft_86 rfl ?_
      refine J_getR (pc := 87) dX10_draggingShaft_87 ho flX10_22 rfl h (fun q14 hq14 h => ?_)
      refine J_getA (pc := 90) dX10_draggingShaft_90 hq14 flX10_117 rfl ?_
      refine J_iload_n (pc := 93) 2 dX10_draggingShaft_93 rfl ?_
      refine J_iald (pc := 94) dX10_draggingShaft_94 hq14 ha4_5 h (fun x15 h => ?_)
      refine J_aload_n (pc := 95) 1 dX10_draggingShaft_95 rfl ?_
      refine J_iload_n (pc := 96) 2 dX10_draggingShaft_96 rfl ?_
      obtain ⟨x18, σ16, hc17, h⟩ := cI_t h
      refine J_cVi (pc := 97) (ctX10_playChange l E o v1 ho σ11 hc17) dX10_draggingShaft_97 mlX10_120 mvX10_playChange ho rfl (by decide) rfl (Nat.le_of_ble_eq_true rfl) ?_
      refine J_iadd (pc := 100) dX10_draggingShaft_100 ?_
      obtain ⟨x21, σ19, hc20, h⟩ := cI_t h
      refine J_cVi (pc := 101) (ctX10_isInBounds l E o v1 (x15 + x18) ho σ16 hc20) dX10_draggingShaft_101 mlX10_124 mvX10_isInBounds ho rfl (by decide) rfl (Nat.le_of_ble_eq_true rfl) ?_
      refine J_if_ne (pc := 104) 109 dX10_draggingShaft_104 (by decide) h (fun h => ?_) (fun h => ?_)
      · refine J_iinc (pc := 109) (L' := [(1, .int (v1 + (1 : Int32))), (2, .int s0), (0, .ref (e_a E o 0))]) 2 (v1 + (1 : Int32)) dX10_draggingShaft_109 rfl (by rfl) (by decide) rfl ?_
        refine J_goto (pc := 112) 2 dX10_draggingShaft_112 (by decide) ?_
        refine J_sub (L' := [(0, .ref (e_a E o 0)), (1, .int (v1 + (1 : Int32)))]) [2, 0] rfl ?_
        exact hk2 (v1 + (1 : Int32)) σ19 h
      · refine J_iload_n (pc := 107) 2 dX10_draggingShaft_107 rfl ?_
        cases h
        exact J_iret (pc := 108) dX10_draggingShaft_108 rfl rfl
def fX10_draggingShaft_35 (o : Nat) (k2 : Int32 → Mm → Option (Int32 × Mm)) (v1 : Int32) (s0 : Int32) (σ : Mm) : Option (Int32 × Mm) := r_rf σ o 0 2 (fun q6 => g_ar σ q6 8 10 v1 (fun x7 => g_ar σ o 1 8 x7 (fun x8 => if x8 = 0 then (if s0 = (1 : Int32) then (fX10_draggingShaft_65 o k2 v1 (0 : Int32) σ) else (fX10_draggingShaft_65 o k2 v1 (1 : Int32) σ)) else (if s0 = (0 : Int32) then (fX10_draggingShaft_65 o k2 v1 (0 : Int32) σ) else (fX10_draggingShaft_65 o k2 v1 (1 : Int32) σ)))))
set_option maxRecDepth 100000 in
set_option maxHeartbeats 4000000 in
theorem tX10_draggingShaft_35 (l : Launch) (E : EV) {xr : Int32} {τ : Mm} (o : Nat) (ho : KD o = 10) (k2 : Int32 → Mm → Option (Int32 × Mm)) (hk2 : ∀ (v1 : Int32) (σ : Mm), k2 v1 σ = some (xr, τ) → Jd l E mX10_draggingShaft 1 (some (.int xr), τ) σ 2 [(0, .ref (e_a E o 0)), (1, .int v1)] []) (v1 : Int32) (s0 : Int32) (σ : Mm) (h : fX10_draggingShaft_35 o k2 v1 s0 σ = some (xr, τ)) : Jd l E mX10_draggingShaft 1 (some (.int xr), τ) σ 35 [(0, .ref (e_a E o 0)), (1, .int v1)] [.int s0] := by
  unfold fX10_draggingShaft_35 at h
  refine J_aload_n (pc := 35) 0 dX10_draggingShaft_35 rfl ?_
  refine J_getA (pc := 36) dX10_draggingShaft_36 ho flX10_15 rfl ?_
  refine J_aload_n (pc := 39) 0 dX10_draggingShaft_39 rfl ?_
  refine J_getR (pc := 40) dX10_draggingShaft_40 ho flX10_18 rfl h (fun q6 hq6 h => ?_)
  refine J_getA (pc := 43) dX10_draggingShaft_43 hq6 flX10_94 rfl ?_
  refine J_iload_n (pc := 46) 1 dX10_draggingShaft_46 rfl ?_
  refine J_iald (pc := 47) dX10_draggingShaft_47 hq6 ha2_8 h (fun x7 h => ?_)
  refine J_iald (pc := 48) dX10_draggingShaft_48 ho ha10_1 h (fun x8 h => ?_)
  refine J_if_ne (pc := 49) 56 dX10_draggingShaft_49 (by decide) h (fun h => ?_) (fun h => ?_)
  · refine J_iconst (pc := 56) (0 : Int32) dX10_draggingShaft_56 (by decide) ?_
    refine J_icmp_eq (pc := 57) 64 dX10_draggingShaft_57 (by decide) h (fun h => ?_) (fun h => ?_)
    · refine J_iconst (pc := 64) (0 : Int32) dX10_draggingShaft_64 (by decide) ?_
      refine J_sub (L' := [(0, .ref (e_a E o 0)), (1, .int v1)]) [0, 1] rfl ?_
      exact tX10_draggingShaft_65 l E o ho k2 hk2 v1 (0 : Int32) σ h
    · refine J_iconst (pc := 60) (1 : Int32) dX10_draggingShaft_60 (by decide) ?_
      refine J_goto (pc := 61) 65 dX10_draggingShaft_61 (by decide) ?_
      refine J_sub (L' := [(0, .ref (e_a E o 0)), (1, .int v1)]) [0, 1] rfl ?_
      exact tX10_draggingShaft_65 l E o ho k2 hk2 v1 (1 : Int32) σ h
  · refine J_iconst (pc := 52) (1 : Int32) dX10_draggingShaft_52 (by decide) ?_
    refine J_goto (pc := 53) 57 dX10_draggingShaft_53 (by decide) ?_
    refine J_icmp_eq (pc := 57) 64 dX10_draggingShaft_57 (by decide) h (fun h => ?_) (fun h => ?_)
    · refine J_iconst (pc := 64) (0 : Int32) dX10_draggingShaft_64 (by decide) ?_
      refine J_sub (L' := [(0, .ref (e_a E o 0)), (1, .int v1)]) [0, 1] rfl ?_
      exact tX10_draggingShaft_65 l E o ho k2 hk2 v1 (0 : Int32) σ h
    · refine J_iconst (pc := 60) (1 : Int32) dX10_draggingShaft_60 (by decide) ?_
      refine J_goto (pc := 61) 65 dX10_draggingShaft_61 (by decide) ?_
      refine J_sub (L' := [(0, .ref (e_a E o 0)), (1, .int v1)]) [0, 1] rfl ?_
      exact tX10_draggingShaft_65 l E o ho k2 hk2 v1 (1 : Int32) σ h
def fX10_draggingShaft_2 (o : Nat) : Nat → Int32 → Mm → Option (Int32 × Mm)
  | 0, _, _ => none
  | n + 1, v1, σ => r_rf σ o 0 2 (fun q1 => r_sc σ q1 2 (fun x2 => if x2 ≤ v1 then (some ((-1 : Int32), σ)) else (r_rf σ o 0 2 (fun q3 => g_ar σ q3 7 10 v1 (fun x4 => g_ar σ o 1 8 x4 (fun x5 => if x5 = 0 then (fX10_draggingShaft_35 o (fX10_draggingShaft_2 o n) v1 (1 : Int32) σ) else (fX10_draggingShaft_35 o (fX10_draggingShaft_2 o n) v1 (0 : Int32) σ)))))))
set_option maxRecDepth 100000 in
set_option maxHeartbeats 4000000 in
theorem tX10_draggingShaft_2 (l : Launch) (E : EV) {xr : Int32} {τ : Mm} (o : Nat) (ho : KD o = 10) : ∀ (n : Nat) (v1 : Int32) (σ : Mm), fX10_draggingShaft_2 o n v1 σ = some (xr, τ) → Jd l E mX10_draggingShaft 1 (some (.int xr), τ) σ 2 [(0, .ref (e_a E o 0)), (1, .int v1)] [] := by
  intro n
  induction n with
  | zero => intro v1 σ h; rw [fX10_draggingShaft_2] at h; cases h
  | succ n ih =>
    intro v1 σ h
    rw [fX10_draggingShaft_2] at h
    refine J_iload_n (pc := 2) 1 dX10_draggingShaft_2 rfl ?_
    refine J_aload_n (pc := 3) 0 dX10_draggingShaft_3 rfl ?_
    refine J_getR (pc := 4) dX10_draggingShaft_4 ho flX10_18 rfl h (fun q1 hq1 h => ?_)
    refine J_getI (pc := 7) dX10_draggingShaft_7 hq1 flX10_107 rfl h (fun x2 h => ?_)
    refine J_icmp_ge (pc := 10) 115 dX10_draggingShaft_10 (by decide) h (fun h => ?_) (fun h => ?_)
    · refine J_iconst (pc := 115) (-1 : Int32) dX10_draggingShaft_115 (by decide) ?_
      cases h
      exact J_iret (pc := 116) dX10_draggingShaft_116 rfl rfl
    · refine J_aload_n (pc := 13) 0 dX10_draggingShaft_13 rfl ?_
      refine J_getA (pc := 14) dX10_draggingShaft_14 ho flX10_15 rfl ?_
      refine J_aload_n (pc := 17) 0 dX10_draggingShaft_17 rfl ?_
      refine J_getR (pc := 18) dX10_draggingShaft_18 ho flX10_18 rfl h (fun q3 hq3 h => ?_)
      refine J_getA (pc := 21) dX10_draggingShaft_21 hq3 flX10_91 rfl ?_
      refine J_iload_n (pc := 24) 1 dX10_draggingShaft_24 rfl ?_
      refine J_iald (pc := 25) dX10_draggingShaft_25 hq3 ha2_7 h (fun x4 h => ?_)
      refine J_iald (pc := 26) dX10_draggingShaft_26 ho ha10_1 h (fun x5 h => ?_)
      refine J_if_ne (pc := 27) 34 dX10_draggingShaft_27 (by decide) h (fun h => ?_) (fun h => ?_)
      · refine J_iconst (pc := 34) (0 : Int32) dX10_draggingShaft_34 (by decide) ?_
        refine J_sub (L' := [(0, .ref (e_a E o 0)), (1, .int v1)]) [0, 1] rfl ?_
        exact tX10_draggingShaft_35 l E o ho (fX10_draggingShaft_2 o n) ih v1 (0 : Int32) σ h
      · refine J_iconst (pc := 30) (1 : Int32) dX10_draggingShaft_30 (by decide) ?_
        refine J_goto (pc := 31) 35 dX10_draggingShaft_31 (by decide) ?_
        refine J_sub (L' := [(0, .ref (e_a E o 0)), (1, .int v1)]) [0, 1] rfl ?_
        exact tX10_draggingShaft_35 l E o ho (fX10_draggingShaft_2 o n) ih v1 (1 : Int32) σ h
def fX10_draggingShaft (o : Nat) (σ : Mm) : Option (Int32 × Mm) := fX10_draggingShaft_2 o FU (0 : Int32) σ
set_option maxRecDepth 100000 in
set_option maxHeartbeats 4000000 in
theorem ctX10_draggingShaft (l : Launch) (E : EV) (o : Nat) (ho : KD o = 10) (σ : Mm) {xr : Int32} {τ : Mm} (h : fX10_draggingShaft o σ = some (xr, τ)) : Ct l E mX10_draggingShaft 1 [.ref (e_a E o 0)] σ (some (.int xr), τ) := by
  refine Ct.of (by decide +kernel) (Nat.le_of_ble_eq_true rfl) ?_
  show Jd l E mX10_draggingShaft 1 (some (.int xr), τ) σ 0 [(0, .ref (e_a E o 0))] []
  unfold fX10_draggingShaft at h
  refine J_iconst (pc := 0) (0 : Int32) dX10_draggingShaft_0 (by decide) ?_
  refine J_istore_n (pc := 1) (L' := [(1, .int (0 : Int32)), (0, .ref (e_a E o 0))]) dX10_draggingShaft_1 (by decide) rfl ?_
  refine J_sub (L' := [(0, .ref (e_a E o 0)), (1, .int (0 : Int32))]) [1, 0] rfl ?_
  exact tX10_draggingShaft_2 l E o ho FU (0 : Int32) σ h
def fX10_isAllPlayInBounds_2 (o : Nat) : Nat → Int32 → Mm → Option (Int32 × Mm)
  | 0, _, _ => none
  | n + 1, v1, σ => r_rf σ o 0 2 (fun q1 => r_sc σ q1 2 (fun x2 => if x2 ≤ v1 then (some ((1 : Int32), σ)) else (r_rf σ o 1 4 (fun q3 => r_sc σ q3 6 (fun x4 => c_I (fX11_has x4 v1 σ) (fun x7 σ5 => if x7 = 0 then (r_rf σ5 o 1 4 (fun q8 => g_ar σ5 q8 5 10 v1 (fun x9 => c_I (fX10_playChange o v1 σ5) (fun x12 σ10 => c_I (fX10_isInBounds o v1 (x9 + x12) σ10) (fun x15 σ13 => if x15 = 0 then (some ((0 : Int32), σ13)) else ((fX10_isAllPlayInBounds_2 o n) (v1 + (1 : Int32)) σ13)))))) else ((fX10_isAllPlayInBounds_2 o n) (v1 + (1 : Int32)) σ5)))))))
set_option maxRecDepth 100000 in
set_option maxHeartbeats 4000000 in
theorem tX10_isAllPlayInBounds_2 (l : Launch) (E : EV) {xr : Int32} {τ : Mm} (o : Nat) (ho : KD o = 10) : ∀ (n : Nat) (v1 : Int32) (σ : Mm), fX10_isAllPlayInBounds_2 o n v1 σ = some (xr, τ) → Jd l E mX10_isAllPlayInBounds 1 (some (.int xr), τ) σ 2 [(0, .ref (e_a E o 0)), (1, .int v1)] [] := by
  intro n
  induction n with
  | zero => intro v1 σ h; rw [fX10_isAllPlayInBounds_2] at h; cases h
  | succ n ih =>
    intro v1 σ h
    rw [fX10_isAllPlayInBounds_2] at h
    refine J_iload_n (pc := 2) 1 dX10_isAllPlayInBounds_2 rfl ?_
    refine J_aload_n (pc := 3) 0 dX10_isAllPlayInBounds_3 rfl ?_
    refine J_getR (pc := 4) dX10_isAllPlayInBounds_4 ho flX10_18 rfl h (fun q1 hq1 h => ?_)
    refine J_getI (pc := 7) dX10_isAllPlayInBounds_7 hq1 flX10_107 rfl h (fun x2 h => ?_)
    refine J_icmp_ge (pc := 10) 58 dX10_isAllPlayInBounds_10 (by decide) h (fun h => ?_) (fun h => ?_)
    · refine J_iconst (pc := 58) (1 : Int32) dX10_isAllPlayInBounds_58 (by decide) ?_
      cases h
      exact J_iret (pc := 59) dX10_isAllPlayInBounds_59 rfl rfl
    · refine J_aload_n (pc := 13) 0 dX10_isAllPlayInBounds_13 rfl ?_
      refine J_getR (pc := 14) dX10_isAllPlayInBounds_14 ho flX10_22 rfl h (fun q3 hq3 h => ?_)
      refine J_getI (pc := 17) dX10_isAllPlayInBounds_17 hq3 flX10_110 rfl h (fun x4 h => ?_)
      refine J_iload_n (pc := 20) 1 dX10_isAllPlayInBounds_20 rfl ?_
      obtain ⟨x7, σ5, hc6, h⟩ := cI_t h
      refine J_cNi (pc := 21) (host := "VaneTown") (ctX11_has l E x4 v1 σ hc6) dX10_isAllPlayInBounds_21 mnX10_113 msX11_has rfl (by decide) rfl (Nat.le_of_ble_eq_true rfl) ?_
      refine J_if_ne (pc := 24) 52 dX10_isAllPlayInBounds_24 (by decide) h (fun h => ?_) (fun h => ?_)
      · refine J_iinc (pc := 52) (L' := [(1, .int (v1 + (1 : Int32))), (0, .ref (e_a E o 0))]) 1 (v1 + (1 : Int32)) dX10_isAllPlayInBounds_52 rfl (by rfl) (by decide) rfl ?_
        refine J_goto (pc := 55) 2 dX10_isAllPlayInBounds_55 (by decide) ?_
        refine J_sub (L' := [(0, .ref (e_a E o 0)), (1, .int (v1 + (1 : Int32)))]) [1, 0] rfl ?_
        exact ih (v1 + (1 : Int32)) σ5 h
      · refine J_aload_n (pc := 27) 0 dX10_isAllPlayInBounds_27 rfl ?_
        refine J_iload_n (pc := 28) 1 dX10_isAllPlayInBounds_28 rfl ?_
        refine J_aload_n (pc := 29) 0 dX10_isAllPlayInBounds_29 rfl ?_
        refine J_getR (pc := 30) dX10_isAllPlayInBounds_30 ho flX10_22 rfl h (fun q8 hq8 h => ?_)
        refine J_getA (pc := 33) dX10_isAllPlayInBounds_33 hq8 flX10_117 rfl ?_
        refine J_iload_n (pc := 36) 1 dX10_isAllPlayInBounds_36 rfl ?_
        refine J_iald (pc := 37) dX10_isAllPlayInBounds_37 hq8 ha4_5 h (fun x9 h => ?_)
        refine J_aload_n (pc := 38) 0 dX10_isAllPlayInBounds_38 rfl ?_
        refine J_iload_n (pc := 39) 1 dX10_isAllPlayInBounds_39 rfl ?_
        obtain ⟨x12, σ10, hc11, h⟩ := cI_t h
        refine J_cVi (pc := 40) (ctX10_playChange l E o v1 ho σ5 hc11) dX10_isAllPlayInBounds_40 mlX10_120 mvX10_playChange ho rfl (by decide) rfl (Nat.le_of_ble_eq_true rfl) ?_
        refine J_iadd (pc := 43) dX10_isAllPlayInBounds_43 ?_
        obtain ⟨x15, σ13, hc14, h⟩ := cI_t h
        refine J_cVi (pc := 44) (ctX10_isInBounds l E o v1 (x9 + x12) ho σ10 hc14) dX10_isAllPlayInBounds_44 mlX10_124 mvX10_isInBounds ho rfl (by decide) rfl (Nat.le_of_ble_eq_true rfl) ?_
        refine J_if_ne (pc := 47) 52 dX10_isAllPlayInBounds_47 (by decide) h (fun h => ?_) (fun h => ?_)
        · refine J_iinc (pc := 52) (L' := [(1, .int (v1 + (1 : Int32))), (0, .ref (e_a E o 0))]) 1 (v1 + (1 : Int32)) dX10_isAllPlayInBounds_52 rfl (by rfl) (by decide) rfl ?_
          refine J_goto (pc := 55) 2 dX10_isAllPlayInBounds_55 (by decide) ?_
          refine J_sub (L' := [(0, .ref (e_a E o 0)), (1, .int (v1 + (1 : Int32)))]) [1, 0] rfl ?_
          exact ih (v1 + (1 : Int32)) σ13 h
        · refine J_iconst (pc := 50) (0 : Int32) dX10_isAllPlayInBounds_50 (by decide) ?_
          cases h
          exact J_iret (pc := 51) dX10_isAllPlayInBounds_51 rfl rfl
def fX10_isAllPlayInBounds (o : Nat) (σ : Mm) : Option (Int32 × Mm) := fX10_isAllPlayInBounds_2 o FU (0 : Int32) σ
set_option maxRecDepth 100000 in
set_option maxHeartbeats 4000000 in
theorem ctX10_isAllPlayInBounds (l : Launch) (E : EV) (o : Nat) (ho : KD o = 10) (σ : Mm) {xr : Int32} {τ : Mm} (h : fX10_isAllPlayInBounds o σ = some (xr, τ)) : Ct l E mX10_isAllPlayInBounds 1 [.ref (e_a E o 0)] σ (some (.int xr), τ) := by
  refine Ct.of (by decide +kernel) (Nat.le_of_ble_eq_true rfl) ?_
  show Jd l E mX10_isAllPlayInBounds 1 (some (.int xr), τ) σ 0 [(0, .ref (e_a E o 0))] []
  unfold fX10_isAllPlayInBounds at h
  refine J_iconst (pc := 0) (0 : Int32) dX10_isAllPlayInBounds_0 (by decide) ?_
  refine J_istore_n (pc := 1) (L' := [(1, .int (0 : Int32)), (0, .ref (e_a E o 0))]) dX10_isAllPlayInBounds_1 (by decide) rfl ?_
  refine J_sub (L' := [(0, .ref (e_a E o 0)), (1, .int (0 : Int32))]) [1, 0] rfl ?_
  exact tX10_isAllPlayInBounds_2 l E o ho FU (0 : Int32) σ h
def fX10_engage_156 (o : Nat) (a1 : Int32) (a2 : Int32) (σ : Mm) : Option (Int32 × Mm) := r_sc σ o 4 (fun x28 => r_rf σ o 1 4 (fun q29 => r_sc σ q29 7 (fun x30 => if (x28 &&& x30) = 0 then (c_I (fX10_isAllPlayInBounds o σ) (fun x33 σ31 => if x33 = 0 then (some ((0 : Int32), σ31)) else (some ((1 : Int32), σ31)))) else (some ((0 : Int32), σ)))))
set_option maxRecDepth 100000 in
set_option maxHeartbeats 4000000 in
theorem tX10_engage_156 (l : Launch) (E : EV) {xr : Int32} {τ : Mm} (o : Nat) (a1 : Int32) (a2 : Int32) (ho : KD o = 10) (σ : Mm) (h : fX10_engage_156 o a1 a2 σ = some (xr, τ)) : Jd l E mX10_engage 2 (some (.int xr), τ) σ 156 [(0, .ref (e_a E o 0))] [] := by
  unfold fX10_engage_156 at h
  refine J_aload_n (pc := 156) 0 dX10_engage_156 rfl ?_
  refine J_getI (pc := 157) dX10_engage_157 ho flX10_84 rfl h (fun x28 h => ?_)
  refine J_aload_n (pc := 160) 0 dX10_engage_160 rfl ?_
  refine J_getR (pc := 161) dX10_engage_161 ho flX10_22 rfl h (fun q29 hq29 h => ?_)
  refine J_getI (pc := 164) dX10_engage_164 hq29 flX10_100 rfl h (fun x30 h => ?_)
  refine J_iand (pc := 167) dX10_engage_167 ?_
  refine J_if_ne (pc := 168) 182 dX10_engage_168 (by decide) h (fun h => ?_) (fun h => ?_)
  · refine J_iconst (pc := 182) (0 : Int32) dX10_engage_182 (by decide) ?_
    cases h
    exact J_iret (pc := 183) dX10_engage_183 rfl rfl
  · refine J_aload_n (pc := 171) 0 dX10_engage_171 rfl ?_
    obtain ⟨x33, σ31, hc32, h⟩ := cI_t h
    refine J_cVi (pc := 172) (ctX10_isAllPlayInBounds l E o ho σ hc32) dX10_engage_172 mlX10_103 mvX10_isAllPlayInBounds ho rfl (by decide) rfl (Nat.le_of_ble_eq_true rfl) ?_
    refine J_if_eq (pc := 175) 182 dX10_engage_175 (by decide) h (fun h => ?_) (fun h => ?_)
    · refine J_iconst (pc := 182) (0 : Int32) dX10_engage_182 (by decide) ?_
      cases h
      exact J_iret (pc := 183) dX10_engage_183 rfl rfl
    · refine J_iconst (pc := 178) (1 : Int32) dX10_engage_178 (by decide) ?_
      refine J_goto (pc := 179) 183 dX10_engage_179 (by decide) ?_
      cases h
      exact J_iret (pc := 183) dX10_engage_183 rfl rfl
def fX10_engage_43 (o : Nat) (a1 : Int32) (a2 : Int32) : Nat → Int32 → Int32 → Mm → Option (Int32 × Mm)
  | 0, _, _, _ => none
  | n + 1, v3, v4, σ => if (8 : Int32) ≤ v4 then (fX10_engage_156 o a1 a2 σ) else (if v3 = (-1 : Int32) then (fX10_engage_156 o a1 a2 σ) else (r_rf σ o 0 2 (fun q7 => g_ar σ q7 7 10 v3 (fun x8 => r_rf σ o 0 2 (fun q9 => g_ar σ q9 8 10 v3 (fun x10 => r_rf σ o 0 2 (fun q11 => g_ar σ q11 9 10 v3 (fun x12 => g_ar σ o 1 8 x8 (fun x13 => g_ar σ o 1 8 x10 (fun x14 => g_ar σ o 1 8 x8 (fun x15 => if x15 = 0 then (s_ar σ o 1 8 x8 (x12 * (x13 + x14)) (fun σ22 => r_sc σ22 o 4 (fun x23 => p_sc σ22 o 4 (x23 ||| ((1 : Int32) <<< (x8 &&& 31))) (fun σ24 => c_I (fX10_draggingShaft o σ24) (fun x27 σ25 => (fX10_engage_43 o a1 a2 n) x27 (v4 + (1 : Int32)) σ25))))) else (s_ar σ o 1 8 x10 (x12 * (x13 + x14)) (fun σ16 => r_sc σ16 o 4 (fun x17 => p_sc σ16 o 4 (x17 ||| ((1 : Int32) <<< (x10 &&& 31))) (fun σ18 => c_I (fX10_draggingShaft o σ18) (fun x21 σ19 => (fX10_engage_43 o a1 a2 n) x21 (v4 + (1 : Int32)) σ19))))))))))))))))
set_option maxRecDepth 100000 in
set_option maxHeartbeats 4000000 in
theorem tX10_engage_43 (l : Launch) (E : EV) {xr : Int32} {τ : Mm} (o : Nat) (a1 : Int32) (a2 : Int32) (ho : KD o = 10) : ∀ (n : Nat) (v3 : Int32) (v4 : Int32) (σ : Mm), fX10_engage_43 o a1 a2 n v3 v4 σ = some (xr, τ) → Jd l E mX10_engage 2 (some (.int xr), τ) σ 43 [(0, .ref (e_a E o 0)), (3, .int v3), (4, .int v4)] [] := by
  intro n
  induction n with
  | zero => intro v3 v4 σ h; rw [fX10_engage_43] at h; cases h
  | succ n ih =>
    intro v3 v4 σ h
    rw [fX10_engage_43] at h
    refine J_iload (pc := 43) 2 dX10_engage_43 rfl ?_
    refine J_bipush (pc := 45) (8 : Int32) dX10_engage_45 (by decide) ?_
    refine J_icmp_ge (pc := 47) 156 dX10_engage_47 (by decide) h (fun h => ?_) (fun h => ?_)
    · refine J_sub (L' := [(0, .ref (e_a E o 0))]) [0] rfl ?_
      exact tX10_engage_156 l E o a1 a2 ho σ h
    · refine J_iload_n (pc := 50) 1 dX10_engage_50 rfl ?_
      refine J_iconst (pc := 51) (-1 : Int32) dX10_engage_51 (by decide) ?_
      refine J_icmp_eq (pc := 52) 156 dX10_engage_52 (by decide) h (fun h => ?_) (fun h => ?_)
      · refine J_sub (L' := [(0, .ref (e_a E o 0))]) [0] rfl ?_
        exact tX10_engage_156 l E o a1 a2 ho σ h
      · refine J_aload_n (pc := 55) 0 dX10_engage_55 rfl ?_
        refine J_getR (pc := 56) dX10_engage_56 ho flX10_18 rfl h (fun q7 hq7 h => ?_)
        refine J_getA (pc := 59) dX10_engage_59 hq7 flX10_91 rfl ?_
        refine J_iload_n (pc := 62) 1 dX10_engage_62 rfl ?_
        refine J_iald (pc := 63) dX10_engage_63 hq7 ha2_7 h (fun x8 h => ?_)
        refine J_istore (pc := 64) (L' := [(5, .int x8), (0, .ref (e_a E o 0)), (3, .int v3), (4, .int v4)]) dX10_engage_64 (by decide) rfl ?_
        refine J_aload_n (pc := 66) 1 dX10_engage_66 rfl ?_
        refine J_getR (pc := 67) dX10_engage_67 ho flX10_18 rfl h (fun q9 hq9 h => ?_)
        refine J_getA (pc := 70) dX10_engage_70 hq9 flX10_94 rfl ?_
        refine J_iload_n (pc := 73) 2 dX10_engage_73 rfl ?_
        refine J_iald (pc := 74) dX10_engage_74 hq9 ha2_8 h (fun x10 h => ?_)
        refine J_istore (pc := 75) (L' := [(6, .int x10), (5, .int x8), (0, .ref (e_a E o 0)), (3, .int v3), (4, .int v4)]) dX10_engage_75 (by decide) rfl ?_
        refine J_aload_n (pc := 77) 2 dX10_engage_77 rfl ?_
        refine J_getR (pc := 78) dX10_engage_78 ho flX10_18 rfl h (fun q11 hq11 h => ?_)
        refine J_getA (pc := 81) dX10_engage_81 hq11 flX10_97 rfl ?_
        refine J_iload_n (pc := 84) 3 dX10_engage_84 rfl ?_
        refine J_iald (pc := 85) dX10_engage_85 hq11 ha2_9 h (fun x12 h => ?_)
        refine J_aload_n (pc := 86) 2 dX10_engage_86 rfl ?_
        refine J_getA (pc := 87) dX10_engage_87 ho flX10_15 rfl ?_
        refine J_iload (pc := 90) 1 dX10_engage_90 rfl ?_
        refine J_iald (pc := 92) dX10_engage_92 ho ha10_1 h (fun x13 h => ?_)
        refine J_aload_n (pc := 93) 2 dX10_engage_93 rfl ?_
        refine J_getA (pc := 94) dX10_engage_94 ho flX10_15 rfl ?_
        refine J_iload (pc := 97) 0 dX10_engage_97 rfl ?_
        refine J_iald (pc := 99) dX10_engage_99 ho ha10_1 h (fun x14 h => ?_)
        refine J_iadd (pc := 100) dX10_engage_100 ?_
        refine J_imul (pc := 101) dX10_engage_101 ?_
        refine J_istore (pc := 102) (L' := [(7, .int (x12 * (x13 + x14))), (6, .int x10), (5, .int x8), (0, .ref (e_a E o 0)), (3, .int v3), (4, .int v4)]) dX10_engage_102 (by decide) rfl ?_
        refine J_aload_n (pc := 104) 3 dX10_engage_104 rfl ?_
        refine J_getA (pc := 105) dX10_engage_105 ho flX10_15 rfl ?_
        refine J_iload (pc := 108) 2 dX10_engage_108 rfl ?_
        refine J_iald (pc := 110) dX10_engage_110 ho ha10_1 h (fun x15 h => ?_)
        refine J_if_ne (pc := 111) 119 dX10_engage_111 (by decide) h (fun h => ?_) (fun h => ?_)
        · refine J_iload (pc := 119) 1 dX10_engage_119 rfl ?_
          refine J_istore (pc := 121) (L' := [(8, .int x10), (7, .int (x12 * (x13 + x14))), (6, .int x10), (5, .int x8), (0, .ref (e_a E o 0)), (3, .int v3), (4, .int v4)]) dX10_engage_121 (by decide) rfl ?_
          refine J_aload_n (pc := 123) 4 dX10_engage_123 rfl ?_
          refine J_getA (pc := 124) dX10_engage_124 ho flX10_15 rfl ?_
          refine J_iload (pc := 127) 0 dX10_engage_127 rfl ?_
          refine J_iload (pc := 129) 1 dX10_engage_129 rfl ?_
          refine J_iast (pc := 131) dX10_engage_131 ho ha10_1 h (fun σ16 h => ?_)
          refine J_aload_n (pc := 132) 4 dX10_engage_132 rfl ?_
          refine J_dup (pc := 133) dX10_engage_133 rfl ?_
          refine J_getI (pc := 134) dX10_engage_134 ho flX10_84 rfl h (fun x17 h => ?_)
          refine J_iconst (pc := 137) (1 : Int32) dX10_engage_137 (by decide) ?_
          refine J_iload (pc := 138) 0 dX10_engage_138 rfl ?_
          refine J_ishl (pc := 140) dX10_engage_140 ?_
          refine J_ior (pc := 141) dX10_engage_141 ?_
          refine J_putI (pc := 142) dX10_engage_142 ho flX10_84 rfl h (fun σ18 h => ?_)
          refine J_aload_n (pc := 145) 4 dX10_engage_145 rfl ?_
          obtain ⟨x21, σ19, hc20, h⟩ := cI_t h
          refine J_cVi (pc := 146) (ctX10_draggingShaft l E o ho σ18 hc20) dX10_engage_146 mlX10_87 mvX10_draggingShaft ho rfl (by decide) rfl (Nat.le_of_ble_eq_true rfl) ?_
          refine J_istore_n (pc := 149) (L' := [(3, .int x21), (8, .int x10), (7, .int (x12 * (x13 + x14))), (6, .int x10), (5, .int x8), (0, .ref (e_a E o 0)), (4, .int v4)]) dX10_engage_149 (by decide) rfl ?_
          refine J_iinc (pc := 150) (L' := [(4, .int (v4 + (1 : Int32))), (3, .int x21), (8, .int x10), (7, .int (x12 * (x13 + x14))), (6, .int x10), (5, .int x8), (0, .ref (e_a E o 0))]) 6 (v4 + (1 : Int32)) dX10_engage_150 rfl (by rfl) (by decide) rfl ?_
          refine J_goto (pc := 153) 43 dX10_engage_153 (by decide) ?_
          refine J_sub (L' := [(0, .ref (e_a E o 0)), (3, .int x21), (4, .int (v4 + (1 : Int32)))]) [6, 1, 0] rfl ?_
          exact ih x21 (v4 + (1 : Int32)) σ19 h
        · refine J_iload (pc := 114) 2 dX10_engage_114 rfl ?_
          refine J_goto (pc := 116) 121 dX10_engage_116 (by decide) ?_
          refine J_istore (pc := 121) (L' := [(8, .int x8), (7, .int (x12 * (x13 + x14))), (6, .int x10), (5, .int x8), (0, .ref (e_a E o 0)), (3, .int v3), (4, .int v4)]) dX10_engage_121 (by decide) rfl ?_
          refine J_aload_n (pc := 123) 4 dX10_engage_123 rfl ?_
          refine J_getA (pc := 124) dX10_engage_124 ho flX10_15 rfl ?_
          refine J_iload (pc := 127) 0 dX10_engage_127 rfl ?_
          refine J_iload (pc := 129) 1 dX10_engage_129 rfl ?_
          refine J_iast (pc := 131) dX10_engage_131 ho ha10_1 h (fun σ22 h => ?_)
          refine J_aload_n (pc := 132) 4 dX10_engage_132 rfl ?_
          refine J_dup (pc := 133) dX10_engage_133 rfl ?_
          refine J_getI (pc := 134) dX10_engage_134 ho flX10_84 rfl h (fun x23 h => ?_)
          refine J_iconst (pc := 137) (1 : Int32) dX10_engage_137 (by decide) ?_
          refine J_iload (pc := 138) 0 dX10_engage_138 rfl ?_
          refine J_ishl (pc := 140) dX10_engage_140 ?_
          refine J_ior (pc := 141) dX10_engage_141 ?_
          refine J_putI (pc := 142) dX10_engage_142 ho flX10_84 rfl h (fun σ24 h => ?_)
          refine J_aload_n (pc := 145) 4 dX10_engage_145 rfl ?_
          obtain ⟨x27, σ25, hc26, h⟩ := cI_t h
          refine J_cVi (pc := 146) (ctX10_draggingShaft l E o ho σ24 hc26) dX10_engage_146 mlX10_87 mvX10_draggingShaft ho rfl (by decide) rfl (Nat.le_of_ble_eq_true rfl) ?_
          refine J_istore_n (pc := 149) (L' := [(3, .int x27), (8, .int x8), (7, .int (x12 * (x13 + x14))), (6, .int x10), (5, .int x8), (0, .ref (e_a E o 0)), (4, .int v4)]) dX10_engage_149 (by decide) rfl ?_
          refine J_iinc (pc := 150) (L' := [(4, .int (v4 + (1 : Int32))), (3, .int x27), (8, .int x8), (7, .int (x12 * (x13 + x14))), (6, .int x10), (5, .int x8), (0, .ref (e_a E o 0))]) 6 (v4 + (1 : Int32)) dX10_engage_150 rfl (by rfl) (by decide) rfl ?_
          refine J_goto (pc := 153) 43 dX10_engage_153 (by decide) ?_
          refine J_sub (L' := [(0, .ref (e_a E o 0)), (3, .int x27), (4, .int (v4 + (1 : Int32)))]) [6, 1, 0] rfl ?_
          exact ih x27 (v4 + (1 : Int32)) σ25 h
def fX10_engage_21 (o : Nat) (a1 : Int32) (a2 : Int32) (σ : Mm) : Option (Int32 × Mm) := s_ar σ o 1 8 a1 a2 (fun σ2 => p_sc σ2 o 4 ((1 : Int32) <<< (a1 &&& 31)) (fun σ3 => c_I (fX10_draggingShaft o σ3) (fun x6 σ4 => fX10_engage_43 o a1 a2 FU x6 (0 : Int32) σ4)))
set_option maxRecDepth 100000 in
set_option maxHeartbeats 4000000 in
theorem tX10_engage_21 (l : Launch) (E : EV) {xr : Int32} {τ : Mm} (o : Nat) (a1 : Int32) (a2 : Int32) (ho : KD o = 10) (σ : Mm) (h : fX10_engage_21 o a1 a2 σ = some (xr, τ)) : Jd l E mX10_engage 2 (some (.int xr), τ) σ 21 [(0, .ref (e_a E o 0)), (1, .int a1), (2, .int a2)] [] := by
  unfold fX10_engage_21 at h
  refine J_aload_n (pc := 21) 0 dX10_engage_21 rfl ?_
  refine J_getA (pc := 22) dX10_engage_22 ho flX10_15 rfl ?_
  refine J_iload_n (pc := 25) 1 dX10_engage_25 rfl ?_
  refine J_iload_n (pc := 26) 2 dX10_engage_26 rfl ?_
  refine J_iast (pc := 27) dX10_engage_27 ho ha10_1 h (fun σ2 h => ?_)
  refine J_aload_n (pc := 28) 0 dX10_engage_28 rfl ?_
  refine J_iconst (pc := 29) (1 : Int32) dX10_engage_29 (by decide) ?_
  refine J_iload_n (pc := 30) 1 dX10_engage_30 rfl ?_
  refine J_ishl (pc := 31) dX10_engage_31 ?_
  refine J_putI (pc := 32) dX10_engage_32 ho flX10_84 rfl h (fun σ3 h => ?_)
  refine J_aload_n (pc := 35) 0 dX10_engage_35 rfl ?_
  obtain ⟨x6, σ4, hc5, h⟩ := cI_t h
  refine J_cVi (pc := 36) (ctX10_draggingShaft l E o ho σ3 hc5) dX10_engage_36 mlX10_87 mvX10_draggingShaft ho rfl (by decide) rfl (Nat.le_of_ble_eq_true rfl) ?_
  refine J_istore_n (pc := 39) (L' := [(3, .int x6), (0, .ref (e_a E o 0)), (1, .int a1), (2, .int a2)]) dX10_engage_39 (by decide) rfl ?_
  refine J_iconst (pc := 40) (0 : Int32) dX10_engage_40 (by decide) ?_
  refine J_istore (pc := 41) (L' := [(4, .int (0 : Int32)), (3, .int x6), (0, .ref (e_a E o 0)), (1, .int a1), (2, .int a2)]) dX10_engage_41 (by decide) rfl ?_
  refine J_sub (L' := [(0, .ref (e_a E o 0)), (3, .int x6), (4, .int (0 : Int32))]) [2, 1, 0] rfl ?_
  exact tX10_engage_43 l E o a1 a2 ho FU x6 (0 : Int32) σ4 h
def fX10_engage_2 (o : Nat) (a1 : Int32) (a2 : Int32) : Nat → Int32 → Mm → Option (Int32 × Mm)
  | 0, _, _ => none
  | n + 1, v3, σ => if (8 : Int32) ≤ v3 then (fX10_engage_21 o a1 a2 σ) else (s_ar σ o 1 8 v3 (0 : Int32) (fun σ1 => (fX10_engage_2 o a1 a2 n) (v3 + (1 : Int32)) σ1))
set_option maxRecDepth 100000 in
set_option maxHeartbeats 4000000 in
theorem tX10_engage_2 (l : Launch) (E : EV) {xr : Int32} {τ : Mm} (o : Nat) (a1 : Int32) (a2 : Int32) (ho : KD o = 10) : ∀ (n : Nat) (v3 : Int32) (σ : Mm), fX10_engage_2 o a1 a2 n v3 σ = some (xr, τ) → Jd l E mX10_engage 2 (some (.int xr), τ) σ 2 [(0, .ref (e_a E o 0)), (1, .int a1), (2, .int a2), (3, .int v3)] [] := by
  intro n
  induction n with
  | zero => intro v3 σ h; rw [fX10_engage_2] at h; cases h
  | succ n ih =>
    intro v3 σ h
    rw [fX10_engage_2] at h
    refine J_iload_n (pc := 2) 3 dX10_engage_2 rfl ?_
    refine J_bipush (pc := 3) (8 : Int32) dX10_engage_3 (by decide) ?_
    refine J_icmp_ge (pc := 5) 21 dX10_engage_5 (by decide) h (fun h => ?_) (fun h => ?_)
    · refine J_sub (L' := [(0, .ref (e_a E o 0)), (1, .int a1), (2, .int a2)]) [0, 1, 2] rfl ?_
      exact tX10_engage_21 l E o a1 a2 ho σ h
    · refine J_aload_n (pc := 8) 0 dX10_engage_8 rfl ?_
      refine J_getA (pc := 9) dX10_engage_9 ho flX10_15 rfl ?_
      refine J_iload_n (pc := 12) 3 dX10_engage_12 rfl ?_
      refine J_iconst (pc := 13) (0 : Int32) dX10_engage_13 (by decide) ?_
      refine J_iast (pc := 14) dX10_engage_14 ho ha10_1 h (fun σ1 h => ?_)
      refine J_iinc (pc := 15) (L' := [(3, .int (v3 + (1 : Int32))), (0, .ref (e_a E o 0)), (1, .int a1), (2, .int a2)]) 3 (v3 + (1 : Int32)) dX10_engage_15 rfl (by rfl) (by decide) rfl ?_
      refine J_goto (pc := 18) 2 dX10_engage_18 (by decide) ?_
      refine J_sub (L' := [(0, .ref (e_a E o 0)), (1, .int a1), (2, .int a2), (3, .int (v3 + (1 : Int32)))]) [1, 2, 3, 0] rfl ?_
      exact ih (v3 + (1 : Int32)) σ1 h
def fX10_engage (o : Nat) (a1 : Int32) (a2 : Int32) (σ : Mm) : Option (Int32 × Mm) := fX10_engage_2 o a1 a2 FU (0 : Int32) σ
set_option maxRecDepth 100000 in
set_option maxHeartbeats 4000000 in
theorem ctX10_engage (l : Launch) (E : EV) (o : Nat) (a1 : Int32) (a2 : Int32) (ho : KD o = 10) (σ : Mm) {xr : Int32} {τ : Mm} (h : fX10_engage o a1 a2 σ = some (xr, τ)) : Ct l E mX10_engage 2 [.ref (e_a E o 0), .int a1, .int a2] σ (some (.int xr), τ) := by
  refine Ct.of (by decide +kernel) (Nat.le_of_ble_eq_true rfl) ?_
  show Jd l E mX10_engage 2 (some (.int xr), τ) σ 0 [(0, .ref (e_a E o 0)), (1, .int a1), (2, .int a2)] []
  unfold fX10_engage at h
  refine J_iconst (pc := 0) (0 : Int32) dX10_engage_0 (by decide) ?_
  refine J_istore_n (pc := 1) (L' := [(3, .int (0 : Int32)), (0, .ref (e_a E o 0)), (1, .int a1), (2, .int a2)]) dX10_engage_1 (by decide) rfl ?_
  refine J_sub (L' := [(0, .ref (e_a E o 0)), (1, .int a1), (2, .int a2), (3, .int (0 : Int32))]) [1, 2, 3, 0] rfl ?_
  exact tX10_engage_2 l E o a1 a2 ho FU (0 : Int32) σ h
def fX10_gap (o : Nat) (a1 : Int32) (a2 : Int32) (σ : Mm) : Option (Int32 × Mm) := g_ar σ o 0 8 a1 (fun x1 => if x1 ≤ a2 then (g_ar σ o 0 8 a1 (fun x2 => r_rf σ o 0 2 (fun q3 => g_ar σ q3 3 8 a1 (fun x4 => if (x4 - (a2 - x2)) ≤ (a2 - x2) then (some ((x4 - (a2 - x2)), σ)) else (some ((a2 - x2), σ)))))) else (g_ar σ o 0 8 a1 (fun x5 => r_rf σ o 0 2 (fun q6 => g_ar σ q6 3 8 a1 (fun x7 => if (x7 - (x5 - a2)) ≤ (x5 - a2) then (some ((x7 - (x5 - a2)), σ)) else (some ((x5 - a2), σ)))))))
set_option maxRecDepth 100000 in
set_option maxHeartbeats 4000000 in
theorem ctX10_gap (l : Launch) (E : EV) (o : Nat) (a1 : Int32) (a2 : Int32) (ho : KD o = 10) (σ : Mm) {xr : Int32} {τ : Mm} (h : fX10_gap o a1 a2 σ = some (xr, τ)) : Ct l E mX10_gap 0 [.ref (e_a E o 0), .int a1, .int a2] σ (some (.int xr), τ) := by
  refine Ct.of (by decide +kernel) (Nat.le_of_ble_eq_true rfl) ?_
  show Jd l E mX10_gap 0 (some (.int xr), τ) σ 0 [(0, .ref (e_a E o 0)), (1, .int a1), (2, .int a2)] []
  unfold fX10_gap at h
  refine J_iload_n (pc := 0) 2 dX10_gap_0 rfl ?_
  refine J_aload_n (pc := 1) 0 dX10_gap_1 rfl ?_
  refine J_getA (pc := 2) dX10_gap_2 ho flX10_9 rfl ?_
  refine J_iload_n (pc := 5) 1 dX10_gap_5 rfl ?_
  refine J_iald (pc := 6) dX10_gap_6 ho ha10_0 h (fun x1 h => ?_)
  refine J_icmp_ge (pc := 7) 21 dX10_gap_7 (by decide) h (fun h => ?_) (fun h => ?_)
  · refine J_iload_n (pc := 21) 2 dX10_gap_21 rfl ?_
    refine J_aload_n (pc := 22) 0 dX10_gap_22 rfl ?_
    refine J_getA (pc := 23) dX10_gap_23 ho flX10_9 rfl ?_
    refine J_iload_n (pc := 26) 1 dX10_gap_26 rfl ?_
    refine J_iald (pc := 27) dX10_gap_27 ho ha10_0 h (fun x2 h => ?_)
    refine J_isub (pc := 28) dX10_gap_28 ?_
    refine J_istore_n (pc := 29) (L' := [(3, .int (a2 - x2)), (0, .ref (e_a E o 0)), (1, .int a1), (2, .int a2)]) dX10_gap_29 (by decide) rfl ?_
    refine J_aload_n (pc := 30) 1 dX10_gap_30 rfl ?_
    refine J_getR (pc := 31) dX10_gap_31 ho flX10_18 rfl h (fun q3 hq3 h => ?_)
    refine J_getA (pc := 34) dX10_gap_34 hq3 flX10_63 rfl ?_
    refine J_iload_n (pc := 37) 2 dX10_gap_37 rfl ?_
    refine J_iald (pc := 38) dX10_gap_38 hq3 ha2_3 h (fun x4 h => ?_)
    refine J_iload_n (pc := 39) 0 dX10_gap_39 rfl ?_
    refine J_isub (pc := 40) dX10_gap_40 ?_
    refine J_istore (pc := 41) (L' := [(4, .int (x4 - (a2 - x2))), (3, .int (a2 - x2)), (0, .ref (e_a E o 0)), (1, .int a1), (2, .int a2)]) dX10_gap_41 (by decide) rfl ?_
    refine J_iload_n (pc := 43) 1 dX10_gap_43 rfl ?_
    refine J_iload (pc := 44) 0 dX10_gap_44 rfl ?_
    refine J_icmp_ge (pc := 46) 53 dX10_gap_46 (by decide) h (fun h => ?_) (fun h => ?_)
    · refine J_iload (pc := 53) 0 dX10_gap_53 rfl ?_
      cases h
      exact J_iret (pc := 55) dX10_gap_55 rfl rfl
    · refine J_iload_n (pc := 49) 1 dX10_gap_49 rfl ?_
      refine J_goto (pc := 50) 55 dX10_gap_50 (by decide) ?_
      cases h
      exact J_iret (pc := 55) dX10_gap_55 rfl rfl
  · refine J_aload_n (pc := 10) 0 dX10_gap_10 rfl ?_
    refine J_getA (pc := 11) dX10_gap_11 ho flX10_9 rfl ?_
    refine J_iload_n (pc := 14) 1 dX10_gap_14 rfl ?_
    refine J_iald (pc := 15) dX10_gap_15 ho ha10_0 h (fun x5 h => ?_)
    refine J_iload_n (pc := 16) 2 dX10_gap_16 rfl ?_
    refine J_isub (pc := 17) dX10_gap_17 ?_
    refine J_goto (pc := 18) 29 dX10_gap_18 (by decide) ?_
    refine J_istore_n (pc := 29) (L' := [(3, .int (x5 - a2)), (0, .ref (e_a E o 0)), (1, .int a1), (2, .int a2)]) dX10_gap_29 (by decide) rfl ?_
    refine J_aload_n (pc := 30) 1 dX10_gap_30 rfl ?_
    refine J_getR (pc := 31) dX10_gap_31 ho flX10_18 rfl h (fun q6 hq6 h => ?_)
    refine J_getA (pc := 34) dX10_gap_34 hq6 flX10_63 rfl ?_
    refine J_iload_n (pc := 37) 2 dX10_gap_37 rfl ?_
    refine J_iald (pc := 38) dX10_gap_38 hq6 ha2_3 h (fun x7 h => ?_)
    refine J_iload_n (pc := 39) 0 dX10_gap_39 rfl ?_
    refine J_isub (pc := 40) dX10_gap_40 ?_
    refine J_istore (pc := 41) (L' := [(4, .int (x7 - (x5 - a2))), (3, .int (x5 - a2)), (0, .ref (e_a E o 0)), (1, .int a1), (2, .int a2)]) dX10_gap_41 (by decide) rfl ?_
    refine J_iload_n (pc := 43) 1 dX10_gap_43 rfl ?_
    refine J_iload (pc := 44) 0 dX10_gap_44 rfl ?_
    refine J_icmp_ge (pc := 46) 53 dX10_gap_46 (by decide) h (fun h => ?_) (fun h => ?_)
    · refine J_iload (pc := 53) 0 dX10_gap_53 rfl ?_
      cases h
      exact J_iret (pc := 55) dX10_gap_55 rfl rfl
    · refine J_iload_n (pc := 49) 1 dX10_gap_49 rfl ?_
      refine J_goto (pc := 50) 55 dX10_gap_50 (by decide) ?_
      cases h
      exact J_iret (pc := 55) dX10_gap_55 rfl rfl
def fX10_toothBehindStep (o : Nat) (a1 : Int32) (σ : Mm) : Option (Int32 × Mm) := r_rf σ o 1 4 (fun q1 => g_ar σ q1 2 8 a1 (fun x2 => g_ar σ o 1 8 a1 (fun x3 => if 0 ≤ (x2 + x3) then (r_rf σ o 0 2 (fun q4 => g_ar σ q4 3 8 a1 (fun x5 => if (x2 + x3) < x5 then (some ((x2 + x3), σ)) else (some ((0 : Int32), σ))))) else (r_rf σ o 0 2 (fun q6 => g_ar σ q6 3 8 a1 (fun x7 => some ((x7 - (1 : Int32)), σ)))))))
set_option maxRecDepth 100000 in
set_option maxHeartbeats 4000000 in
theorem ctX10_toothBehindStep (l : Launch) (E : EV) (o : Nat) (a1 : Int32) (ho : KD o = 10) (σ : Mm) {xr : Int32} {τ : Mm} (h : fX10_toothBehindStep o a1 σ = some (xr, τ)) : Ct l E mX10_toothBehindStep 0 [.ref (e_a E o 0), .int a1] σ (some (.int xr), τ) := by
  refine Ct.of (by decide +kernel) (Nat.le_of_ble_eq_true rfl) ?_
  show Jd l E mX10_toothBehindStep 0 (some (.int xr), τ) σ 0 [(0, .ref (e_a E o 0)), (1, .int a1)] []
  unfold fX10_toothBehindStep at h
  refine J_aload_n (pc := 0) 0 dX10_toothBehindStep_0 rfl ?_
  refine J_getR (pc := 1) dX10_toothBehindStep_1 ho flX10_22 rfl h (fun q1 hq1 h => ?_)
  refine J_getA (pc := 4) dX10_toothBehindStep_4 hq1 flX10_69 rfl ?_
  refine J_iload_n (pc := 7) 1 dX10_toothBehindStep_7 rfl ?_
  refine J_iald (pc := 8) dX10_toothBehindStep_8 hq1 ha4_2 h (fun x2 h => ?_)
  refine J_aload_n (pc := 9) 0 dX10_toothBehindStep_9 rfl ?_
  refine J_getA (pc := 10) dX10_toothBehindStep_10 ho flX10_15 rfl ?_
  refine J_iload_n (pc := 13) 1 dX10_toothBehindStep_13 rfl ?_
  refine J_iald (pc := 14) dX10_toothBehindStep_14 ho ha10_1 h (fun x3 h => ?_)
  refine J_iadd (pc := 15) dX10_toothBehindStep_15 ?_
  refine J_istore_n (pc := 16) (L' := [(2, .int (x2 + x3)), (0, .ref (e_a E o 0)), (1, .int a1)]) dX10_toothBehindStep_16 (by decide) rfl ?_
  refine J_iload_n (pc := 17) 0 dX10_toothBehindStep_17 rfl ?_
  refine J_if_ge (pc := 18) 33 dX10_toothBehindStep_18 (by decide) h (fun h => ?_) (fun h => ?_)
  · refine J_iload_n (pc := 33) 0 dX10_toothBehindStep_33 rfl ?_
    refine J_aload_n (pc := 34) 1 dX10_toothBehindStep_34 rfl ?_
    refine J_getR (pc := 35) dX10_toothBehindStep_35 ho flX10_18 rfl h (fun q4 hq4 h => ?_)
    refine J_getA (pc := 38) dX10_toothBehindStep_38 hq4 flX10_63 rfl ?_
    refine J_iload_n (pc := 41) 2 dX10_toothBehindStep_41 rfl ?_
    refine J_iald (pc := 42) dX10_toothBehindStep_42 hq4 ha2_3 h (fun x5 h => ?_)
    refine J_icmp_lt (pc := 43) 50 dX10_toothBehindStep_43 (by decide) h (fun h => ?_) (fun h => ?_)
    · refine J_iload_n (pc := 50) 0 dX10_toothBehindStep_50 rfl ?_
      cases h
      exact J_iret (pc := 51) dX10_toothBehindStep_51 rfl rfl
    · refine J_iconst (pc := 46) (0 : Int32) dX10_toothBehindStep_46 (by decide) ?_
      refine J_goto (pc := 47) 51 dX10_toothBehindStep_47 (by decide) ?_
      cases h
      exact J_iret (pc := 51) dX10_toothBehindStep_51 rfl rfl
  · refine J_aload_n (pc := 21) 1 dX10_toothBehindStep_21 rfl ?_
    refine J_getR (pc := 22) dX10_toothBehindStep_22 ho flX10_18 rfl h (fun q6 hq6 h => ?_)
    refine J_getA (pc := 25) dX10_toothBehindStep_25 hq6 flX10_63 rfl ?_
    refine J_iload_n (pc := 28) 2 dX10_toothBehindStep_28 rfl ?_
    refine J_iald (pc := 29) dX10_toothBehindStep_29 hq6 ha2_3 h (fun x7 h => ?_)
    refine J_iconst (pc := 30) (1 : Int32) dX10_toothBehindStep_30 (by decide) ?_
    refine J_isub (pc := 31) dX10_toothBehindStep_31 ?_
    cases h
    exact J_iret (pc := 32) dX10_toothBehindStep_32 rfl rfl
def fX10_gain (o : Nat) (a1 : Int32) (σ : Mm) : Option (Int32 × Mm) := g_ar σ o 0 8 a1 (fun x1 => if x1 = (-1 : Int32) then (some ((0 : Int32), σ)) else (r_rf σ o 1 4 (fun q2 => g_ar σ q2 2 8 a1 (fun x3 => c_I (fX10_gap o a1 x3 σ) (fun x6 σ4 => c_I (fX10_toothBehindStep o a1 σ4) (fun x9 σ7 => c_I (fX10_gap o a1 x9 σ7) (fun x12 σ10 => some ((x6 - x12), σ10))))))))
set_option maxRecDepth 100000 in
set_option maxHeartbeats 4000000 in
theorem ctX10_gain (l : Launch) (E : EV) (o : Nat) (a1 : Int32) (ho : KD o = 10) (σ : Mm) {xr : Int32} {τ : Mm} (h : fX10_gain o a1 σ = some (xr, τ)) : Ct l E mX10_gain 1 [.ref (e_a E o 0), .int a1] σ (some (.int xr), τ) := by
  refine Ct.of (by decide +kernel) (Nat.le_of_ble_eq_true rfl) ?_
  show Jd l E mX10_gain 1 (some (.int xr), τ) σ 0 [(0, .ref (e_a E o 0)), (1, .int a1)] []
  unfold fX10_gain at h
  refine J_aload_n (pc := 0) 0 dX10_gain_0 rfl ?_
  refine J_getA (pc := 1) dX10_gain_1 ho flX10_9 rfl ?_
  refine J_iload_n (pc := 4) 1 dX10_gain_4 rfl ?_
  refine J_iald (pc := 5) dX10_gain_5 ho ha10_0 h (fun x1 h => ?_)
  refine J_iconst (pc := 6) (-1 : Int32) dX10_gain_6 (by decide) ?_
  refine J_icmp_ne (pc := 7) 12 dX10_gain_7 (by decide) h (fun h => ?_) (fun h => ?_)
  · refine J_aload_n (pc := 12) 0 dX10_gain_12 rfl ?_
    refine J_iload_n (pc := 13) 1 dX10_gain_13 rfl ?_
    refine J_aload_n (pc := 14) 0 dX10_gain_14 rfl ?_
    refine J_getR (pc := 15) dX10_gain_15 ho flX10_22 rfl h (fun q2 hq2 h => ?_)
    refine J_getA (pc := 18) dX10_gain_18 hq2 flX10_69 rfl ?_
    refine J_iload_n (pc := 21) 1 dX10_gain_21 rfl ?_
    refine J_iald (pc := 22) dX10_gain_22 hq2 ha4_2 h (fun x3 h => ?_)
    obtain ⟨x6, σ4, hc5, h⟩ := cI_t h
    refine J_cVi (pc := 23) (ctX10_gap l E o a1 x3 ho σ hc5) dX10_gain_23 mlX10_80 mvX10_gap ho rfl (by decide) rfl (Nat.le_of_ble_eq_true rfl) ?_
    refine J_aload_n (pc := 26) 0 dX10_gain_26 rfl ?_
    refine J_iload_n (pc := 27) 1 dX10_gain_27 rfl ?_
    refine J_aload_n (pc := 28) 0 dX10_gain_28 rfl ?_
    refine J_iload_n (pc := 29) 1 dX10_gain_29 rfl ?_
    obtain ⟨x9, σ7, hc8, h⟩ := cI_t h
    refine J_cVi (pc := 30) (ctX10_toothBehindStep l E o a1 ho σ4 hc8) dX10_gain_30 mlX10_133 mvX10_toothBehindStep ho rfl (by decide) rfl (Nat.le_of_ble_eq_true rfl) ?_
    obtain ⟨x12, σ10, hc11, h⟩ := cI_t h
    refine J_cVi (pc := 33) (ctX10_gap l E o a1 x9 ho σ7 hc11) dX10_gain_33 mlX10_80 mvX10_gap ho rfl (by decide) rfl (Nat.le_of_ble_eq_true rfl) ?_
    refine J_isub (pc := 36) dX10_gain_36 ?_
    cases h
    exact J_iret (pc := 37) dX10_gain_37 rfl rfl
  · refine J_iconst (pc := 10) (0 : Int32) dX10_gain_10 (by decide) ?_
    cases h
    exact J_iret (pc := 11) dX10_gain_11 rfl rfl
