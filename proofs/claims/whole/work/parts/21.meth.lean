def fX12_runs_115 (o : Nat) (a1 : Int32) (k26 : Int32 → Mm → Option (Mm)) (v2 : Int32) (v3 : Int32) (σ : Mm) : Option (Mm) := g_ar σ o 0 2950 v3 (fun x18 => if x18 < (1800 : Int32) then (c_I (fX12_behindEnds o (v2 + (1 : Int32)) σ) (fun x21 σ19 => k26 x21 σ19)) else (c_I (fX12_holdsNow o v3 σ) (fun x24 σ22 => if x24 = 0 then (g_ar σ22 o 0 2950 (v3 + (4 : Int32)) (fun x28 => c_I (fX12_behindEnds o (x28 + (1 : Int32)) σ22) (fun x31 σ29 => k26 x31 σ29))) else (c_I (fX12_behindEnds o (v2 + (1 : Int32)) σ22) (fun x27 σ25 => k26 x27 σ25)))))
set_option maxRecDepth 100000 in
set_option maxHeartbeats 4000000 in
theorem tX12_runs_115 (l : Launch) (E : EV) {τ : Mm} (o : Nat) (a1 : Int32) (ho : KD o = 12) (k26 : Int32 → Mm → Option (Mm)) (hk26 : ∀ (v2 : Int32) (σ : Mm), k26 v2 σ = some τ → Jd l E mX12_runs 8 (none, τ) σ 26 [(0, .ref (e_a E o 0)), (2, .int v2)] []) (v2 : Int32) (v3 : Int32) (σ : Mm) (h : fX12_runs_115 o a1 k26 v2 v3 σ = some τ) : Jd l E mX12_runs 8 (none, τ) σ 115 [(0, .ref (e_a E o 0)), (2, .int v2), (3, .int v3)] [] := by
  unfold fX12_runs_115 at h
  refine J_aload_n (pc := 115) 0 dX12_runs_115 rfl ?_
  refine J_aload_n (pc := 116) 0 dX12_runs_116 rfl ?_
  refine J_getA (pc := 117) dX12_runs_117 ho flX12_7 rfl ?_
  refine J_iload_n (pc := 120) 2 dX12_runs_120 rfl ?_
  refine J_iald (pc := 121) dX12_runs_121 ho ha12_0 h (fun x18 h => ?_)
  refine J_sipush (pc := 122) (1800 : Int32) dX12_runs_122 (by decide) ?_
  refine J_icmp_lt (pc := 125) 149 dX12_runs_125 (by decide) h (fun h => ?_) (fun h => ?_)
  · refine J_iload_n (pc := 149) 1 dX12_runs_149 rfl ?_
    refine J_iconst (pc := 150) (1 : Int32) dX12_runs_150 (by decide) ?_
    refine J_iadd (pc := 151) dX12_runs_151 ?_
    obtain ⟨x21, σ19, hc20, h⟩ := cI_t h
    refine J_cVi (pc := 152) (ctX12_behindEnds l E o (v2 + (1 : Int32)) ho σ hc20) dX12_runs_152 mlX12_423 mvX12_behindEnds ho rfl (by decide) rfl (Nat.le_of_ble_eq_true rfl) ?_
    refine J_istore_n (pc := 155) (L' := [(2, .int x21), (0, .ref (e_a E o 0)), (3, .int v3)]) dX12_runs_155 (by decide) rfl ?_
    refine J_goto (pc := 156) 26 dX12_runs_156 (by decide) ?_
    refine J_sub (L' := [(0, .ref (e_a E o 0)), (2, .int x21)]) [1, 0] rfl ?_
    exact hk26 x21 σ19 h
  · refine J_aload_n (pc := 128) 0 dX12_runs_128 rfl ?_
    refine J_iload_n (pc := 129) 2 dX12_runs_129 rfl ?_
    obtain ⟨x24, σ22, hc23, h⟩ := cI_t h
    refine J_cVi (pc := 130) (ctX12_holdsNow l E o v3 ho σ hc23) dX12_runs_130 mlX12_420 mvX12_holdsNow ho rfl (by decide) rfl (Nat.le_of_ble_eq_true rfl) ?_
    refine J_if_ne (pc := 133) 149 dX12_runs_133 (by decide) h (fun h => ?_) (fun h => ?_)
    · refine J_iload_n (pc := 149) 1 dX12_runs_149 rfl ?_
      refine J_iconst (pc := 150) (1 : Int32) dX12_runs_150 (by decide) ?_
      refine J_iadd (pc := 151) dX12_runs_151 ?_
      obtain ⟨x27, σ25, hc26, h⟩ := cI_t h
      refine J_cVi (pc := 152) (ctX12_behindEnds l E o (v2 + (1 : Int32)) ho σ22 hc26) dX12_runs_152 mlX12_423 mvX12_behindEnds ho rfl (by decide) rfl (Nat.le_of_ble_eq_true rfl) ?_
      refine J_istore_n (pc := 155) (L' := [(2, .int x27), (0, .ref (e_a E o 0)), (3, .int v3)]) dX12_runs_155 (by decide) rfl ?_
      refine J_goto (pc := 156) 26 dX12_runs_156 (by decide) ?_
      refine J_sub (L' := [(0, .ref (e_a E o 0)), (2, .int x27)]) [1, 0] rfl ?_
      exact hk26 x27 σ25 h
    · refine J_aload_n (pc := 136) 0 dX12_runs_136 rfl ?_
      refine J_getA (pc := 137) dX12_runs_137 ho flX12_7 rfl ?_
      refine J_iload_n (pc := 140) 2 dX12_runs_140 rfl ?_
      refine J_iconst (pc := 141) (4 : Int32) dX12_runs_141 (by decide) ?_
      refine J_iadd (pc := 142) dX12_runs_142 ?_
      refine J_iald (pc := 143) dX12_runs_143 ho ha12_0 h (fun x28 h => ?_)
      refine J_iconst (pc := 144) (1 : Int32) dX12_runs_144 (by decide) ?_
      refine J_iadd (pc := 145) dX12_runs_145 ?_
      refine J_goto (pc := 146) 152 dX12_runs_146 (by decide) ?_
      obtain ⟨x31, σ29, hc30, h⟩ := cI_t h
      refine J_cVi (pc := 152) (ctX12_behindEnds l E o (x28 + (1 : Int32)) ho σ22 hc30) dX12_runs_152 mlX12_423 mvX12_behindEnds ho rfl (by decide) rfl (Nat.le_of_ble_eq_true rfl) ?_
      refine J_istore_n (pc := 155) (L' := [(2, .int x31), (0, .ref (e_a E o 0)), (3, .int v3)]) dX12_runs_155 (by decide) rfl ?_
      refine J_goto (pc := 156) 26 dX12_runs_156 (by decide) ?_
      refine J_sub (L' := [(0, .ref (e_a E o 0)), (2, .int x31)]) [1, 0] rfl ?_
      exact hk26 x31 σ29 h
def fX12_runs_26 (o : Nat) (a1 : Int32) : Nat → Int32 → Mm → Option (Mm)
  | 0, _, _ => none
  | n + 1, v2, σ => g_ar σ o 0 2950 (6 : Int32) (fun x7 => if x7 ≤ v2 then (some σ) else (r_sc σ o 36 (fun x8 => if x8 = (400 : Int32) then (p_sc σ o 38 (1 : Int32) (fun σ17 => some σ17)) else (r_sc σ o 36 (fun x9 => p_sc σ o 36 (x9 + (1 : Int32)) (fun σ10 => g_ar σ10 o 0 2950 ((120 : Int32) + ((6 : Int32) * v2)) (fun x11 => if x11 = (22 : Int32) then (some σ10) else (c_V (fX12_does o ((120 : Int32) + ((6 : Int32) * v2)) σ10) (fun σ12 => g_ar σ12 o 0 2950 ((120 : Int32) + ((6 : Int32) * v2)) (fun x14 => if x14 = (20 : Int32) then (g_ar σ12 o 0 2950 (((120 : Int32) + ((6 : Int32) * v2)) + (1 : Int32)) (fun x15 => s_ar σ12 o 14 80 v2 (x15 - (1 : Int32)) (fun σ16 => fX12_runs_115 o a1 (fX12_runs_26 o a1 n) v2 ((120 : Int32) + ((6 : Int32) * v2)) σ16))) else (fX12_runs_115 o a1 (fX12_runs_26 o a1 n) v2 ((120 : Int32) + ((6 : Int32) * v2)) σ12)))))))))))
set_option maxRecDepth 100000 in
set_option maxHeartbeats 4000000 in
theorem tX12_runs_26 (l : Launch) (E : EV) {τ : Mm} (o : Nat) (a1 : Int32) (ho : KD o = 12) : ∀ (n : Nat) (v2 : Int32) (σ : Mm), fX12_runs_26 o a1 n v2 σ = some τ → Jd l E mX12_runs 8 (none, τ) σ 26 [(0, .ref (e_a E o 0)), (2, .int v2)] [] := by
  intro n
  induction n with
  | zero => intro v2 σ h; rw [fX12_runs_26] at h; cases h
  | succ n ih =>
    intro v2 σ h
    rw [fX12_runs_26] at h
    refine J_iload_n (pc := 26) 1 dX12_runs_26 rfl ?_
    refine J_aload_n (pc := 27) 0 dX12_runs_27 rfl ?_
    refine J_getA (pc := 28) dX12_runs_28 ho flX12_7 rfl ?_
    refine J_bipush (pc := 31) (6 : Int32) dX12_runs_31 (by decide) ?_
    refine J_iald (pc := 33) dX12_runs_33 ho ha12_0 h (fun x7 h => ?_)
    refine J_icmp_ge (pc := 34) 159 dX12_runs_34 (by decide) h (fun h => ?_) (fun h => ?_)
    · cases h
      exact J_vret (pc := 159) dX12_runs_159 rfl
    · refine J_aload_n (pc := 37) 0 dX12_runs_37 rfl ?_
      refine J_getI (pc := 38) dX12_runs_38 ho flX12_411 rfl h (fun x8 h => ?_)
      refine J_sipush (pc := 41) (400 : Int32) dX12_runs_41 (by decide) ?_
      refine J_icmp_ne (pc := 44) 53 dX12_runs_44 (by decide) h (fun h => ?_) (fun h => ?_)
      · refine J_bipush (pc := 53) (120 : Int32) dX12_runs_53 (by decide) ?_
        refine J_bipush (pc := 55) (6 : Int32) dX12_runs_55 (by decide) ?_
        refine J_iload_n (pc := 57) 1 dX12_runs_57 rfl ?_
        refine J_imul (pc := 58) dX12_runs_58 ?_
        refine J_iadd (pc := 59) dX12_runs_59 ?_
        refine J_istore_n (pc := 60) (L' := [(3, .int ((120 : Int32) + ((6 : Int32) * v2))), (0, .ref (e_a E o 0)), (2, .int v2)]) dX12_runs_60 (by decide) rfl ?_
        refine J_aload_n (pc := 61) 1 dX12_runs_61 rfl ?_
        refine J_dup (pc := 62) dX12_runs_62 rfl ?_
        refine J_getI (pc := 63) dX12_runs_63 ho flX12_411 rfl h (fun x9 h => ?_)
        refine J_iconst (pc := 66) (1 : Int32) dX12_runs_66 (by decide) ?_
        refine J_iadd (pc := 67) dX12_runs_67 ?_
        refine J_putI (pc := 68) dX12_runs_68 ho flX12_411 rfl h (fun σ10 h => ?_)
        refine J_aload_n (pc := 71) 1 dX12_runs_71 rfl ?_
        refine J_getA (pc := 72) dX12_runs_72 ho flX12_7 rfl ?_
        refine J_iload_n (pc := 75) 0 dX12_runs_75 rfl ?_
        refine J_iald (pc := 76) dX12_runs_76 ho ha12_0 h (fun x11 h => ?_)
        refine J_bipush (pc := 77) (22 : Int32) dX12_runs_77 (by decide) ?_
        refine J_icmp_ne (pc := 79) 83 dX12_runs_79 (by decide) h (fun h => ?_) (fun h => ?_)
        · refine J_aload_n (pc := 83) 1 dX12_runs_83 rfl ?_
          refine J_iload_n (pc := 84) 0 dX12_runs_84 rfl ?_
          obtain ⟨σ12, hc13, h⟩ := cV_t h
          refine J_cVv (pc := 85) (ctX12_does l E o ((120 : Int32) + ((6 : Int32) * v2)) ho σ10 hc13) dX12_runs_85 mlX12_417 mvX12_does ho rfl (by decide) rfl (Nat.le_of_ble_eq_true rfl) ?_
          refine J_aload_n (pc := 88) 1 dX12_runs_88 rfl ?_
          refine J_getA (pc := 89) dX12_runs_89 ho flX12_7 rfl ?_
          refine J_iload_n (pc := 92) 0 dX12_runs_92 rfl ?_
          refine J_iald (pc := 93) dX12_runs_93 ho ha12_0 h (fun x14 h => ?_)
          refine J_bipush (pc := 94) (20 : Int32) dX12_runs_94 (by decide) ?_
          refine J_icmp_ne (pc := 96) 115 dX12_runs_96 (by decide) h (fun h => ?_) (fun h => ?_)
          · refine J_sub (L' := [(0, .ref (e_a E o 0)), (2, .int v2), (3, .int ((120 : Int32) + ((6 : Int32) * v2)))]) [1, 2, 0] rfl ?_
            exact tX12_runs_115 l E o a1 ho (fX12_runs_26 o a1 n) ih v2 ((120 : Int32) + ((6 : Int32) * v2)) σ12 h
          · refine J_aload_n (pc := 99) 1 dX12_runs_99 rfl ?_
            refine J_getA (pc := 100) dX12_runs_100 ho flX12_65 rfl ?_
            refine J_iload_n (pc := 103) 2 dX12_runs_103 rfl ?_
            refine J_aload_n (pc := 104) 1 dX12_runs_104 rfl ?_
            refine J_getA (pc := 105) dX12_runs_105 ho flX12_7 rfl ?_
            refine J_iload_n (pc := 108) 0 dX12_runs_108 rfl ?_
            refine J_iconst (pc := 109) (1 : Int32) dX12_runs_109 (by decide) ?_
            refine J_iadd (pc := 110) dX12_runs_110 ?_
            refine J_iald (pc := 111) dX12_runs_111 ho ha12_0 h (fun x15 h => ?_)
            refine J_iconst (pc := 112) (1 : Int32) dX12_runs_112 (by decide) ?_
            refine J_isub (pc := 113) dX12_runs_113 ?_
            refine J_iast (pc := 114) dX12_runs_114 ho ha12_14 h (fun σ16 h => ?_)
            refine J_sub (L' := [(0, .ref (e_a E o 0)), (2, .int v2), (3, .int ((120 : Int32) + ((6 : Int32) * v2)))]) [1, 2, 0] rfl ?_
            exact tX12_runs_115 l E o a1 ho (fX12_runs_26 o a1 n) ih v2 ((120 : Int32) + ((6 : Int32) * v2)) σ16 h
        · cases h
          exact J_vret (pc := 82) dX12_runs_82 rfl
      · refine J_aload_n (pc := 47) 0 dX12_runs_47 rfl ?_
        refine J_iconst (pc := 48) (1 : Int32) dX12_runs_48 (by decide) ?_
        refine J_putI (pc := 49) dX12_runs_49 ho flX12_414 rfl h (fun σ17 h => ?_)
        cases h
        exact J_vret (pc := 52) dX12_runs_52 rfl
def fX12_runs (o : Nat) (a1 : Int32) (σ : Mm) : Option (Mm) := c_V (fX12_begins1 o σ) (fun σ1 => p_sc σ1 o 35 a1 (fun σ3 => p_sc σ3 o 36 (0 : Int32) (fun σ4 => p_sc σ4 o 37 (0 : Int32) (fun σ5 => p_sc σ5 o 38 (0 : Int32) (fun σ6 => fX12_runs_26 o a1 FU (0 : Int32) σ6)))))
set_option maxRecDepth 100000 in
set_option maxHeartbeats 4000000 in
theorem ctX12_runs (l : Launch) (E : EV) (o : Nat) (a1 : Int32) (ho : KD o = 12) (σ : Mm) {τ : Mm} (h : fX12_runs o a1 σ = some τ) : Ct l E mX12_runs 8 [.ref (e_a E o 0), .int a1] σ (none, τ) := by
  refine Ct.of (by decide +kernel) (Nat.le_of_ble_eq_true rfl) ?_
  show Jd l E mX12_runs 8 (none, τ) σ 0 [(0, .ref (e_a E o 0)), (1, .int a1)] []
  unfold fX12_runs at h
  refine J_aload_n (pc := 0) 0 dX12_runs_0 rfl ?_
  obtain ⟨σ1, hc2, h⟩ := cV_t h
  refine J_cVv (pc := 1) (ctX12_begins1 l E o ho σ hc2) dX12_runs_1 mlX12_325 mvX12_begins1 ho rfl (by decide) rfl (Nat.le_of_ble_eq_true rfl) ?_
  refine J_aload_n (pc := 4) 0 dX12_runs_4 rfl ?_
  refine J_iload_n (pc := 5) 1 dX12_runs_5 rfl ?_
  refine J_putI (pc := 6) dX12_runs_6 ho flX12_398 rfl h (fun σ3 h => ?_)
  refine J_aload_n (pc := 9) 0 dX12_runs_9 rfl ?_
  refine J_iconst (pc := 10) (0 : Int32) dX12_runs_10 (by decide) ?_
  refine J_putI (pc := 11) dX12_runs_11 ho flX12_411 rfl h (fun σ4 h => ?_)
  refine J_aload_n (pc := 14) 0 dX12_runs_14 rfl ?_
  refine J_iconst (pc := 15) (0 : Int32) dX12_runs_15 (by decide) ?_
  refine J_putI (pc := 16) dX12_runs_16 ho flX12_405 rfl h (fun σ5 h => ?_)
  refine J_aload_n (pc := 19) 0 dX12_runs_19 rfl ?_
  refine J_iconst (pc := 20) (0 : Int32) dX12_runs_20 (by decide) ?_
  refine J_putI (pc := 21) dX12_runs_21 ho flX12_414 rfl h (fun σ6 h => ?_)
  refine J_iconst (pc := 24) (0 : Int32) dX12_runs_24 (by decide) ?_
  refine J_istore_n (pc := 25) (L' := [(2, .int (0 : Int32)), (0, .ref (e_a E o 0)), (1, .int a1)]) dX12_runs_25 (by decide) rfl ?_
  refine J_sub (L' := [(0, .ref (e_a E o 0)), (2, .int (0 : Int32))]) [1, 0] rfl ?_
  exact tX12_runs_26 l E o a1 ho FU (0 : Int32) σ6 h
def fX12_run_103 (o : Nat) (a1 : Int32) : Nat → Int32 → Mm → Option (Int32 × Mm)
  | 0, _, _ => none
  | n + 1, v2, σ => if (8 : Int32) ≤ v2 then (r_sc σ o 36 (fun x27 => c_I (fX12_gives o x27 σ) (fun x30 σ28 => some (x30, σ28)))) else (c_I (fX12_vaneAt o v2 (3 : Int32) σ) (fun x33 σ31 => s_ar σ31 o 16 8 v2 x33 (fun σ34 => (fX12_run_103 o a1 n) (v2 + (1 : Int32)) σ34)))
set_option maxRecDepth 100000 in
set_option maxHeartbeats 4000000 in
theorem tX12_run_103 (l : Launch) (E : EV) {xr : Int32} {τ : Mm} (o : Nat) (a1 : Int32) (ho : KD o = 12) : ∀ (n : Nat) (v2 : Int32) (σ : Mm), fX12_run_103 o a1 n v2 σ = some (xr, τ) → Jd l E mX12_run 9 (some (.int xr), τ) σ 103 [(0, .ref (e_a E o 0)), (2, .int v2)] [] := by
  intro n
  induction n with
  | zero => intro v2 σ h; rw [fX12_run_103] at h; cases h
  | succ n ih =>
    intro v2 σ h
    rw [fX12_run_103] at h
    refine J_iload_n (pc := 103) 1 dX12_run_103 rfl ?_
    refine J_bipush (pc := 104) (8 : Int32) dX12_run_104 (by decide) ?_
    refine J_icmp_ge (pc := 106) 127 dX12_run_106 (by decide) h (fun h => ?_) (fun h => ?_)
    · refine J_aload_n (pc := 127) 0 dX12_run_127 rfl ?_
      refine J_aload_n (pc := 128) 0 dX12_run_128 rfl ?_
      refine J_getI (pc := 129) dX12_run_129 ho flX12_411 rfl h (fun x27 h => ?_)
      obtain ⟨x30, σ28, hc29, h⟩ := cI_t h
      refine J_cVi (pc := 132) (ctX12_gives l E o x27 ho σ hc29) dX12_run_132 mlX12_87 mvX12_gives ho rfl (by decide) rfl (Nat.le_of_ble_eq_true rfl) ?_
      cases h
      exact J_iret (pc := 135) dX12_run_135 rfl rfl
    · refine J_aload_n (pc := 109) 0 dX12_run_109 rfl ?_
      refine J_getA (pc := 110) dX12_run_110 ho flX12_71 rfl ?_
      refine J_iload_n (pc := 113) 1 dX12_run_113 rfl ?_
      refine J_aload_n (pc := 114) 0 dX12_run_114 rfl ?_
      refine J_iload_n (pc := 115) 1 dX12_run_115 rfl ?_
      refine J_iconst (pc := 116) (3 : Int32) dX12_run_116 (by decide) ?_
      obtain ⟨x33, σ31, hc32, h⟩ := cI_t h
      refine J_cVi (pc := 117) (ctX12_vaneAt l E o v2 (3 : Int32) ho σ hc32) dX12_run_117 mlX12_249 mvX12_vaneAt ho rfl (by decide) rfl (Nat.le_of_ble_eq_true rfl) ?_
      refine J_iast (pc := 120) dX12_run_120 ho ha12_16 h (fun σ34 h => ?_)
      refine J_iinc (pc := 121) (L' := [(2, .int (v2 + (1 : Int32))), (0, .ref (e_a E o 0))]) 1 (v2 + (1 : Int32)) dX12_run_121 rfl (by rfl) (by decide) rfl ?_
      refine J_goto (pc := 124) 103 dX12_run_124 (by decide) ?_
      refine J_sub (L' := [(0, .ref (e_a E o 0)), (2, .int (v2 + (1 : Int32)))]) [1, 0] rfl ?_
      exact ih (v2 + (1 : Int32)) σ34 h
def fX12_run (o : Nat) (a1 : Int32) (σ : Mm) : Option (Int32 × Mm) := c_I (fX12_isFrom a1.toInt64 (0 : Int64) (9999 : Int64) σ) (fun x3 σ1 => if x3 = 0 then (c_I (fX12_refuse o (1 : Int32) σ1) (fun x26 σ24 => some (x26, σ24))) else (g_ar σ1 o 0 2950 (6 : Int32) (fun x4 => if x4 = (-1 : Int32) then (c_I (fX12_refuse o (6 : Int32) σ1) (fun x23 σ21 => some (x23, σ21))) else (c_V (fX12_runs o a1 σ1) (fun σ5 => r_sc σ5 o 37 (fun x7 => s_ar σ5 o 15 5 (0 : Int32) x7 (fun σ8 => r_sc σ8 o 27 (fun x9 => s_ar σ8 o 15 5 (1 : Int32) x9 (fun σ10 => r_sc σ10 o 26 (fun x11 => s_ar σ10 o 15 5 (2 : Int32) x11 (fun σ12 => c_I (fX12_rightSet o σ12) (fun x15 σ13 => s_ar σ13 o 15 5 (3 : Int32) x15 (fun σ16 => r_sc σ16 o 38 (fun x17 => s_ar σ16 o 15 5 (4 : Int32) x17 (fun σ18 => g_ar σ18 o 0 2950 (1 : Int32) (fun x19 => p_sc σ18 o 42 x19 (fun σ20 => fX12_run_103 o a1 FU (0 : Int32) σ20)))))))))))))))))
set_option maxRecDepth 100000 in
set_option maxHeartbeats 4000000 in
theorem ctX12_run (l : Launch) (E : EV) (o : Nat) (a1 : Int32) (ho : KD o = 12) (σ : Mm) {xr : Int32} {τ : Mm} (h : fX12_run o a1 σ = some (xr, τ)) : Ct l E mX12_run 9 [.ref (e_a E o 0), .int a1] σ (some (.int xr), τ) := by
  refine Ct.of (by decide +kernel) (Nat.le_of_ble_eq_true rfl) ?_
  show Jd l E mX12_run 9 (some (.int xr), τ) σ 0 [(0, .ref (e_a E o 0)), (1, .int a1)] []
  unfold fX12_run at h
  refine J_iload_n (pc := 0) 1 dX12_run_0 rfl ?_
  refine J_i2l (pc := 1) dX12_run_1 ?_
  refine J_lconst (pc := 2) (0 : Int64) dX12_run_2 (by decide) ?_
  refine J_ldc2 (pc := 3) (9999 : Int64) dX12_run_3 klX12_426 ?_
  obtain ⟨x3, σ1, hc2, h⟩ := cI_t h
  refine J_cSi (pc := 6) (ctX12_isFrom l E a1.toInt64 (0 : Int64) (9999 : Int64) σ hc2) dX12_run_6 mlX12_321 msX12_isFrom rfl (by decide) rfl (Nat.le_of_ble_eq_true rfl) ?_
  refine J_if_ne (pc := 9) 18 dX12_run_9 (by decide) h (fun h => ?_) (fun h => ?_)
  · refine J_aload_n (pc := 18) 0 dX12_run_18 rfl ?_
    refine J_getA (pc := 19) dX12_run_19 ho flX12_7 rfl ?_
    refine J_bipush (pc := 22) (6 : Int32) dX12_run_22 (by decide) ?_
    refine J_iald (pc := 24) dX12_run_24 ho ha12_0 h (fun x4 h => ?_)
    refine J_iconst (pc := 25) (-1 : Int32) dX12_run_25 (by decide) ?_
    refine J_icmp_ne (pc := 26) 36 dX12_run_26 (by decide) h (fun h => ?_) (fun h => ?_)
    · refine J_aload_n (pc := 36) 0 dX12_run_36 rfl ?_
      refine J_iload_n (pc := 37) 1 dX12_run_37 rfl ?_
      obtain ⟨σ5, hc6, h⟩ := cV_t h
      refine J_cVv (pc := 38) (ctX12_runs l E o a1 ho σ1 hc6) dX12_run_38 mlX12_428 mvX12_runs ho rfl (by decide) rfl (Nat.le_of_ble_eq_true rfl) ?_
      refine J_aload_n (pc := 41) 0 dX12_run_41 rfl ?_
      refine J_getA (pc := 42) dX12_run_42 ho flX12_68 rfl ?_
      refine J_iconst (pc := 45) (0 : Int32) dX12_run_45 (by decide) ?_
      refine J_aload_n (pc := 46) 0 dX12_run_46 rfl ?_
      refine J_getI (pc := 47) dX12_run_47 ho flX12_405 rfl h (fun x7 h => ?_)
      refine J_iast (pc := 50) dX12_run_50 ho ha12_15 h (fun σ8 h => ?_)
      refine J_aload_n (pc := 51) 0 dX12_run_51 rfl ?_
      refine J_getA (pc := 52) dX12_run_52 ho flX12_68 rfl ?_
      refine J_iconst (pc := 55) (1 : Int32) dX12_run_55 (by decide) ?_
      refine J_aload_n (pc := 56) 0 dX12_run_56 rfl ?_
      refine J_getI (pc := 57) dX12_run_57 ho flX12_282 rfl h (fun x9 h => ?_)
      refine J_iast (pc := 60) dX12_run_60 ho ha12_15 h (fun σ10 h => ?_)
      refine J_aload_n (pc := 61) 0 dX12_run_61 rfl ?_
      refine J_getA (pc := 62) dX12_run_62 ho flX12_68 rfl ?_
      refine J_iconst (pc := 65) (2 : Int32) dX12_run_65 (by decide) ?_
      refine J_aload_n (pc := 66) 0 dX12_run_66 rfl ?_
      refine J_getI (pc := 67) dX12_run_67 ho flX12_285 rfl h (fun x11 h => ?_)
      refine J_iast (pc := 70) dX12_run_70 ho ha12_15 h (fun σ12 h => ?_)
      refine J_aload_n (pc := 71) 0 dX12_run_71 rfl ?_
      refine J_getA (pc := 72) dX12_run_72 ho flX12_68 rfl ?_
      refine J_iconst (pc := 75) (3 : Int32) dX12_run_75 (by decide) ?_
      refine J_aload_n (pc := 76) 0 dX12_run_76 rfl ?_
      obtain ⟨x15, σ13, hc14, h⟩ := cI_t h
      refine J_cVi (pc := 77) (ctX12_rightSet l E o ho σ12 hc14) dX12_run_77 mlX12_358 mvX12_rightSet ho rfl (by decide) rfl (Nat.le_of_ble_eq_true rfl) ?_
      refine J_iast (pc := 80) dX12_run_80 ho ha12_15 h (fun σ16 h => ?_)
      refine J_aload_n (pc := 81) 0 dX12_run_81 rfl ?_
      refine J_getA (pc := 82) dX12_run_82 ho flX12_68 rfl ?_
      refine J_iconst (pc := 85) (4 : Int32) dX12_run_85 (by decide) ?_
      refine J_aload_n (pc := 86) 0 dX12_run_86 rfl ?_
      refine J_getI (pc := 87) dX12_run_87 ho flX12_414 rfl h (fun x17 h => ?_)
      refine J_iast (pc := 90) dX12_run_90 ho ha12_15 h (fun σ18 h => ?_)
      refine J_aload_n (pc := 91) 0 dX12_run_91 rfl ?_
      refine J_aload_n (pc := 92) 0 dX12_run_92 rfl ?_
      refine J_getA (pc := 93) dX12_run_93 ho flX12_7 rfl ?_
      refine J_iconst (pc := 96) (1 : Int32) dX12_run_96 (by decide) ?_
      refine J_iald (pc := 97) dX12_run_97 ho ha12_0 h (fun x19 h => ?_)
      refine J_putI (pc := 98) dX12_run_98 ho flX12_74 rfl h (fun σ20 h => ?_)
      refine J_iconst (pc := 101) (0 : Int32) dX12_run_101 (by decide) ?_
      refine J_istore_n (pc := 102) (L' := [(2, .int (0 : Int32)), (0, .ref (e_a E o 0)), (1, .int a1)]) dX12_run_102 (by decide) rfl ?_
      refine J_sub (L' := [(0, .ref (e_a E o 0)), (2, .int (0 : Int32))]) [1, 0] rfl ?_
      exact tX12_run_103 l E o a1 ho FU (0 : Int32) σ20 h
    · refine J_aload_n (pc := 29) 0 dX12_run_29 rfl ?_
      refine J_bipush (pc := 30) (6 : Int32) dX12_run_30 (by decide) ?_
      obtain ⟨x23, σ21, hc22, h⟩ := cI_t h
      refine J_cVi (pc := 32) (ctX12_refuse l E o (6 : Int32) ho σ1 hc22) dX12_run_32 mlX12_83 mvX12_refuse ho rfl (by decide) rfl (Nat.le_of_ble_eq_true rfl) ?_
      cases h
      exact J_iret (pc := 35) dX12_run_35 rfl rfl
  · refine J_aload_n (pc := 12) 0 dX12_run_12 rfl ?_
    refine J_iconst (pc := 13) (1 : Int32) dX12_run_13 (by decide) ?_
    obtain ⟨x26, σ24, hc25, h⟩ := cI_t h
    refine J_cVi (pc := 14) (ctX12_refuse l E o (1 : Int32) ho σ1 hc25) dX12_run_14 mlX12_83 mvX12_refuse ho rfl (by decide) rfl (Nat.le_of_ble_eq_true rfl) ?_
    cases h
    exact J_iret (pc := 17) dX12_run_17 rfl rfl
def fX12_ran (o : Nat) (a1 : Int32) (σ : Mm) : Option (Int32 × Mm) := if a1 < 0 then (c_I (fX12_refuse o (1 : Int32) σ) (fun x3 σ1 => some (x3, σ1))) else (if a1 ≤ (4 : Int32) then (r_sc σ o 42 (fun x4 => if x4 = (-1 : Int32) then (c_I (fX12_refuse o (6 : Int32) σ) (fun x11 σ9 => some (x11, σ9))) else (g_ar σ o 15 5 a1 (fun x5 => c_I (fX12_gives o x5 σ) (fun x8 σ6 => some (x8, σ6)))))) else (c_I (fX12_refuse o (1 : Int32) σ) (fun x14 σ12 => some (x14, σ12))))
set_option maxRecDepth 100000 in
set_option maxHeartbeats 4000000 in
theorem ctX12_ran (l : Launch) (E : EV) (o : Nat) (a1 : Int32) (ho : KD o = 12) (σ : Mm) {xr : Int32} {τ : Mm} (h : fX12_ran o a1 σ = some (xr, τ)) : Ct l E mX12_ran 1 [.ref (e_a E o 0), .int a1] σ (some (.int xr), τ) := by
  refine Ct.of (by decide +kernel) (Nat.le_of_ble_eq_true rfl) ?_
  show Jd l E mX12_ran 1 (some (.int xr), τ) σ 0 [(0, .ref (e_a E o 0)), (1, .int a1)] []
  unfold fX12_ran at h
  refine J_iload_n (pc := 0) 1 dX12_ran_0 rfl ?_
  refine J_if_lt (pc := 1) 9 dX12_ran_1 (by decide) h (fun h => ?_) (fun h => ?_)
  · refine J_aload_n (pc := 9) 0 dX12_ran_9 rfl ?_
    refine J_iconst (pc := 10) (1 : Int32) dX12_ran_10 (by decide) ?_
    obtain ⟨x3, σ1, hc2, h⟩ := cI_t h
    refine J_cVi (pc := 11) (ctX12_refuse l E o (1 : Int32) ho σ hc2) dX12_ran_11 mlX12_83 mvX12_refuse ho rfl (by decide) rfl (Nat.le_of_ble_eq_true rfl) ?_
    refine J_goto (pc := 14) 44 dX12_ran_14 (by decide) ?_
    cases h
    exact J_iret (pc := 44) dX12_ran_44 rfl rfl
  · refine J_iload_n (pc := 4) 1 dX12_ran_4 rfl ?_
    refine J_iconst (pc := 5) (4 : Int32) dX12_ran_5 (by decide) ?_
    refine J_icmp_le (pc := 6) 17 dX12_ran_6 (by decide) h (fun h => ?_) (fun h => ?_)
    · refine J_aload_n (pc := 17) 0 dX12_ran_17 rfl ?_
      refine J_getI (pc := 18) dX12_ran_18 ho flX12_74 rfl h (fun x4 h => ?_)
      refine J_iconst (pc := 21) (-1 : Int32) dX12_ran_21 (by decide) ?_
      refine J_icmp_ne (pc := 22) 34 dX12_ran_22 (by decide) h (fun h => ?_) (fun h => ?_)
      · refine J_aload_n (pc := 34) 0 dX12_ran_34 rfl ?_
        refine J_aload_n (pc := 35) 0 dX12_ran_35 rfl ?_
        refine J_getA (pc := 36) dX12_ran_36 ho flX12_68 rfl ?_
        refine J_iload_n (pc := 39) 1 dX12_ran_39 rfl ?_
        refine J_iald (pc := 40) dX12_ran_40 ho ha12_15 h (fun x5 h => ?_)
        obtain ⟨x8, σ6, hc7, h⟩ := cI_t h
        refine J_cVi (pc := 41) (ctX12_gives l E o x5 ho σ hc7) dX12_ran_41 mlX12_87 mvX12_gives ho rfl (by decide) rfl (Nat.le_of_ble_eq_true rfl) ?_
        cases h
        exact J_iret (pc := 44) dX12_ran_44 rfl rfl
      · refine J_aload_n (pc := 25) 0 dX12_ran_25 rfl ?_
        refine J_bipush (pc := 26) (6 : Int32) dX12_ran_26 (by decide) ?_
        obtain ⟨x11, σ9, hc10, h⟩ := cI_t h
        refine J_cVi (pc := 28) (ctX12_refuse l E o (6 : Int32) ho σ hc10) dX12_ran_28 mlX12_83 mvX12_refuse ho rfl (by decide) rfl (Nat.le_of_ble_eq_true rfl) ?_
        refine J_goto (pc := 31) 44 dX12_ran_31 (by decide) ?_
        cases h
        exact J_iret (pc := 44) dX12_ran_44 rfl rfl
    · refine J_aload_n (pc := 9) 0 dX12_ran_9 rfl ?_
      refine J_iconst (pc := 10) (1 : Int32) dX12_ran_10 (by decide) ?_
      obtain ⟨x14, σ12, hc13, h⟩ := cI_t h
      refine J_cVi (pc := 11) (ctX12_refuse l E o (1 : Int32) ho σ hc13) dX12_ran_11 mlX12_83 mvX12_refuse ho rfl (by decide) rfl (Nat.le_of_ble_eq_true rfl) ?_
      refine J_goto (pc := 14) 44 dX12_ran_14 (by decide) ?_
      cases h
      exact J_iret (pc := 44) dX12_ran_44 rfl rfl
def fX12_ranTo (o : Nat) (a1 : Int32) (σ : Mm) : Option (Int32 × Mm) := if a1 < 0 then (c_I (fX12_refuse o (1 : Int32) σ) (fun x3 σ1 => some (x3, σ1))) else (if a1 < (8 : Int32) then (r_sc σ o 42 (fun x4 => if a1 < x4 then (g_ar σ o 16 8 a1 (fun x5 => c_I (fX12_gives o x5 σ) (fun x8 σ6 => some (x8, σ6)))) else (c_I (fX12_refuse o (6 : Int32) σ) (fun x11 σ9 => some (x11, σ9))))) else (c_I (fX12_refuse o (1 : Int32) σ) (fun x14 σ12 => some (x14, σ12))))
set_option maxRecDepth 100000 in
set_option maxHeartbeats 4000000 in
theorem ctX12_ranTo (l : Launch) (E : EV) (o : Nat) (a1 : Int32) (ho : KD o = 12) (σ : Mm) {xr : Int32} {τ : Mm} (h : fX12_ranTo o a1 σ = some (xr, τ)) : Ct l E mX12_ranTo 1 [.ref (e_a E o 0), .int a1] σ (some (.int xr), τ) := by
  refine Ct.of (by decide +kernel) (Nat.le_of_ble_eq_true rfl) ?_
  show Jd l E mX12_ranTo 1 (some (.int xr), τ) σ 0 [(0, .ref (e_a E o 0)), (1, .int a1)] []
  unfold fX12_ranTo at h
  refine J_iload_n (pc := 0) 1 dX12_ranTo_0 rfl ?_
  refine J_if_lt (pc := 1) 10 dX12_ranTo_1 (by decide) h (fun h => ?_) (fun h => ?_)
  · refine J_aload_n (pc := 10) 0 dX12_ranTo_10 rfl ?_
    refine J_iconst (pc := 11) (1 : Int32) dX12_ranTo_11 (by decide) ?_
    obtain ⟨x3, σ1, hc2, h⟩ := cI_t h
    refine J_cVi (pc := 12) (ctX12_refuse l E o (1 : Int32) ho σ hc2) dX12_ranTo_12 mlX12_83 mvX12_refuse ho rfl (by decide) rfl (Nat.le_of_ble_eq_true rfl) ?_
    refine J_goto (pc := 15) 45 dX12_ranTo_15 (by decide) ?_
    cases h
    exact J_iret (pc := 45) dX12_ranTo_45 rfl rfl
  · refine J_iload_n (pc := 4) 1 dX12_ranTo_4 rfl ?_
    refine J_bipush (pc := 5) (8 : Int32) dX12_ranTo_5 (by decide) ?_
    refine J_icmp_lt (pc := 7) 18 dX12_ranTo_7 (by decide) h (fun h => ?_) (fun h => ?_)
    · refine J_iload_n (pc := 18) 1 dX12_ranTo_18 rfl ?_
      refine J_aload_n (pc := 19) 0 dX12_ranTo_19 rfl ?_
      refine J_getI (pc := 20) dX12_ranTo_20 ho flX12_74 rfl h (fun x4 h => ?_)
      refine J_icmp_lt (pc := 23) 35 dX12_ranTo_23 (by decide) h (fun h => ?_) (fun h => ?_)
      · refine J_aload_n (pc := 35) 0 dX12_ranTo_35 rfl ?_
        refine J_aload_n (pc := 36) 0 dX12_ranTo_36 rfl ?_
        refine J_getA (pc := 37) dX12_ranTo_37 ho flX12_71 rfl ?_
        refine J_iload_n (pc := 40) 1 dX12_ranTo_40 rfl ?_
        refine J_iald (pc := 41) dX12_ranTo_41 ho ha12_16 h (fun x5 h => ?_)
        obtain ⟨x8, σ6, hc7, h⟩ := cI_t h
        refine J_cVi (pc := 42) (ctX12_gives l E o x5 ho σ hc7) dX12_ranTo_42 mlX12_87 mvX12_gives ho rfl (by decide) rfl (Nat.le_of_ble_eq_true rfl) ?_
        cases h
        exact J_iret (pc := 45) dX12_ranTo_45 rfl rfl
      · refine J_aload_n (pc := 26) 0 dX12_ranTo_26 rfl ?_
        refine J_bipush (pc := 27) (6 : Int32) dX12_ranTo_27 (by decide) ?_
        obtain ⟨x11, σ9, hc10, h⟩ := cI_t h
        refine J_cVi (pc := 29) (ctX12_refuse l E o (6 : Int32) ho σ hc10) dX12_ranTo_29 mlX12_83 mvX12_refuse ho rfl (by decide) rfl (Nat.le_of_ble_eq_true rfl) ?_
        refine J_goto (pc := 32) 45 dX12_ranTo_32 (by decide) ?_
        cases h
        exact J_iret (pc := 45) dX12_ranTo_45 rfl rfl
    · refine J_aload_n (pc := 10) 0 dX12_ranTo_10 rfl ?_
      refine J_iconst (pc := 11) (1 : Int32) dX12_ranTo_11 (by decide) ?_
      obtain ⟨x14, σ12, hc13, h⟩ := cI_t h
      refine J_cVi (pc := 12) (ctX12_refuse l E o (1 : Int32) ho σ hc13) dX12_ranTo_12 mlX12_83 mvX12_refuse ho rfl (by decide) rfl (Nat.le_of_ble_eq_true rfl) ?_
      refine J_goto (pc := 15) 45 dX12_ranTo_15 (by decide) ?_
      cases h
      exact J_iret (pc := 45) dX12_ranTo_45 rfl rfl
def fX12_odds_73 (o : Nat) (a1 : Int32) (a2 : Int32) (a3 : Int32) : Nat → Int32 → Int32 → Mm → Option (Int32 × Mm)
  | 0, _, _, _ => none
  | n + 1, v4, v5, σ => if a3 ≤ v5 then (c_I (fX12_tellsBy o v4.toInt64 a3.toInt64 σ) (fun x33 σ31 => b_z x33 σ31)) else (c_V (fX12_runs o (a2 + v5) σ) (fun σ35 => c_I (fX12_isRight o a1 σ35) (fun x39 σ37 => if x39 = 0 then ((fX12_odds_73 o a1 a2 a3 n) (v4 + (0 : Int32)) (v5 + (1 : Int32)) σ37) else ((fX12_odds_73 o a1 a2 a3 n) (v4 + (1 : Int32)) (v5 + (1 : Int32)) σ37))))
set_option maxRecDepth 100000 in
set_option maxHeartbeats 4000000 in
theorem tX12_odds_73 (l : Launch) (E : EV) {xr : Int32} {τ : Mm} (o : Nat) (a1 : Int32) (a2 : Int32) (a3 : Int32) (ho : KD o = 12) : ∀ (n : Nat) (v4 : Int32) (v5 : Int32) (σ : Mm), fX12_odds_73 o a1 a2 a3 n v4 v5 σ = some (xr, τ) → Jd l E mX12_odds 9 (some (.int xr), τ) σ 73 [(0, .ref (e_a E o 0)), (1, .int a1), (2, .int a2), (3, .int a3), (4, .int v4), (5, .int v5)] [] := by
  intro n
  induction n with
  | zero => intro v4 v5 σ h; rw [fX12_odds_73] at h; cases h
  | succ n ih =>
    intro v4 v5 σ h
    rw [fX12_odds_73] at h
    refine J_iload (pc := 73) 5 dX12_odds_73 rfl ?_
    refine J_iload_n (pc := 75) 3 dX12_odds_75 rfl ?_
    refine J_icmp_ge (pc := 76) 111 dX12_odds_76 (by decide) h (fun h => ?_) (fun h => ?_)
    · refine J_aload_n (pc := 111) 0 dX12_odds_111 rfl ?_
      refine J_iload (pc := 112) 4 dX12_odds_112 rfl ?_
      refine J_i2l (pc := 114) dX12_odds_114 ?_
      refine J_iload_n (pc := 115) 3 dX12_odds_115 rfl ?_
      refine J_i2l (pc := 116) dX12_odds_116 ?_
      obtain ⟨x33, σ31, hc32, h⟩ := cI_t h
      refine J_cVi (pc := 117) (ctX12_tellsBy l E o v4.toInt64 a3.toInt64 ho σ hc32) dX12_odds_117 mlX12_351 mvX12_tellsBy ho rfl (by decide) rfl (Nat.le_of_ble_eq_true rfl) ?_
      obtain ⟨hz34, h⟩ := bz_t h
      cases h
      exact J_iret (pc := 120) dX12_odds_120 rfl hz34
    · refine J_aload_n (pc := 79) 0 dX12_odds_79 rfl ?_
      refine J_iload_n (pc := 80) 2 dX12_odds_80 rfl ?_
      refine J_iload (pc := 81) 5 dX12_odds_81 rfl ?_
      refine J_iadd (pc := 83) dX12_odds_83 ?_
      obtain ⟨σ35, hc36, h⟩ := cV_t h
      refine J_cVv (pc := 84) (ctX12_runs l E o (a2 + v5) ho σ hc36) dX12_odds_84 mlX12_428 mvX12_runs ho rfl (by decide) rfl (Nat.le_of_ble_eq_true rfl) ?_
      refine J_iload (pc := 87) 4 dX12_odds_87 rfl ?_
      refine J_aload_n (pc := 89) 0 dX12_odds_89 rfl ?_
      refine J_iload_n (pc := 90) 1 dX12_odds_90 rfl ?_
      obtain ⟨x39, σ37, hc38, h⟩ := cI_t h
      refine J_cVi (pc := 91) (ctX12_isRight l E o a1 ho σ35 hc38) dX12_odds_91 mlX12_258 mvX12_isRight ho rfl (by decide) rfl (Nat.le_of_ble_eq_true rfl) ?_
      refine J_if_eq (pc := 94) 101 dX12_odds_94 (by decide) h (fun h => ?_) (fun h => ?_)
      · refine J_iconst (pc := 101) (0 : Int32) dX12_odds_101 (by decide) ?_
        refine J_iadd (pc := 102) dX12_odds_102 ?_
        refine J_istore (pc := 103) (L' := [(4, .int (v4 + (0 : Int32))), (0, .ref (e_a E o 0)), (1, .int a1), (2, .int a2), (3, .int a3), (5, .int v5)]) dX12_odds_103 (by decide) rfl ?_
        refine J_iinc (pc := 105) (L' := [(5, .int (v5 + (1 : Int32))), (4, .int (v4 + (0 : Int32))), (0, .ref (e_a E o 0)), (1, .int a1), (2, .int a2), (3, .int a3)]) 5 (v5 + (1 : Int32)) dX12_odds_105 rfl (by rfl) (by decide) rfl ?_
        refine J_goto (pc := 108) 73 dX12_odds_108 (by decide) ?_
        refine J_sub (L' := [(0, .ref (e_a E o 0)), (1, .int a1), (2, .int a2), (3, .int a3), (4, .int (v4 + (0 : Int32))), (5, .int (v5 + (1 : Int32)))]) [2, 3, 4, 5, 1, 0] rfl ?_
        exact ih (v4 + (0 : Int32)) (v5 + (1 : Int32)) σ37 h
      · refine J_iconst (pc := 97) (1 : Int32) dX12_odds_97 (by decide) ?_
        refine J_goto (pc := 98) 102 dX12_odds_98 (by decide) ?_
        refine J_iadd (pc := 102) dX12_odds_102 ?_
        refine J_istore (pc := 103) (L' := [(4, .int (v4 + (1 : Int32))), (0, .ref (e_a E o 0)), (1, .int a1), (2, .int a2), (3, .int a3), (5, .int v5)]) dX12_odds_103 (by decide) rfl ?_
        refine J_iinc (pc := 105) (L' := [(5, .int (v5 + (1 : Int32))), (4, .int (v4 + (1 : Int32))), (0, .ref (e_a E o 0)), (1, .int a1), (2, .int a2), (3, .int a3)]) 5 (v5 + (1 : Int32)) dX12_odds_105 rfl (by rfl) (by decide) rfl ?_
        refine J_goto (pc := 108) 73 dX12_odds_108 (by decide) ?_
        refine J_sub (L' := [(0, .ref (e_a E o 0)), (1, .int a1), (2, .int a2), (3, .int a3), (4, .int (v4 + (1 : Int32))), (5, .int (v5 + (1 : Int32)))]) [2, 3, 4, 5, 1, 0] rfl ?_
        exact ih (v4 + (1 : Int32)) (v5 + (1 : Int32)) σ37 h
def fX12_odds (o : Nat) (a1 : Int32) (a2 : Int32) (a3 : Int32) (σ : Mm) : Option (Int32 × Mm) := c_I (fX12_isVane o a1 σ) (fun x3 σ1 => if x3 = 0 then (c_I (fX12_is o (1 : Int32) σ1) (fun x6 σ4 => b_z x6 σ4)) else (c_I (fX12_isFrom a2.toInt64 (0 : Int64) (9999 : Int64) σ1) (fun x10 σ8 => if x10 = 0 then (c_I (fX12_is o (1 : Int32) σ8) (fun x13 σ11 => b_z x13 σ11)) else (c_I (fX12_isFrom a3.toInt64 (1 : Int64) (20 : Int64) σ8) (fun x17 σ15 => if x17 = 0 then (c_I (fX12_is o (1 : Int32) σ15) (fun x20 σ18 => b_z x20 σ18)) else (if ((a2 + a3) - (1 : Int32)) ≤ (9999 : Int32) then (g_ar σ15 o 0 2950 (6 : Int32) (fun x22 => if x22 = (-1 : Int32) then (c_I (fX12_is o (6 : Int32) σ15) (fun x25 σ23 => b_z x25 σ23)) else (fX12_odds_73 o a1 a2 a3 FU (0 : Int32) (0 : Int32) σ15))) else (c_I (fX12_is o (1 : Int32) σ15) (fun x29 σ27 => b_z x29 σ27))))))))
set_option maxRecDepth 100000 in
set_option maxHeartbeats 4000000 in
theorem ctX12_odds (l : Launch) (E : EV) (o : Nat) (a1 : Int32) (a2 : Int32) (a3 : Int32) (ho : KD o = 12) (σ : Mm) {xr : Int32} {τ : Mm} (h : fX12_odds o a1 a2 a3 σ = some (xr, τ)) : Ct l E mX12_odds 9 [.ref (e_a E o 0), .int a1, .int a2, .int a3] σ (some (.int xr), τ) := by
  refine Ct.of (by decide +kernel) (Nat.le_of_ble_eq_true rfl) ?_
  show Jd l E mX12_odds 9 (some (.int xr), τ) σ 0 [(0, .ref (e_a E o 0)), (1, .int a1), (2, .int a2), (3, .int a3)] []
  unfold fX12_odds at h
  refine J_aload_n (pc := 0) 0 dX12_odds_0 rfl ?_
  refine J_iload_n (pc := 1) 1 dX12_odds_1 rfl ?_
  obtain ⟨x3, σ1, hc2, h⟩ := cI_t h
  refine J_cVi (pc := 2) (ctX12_isVane l E o a1 ho σ hc2) dX12_odds_2 mlX12_243 mvX12_isVane ho rfl (by decide) rfl (Nat.le_of_ble_eq_true rfl) ?_
  refine J_if_eq (pc := 5) 43 dX12_odds_5 (by decide) h (fun h => ?_) (fun h => ?_)
  · refine J_aload_n (pc := 43) 0 dX12_odds_43 rfl ?_
    refine J_iconst (pc := 44) (1 : Int32) dX12_odds_44 (by decide) ?_
    obtain ⟨x6, σ4, hc5, h⟩ := cI_t h
    refine J_cVi (pc := 45) (ctX12_is l E o (1 : Int32) ho σ1 hc5) dX12_odds_45 mlX12_90 mvX12_is ho rfl (by decide) rfl (Nat.le_of_ble_eq_true rfl) ?_
    obtain ⟨hz7, h⟩ := bz_t h
    cases h
    exact J_iret (pc := 48) dX12_odds_48 rfl hz7
  · refine J_iload_n (pc := 8) 2 dX12_odds_8 rfl ?_
    refine J_i2l (pc := 9) dX12_odds_9 ?_
    refine J_lconst (pc := 10) (0 : Int64) dX12_odds_10 (by decide) ?_
    refine J_ldc2 (pc := 11) (9999 : Int64) dX12_odds_11 klX12_426 ?_
    obtain ⟨x10, σ8, hc9, h⟩ := cI_t h
    refine J_cSi (pc := 14) (ctX12_isFrom l E a2.toInt64 (0 : Int64) (9999 : Int64) σ1 hc9) dX12_odds_14 mlX12_321 msX12_isFrom rfl (by decide) rfl (Nat.le_of_ble_eq_true rfl) ?_
    refine J_if_eq (pc := 17) 43 dX12_odds_17 (by decide) h (fun h => ?_) (fun h => ?_)
    · refine J_aload_n (pc := 43) 0 dX12_odds_43 rfl ?_
      refine J_iconst (pc := 44) (1 : Int32) dX12_odds_44 (by decide) ?_
      obtain ⟨x13, σ11, hc12, h⟩ := cI_t h
      refine J_cVi (pc := 45) (ctX12_is l E o (1 : Int32) ho σ8 hc12) dX12_odds_45 mlX12_90 mvX12_is ho rfl (by decide) rfl (Nat.le_of_ble_eq_true rfl) ?_
      obtain ⟨hz14, h⟩ := bz_t h
      cases h
      exact J_iret (pc := 48) dX12_odds_48 rfl hz14
    · refine J_iload_n (pc := 20) 3 dX12_odds_20 rfl ?_
      refine J_i2l (pc := 21) dX12_odds_21 ?_
      refine J_lconst (pc := 22) (1 : Int64) dX12_odds_22 (by decide) ?_
      refine J_ldc2 (pc := 23) (20 : Int64) dX12_odds_23 klX12_431 ?_
      obtain ⟨x17, σ15, hc16, h⟩ := cI_t h
      refine J_cSi (pc := 26) (ctX12_isFrom l E a3.toInt64 (1 : Int64) (20 : Int64) σ8 hc16) dX12_odds_26 mlX12_321 msX12_isFrom rfl (by decide) rfl (Nat.le_of_ble_eq_true rfl) ?_
      refine J_if_eq (pc := 29) 43 dX12_odds_29 (by decide) h (fun h => ?_) (fun h => ?_)
      · refine J_aload_n (pc := 43) 0 dX12_odds_43 rfl ?_
        refine J_iconst (pc := 44) (1 : Int32) dX12_odds_44 (by decide) ?_
        obtain ⟨x20, σ18, hc19, h⟩ := cI_t h
        refine J_cVi (pc := 45) (ctX12_is l E o (1 : Int32) ho σ15 hc19) dX12_odds_45 mlX12_90 mvX12_is ho rfl (by decide) rfl (Nat.le_of_ble_eq_true rfl) ?_
        obtain ⟨hz21, h⟩ := bz_t h
        cases h
        exact J_iret (pc := 48) dX12_odds_48 rfl hz21
      · refine J_iload_n (pc := 32) 2 dX12_odds_32 rfl ?_
        refine J_iload_n (pc := 33) 3 dX12_odds_33 rfl ?_
        refine J_iadd (pc := 34) dX12_odds_34 ?_
        refine J_iconst (pc := 35) (1 : Int32) dX12_odds_35 (by decide) ?_
        refine J_isub (pc := 36) dX12_odds_36 ?_
        refine J_sipush (pc := 37) (9999 : Int32) dX12_odds_37 (by decide) ?_
        refine J_icmp_le (pc := 40) 49 dX12_odds_40 (by decide) h (fun h => ?_) (fun h => ?_)
        · refine J_aload_n (pc := 49) 0 dX12_odds_49 rfl ?_
          refine J_getA (pc := 50) dX12_odds_50 ho flX12_7 rfl ?_
          refine J_bipush (pc := 53) (6 : Int32) dX12_odds_53 (by decide) ?_
          refine J_iald (pc := 55) dX12_odds_55 ho ha12_0 h (fun x22 h => ?_)
          refine J_iconst (pc := 56) (-1 : Int32) dX12_odds_56 (by decide) ?_
          refine J_icmp_ne (pc := 57) 67 dX12_odds_57 (by decide) h (fun h => ?_) (fun h => ?_)
          · refine J_iconst (pc := 67) (0 : Int32) dX12_odds_67 (by decide) ?_
            refine J_istore (pc := 68) (L' := [(4, .int (0 : Int32)), (0, .ref (e_a E o 0)), (1, .int a1), (2, .int a2), (3, .int a3)]) dX12_odds_68 (by decide) rfl ?_
            refine J_iconst (pc := 70) (0 : Int32) dX12_odds_70 (by decide) ?_
            refine J_istore (pc := 71) (L' := [(5, .int (0 : Int32)), (4, .int (0 : Int32)), (0, .ref (e_a E o 0)), (1, .int a1), (2, .int a2), (3, .int a3)]) dX12_odds_71 (by decide) rfl ?_
            refine J_sub (L' := [(0, .ref (e_a E o 0)), (1, .int a1), (2, .int a2), (3, .int a3), (4, .int (0 : Int32)), (5, .int (0 : Int32))]) [2, 3, 4, 5, 1, 0] rfl ?_
            exact tX12_odds_73 l E o a1 a2 a3 ho FU (0 : Int32) (0 : Int32) σ15 h
          · refine J_aload_n (pc := 60) 0 dX12_odds_60 rfl ?_
            refine J_bipush (pc := 61) (6 : Int32) dX12_odds_61 (by decide) ?_
            obtain ⟨x25, σ23, hc24, h⟩ := cI_t h
            refine J_cVi (pc := 63) (ctX12_is l E o (6 : Int32) ho σ15 hc24) dX12_odds_63 mlX12_90 mvX12_is ho rfl (by decide) rfl (Nat.le_of_ble_eq_true rfl) ?_
            obtain ⟨hz26, h⟩ := bz_t h
            cases h
            exact J_iret (pc := 66) dX12_odds_66 rfl hz26
        · refine J_aload_n (pc := 43) 0 dX12_odds_43 rfl ?_
          refine J_iconst (pc := 44) (1 : Int32) dX12_odds_44 (by decide) ?_
          obtain ⟨x29, σ27, hc28, h⟩ := cI_t h
          refine J_cVi (pc := 45) (ctX12_is l E o (1 : Int32) ho σ15 hc28) dX12_odds_45 mlX12_90 mvX12_is ho rfl (by decide) rfl (Nat.le_of_ble_eq_true rfl) ?_
          obtain ⟨hz30, h⟩ := bz_t h
          cases h
          exact J_iret (pc := 48) dX12_odds_48 rfl hz30
def fX12_copies_41 (o : Nat) (a1 : Int32) (a2 : Int32) : Nat → Int32 → Mm → Option (Mm)
  | 0, _, _ => none
  | n + 1, v3, σ => if (22 : Int32) ≤ v3 then (some σ) else (g_la σ o 1 120 (((22 : Int32) * a1) + v3) (fun x3 => s_la σ o 1 120 (((22 : Int32) * a2) + v3) x3 (fun σ4 => (fX12_copies_41 o a1 a2 n) (v3 + (1 : Int32)) σ4)))
set_option maxRecDepth 100000 in
set_option maxHeartbeats 4000000 in
theorem tX12_copies_41 (l : Launch) (E : EV) {τ : Mm} (o : Nat) (a1 : Int32) (a2 : Int32) (ho : KD o = 12) : ∀ (n : Nat) (v3 : Int32) (σ : Mm), fX12_copies_41 o a1 a2 n v3 σ = some τ → Jd l E mX12_copies 0 (none, τ) σ 41 [(0, .ref (e_a E o 0)), (1, .int a1), (2, .int a2), (3, .int v3)] [] := by
  intro n
  induction n with
  | zero => intro v3 σ h; rw [fX12_copies_41] at h; cases h
  | succ n ih =>
    intro v3 σ h
    rw [fX12_copies_41] at h
    refine J_iload_n (pc := 41) 3 dX12_copies_41 rfl ?_
    refine J_bipush (pc := 42) (22 : Int32) dX12_copies_42 (by decide) ?_
    refine J_icmp_ge (pc := 44) 75 dX12_copies_44 (by decide) h (fun h => ?_) (fun h => ?_)
    · cases h
      exact J_vret (pc := 75) dX12_copies_75 rfl
    · refine J_aload_n (pc := 47) 0 dX12_copies_47 rfl ?_
      refine J_getA (pc := 48) dX12_copies_48 ho flX12_13 rfl ?_
      refine J_bipush (pc := 51) (22 : Int32) dX12_copies_51 (by decide) ?_
      refine J_iload_n (pc := 53) 2 dX12_copies_53 rfl ?_
      refine J_imul (pc := 54) dX12_copies_54 ?_
      refine J_iload_n (pc := 55) 3 dX12_copies_55 rfl ?_
      refine J_iadd (pc := 56) dX12_copies_56 ?_
      refine J_aload_n (pc := 57) 0 dX12_copies_57 rfl ?_
      refine J_getA (pc := 58) dX12_copies_58 ho flX12_13 rfl ?_
      refine J_bipush (pc := 61) (22 : Int32) dX12_copies_61 (by decide) ?_
      refine J_iload_n (pc := 63) 1 dX12_copies_63 rfl ?_
      refine J_imul (pc := 64) dX12_copies_64 ?_
      refine J_iload_n (pc := 65) 3 dX12_copies_65 rfl ?_
      refine J_iadd (pc := 66) dX12_copies_66 ?_
      refine J_lald (pc := 67) dX12_copies_67 ho ha12_1 h (fun x3 h => ?_)
      refine J_last (pc := 68) dX12_copies_68 ho ha12_1 h (fun σ4 h => ?_)
      refine J_iinc (pc := 69) (L' := [(3, .int (v3 + (1 : Int32))), (0, .ref (e_a E o 0)), (1, .int a1), (2, .int a2)]) 3 (v3 + (1 : Int32)) dX12_copies_69 rfl (by rfl) (by decide) rfl ?_
      refine J_goto (pc := 72) 41 dX12_copies_72 (by decide) ?_
      refine J_sub (L' := [(0, .ref (e_a E o 0)), (1, .int a1), (2, .int a2), (3, .int (v3 + (1 : Int32)))]) [1, 2, 3, 0] rfl ?_
      exact ih (v3 + (1 : Int32)) σ4 h
def fX12_copies_2 (o : Nat) (a1 : Int32) (a2 : Int32) : Nat → Int32 → Mm → Option (Mm)
  | 0, _, _ => none
  | n + 1, v3, σ => if (490 : Int32) ≤ v3 then (fX12_copies_41 o a1 a2 FU (0 : Int32) σ) else (g_ar σ o 0 2950 (((490 : Int32) * a1) + v3) (fun x1 => s_ar σ o 0 2950 (((490 : Int32) * a2) + v3) x1 (fun σ2 => (fX12_copies_2 o a1 a2 n) (v3 + (1 : Int32)) σ2)))
set_option maxRecDepth 100000 in
set_option maxHeartbeats 4000000 in
theorem tX12_copies_2 (l : Launch) (E : EV) {τ : Mm} (o : Nat) (a1 : Int32) (a2 : Int32) (ho : KD o = 12) : ∀ (n : Nat) (v3 : Int32) (σ : Mm), fX12_copies_2 o a1 a2 n v3 σ = some τ → Jd l E mX12_copies 0 (none, τ) σ 2 [(0, .ref (e_a E o 0)), (1, .int a1), (2, .int a2), (3, .int v3)] [] := by
  intro n
  induction n with
  | zero => intro v3 σ h; rw [fX12_copies_2] at h; cases h
  | succ n ih =>
    intro v3 σ h
    rw [fX12_copies_2] at h
    refine J_iload_n (pc := 2) 3 dX12_copies_2 rfl ?_
    refine J_sipush (pc := 3) (490 : Int32) dX12_copies_3 (by decide) ?_
    refine J_icmp_ge (pc := 6) 39 dX12_copies_6 (by decide) h (fun h => ?_) (fun h => ?_)
    · refine J_iconst (pc := 39) (0 : Int32) dX12_copies_39 (by decide) ?_
      refine J_istore_n (pc := 40) (L' := [(3, .int (0 : Int32)), (0, .ref (e_a E o 0)), (1, .int a1), (2, .int a2)]) dX12_copies_40 (by decide) rfl ?_
      refine J_sub (L' := [(0, .ref (e_a E o 0)), (1, .int a1), (2, .int a2), (3, .int (0 : Int32))]) [1, 2, 3, 0] rfl ?_
      exact tX12_copies_41 l E o a1 a2 ho FU (0 : Int32) σ h
    · refine J_aload_n (pc := 9) 0 dX12_copies_9 rfl ?_
      refine J_getA (pc := 10) dX12_copies_10 ho flX12_7 rfl ?_
      refine J_sipush (pc := 13) (490 : Int32) dX12_copies_13 (by decide) ?_
      refine J_iload_n (pc := 16) 2 dX12_copies_16 rfl ?_
      refine J_imul (pc := 17) dX12_copies_17 ?_
      refine J_iload_n (pc := 18) 3 dX12_copies_18 rfl ?_
      refine J_iadd (pc := 19) dX12_copies_19 ?_
      refine J_aload_n (pc := 20) 0 dX12_copies_20 rfl ?_
      refine J_getA (pc := 21) dX12_copies_21 ho flX12_7 rfl ?_
      refine J_sipush (pc := 24) (490 : Int32) dX12_copies_24 (by decide) ?_
      refine J_iload_n (pc := 27) 1 dX12_copies_27 rfl ?_
      refine J_imul (pc := 28) dX12_copies_28 ?_
      refine J_iload_n (pc := 29) 3 dX12_copies_29 rfl ?_
      refine J_iadd (pc := 30) dX12_copies_30 ?_
      refine J_iald (pc := 31) dX12_copies_31 ho ha12_0 h (fun x1 h => ?_)
      refine J_iast (pc := 32) dX12_copies_32 ho ha12_0 h (fun σ2 h => ?_)
      refine J_iinc (pc := 33) (L' := [(3, .int (v3 + (1 : Int32))), (0, .ref (e_a E o 0)), (1, .int a1), (2, .int a2)]) 3 (v3 + (1 : Int32)) dX12_copies_33 rfl (by rfl) (by decide) rfl ?_
      refine J_goto (pc := 36) 2 dX12_copies_36 (by decide) ?_
      refine J_sub (L' := [(0, .ref (e_a E o 0)), (1, .int a1), (2, .int a2), (3, .int (v3 + (1 : Int32)))]) [1, 2, 3, 0] rfl ?_
      exact ih (v3 + (1 : Int32)) σ2 h
def fX12_copies (o : Nat) (a1 : Int32) (a2 : Int32) (σ : Mm) : Option (Mm) := fX12_copies_2 o a1 a2 FU (0 : Int32) σ
set_option maxRecDepth 100000 in
set_option maxHeartbeats 4000000 in
theorem ctX12_copies (l : Launch) (E : EV) (o : Nat) (a1 : Int32) (a2 : Int32) (ho : KD o = 12) (σ : Mm) {τ : Mm} (h : fX12_copies o a1 a2 σ = some τ) : Ct l E mX12_copies 0 [.ref (e_a E o 0), .int a1, .int a2] σ (none, τ) := by
  refine Ct.of (by decide +kernel) (Nat.le_of_ble_eq_true rfl) ?_
  show Jd l E mX12_copies 0 (none, τ) σ 0 [(0, .ref (e_a E o 0)), (1, .int a1), (2, .int a2)] []
  unfold fX12_copies at h
  refine J_iconst (pc := 0) (0 : Int32) dX12_copies_0 (by decide) ?_
  refine J_istore_n (pc := 1) (L' := [(3, .int (0 : Int32)), (0, .ref (e_a E o 0)), (1, .int a1), (2, .int a2)]) dX12_copies_1 (by decide) rfl ?_
  refine J_sub (L' := [(0, .ref (e_a E o 0)), (1, .int a1), (2, .int a2), (3, .int (0 : Int32))]) [1, 2, 3, 0] rfl ?_
  exact tX12_copies_2 l E o a1 a2 ho FU (0 : Int32) σ h
def fX12_mark (o : Nat) (σ : Mm) : Option (Int32 × Mm) := r_sc σ o 44 (fun x1 => if x1 = (3 : Int32) then (c_I (fX12_refuse o (4 : Int32) σ) (fun x13 σ11 => some (x13, σ11))) else (r_sc σ o 44 (fun x2 => p_sc σ o 44 (x2 + (1 : Int32)) (fun σ3 => r_sc σ3 o 44 (fun x4 => c_V (fX12_copies o (0 : Int32) x4 σ3) (fun σ5 => r_sc σ5 o 44 (fun x7 => c_I (fX12_gives o x7 σ5) (fun x10 σ8 => some (x10, σ8)))))))))
set_option maxRecDepth 100000 in
set_option maxHeartbeats 4000000 in
theorem ctX12_mark (l : Launch) (E : EV) (o : Nat) (ho : KD o = 12) (σ : Mm) {xr : Int32} {τ : Mm} (h : fX12_mark o σ = some (xr, τ)) : Ct l E mX12_mark 1 [.ref (e_a E o 0)] σ (some (.int xr), τ) := by
  refine Ct.of (by decide +kernel) (Nat.le_of_ble_eq_true rfl) ?_
  show Jd l E mX12_mark 1 (some (.int xr), τ) σ 0 [(0, .ref (e_a E o 0))] []
  unfold fX12_mark at h
  refine J_aload_n (pc := 0) 0 dX12_mark_0 rfl ?_
  refine J_getI (pc := 1) dX12_mark_1 ho flX12_433 rfl h (fun x1 h => ?_)
  refine J_iconst (pc := 4) (3 : Int32) dX12_mark_4 (by decide) ?_
  refine J_icmp_ne (pc := 5) 14 dX12_mark_5 (by decide) h (fun h => ?_) (fun h => ?_)
  · refine J_aload_n (pc := 14) 0 dX12_mark_14 rfl ?_
    refine J_dup (pc := 15) dX12_mark_15 rfl ?_
    refine J_getI (pc := 16) dX12_mark_16 ho flX12_433 rfl h (fun x2 h => ?_)
    refine J_iconst (pc := 19) (1 : Int32) dX12_mark_19 (by decide) ?_
    refine J_iadd (pc := 20) dX12_mark_20 ?_
    refine J_putI (pc := 21) dX12_mark_21 ho flX12_433 rfl h (fun σ3 h => ?_)
    refine J_aload_n (pc := 24) 0 dX12_mark_24 rfl ?_
    refine J_iconst (pc := 25) (0 : Int32) dX12_mark_25 (by decide) ?_
    refine J_aload_n (pc := 26) 0 dX12_mark_26 rfl ?_
    refine J_getI (pc := 27) dX12_mark_27 ho flX12_433 rfl h (fun x4 h => ?_)
    obtain ⟨σ5, hc6, h⟩ := cV_t h
    refine J_cVv (pc := 30) (ctX12_copies l E o (0 : Int32) x4 ho σ3 hc6) dX12_mark_30 mlX12_436 mvX12_copies ho rfl (by decide) rfl (Nat.le_of_ble_eq_true rfl) ?_
    refine J_aload_n (pc := 33) 0 dX12_mark_33 rfl ?_
    refine J_aload_n (pc := 34) 0 dX12_mark_34 rfl ?_
    refine J_getI (pc := 35) dX12_mark_35 ho flX12_433 rfl h (fun x7 h => ?_)
    obtain ⟨x10, σ8, hc9, h⟩ := cI_t h
    refine J_cVi (pc := 38) (ctX12_gives l E o x7 ho σ5 hc9) dX12_mark_38 mlX12_87 mvX12_gives ho rfl (by decide) rfl (Nat.le_of_ble_eq_true rfl) ?_
    cases h
    exact J_iret (pc := 41) dX12_mark_41 rfl rfl
  · refine J_aload_n (pc := 8) 0 dX12_mark_8 rfl ?_
    refine J_iconst (pc := 9) (4 : Int32) dX12_mark_9 (by decide) ?_
    obtain ⟨x13, σ11, hc12, h⟩ := cI_t h
    refine J_cVi (pc := 10) (ctX12_refuse l E o (4 : Int32) ho σ hc12) dX12_mark_10 mlX12_83 mvX12_refuse ho rfl (by decide) rfl (Nat.le_of_ble_eq_true rfl) ?_
    cases h
    exact J_iret (pc := 13) dX12_mark_13 rfl rfl
def fX12_back (o : Nat) (σ : Mm) : Option (Int32 × Mm) := r_sc σ o 44 (fun x1 => if x1 = 0 then (c_I (fX12_refuse o (6 : Int32) σ) (fun x13 σ11 => some (x13, σ11))) else (r_sc σ o 44 (fun x2 => c_V (fX12_copies o x2 (0 : Int32) σ) (fun σ3 => r_sc σ3 o 44 (fun x5 => p_sc σ3 o 44 (x5 - (1 : Int32)) (fun σ6 => r_sc σ6 o 44 (fun x7 => c_I (fX12_gives o x7 σ6) (fun x10 σ8 => some (x10, σ8)))))))))
set_option maxRecDepth 100000 in
set_option maxHeartbeats 4000000 in
theorem ctX12_back (l : Launch) (E : EV) (o : Nat) (ho : KD o = 12) (σ : Mm) {xr : Int32} {τ : Mm} (h : fX12_back o σ = some (xr, τ)) : Ct l E mX12_back 1 [.ref (e_a E o 0)] σ (some (.int xr), τ) := by
  refine Ct.of (by decide +kernel) (Nat.le_of_ble_eq_true rfl) ?_
  show Jd l E mX12_back 1 (some (.int xr), τ) σ 0 [(0, .ref (e_a E o 0))] []
  unfold fX12_back at h
  refine J_aload_n (pc := 0) 0 dX12_back_0 rfl ?_
  refine J_getI (pc := 1) dX12_back_1 ho flX12_433 rfl h (fun x1 h => ?_)
  refine J_if_ne (pc := 4) 14 dX12_back_4 (by decide) h (fun h => ?_) (fun h => ?_)
  · refine J_aload_n (pc := 14) 0 dX12_back_14 rfl ?_
    refine J_aload_n (pc := 15) 0 dX12_back_15 rfl ?_
    refine J_getI (pc := 16) dX12_back_16 ho flX12_433 rfl h (fun x2 h => ?_)
    refine J_iconst (pc := 19) (0 : Int32) dX12_back_19 (by decide) ?_
    obtain ⟨σ3, hc4, h⟩ := cV_t h
    refine J_cVv (pc := 20) (ctX12_copies l E o x2 (0 : Int32) ho σ hc4) dX12_back_20 mlX12_436 mvX12_copies ho rfl (by decide) rfl (Nat.le_of_ble_eq_true rfl) ?_
    refine J_aload_n (pc := 23) 0 dX12_back_23 rfl ?_
    refine J_dup (pc := 24) dX12_back_24 rfl ?_
    refine J_getI (pc := 25) dX12_back_25 ho flX12_433 rfl h (fun x5 h => ?_)
    refine J_iconst (pc := 28) (1 : Int32) dX12_back_28 (by decide) ?_
    refine J_isub (pc := 29) dX12_back_29 ?_
    refine J_putI (pc := 30) dX12_back_30 ho flX12_433 rfl h (fun σ6 h => ?_)
    refine J_aload_n (pc := 33) 0 dX12_back_33 rfl ?_
    refine J_aload_n (pc := 34) 0 dX12_back_34 rfl ?_
    refine J_getI (pc := 35) dX12_back_35 ho flX12_433 rfl h (fun x7 h => ?_)
    obtain ⟨x10, σ8, hc9, h⟩ := cI_t h
    refine J_cVi (pc := 38) (ctX12_gives l E o x7 ho σ6 hc9) dX12_back_38 mlX12_87 mvX12_gives ho rfl (by decide) rfl (Nat.le_of_ble_eq_true rfl) ?_
    cases h
    exact J_iret (pc := 41) dX12_back_41 rfl rfl
  · refine J_aload_n (pc := 7) 0 dX12_back_7 rfl ?_
    refine J_bipush (pc := 8) (6 : Int32) dX12_back_8 (by decide) ?_
    obtain ⟨x13, σ11, hc12, h⟩ := cI_t h
    refine J_cVi (pc := 10) (ctX12_refuse l E o (6 : Int32) ho σ hc12) dX12_back_10 mlX12_83 mvX12_refuse ho rfl (by decide) rfl (Nat.le_of_ble_eq_true rfl) ?_
    cases h
    exact J_iret (pc := 13) dX12_back_13 rfl rfl
