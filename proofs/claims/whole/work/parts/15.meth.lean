def fX11_bestWind_30 (o : Nat) (a1 : Int32) (a2 : Int32) : Nat → Int32 → Int32 → Int32 → Mm → Option (Int32 × Mm)
  | 0, _, _, _, _ => none
  | n + 1, v3, v4, v5, σ => if (16 : Int32) ≤ v5 then (c_I (fX11_answer o v3 σ) (fun x15 σ13 => some (x15, σ13))) else (c_V (fX11_look o σ) (fun σ16 => c_V (fX10_blowEverywhere (tg o 14) v5 a1 σ16) (fun σ18 => c_I (fX11_rightsBehind o a2 σ18) (fun x22 σ20 => if x22 ≤ v4 then ((fX11_bestWind_30 o a1 a2 n) v3 v4 (v5 + (1 : Int32)) σ20) else ((fX11_bestWind_30 o a1 a2 n) v5 x22 (v5 + (1 : Int32)) σ20)))))
set_option maxRecDepth 100000 in
set_option maxHeartbeats 4000000 in
theorem tX11_bestWind_30 (l : Launch) (E : EV) {xr : Int32} {τ : Mm} (o : Nat) (a1 : Int32) (a2 : Int32) (ho : KD o = 11) : ∀ (n : Nat) (v3 : Int32) (v4 : Int32) (v5 : Int32) (σ : Mm), fX11_bestWind_30 o a1 a2 n v3 v4 v5 σ = some (xr, τ) → Jd l E mX11_bestWind 6 (some (.int xr), τ) σ 30 [(0, .ref (e_a E o 0)), (1, .int a1), (2, .int a2), (3, .int v3), (4, .int v4), (5, .int v5)] [] := by
  intro n
  induction n with
  | zero => intro v3 v4 v5 σ h; rw [fX11_bestWind_30] at h; cases h
  | succ n ih =>
    intro v3 v4 v5 σ h
    rw [fX11_bestWind_30] at h
    refine J_iload (pc := 30) 5 dX11_bestWind_30 rfl ?_
    refine J_bipush (pc := 32) (16 : Int32) dX11_bestWind_32 (by decide) ?_
    refine J_icmp_ge (pc := 34) 78 dX11_bestWind_34 (by decide) h (fun h => ?_) (fun h => ?_)
    · refine J_aload_n (pc := 78) 0 dX11_bestWind_78 rfl ?_
      refine J_iload_n (pc := 79) 3 dX11_bestWind_79 rfl ?_
      obtain ⟨x15, σ13, hc14, h⟩ := cI_t h
      refine J_cVi (pc := 80) (ctX11_answer l E o v3 ho σ hc14) dX11_bestWind_80 mlX11_193 mvX11_answer ho rfl (by decide) rfl (Nat.le_of_ble_eq_true rfl) ?_
      cases h
      exact J_iret (pc := 83) dX11_bestWind_83 rfl rfl
    · refine J_aload_n (pc := 37) 0 dX11_bestWind_37 rfl ?_
      obtain ⟨σ16, hc17, h⟩ := cV_t h
      refine J_cVv (pc := 38) (ctX11_look l E o ho σ hc17) dX11_bestWind_38 mlX11_323 mvX11_look ho rfl (by decide) rfl (Nat.le_of_ble_eq_true rfl) ?_
      refine J_aload_n (pc := 41) 0 dX11_bestWind_41 rfl ?_
      refine J_getT (pc := 42) dX11_bestWind_42 ho flX11_75 rfl ?_
      refine J_iload (pc := 45) 5 dX11_bestWind_45 rfl ?_
      refine J_iload_n (pc := 47) 1 dX11_bestWind_47 rfl ?_
      obtain ⟨σ18, hc19, h⟩ := cV_t h
      refine J_cVv (pc := 48) (ctX10_blowEverywhere l E (tg o 14) v5 a1 (tk11_14 ho) σ16 hc19) dX11_bestWind_48 mlX11_374 mvX10_blowEverywhere (tk11_14 ho) rfl (by decide) rfl (Nat.le_of_ble_eq_true rfl) ?_
      refine J_aload_n (pc := 51) 0 dX11_bestWind_51 rfl ?_
      refine J_iload_n (pc := 52) 2 dX11_bestWind_52 rfl ?_
      obtain ⟨x22, σ20, hc21, h⟩ := cI_t h
      refine J_cVi (pc := 53) (ctX11_rightsBehind l E o a2 ho σ18 hc21) dX11_bestWind_53 mlX11_377 mvX11_rightsBehind ho rfl (by decide) rfl (Nat.le_of_ble_eq_true rfl) ?_
      refine J_istore (pc := 56) (L' := [(6, .int x22), (0, .ref (e_a E o 0)), (1, .int a1), (2, .int a2), (3, .int v3), (4, .int v4), (5, .int v5)]) dX11_bestWind_56 (by decide) rfl ?_
      refine J_iload (pc := 58) 0 dX11_bestWind_58 rfl ?_
      refine J_iload (pc := 60) 5 dX11_bestWind_60 rfl ?_
      refine J_icmp_le (pc := 62) 72 dX11_bestWind_62 (by decide) h (fun h => ?_) (fun h => ?_)
      · refine J_iinc (pc := 72) (L' := [(5, .int (v5 + (1 : Int32))), (6, .int x22), (0, .ref (e_a E o 0)), (1, .int a1), (2, .int a2), (3, .int v3), (4, .int v4)]) 6 (v5 + (1 : Int32)) dX11_bestWind_72 rfl (by rfl) (by decide) rfl ?_
        refine J_goto (pc := 75) 30 dX11_bestWind_75 (by decide) ?_
        refine J_sub (L' := [(0, .ref (e_a E o 0)), (1, .int a1), (2, .int a2), (3, .int v3), (4, .int v4), (5, .int (v5 + (1 : Int32)))]) [2, 3, 4, 5, 6, 0] rfl ?_
        exact ih v3 v4 (v5 + (1 : Int32)) σ20 h
      · refine J_iload (pc := 65) 0 dX11_bestWind_65 rfl ?_
        refine J_istore (pc := 67) (L' := [(4, .int x22), (6, .int x22), (0, .ref (e_a E o 0)), (1, .int a1), (2, .int a2), (3, .int v3), (5, .int v5)]) dX11_bestWind_67 (by decide) rfl ?_
        refine J_iload (pc := 69) 6 dX11_bestWind_69 rfl ?_
        refine J_istore_n (pc := 71) (L' := [(3, .int v5), (4, .int x22), (6, .int x22), (0, .ref (e_a E o 0)), (1, .int a1), (2, .int a2), (5, .int v5)]) dX11_bestWind_71 (by decide) rfl ?_
        refine J_iinc (pc := 72) (L' := [(5, .int (v5 + (1 : Int32))), (3, .int v5), (4, .int x22), (6, .int x22), (0, .ref (e_a E o 0)), (1, .int a1), (2, .int a2)]) 6 (v5 + (1 : Int32)) dX11_bestWind_72 rfl (by rfl) (by decide) rfl ?_
        refine J_goto (pc := 75) 30 dX11_bestWind_75 (by decide) ?_
        refine J_sub (L' := [(0, .ref (e_a E o 0)), (1, .int a1), (2, .int a2), (3, .int v5), (4, .int x22), (5, .int (v5 + (1 : Int32)))]) [4, 5, 6, 1, 2, 0] rfl ?_
        exact ih v5 x22 (v5 + (1 : Int32)) σ20 h
def fX11_bestWind (o : Nat) (a1 : Int32) (a2 : Int32) (σ : Mm) : Option (Int32 × Mm) := c_I (fX11_isBlowing o a1 σ) (fun x3 σ1 => if x3 = 0 then (c_I (fX11_none o (1 : Int32) σ1) (fun x6 σ4 => some (x6, σ4))) else (c_I (fX11_isAhead o a2 σ1) (fun x9 σ7 => if x9 = 0 then (c_I (fX11_none o (1 : Int32) σ7) (fun x12 σ10 => some (x12, σ10))) else (fX11_bestWind_30 o a1 a2 FU (-1 : Int32) (-1 : Int32) (0 : Int32) σ7))))
set_option maxRecDepth 100000 in
set_option maxHeartbeats 4000000 in
theorem ctX11_bestWind (l : Launch) (E : EV) (o : Nat) (a1 : Int32) (a2 : Int32) (ho : KD o = 11) (σ : Mm) {xr : Int32} {τ : Mm} (h : fX11_bestWind o a1 a2 σ = some (xr, τ)) : Ct l E mX11_bestWind 6 [.ref (e_a E o 0), .int a1, .int a2] σ (some (.int xr), τ) := by
  refine Ct.of (by decide +kernel) (Nat.le_of_ble_eq_true rfl) ?_
  show Jd l E mX11_bestWind 6 (some (.int xr), τ) σ 0 [(0, .ref (e_a E o 0)), (1, .int a1), (2, .int a2)] []
  unfold fX11_bestWind at h
  refine J_aload_n (pc := 0) 0 dX11_bestWind_0 rfl ?_
  refine J_iload_n (pc := 1) 1 dX11_bestWind_1 rfl ?_
  obtain ⟨x3, σ1, hc2, h⟩ := cI_t h
  refine J_cVi (pc := 2) (ctX11_isBlowing l E o a1 ho σ hc2) dX11_bestWind_2 mlX11_371 mvX11_isBlowing ho rfl (by decide) rfl (Nat.le_of_ble_eq_true rfl) ?_
  refine J_if_eq (pc := 5) 16 dX11_bestWind_5 (by decide) h (fun h => ?_) (fun h => ?_)
  · refine J_aload_n (pc := 16) 0 dX11_bestWind_16 rfl ?_
    refine J_iconst (pc := 17) (1 : Int32) dX11_bestWind_17 (by decide) ?_
    obtain ⟨x6, σ4, hc5, h⟩ := cI_t h
    refine J_cVi (pc := 18) (ctX11_none l E o (1 : Int32) ho σ1 hc5) dX11_bestWind_18 mlX11_130 mvX11_none ho rfl (by decide) rfl (Nat.le_of_ble_eq_true rfl) ?_
    cases h
    exact J_iret (pc := 21) dX11_bestWind_21 rfl rfl
  · refine J_aload_n (pc := 8) 0 dX11_bestWind_8 rfl ?_
    refine J_iload_n (pc := 9) 2 dX11_bestWind_9 rfl ?_
    obtain ⟨x9, σ7, hc8, h⟩ := cI_t h
    refine J_cVi (pc := 10) (ctX11_isAhead l E o a2 ho σ1 hc8) dX11_bestWind_10 mlX11_320 mvX11_isAhead ho rfl (by decide) rfl (Nat.le_of_ble_eq_true rfl) ?_
    refine J_if_ne (pc := 13) 22 dX11_bestWind_13 (by decide) h (fun h => ?_) (fun h => ?_)
    · refine J_iconst (pc := 22) (-1 : Int32) dX11_bestWind_22 (by decide) ?_
      refine J_istore_n (pc := 23) (L' := [(3, .int (-1 : Int32)), (0, .ref (e_a E o 0)), (1, .int a1), (2, .int a2)]) dX11_bestWind_23 (by decide) rfl ?_
      refine J_iconst (pc := 24) (-1 : Int32) dX11_bestWind_24 (by decide) ?_
      refine J_istore (pc := 25) (L' := [(4, .int (-1 : Int32)), (3, .int (-1 : Int32)), (0, .ref (e_a E o 0)), (1, .int a1), (2, .int a2)]) dX11_bestWind_25 (by decide) rfl ?_
      refine J_iconst (pc := 27) (0 : Int32) dX11_bestWind_27 (by decide) ?_
      refine J_istore (pc := 28) (L' := [(5, .int (0 : Int32)), (4, .int (-1 : Int32)), (3, .int (-1 : Int32)), (0, .ref (e_a E o 0)), (1, .int a1), (2, .int a2)]) dX11_bestWind_28 (by decide) rfl ?_
      refine J_sub (L' := [(0, .ref (e_a E o 0)), (1, .int a1), (2, .int a2), (3, .int (-1 : Int32)), (4, .int (-1 : Int32)), (5, .int (0 : Int32))]) [3, 4, 5, 2, 1, 0] rfl ?_
      exact tX11_bestWind_30 l E o a1 a2 ho FU (-1 : Int32) (-1 : Int32) (0 : Int32) σ7 h
    · refine J_aload_n (pc := 16) 0 dX11_bestWind_16 rfl ?_
      refine J_iconst (pc := 17) (1 : Int32) dX11_bestWind_17 (by decide) ?_
      obtain ⟨x12, σ10, hc11, h⟩ := cI_t h
      refine J_cVi (pc := 18) (ctX11_none l E o (1 : Int32) ho σ7 hc11) dX11_bestWind_18 mlX11_130 mvX11_none ho rfl (by decide) rfl (Nat.le_of_ble_eq_true rfl) ?_
      cases h
      exact J_iret (pc := 21) dX11_bestWind_21 rfl rfl
def fX11_parting (o : Nat) (σ : Mm) : Option (Int32 × Mm) := r_rf σ (tg o 9) 0 2 (fun q1 => r_sc σ (tg (tg o 9) 1) 6 (fun x2 => c_I (fX0_partingShafts (tg o 16) q1 x2 σ) (fun x5 σ3 => c_I (fX11_answer o x5 σ3) (fun x8 σ6 => some (x8, σ6)))))
set_option maxRecDepth 100000 in
set_option maxHeartbeats 4000000 in
theorem ctX11_parting (l : Launch) (E : EV) (o : Nat) (ho : KD o = 11) (σ : Mm) {xr : Int32} {τ : Mm} (h : fX11_parting o σ = some (xr, τ)) : Ct l E mX11_parting 5 [.ref (e_a E o 0)] σ (some (.int xr), τ) := by
  refine Ct.of (by decide +kernel) (Nat.le_of_ble_eq_true rfl) ?_
  show Jd l E mX11_parting 5 (some (.int xr), τ) σ 0 [(0, .ref (e_a E o 0))] []
  unfold fX11_parting at h
  refine J_aload_n (pc := 0) 0 dX11_parting_0 rfl ?_
  refine J_aload_n (pc := 1) 0 dX11_parting_1 rfl ?_
  refine J_getT (pc := 2) dX11_parting_2 ho flX11_89 rfl ?_
  refine J_aload_n (pc := 5) 0 dX11_parting_5 rfl ?_
  refine J_getT (pc := 6) dX11_parting_6 ho flX11_50 rfl ?_
  refine J_getR (pc := 9) dX11_parting_9 (tk11_9 ho) flX11_174 rfl h (fun q1 hq1 h => ?_)
  refine J_aload_n (pc := 12) 0 dX11_parting_12 rfl ?_
  refine J_getT (pc := 13) dX11_parting_13 ho flX11_50 rfl ?_
  refine J_getT (pc := 16) dX11_parting_16 (tk11_9 ho) flX11_177 rfl ?_
  refine J_getI (pc := 19) dX11_parting_19 (tk7_1 (tk11_9 ho)) flX11_211 rfl h (fun x2 h => ?_)
  obtain ⟨x5, σ3, hc4, h⟩ := cI_t h
  refine J_cVi (pc := 22) (ctX0_partingShafts l E (tg o 16) q1 x2 (tk11_16 ho) hq1 σ hc4) dX11_parting_22 mlX11_380 mvX0_partingShafts (tk11_16 ho) rfl (by decide) rfl (Nat.le_of_ble_eq_true rfl) ?_
  obtain ⟨x8, σ6, hc7, h⟩ := cI_t h
  refine J_cVi (pc := 25) (ctX11_answer l E o x5 ho σ3 hc7) dX11_parting_25 mlX11_193 mvX11_answer ho rfl (by decide) rfl (Nat.le_of_ble_eq_true rfl) ?_
  cases h
  exact J_iret (pc := 28) dX11_parting_28 rfl rfl
def fX11_mending_114 (o : Nat) (a1 : Int32) (v3 : Int32) (σ : Mm) : Option (Int32 × Mm) := if v3 = (-1 : Int32) then (c_I (fX11_none o (6 : Int32) σ) (fun x33 σ31 => some (x33, σ31))) else (c_I (fX11_answer o v3 σ) (fun x30 σ28 => some (x30, σ28)))
set_option maxRecDepth 100000 in
set_option maxHeartbeats 4000000 in
theorem tX11_mending_114 (l : Launch) (E : EV) {xr : Int32} {τ : Mm} (o : Nat) (a1 : Int32) (ho : KD o = 11) (v3 : Int32) (σ : Mm) (h : fX11_mending_114 o a1 v3 σ = some (xr, τ)) : Jd l E mX11_mending 6 (some (.int xr), τ) σ 114 [(0, .ref (e_a E o 0)), (3, .int v3)] [] := by
  unfold fX11_mending_114 at h
  refine J_iload_n (pc := 114) 1 dX11_mending_114 rfl ?_
  refine J_iconst (pc := 115) (-1 : Int32) dX11_mending_115 (by decide) ?_
  refine J_icmp_ne (pc := 116) 128 dX11_mending_116 (by decide) h (fun h => ?_) (fun h => ?_)
  · refine J_aload_n (pc := 128) 0 dX11_mending_128 rfl ?_
    refine J_iload_n (pc := 129) 1 dX11_mending_129 rfl ?_
    obtain ⟨x30, σ28, hc29, h⟩ := cI_t h
    refine J_cVi (pc := 130) (ctX11_answer l E o v3 ho σ hc29) dX11_mending_130 mlX11_193 mvX11_answer ho rfl (by decide) rfl (Nat.le_of_ble_eq_true rfl) ?_
    cases h
    exact J_iret (pc := 133) dX11_mending_133 rfl rfl
  · refine J_aload_n (pc := 119) 0 dX11_mending_119 rfl ?_
    refine J_bipush (pc := 120) (6 : Int32) dX11_mending_120 (by decide) ?_
    obtain ⟨x33, σ31, hc32, h⟩ := cI_t h
    refine J_cVi (pc := 122) (ctX11_none l E o (6 : Int32) ho σ hc32) dX11_mending_122 mlX11_130 mvX11_none ho rfl (by decide) rfl (Nat.le_of_ble_eq_true rfl) ?_
    refine J_goto (pc := 125) 133 dX11_mending_125 (by decide) ?_
    cases h
    exact J_iret (pc := 133) dX11_mending_133 rfl rfl
def fX11_mending_29 (o : Nat) (a1 : Int32) : Nat → Int32 → Int32 → Int32 → Mm → Option (Int32 × Mm)
  | 0, _, _, _, _ => none
  | n + 1, v2, v3, v4, σ => r_rf σ (tg o 9) 0 2 (fun q12 => r_sc σ q12 2 (fun x13 => if x13 ≤ v4 then (fX11_mending_114 o a1 v3 σ) else (r_sc σ (tg (tg o 9) 1) 6 (fun x14 => c_I (fX11_has x14 v4 σ) (fun x17 σ15 => if x17 = 0 then (c_V (fX11_look o σ15) (fun σ18 => r_sc σ18 (tg o 15) 6 (fun x20 => c_I (fX11_with x20 v4 (1 : Int32) σ18) (fun x23 σ21 => p_sc σ21 (tg o 15) 6 x23 (fun σ24 => c_I (fX11_rightsBehind o a1 σ24) (fun x27 σ25 => if x27 ≤ v2 then ((fX11_mending_29 o a1 n) v2 v3 (v4 + (1 : Int32)) σ25) else ((fX11_mending_29 o a1 n) x27 v4 (v4 + (1 : Int32)) σ25))))))) else ((fX11_mending_29 o a1 n) v2 v3 (v4 + (1 : Int32)) σ15))))))
set_option maxRecDepth 100000 in
set_option maxHeartbeats 4000000 in
theorem tX11_mending_29 (l : Launch) (E : EV) {xr : Int32} {τ : Mm} (o : Nat) (a1 : Int32) (ho : KD o = 11) : ∀ (n : Nat) (v2 : Int32) (v3 : Int32) (v4 : Int32) (σ : Mm), fX11_mending_29 o a1 n v2 v3 v4 σ = some (xr, τ) → Jd l E mX11_mending 6 (some (.int xr), τ) σ 29 [(0, .ref (e_a E o 0)), (1, .int a1), (2, .int v2), (3, .int v3), (4, .int v4)] [] := by
  intro n
  induction n with
  | zero => intro v2 v3 v4 σ h; rw [fX11_mending_29] at h; cases h
  | succ n ih =>
    intro v2 v3 v4 σ h
    rw [fX11_mending_29] at h
    refine J_iload (pc := 29) 4 dX11_mending_29 rfl ?_
    refine J_aload_n (pc := 31) 0 dX11_mending_31 rfl ?_
    refine J_getT (pc := 32) dX11_mending_32 ho flX11_50 rfl ?_
    refine J_getR (pc := 35) dX11_mending_35 (tk11_9 ho) flX11_174 rfl h (fun q12 hq12 h => ?_)
    refine J_getI (pc := 38) dX11_mending_38 hq12 flX11_205 rfl h (fun x13 h => ?_)
    refine J_icmp_ge (pc := 41) 114 dX11_mending_41 (by decide) h (fun h => ?_) (fun h => ?_)
    · refine J_sub (L' := [(0, .ref (e_a E o 0)), (3, .int v3)]) [0, 3] rfl ?_
      exact tX11_mending_114 l E o a1 ho v3 σ h
    · refine J_aload_n (pc := 44) 0 dX11_mending_44 rfl ?_
      refine J_getT (pc := 45) dX11_mending_45 ho flX11_50 rfl ?_
      refine J_getT (pc := 48) dX11_mending_48 (tk11_9 ho) flX11_177 rfl ?_
      refine J_getI (pc := 51) dX11_mending_51 (tk7_1 (tk11_9 ho)) flX11_211 rfl h (fun x14 h => ?_)
      refine J_iload (pc := 54) 4 dX11_mending_54 rfl ?_
      obtain ⟨x17, σ15, hc16, h⟩ := cI_t h
      refine J_cSi (pc := 56) (ctX11_has l E x14 v4 σ hc16) dX11_mending_56 mlX11_298 msX11_has rfl (by decide) rfl (Nat.le_of_ble_eq_true rfl) ?_
      refine J_if_eq (pc := 59) 65 dX11_mending_59 (by decide) h (fun h => ?_) (fun h => ?_)
      · refine J_aload_n (pc := 65) 0 dX11_mending_65 rfl ?_
        obtain ⟨σ18, hc19, h⟩ := cV_t h
        refine J_cVv (pc := 66) (ctX11_look l E o ho σ15 hc19) dX11_mending_66 mlX11_323 mvX11_look ho rfl (by decide) rfl (Nat.le_of_ble_eq_true rfl) ?_
        refine J_aload_n (pc := 69) 0 dX11_mending_69 rfl ?_
        refine J_getT (pc := 70) dX11_mending_70 ho flX11_82 rfl ?_
        refine J_aload_n (pc := 73) 0 dX11_mending_73 rfl ?_
        refine J_getT (pc := 74) dX11_mending_74 ho flX11_82 rfl ?_
        refine J_getI (pc := 77) dX11_mending_77 (tk11_15 ho) flX11_211 rfl h (fun x20 h => ?_)
        refine J_iload (pc := 80) 4 dX11_mending_80 rfl ?_
        refine J_iconst (pc := 82) (1 : Int32) dX11_mending_82 (by decide) ?_
        obtain ⟨x23, σ21, hc22, h⟩ := cI_t h
        refine J_cSi (pc := 83) (ctX11_with l E x20 v4 (1 : Int32) σ18 hc22) dX11_mending_83 mlX11_275 msX11_with rfl (by decide) rfl (Nat.le_of_ble_eq_true rfl) ?_
        refine J_putI (pc := 86) dX11_mending_86 (tk11_15 ho) flX11_211 rfl h (fun σ24 h => ?_)
        refine J_aload_n (pc := 89) 0 dX11_mending_89 rfl ?_
        refine J_iload_n (pc := 90) 1 dX11_mending_90 rfl ?_
        obtain ⟨x27, σ25, hc26, h⟩ := cI_t h
        refine J_cVi (pc := 91) (ctX11_rightsBehind l E o a1 ho σ24 hc26) dX11_mending_91 mlX11_377 mvX11_rightsBehind ho rfl (by decide) rfl (Nat.le_of_ble_eq_true rfl) ?_
        refine J_istore (pc := 94) (L' := [(5, .int x27), (0, .ref (e_a E o 0)), (1, .int a1), (2, .int v2), (3, .int v3), (4, .int v4)]) dX11_mending_94 (by decide) rfl ?_
        refine J_iload (pc := 96) 0 dX11_mending_96 rfl ?_
        refine J_iload_n (pc := 98) 3 dX11_mending_98 rfl ?_
        refine J_icmp_le (pc := 99) 108 dX11_mending_99 (by decide) h (fun h => ?_) (fun h => ?_)
        · refine J_iinc (pc := 108) (L' := [(4, .int (v4 + (1 : Int32))), (5, .int x27), (0, .ref (e_a E o 0)), (1, .int a1), (2, .int v2), (3, .int v3)]) 5 (v4 + (1 : Int32)) dX11_mending_108 rfl (by rfl) (by decide) rfl ?_
          refine J_goto (pc := 111) 29 dX11_mending_111 (by decide) ?_
          refine J_sub (L' := [(0, .ref (e_a E o 0)), (1, .int a1), (2, .int v2), (3, .int v3), (4, .int (v4 + (1 : Int32)))]) [2, 3, 4, 5, 0] rfl ?_
          exact ih v2 v3 (v4 + (1 : Int32)) σ25 h
        · refine J_iload (pc := 102) 0 dX11_mending_102 rfl ?_
          refine J_istore_n (pc := 104) (L' := [(2, .int x27), (5, .int x27), (0, .ref (e_a E o 0)), (1, .int a1), (3, .int v3), (4, .int v4)]) dX11_mending_104 (by decide) rfl ?_
          refine J_iload (pc := 105) 5 dX11_mending_105 rfl ?_
          refine J_istore_n (pc := 107) (L' := [(3, .int v4), (2, .int x27), (5, .int x27), (0, .ref (e_a E o 0)), (1, .int a1), (4, .int v4)]) dX11_mending_107 (by decide) rfl ?_
          refine J_iinc (pc := 108) (L' := [(4, .int (v4 + (1 : Int32))), (3, .int v4), (2, .int x27), (5, .int x27), (0, .ref (e_a E o 0)), (1, .int a1)]) 5 (v4 + (1 : Int32)) dX11_mending_108 rfl (by rfl) (by decide) rfl ?_
          refine J_goto (pc := 111) 29 dX11_mending_111 (by decide) ?_
          refine J_sub (L' := [(0, .ref (e_a E o 0)), (1, .int a1), (2, .int x27), (3, .int v4), (4, .int (v4 + (1 : Int32)))]) [4, 5, 2, 1, 0] rfl ?_
          exact ih x27 v4 (v4 + (1 : Int32)) σ25 h
      · refine J_goto (pc := 62) 108 dX11_mending_62 (by decide) ?_
        refine J_iinc (pc := 108) (L' := [(4, .int (v4 + (1 : Int32))), (0, .ref (e_a E o 0)), (1, .int a1), (2, .int v2), (3, .int v3)]) 4 (v4 + (1 : Int32)) dX11_mending_108 rfl (by rfl) (by decide) rfl ?_
        refine J_goto (pc := 111) 29 dX11_mending_111 (by decide) ?_
        refine J_sub (L' := [(0, .ref (e_a E o 0)), (1, .int a1), (2, .int v2), (3, .int v3), (4, .int (v4 + (1 : Int32)))]) [1, 2, 3, 4, 0] rfl ?_
        exact ih v2 v3 (v4 + (1 : Int32)) σ15 h
def fX11_mending (o : Nat) (a1 : Int32) (σ : Mm) : Option (Int32 × Mm) := c_I (fX11_isAhead o a1 σ) (fun x3 σ1 => if x3 = 0 then (c_I (fX11_none o (1 : Int32) σ1) (fun x11 σ9 => some (x11, σ9))) else (c_V (fX11_look o σ1) (fun σ4 => c_I (fX11_rightsBehind o a1 σ4) (fun x8 σ6 => fX11_mending_29 o a1 FU x8 (-1 : Int32) (0 : Int32) σ6))))
set_option maxRecDepth 100000 in
set_option maxHeartbeats 4000000 in
theorem ctX11_mending (l : Launch) (E : EV) (o : Nat) (a1 : Int32) (ho : KD o = 11) (σ : Mm) {xr : Int32} {τ : Mm} (h : fX11_mending o a1 σ = some (xr, τ)) : Ct l E mX11_mending 6 [.ref (e_a E o 0), .int a1] σ (some (.int xr), τ) := by
  refine Ct.of (by decide +kernel) (Nat.le_of_ble_eq_true rfl) ?_
  show Jd l E mX11_mending 6 (some (.int xr), τ) σ 0 [(0, .ref (e_a E o 0)), (1, .int a1)] []
  unfold fX11_mending at h
  refine J_aload_n (pc := 0) 0 dX11_mending_0 rfl ?_
  refine J_iload_n (pc := 1) 1 dX11_mending_1 rfl ?_
  obtain ⟨x3, σ1, hc2, h⟩ := cI_t h
  refine J_cVi (pc := 2) (ctX11_isAhead l E o a1 ho σ hc2) dX11_mending_2 mlX11_320 mvX11_isAhead ho rfl (by decide) rfl (Nat.le_of_ble_eq_true rfl) ?_
  refine J_if_ne (pc := 5) 14 dX11_mending_5 (by decide) h (fun h => ?_) (fun h => ?_)
  · refine J_aload_n (pc := 14) 0 dX11_mending_14 rfl ?_
    obtain ⟨σ4, hc5, h⟩ := cV_t h
    refine J_cVv (pc := 15) (ctX11_look l E o ho σ1 hc5) dX11_mending_15 mlX11_323 mvX11_look ho rfl (by decide) rfl (Nat.le_of_ble_eq_true rfl) ?_
    refine J_aload_n (pc := 18) 0 dX11_mending_18 rfl ?_
    refine J_iload_n (pc := 19) 1 dX11_mending_19 rfl ?_
    obtain ⟨x8, σ6, hc7, h⟩ := cI_t h
    refine J_cVi (pc := 20) (ctX11_rightsBehind l E o a1 ho σ4 hc7) dX11_mending_20 mlX11_377 mvX11_rightsBehind ho rfl (by decide) rfl (Nat.le_of_ble_eq_true rfl) ?_
    refine J_istore_n (pc := 23) (L' := [(2, .int x8), (0, .ref (e_a E o 0)), (1, .int a1)]) dX11_mending_23 (by decide) rfl ?_
    refine J_iconst (pc := 24) (-1 : Int32) dX11_mending_24 (by decide) ?_
    refine J_istore_n (pc := 25) (L' := [(3, .int (-1 : Int32)), (2, .int x8), (0, .ref (e_a E o 0)), (1, .int a1)]) dX11_mending_25 (by decide) rfl ?_
    refine J_iconst (pc := 26) (0 : Int32) dX11_mending_26 (by decide) ?_
    refine J_istore (pc := 27) (L' := [(4, .int (0 : Int32)), (3, .int (-1 : Int32)), (2, .int x8), (0, .ref (e_a E o 0)), (1, .int a1)]) dX11_mending_27 (by decide) rfl ?_
    refine J_sub (L' := [(0, .ref (e_a E o 0)), (1, .int a1), (2, .int x8), (3, .int (-1 : Int32)), (4, .int (0 : Int32))]) [3, 4, 2, 1, 0] rfl ?_
    exact tX11_mending_29 l E o a1 ho FU x8 (-1 : Int32) (0 : Int32) σ6 h
  · refine J_aload_n (pc := 8) 0 dX11_mending_8 rfl ?_
    refine J_iconst (pc := 9) (1 : Int32) dX11_mending_9 (by decide) ?_
    obtain ⟨x11, σ9, hc10, h⟩ := cI_t h
    refine J_cVi (pc := 10) (ctX11_none l E o (1 : Int32) ho σ1 hc10) dX11_mending_10 mlX11_130 mvX11_none ho rfl (by decide) rfl (Nat.le_of_ble_eq_true rfl) ?_
    cases h
    exact J_iret (pc := 13) dX11_mending_13 rfl rfl
def fX11_leavingWinds_4 (o : Nat) (a1 : Int32) : Nat → Int32 → Int32 → Mm → Option (Int32 × Mm)
  | 0, _, _, _ => none
  | n + 1, v2, v3, σ => if (16 : Int32) ≤ v3 then (some (v2, σ)) else (c_V (fX10_blowEverywhere (tg o 14) v3 a1 σ) (fun σ1 => c_I (fX10_firstDriven (tg o 14) σ1) (fun x5 σ3 => if x5 = (-1 : Int32) then (c_I (fX11_with v2 v3 (1 : Int32) σ3) (fun x8 σ6 => (fX11_leavingWinds_4 o a1 n) x8 (v3 + (1 : Int32)) σ6)) else ((fX11_leavingWinds_4 o a1 n) v2 (v3 + (1 : Int32)) σ3))))
set_option maxRecDepth 100000 in
set_option maxHeartbeats 4000000 in
theorem tX11_leavingWinds_4 (l : Launch) (E : EV) {xr : Int32} {τ : Mm} (o : Nat) (a1 : Int32) (ho : KD o = 11) : ∀ (n : Nat) (v2 : Int32) (v3 : Int32) (σ : Mm), fX11_leavingWinds_4 o a1 n v2 v3 σ = some (xr, τ) → Jd l E mX11_leavingWinds 5 (some (.int xr), τ) σ 4 [(0, .ref (e_a E o 0)), (1, .int a1), (2, .int v2), (3, .int v3)] [] := by
  intro n
  induction n with
  | zero => intro v2 v3 σ h; rw [fX11_leavingWinds_4] at h; cases h
  | succ n ih =>
    intro v2 v3 σ h
    rw [fX11_leavingWinds_4] at h
    refine J_iload_n (pc := 4) 3 dX11_leavingWinds_4 rfl ?_
    refine J_bipush (pc := 5) (16 : Int32) dX11_leavingWinds_5 (by decide) ?_
    refine J_icmp_ge (pc := 7) 43 dX11_leavingWinds_7 (by decide) h (fun h => ?_) (fun h => ?_)
    · refine J_iload_n (pc := 43) 2 dX11_leavingWinds_43 rfl ?_
      cases h
      exact J_iret (pc := 44) dX11_leavingWinds_44 rfl rfl
    · refine J_aload_n (pc := 10) 0 dX11_leavingWinds_10 rfl ?_
      refine J_getT (pc := 11) dX11_leavingWinds_11 ho flX11_75 rfl ?_
      refine J_iload_n (pc := 14) 3 dX11_leavingWinds_14 rfl ?_
      refine J_iload_n (pc := 15) 1 dX11_leavingWinds_15 rfl ?_
      obtain ⟨σ1, hc2, h⟩ := cV_t h
      refine J_cVv (pc := 16) (ctX10_blowEverywhere l E (tg o 14) v3 a1 (tk11_14 ho) σ hc2) dX11_leavingWinds_16 mlX11_374 mvX10_blowEverywhere (tk11_14 ho) rfl (by decide) rfl (Nat.le_of_ble_eq_true rfl) ?_
      refine J_aload_n (pc := 19) 0 dX11_leavingWinds_19 rfl ?_
      refine J_getT (pc := 20) dX11_leavingWinds_20 ho flX11_75 rfl ?_
      obtain ⟨x5, σ3, hc4, h⟩ := cI_t h
      refine J_cVi (pc := 23) (ctX10_firstDriven l E (tg o 14) (tk11_14 ho) σ1 hc4) dX11_leavingWinds_23 mlX11_354 mvX10_firstDriven (tk11_14 ho) rfl (by decide) rfl (Nat.le_of_ble_eq_true rfl) ?_
      refine J_iconst (pc := 26) (-1 : Int32) dX11_leavingWinds_26 (by decide) ?_
      refine J_icmp_ne (pc := 27) 37 dX11_leavingWinds_27 (by decide) h (fun h => ?_) (fun h => ?_)
      · refine J_iinc (pc := 37) (L' := [(3, .int (v3 + (1 : Int32))), (0, .ref (e_a E o 0)), (1, .int a1), (2, .int v2)]) 3 (v3 + (1 : Int32)) dX11_leavingWinds_37 rfl (by rfl) (by decide) rfl ?_
        refine J_goto (pc := 40) 4 dX11_leavingWinds_40 (by decide) ?_
        refine J_sub (L' := [(0, .ref (e_a E o 0)), (1, .int a1), (2, .int v2), (3, .int (v3 + (1 : Int32)))]) [1, 2, 3, 0] rfl ?_
        exact ih v2 (v3 + (1 : Int32)) σ3 h
      · refine J_iload_n (pc := 30) 2 dX11_leavingWinds_30 rfl ?_
        refine J_iload_n (pc := 31) 3 dX11_leavingWinds_31 rfl ?_
        refine J_iconst (pc := 32) (1 : Int32) dX11_leavingWinds_32 (by decide) ?_
        obtain ⟨x8, σ6, hc7, h⟩ := cI_t h
        refine J_cSi (pc := 33) (ctX11_with l E v2 v3 (1 : Int32) σ3 hc7) dX11_leavingWinds_33 mlX11_275 msX11_with rfl (by decide) rfl (Nat.le_of_ble_eq_true rfl) ?_
        refine J_istore_n (pc := 36) (L' := [(2, .int x8), (0, .ref (e_a E o 0)), (1, .int a1), (3, .int v3)]) dX11_leavingWinds_36 (by decide) rfl ?_
        refine J_iinc (pc := 37) (L' := [(3, .int (v3 + (1 : Int32))), (2, .int x8), (0, .ref (e_a E o 0)), (1, .int a1)]) 3 (v3 + (1 : Int32)) dX11_leavingWinds_37 rfl (by rfl) (by decide) rfl ?_
        refine J_goto (pc := 40) 4 dX11_leavingWinds_40 (by decide) ?_
        refine J_sub (L' := [(0, .ref (e_a E o 0)), (1, .int a1), (2, .int x8), (3, .int (v3 + (1 : Int32)))]) [2, 3, 1, 0] rfl ?_
        exact ih x8 (v3 + (1 : Int32)) σ6 h
def fX11_leavingWinds (o : Nat) (a1 : Int32) (σ : Mm) : Option (Int32 × Mm) := fX11_leavingWinds_4 o a1 FU (0 : Int32) (0 : Int32) σ
set_option maxRecDepth 100000 in
set_option maxHeartbeats 4000000 in
theorem ctX11_leavingWinds (l : Launch) (E : EV) (o : Nat) (a1 : Int32) (ho : KD o = 11) (σ : Mm) {xr : Int32} {τ : Mm} (h : fX11_leavingWinds o a1 σ = some (xr, τ)) : Ct l E mX11_leavingWinds 5 [.ref (e_a E o 0), .int a1] σ (some (.int xr), τ) := by
  refine Ct.of (by decide +kernel) (Nat.le_of_ble_eq_true rfl) ?_
  show Jd l E mX11_leavingWinds 5 (some (.int xr), τ) σ 0 [(0, .ref (e_a E o 0)), (1, .int a1)] []
  unfold fX11_leavingWinds at h
  refine J_iconst (pc := 0) (0 : Int32) dX11_leavingWinds_0 (by decide) ?_
  refine J_istore_n (pc := 1) (L' := [(2, .int (0 : Int32)), (0, .ref (e_a E o 0)), (1, .int a1)]) dX11_leavingWinds_1 (by decide) rfl ?_
  refine J_iconst (pc := 2) (0 : Int32) dX11_leavingWinds_2 (by decide) ?_
  refine J_istore_n (pc := 3) (L' := [(3, .int (0 : Int32)), (2, .int (0 : Int32)), (0, .ref (e_a E o 0)), (1, .int a1)]) dX11_leavingWinds_3 (by decide) rfl ?_
  refine J_sub (L' := [(0, .ref (e_a E o 0)), (1, .int a1), (2, .int (0 : Int32)), (3, .int (0 : Int32))]) [2, 3, 1, 0] rfl ?_
  exact tX11_leavingWinds_4 l E o a1 ho FU (0 : Int32) (0 : Int32) σ h
def fX11_leaving (o : Nat) (a1 : Int32) (σ : Mm) : Option (Int32 × Mm) := c_I (fX11_isBlowing o a1 σ) (fun x3 σ1 => if x3 = 0 then (c_I (fX11_none o (1 : Int32) σ1) (fun x14 σ12 => some (x14, σ12))) else (c_V (fX11_look o σ1) (fun σ4 => c_I (fX11_leavingWinds o a1 σ4) (fun x8 σ6 => c_I (fX11_answer o x8 σ6) (fun x11 σ9 => some (x11, σ9))))))
set_option maxRecDepth 100000 in
set_option maxHeartbeats 4000000 in
theorem ctX11_leaving (l : Launch) (E : EV) (o : Nat) (a1 : Int32) (ho : KD o = 11) (σ : Mm) {xr : Int32} {τ : Mm} (h : fX11_leaving o a1 σ = some (xr, τ)) : Ct l E mX11_leaving 6 [.ref (e_a E o 0), .int a1] σ (some (.int xr), τ) := by
  refine Ct.of (by decide +kernel) (Nat.le_of_ble_eq_true rfl) ?_
  show Jd l E mX11_leaving 6 (some (.int xr), τ) σ 0 [(0, .ref (e_a E o 0)), (1, .int a1)] []
  unfold fX11_leaving at h
  refine J_aload_n (pc := 0) 0 dX11_leaving_0 rfl ?_
  refine J_iload_n (pc := 1) 1 dX11_leaving_1 rfl ?_
  obtain ⟨x3, σ1, hc2, h⟩ := cI_t h
  refine J_cVi (pc := 2) (ctX11_isBlowing l E o a1 ho σ hc2) dX11_leaving_2 mlX11_371 mvX11_isBlowing ho rfl (by decide) rfl (Nat.le_of_ble_eq_true rfl) ?_
  refine J_if_ne (pc := 5) 14 dX11_leaving_5 (by decide) h (fun h => ?_) (fun h => ?_)
  · refine J_aload_n (pc := 14) 0 dX11_leaving_14 rfl ?_
    obtain ⟨σ4, hc5, h⟩ := cV_t h
    refine J_cVv (pc := 15) (ctX11_look l E o ho σ1 hc5) dX11_leaving_15 mlX11_323 mvX11_look ho rfl (by decide) rfl (Nat.le_of_ble_eq_true rfl) ?_
    refine J_aload_n (pc := 18) 0 dX11_leaving_18 rfl ?_
    refine J_aload_n (pc := 19) 0 dX11_leaving_19 rfl ?_
    refine J_iload_n (pc := 20) 1 dX11_leaving_20 rfl ?_
    obtain ⟨x8, σ6, hc7, h⟩ := cI_t h
    refine J_cVi (pc := 21) (ctX11_leavingWinds l E o a1 ho σ4 hc7) dX11_leaving_21 mlX11_383 mvX11_leavingWinds ho rfl (by decide) rfl (Nat.le_of_ble_eq_true rfl) ?_
    obtain ⟨x11, σ9, hc10, h⟩ := cI_t h
    refine J_cVi (pc := 24) (ctX11_answer l E o x8 ho σ6 hc10) dX11_leaving_24 mlX11_193 mvX11_answer ho rfl (by decide) rfl (Nat.le_of_ble_eq_true rfl) ?_
    cases h
    exact J_iret (pc := 27) dX11_leaving_27 rfl rfl
  · refine J_aload_n (pc := 8) 0 dX11_leaving_8 rfl ?_
    refine J_iconst (pc := 9) (1 : Int32) dX11_leaving_9 (by decide) ?_
    obtain ⟨x14, σ12, hc13, h⟩ := cI_t h
    refine J_cVi (pc := 10) (ctX11_none l E o (1 : Int32) ho σ1 hc13) dX11_leaving_10 mlX11_130 mvX11_none ho rfl (by decide) rfl (Nat.le_of_ble_eq_true rfl) ?_
    cases h
    exact J_iret (pc := 13) dX11_leaving_13 rfl rfl
def fX11_knowing_119 (o : Nat) (a1 : Int32) (v3 : Int32) (σ : Mm) : Option (Int32 × Mm) := if v3 = (-1 : Int32) then (c_I (fX11_none o (6 : Int32) σ) (fun x37 σ35 => some (x37, σ35))) else (c_I (fX11_answer o v3 σ) (fun x34 σ32 => some (x34, σ32)))
set_option maxRecDepth 100000 in
set_option maxHeartbeats 4000000 in
theorem tX11_knowing_119 (l : Launch) (E : EV) {xr : Int32} {τ : Mm} (o : Nat) (a1 : Int32) (ho : KD o = 11) (v3 : Int32) (σ : Mm) (h : fX11_knowing_119 o a1 v3 σ = some (xr, τ)) : Jd l E mX11_knowing 6 (some (.int xr), τ) σ 119 [(0, .ref (e_a E o 0)), (3, .int v3)] [] := by
  unfold fX11_knowing_119 at h
  refine J_iload_n (pc := 119) 1 dX11_knowing_119 rfl ?_
  refine J_iconst (pc := 120) (-1 : Int32) dX11_knowing_120 (by decide) ?_
  refine J_icmp_ne (pc := 121) 133 dX11_knowing_121 (by decide) h (fun h => ?_) (fun h => ?_)
  · refine J_aload_n (pc := 133) 0 dX11_knowing_133 rfl ?_
    refine J_iload_n (pc := 134) 1 dX11_knowing_134 rfl ?_
    obtain ⟨x34, σ32, hc33, h⟩ := cI_t h
    refine J_cVi (pc := 135) (ctX11_answer l E o v3 ho σ hc33) dX11_knowing_135 mlX11_193 mvX11_answer ho rfl (by decide) rfl (Nat.le_of_ble_eq_true rfl) ?_
    cases h
    exact J_iret (pc := 138) dX11_knowing_138 rfl rfl
  · refine J_aload_n (pc := 124) 0 dX11_knowing_124 rfl ?_
    refine J_bipush (pc := 125) (6 : Int32) dX11_knowing_125 (by decide) ?_
    obtain ⟨x37, σ35, hc36, h⟩ := cI_t h
    refine J_cVi (pc := 127) (ctX11_none l E o (6 : Int32) ho σ hc36) dX11_knowing_127 mlX11_130 mvX11_none ho rfl (by decide) rfl (Nat.le_of_ble_eq_true rfl) ?_
    refine J_goto (pc := 130) 138 dX11_knowing_130 (by decide) ?_
    cases h
    exact J_iret (pc := 138) dX11_knowing_138 rfl rfl
def fX11_knowing_32 (o : Nat) (a1 : Int32) : Nat → Int32 → Int32 → Int32 → Mm → Option (Int32 × Mm)
  | 0, _, _, _, _ => none
  | n + 1, v2, v3, v4, σ => r_rf σ (tg o 9) 0 2 (fun q15 => r_sc σ q15 2 (fun x16 => if x16 ≤ v4 then (fX11_knowing_119 o a1 v3 σ) else (r_sc σ (tg (tg o 9) 1) 6 (fun x17 => c_I (fX11_has x17 v4 σ) (fun x20 σ18 => if x20 = 0 then (r_sc σ18 (tg (tg o 9) 1) 6 (fun x21 => c_I (fX11_with x21 v4 (1 : Int32) σ18) (fun x24 σ22 => p_sc σ22 (tg o 15) 6 x24 (fun σ25 => c_I (fX11_leavingWinds o a1 σ25) (fun x28 σ26 => c_I (fJ6_bitCount_0f7a4 x28 σ26) (fun x31 σ29 => if v2 ≤ x31 then ((fX11_knowing_32 o a1 n) v2 v3 (v4 + (1 : Int32)) σ29) else ((fX11_knowing_32 o a1 n) x31 v4 (v4 + (1 : Int32)) σ29))))))) else ((fX11_knowing_32 o a1 n) v2 v3 (v4 + (1 : Int32)) σ18))))))
set_option maxRecDepth 100000 in
set_option maxHeartbeats 4000000 in
theorem tX11_knowing_32 (l : Launch) (E : EV) {xr : Int32} {τ : Mm} (o : Nat) (a1 : Int32) (ho : KD o = 11) : ∀ (n : Nat) (v2 : Int32) (v3 : Int32) (v4 : Int32) (σ : Mm), fX11_knowing_32 o a1 n v2 v3 v4 σ = some (xr, τ) → Jd l E mX11_knowing 6 (some (.int xr), τ) σ 32 [(0, .ref (e_a E o 0)), (1, .int a1), (2, .int v2), (3, .int v3), (4, .int v4)] [] := by
  intro n
  induction n with
  | zero => intro v2 v3 v4 σ h; rw [fX11_knowing_32] at h; cases h
  | succ n ih =>
    intro v2 v3 v4 σ h
    rw [fX11_knowing_32] at h
    refine J_iload (pc := 32) 4 dX11_knowing_32 rfl ?_
    refine J_aload_n (pc := 34) 0 dX11_knowing_34 rfl ?_
    refine J_getT (pc := 35) dX11_knowing_35 ho flX11_50 rfl ?_
    refine J_getR (pc := 38) dX11_knowing_38 (tk11_9 ho) flX11_174 rfl h (fun q15 hq15 h => ?_)
    refine J_getI (pc := 41) dX11_knowing_41 hq15 flX11_205 rfl h (fun x16 h => ?_)
    refine J_icmp_ge (pc := 44) 119 dX11_knowing_44 (by decide) h (fun h => ?_) (fun h => ?_)
    · refine J_sub (L' := [(0, .ref (e_a E o 0)), (3, .int v3)]) [0, 3] rfl ?_
      exact tX11_knowing_119 l E o a1 ho v3 σ h
    · refine J_aload_n (pc := 47) 0 dX11_knowing_47 rfl ?_
      refine J_getT (pc := 48) dX11_knowing_48 ho flX11_50 rfl ?_
      refine J_getT (pc := 51) dX11_knowing_51 (tk11_9 ho) flX11_177 rfl ?_
      refine J_getI (pc := 54) dX11_knowing_54 (tk7_1 (tk11_9 ho)) flX11_211 rfl h (fun x17 h => ?_)
      refine J_iload (pc := 57) 4 dX11_knowing_57 rfl ?_
      obtain ⟨x20, σ18, hc19, h⟩ := cI_t h
      refine J_cSi (pc := 59) (ctX11_has l E x17 v4 σ hc19) dX11_knowing_59 mlX11_298 msX11_has rfl (by decide) rfl (Nat.le_of_ble_eq_true rfl) ?_
      refine J_if_eq (pc := 62) 68 dX11_knowing_62 (by decide) h (fun h => ?_) (fun h => ?_)
      · refine J_aload_n (pc := 68) 0 dX11_knowing_68 rfl ?_
        refine J_getT (pc := 69) dX11_knowing_69 ho flX11_82 rfl ?_
        refine J_aload_n (pc := 72) 0 dX11_knowing_72 rfl ?_
        refine J_getT (pc := 73) dX11_knowing_73 ho flX11_50 rfl ?_
        refine J_getT (pc := 76) dX11_knowing_76 (tk11_9 ho) flX11_177 rfl ?_
        refine J_getI (pc := 79) dX11_knowing_79 (tk7_1 (tk11_9 ho)) flX11_211 rfl h (fun x21 h => ?_)
        refine J_iload (pc := 82) 4 dX11_knowing_82 rfl ?_
        refine J_iconst (pc := 84) (1 : Int32) dX11_knowing_84 (by decide) ?_
        obtain ⟨x24, σ22, hc23, h⟩ := cI_t h
        refine J_cSi (pc := 85) (ctX11_with l E x21 v4 (1 : Int32) σ18 hc23) dX11_knowing_85 mlX11_275 msX11_with rfl (by decide) rfl (Nat.le_of_ble_eq_true rfl) ?_
        refine J_putI (pc := 88) dX11_knowing_88 (tk11_15 ho) flX11_211 rfl h (fun σ25 h => ?_)
        refine J_aload_n (pc := 91) 0 dX11_knowing_91 rfl ?_
        refine J_iload_n (pc := 92) 1 dX11_knowing_92 rfl ?_
        obtain ⟨x28, σ26, hc27, h⟩ := cI_t h
        refine J_cVi (pc := 93) (ctX11_leavingWinds l E o a1 ho σ25 hc27) dX11_knowing_93 mlX11_383 mvX11_leavingWinds ho rfl (by decide) rfl (Nat.le_of_ble_eq_true rfl) ?_
        obtain ⟨x31, σ29, hc30, h⟩ := cI_t h
        refine J_cSi (pc := 96) (ctJ6_bitCount_0f7a4 l E x28 σ26 hc30) dX11_knowing_96 mlX11_386 msJ6_bitCount_0f7a4 rfl (by decide) rfl (Nat.le_of_ble_eq_true rfl) ?_
        refine J_istore (pc := 99) (L' := [(5, .int x31), (0, .ref (e_a E o 0)), (1, .int a1), (2, .int v2), (3, .int v3), (4, .int v4)]) dX11_knowing_99 (by decide) rfl ?_
        refine J_iload (pc := 101) 0 dX11_knowing_101 rfl ?_
        refine J_iload_n (pc := 103) 3 dX11_knowing_103 rfl ?_
        refine J_icmp_ge (pc := 104) 113 dX11_knowing_104 (by decide) h (fun h => ?_) (fun h => ?_)
        · refine J_iinc (pc := 113) (L' := [(4, .int (v4 + (1 : Int32))), (5, .int x31), (0, .ref (e_a E o 0)), (1, .int a1), (2, .int v2), (3, .int v3)]) 5 (v4 + (1 : Int32)) dX11_knowing_113 rfl (by rfl) (by decide) rfl ?_
          refine J_goto (pc := 116) 32 dX11_knowing_116 (by decide) ?_
          refine J_sub (L' := [(0, .ref (e_a E o 0)), (1, .int a1), (2, .int v2), (3, .int v3), (4, .int (v4 + (1 : Int32)))]) [2, 3, 4, 5, 0] rfl ?_
          exact ih v2 v3 (v4 + (1 : Int32)) σ29 h
        · refine J_iload (pc := 107) 0 dX11_knowing_107 rfl ?_
          refine J_istore_n (pc := 109) (L' := [(2, .int x31), (5, .int x31), (0, .ref (e_a E o 0)), (1, .int a1), (3, .int v3), (4, .int v4)]) dX11_knowing_109 (by decide) rfl ?_
          refine J_iload (pc := 110) 5 dX11_knowing_110 rfl ?_
          refine J_istore_n (pc := 112) (L' := [(3, .int v4), (2, .int x31), (5, .int x31), (0, .ref (e_a E o 0)), (1, .int a1), (4, .int v4)]) dX11_knowing_112 (by decide) rfl ?_
          refine J_iinc (pc := 113) (L' := [(4, .int (v4 + (1 : Int32))), (3, .int v4), (2, .int x31), (5, .int x31), (0, .ref (e_a E o 0)), (1, .int a1)]) 5 (v4 + (1 : Int32)) dX11_knowing_113 rfl (by rfl) (by decide) rfl ?_
          refine J_goto (pc := 116) 32 dX11_knowing_116 (by decide) ?_
          refine J_sub (L' := [(0, .ref (e_a E o 0)), (1, .int a1), (2, .int x31), (3, .int v4), (4, .int (v4 + (1 : Int32)))]) [4, 5, 2, 1, 0] rfl ?_
          exact ih x31 v4 (v4 + (1 : Int32)) σ29 h
      · refine J_goto (pc := 65) 113 dX11_knowing_65 (by decide) ?_
        refine J_iinc (pc := 113) (L' := [(4, .int (v4 + (1 : Int32))), (0, .ref (e_a E o 0)), (1, .int a1), (2, .int v2), (3, .int v3)]) 4 (v4 + (1 : Int32)) dX11_knowing_113 rfl (by rfl) (by decide) rfl ?_
        refine J_goto (pc := 116) 32 dX11_knowing_116 (by decide) ?_
        refine J_sub (L' := [(0, .ref (e_a E o 0)), (1, .int a1), (2, .int v2), (3, .int v3), (4, .int (v4 + (1 : Int32)))]) [1, 2, 3, 4, 0] rfl ?_
        exact ih v2 v3 (v4 + (1 : Int32)) σ18 h
def fX11_knowing (o : Nat) (a1 : Int32) (σ : Mm) : Option (Int32 × Mm) := c_I (fX11_isBlowing o a1 σ) (fun x3 σ1 => if x3 = 0 then (c_I (fX11_none o (1 : Int32) σ1) (fun x14 σ12 => some (x14, σ12))) else (c_V (fX11_look o σ1) (fun σ4 => c_I (fX11_leavingWinds o a1 σ4) (fun x8 σ6 => c_I (fJ6_bitCount_0f7a4 x8 σ6) (fun x11 σ9 => fX11_knowing_32 o a1 FU x11 (-1 : Int32) (0 : Int32) σ9)))))
set_option maxRecDepth 100000 in
set_option maxHeartbeats 4000000 in
theorem ctX11_knowing (l : Launch) (E : EV) (o : Nat) (a1 : Int32) (ho : KD o = 11) (σ : Mm) {xr : Int32} {τ : Mm} (h : fX11_knowing o a1 σ = some (xr, τ)) : Ct l E mX11_knowing 6 [.ref (e_a E o 0), .int a1] σ (some (.int xr), τ) := by
  refine Ct.of (by decide +kernel) (Nat.le_of_ble_eq_true rfl) ?_
  show Jd l E mX11_knowing 6 (some (.int xr), τ) σ 0 [(0, .ref (e_a E o 0)), (1, .int a1)] []
  unfold fX11_knowing at h
  refine J_aload_n (pc := 0) 0 dX11_knowing_0 rfl ?_
  refine J_iload_n (pc := 1) 1 dX11_knowing_1 rfl ?_
  obtain ⟨x3, σ1, hc2, h⟩ := cI_t h
  refine J_cVi (pc := 2) (ctX11_isBlowing l E o a1 ho σ hc2) dX11_knowing_2 mlX11_371 mvX11_isBlowing ho rfl (by decide) rfl (Nat.le_of_ble_eq_true rfl) ?_
  refine J_if_ne (pc := 5) 14 dX11_knowing_5 (by decide) h (fun h => ?_) (fun h => ?_)
  · refine J_aload_n (pc := 14) 0 dX11_knowing_14 rfl ?_
    obtain ⟨σ4, hc5, h⟩ := cV_t h
    refine J_cVv (pc := 15) (ctX11_look l E o ho σ1 hc5) dX11_knowing_15 mlX11_323 mvX11_look ho rfl (by decide) rfl (Nat.le_of_ble_eq_true rfl) ?_
    refine J_aload_n (pc := 18) 0 dX11_knowing_18 rfl ?_
    refine J_iload_n (pc := 19) 1 dX11_knowing_19 rfl ?_
    obtain ⟨x8, σ6, hc7, h⟩ := cI_t h
    refine J_cVi (pc := 20) (ctX11_leavingWinds l E o a1 ho σ4 hc7) dX11_knowing_20 mlX11_383 mvX11_leavingWinds ho rfl (by decide) rfl (Nat.le_of_ble_eq_true rfl) ?_
    obtain ⟨x11, σ9, hc10, h⟩ := cI_t h
    refine J_cSi (pc := 23) (ctJ6_bitCount_0f7a4 l E x8 σ6 hc10) dX11_knowing_23 mlX11_386 msJ6_bitCount_0f7a4 rfl (by decide) rfl (Nat.le_of_ble_eq_true rfl) ?_
    refine J_istore_n (pc := 26) (L' := [(2, .int x11), (0, .ref (e_a E o 0)), (1, .int a1)]) dX11_knowing_26 (by decide) rfl ?_
    refine J_iconst (pc := 27) (-1 : Int32) dX11_knowing_27 (by decide) ?_
    refine J_istore_n (pc := 28) (L' := [(3, .int (-1 : Int32)), (2, .int x11), (0, .ref (e_a E o 0)), (1, .int a1)]) dX11_knowing_28 (by decide) rfl ?_
    refine J_iconst (pc := 29) (0 : Int32) dX11_knowing_29 (by decide) ?_
    refine J_istore (pc := 30) (L' := [(4, .int (0 : Int32)), (3, .int (-1 : Int32)), (2, .int x11), (0, .ref (e_a E o 0)), (1, .int a1)]) dX11_knowing_30 (by decide) rfl ?_
    refine J_sub (L' := [(0, .ref (e_a E o 0)), (1, .int a1), (2, .int x11), (3, .int (-1 : Int32)), (4, .int (0 : Int32))]) [3, 4, 2, 1, 0] rfl ?_
    exact tX11_knowing_32 l E o a1 ho FU x11 (-1 : Int32) (0 : Int32) σ9 h
  · refine J_aload_n (pc := 8) 0 dX11_knowing_8 rfl ?_
    refine J_iconst (pc := 9) (1 : Int32) dX11_knowing_9 (by decide) ?_
    obtain ⟨x14, σ12, hc13, h⟩ := cI_t h
    refine J_cVi (pc := 10) (ctX11_none l E o (1 : Int32) ho σ1 hc13) dX11_knowing_10 mlX11_130 mvX11_none ho rfl (by decide) rfl (Nat.le_of_ble_eq_true rfl) ?_
    cases h
    exact J_iret (pc := 13) dX11_knowing_13 rfl rfl
def fX11_holdsTeeth_10 (o : Nat) (a1 : Nat) (a2 : Int32) (k2 : Int32 → Mm → Option (Int32 × Mm)) : Nat → Int32 → Int32 → Mm → Option (Int32 × Mm)
  | 0, _, _, _ => none
  | n + 1, v3, v4, σ => r_rf σ (tg o 9) 0 2 (fun q1 => r_sc σ q1 1 (fun x2 => if x2 ≤ v4 then (k2 (v3 + (1 : Int32)) σ) else (r_rf σ (tg o 9) 0 2 (fun q3 => r_sc σ q3 1 (fun x4 => g_la σ a1 0 60 ((v3 * x4) + v4) (fun x5 => if (lg_cmp x5 (0 : Int64)) < 0 then (some ((0 : Int32), σ)) else (r_rf σ (tg o 9) 0 2 (fun q6 => g_ar σ q6 3 8 v4 (fun x7 => if (lg_cmp x5 x7.toInt64) < 0 then ((fX11_holdsTeeth_10 o a1 a2 k2 n) v3 (v4 + (1 : Int32)) σ) else (some ((0 : Int32), σ)))))))))))
set_option maxRecDepth 100000 in
set_option maxHeartbeats 4000000 in
theorem tX11_holdsTeeth_10 (l : Launch) (E : EV) {xr : Int32} {τ : Mm} (o : Nat) (a1 : Nat) (a2 : Int32) (ho : KD o = 11) (ha1 : KD a1 = 8) (k2 : Int32 → Mm → Option (Int32 × Mm)) (hk2 : ∀ (v3 : Int32) (σ : Mm), k2 v3 σ = some (xr, τ) → Jd l E mX11_holdsTeeth 0 (some (.int xr), τ) σ 2 [(0, .ref (e_a E o 0)), (1, .ref (e_a E a1 0)), (2, .int a2), (3, .int v3)] []) : ∀ (n : Nat) (v3 : Int32) (v4 : Int32) (σ : Mm), fX11_holdsTeeth_10 o a1 a2 k2 n v3 v4 σ = some (xr, τ) → Jd l E mX11_holdsTeeth 0 (some (.int xr), τ) σ 10 [(0, .ref (e_a E o 0)), (1, .ref (e_a E a1 0)), (2, .int a2), (3, .int v3), (4, .int v4)] [] := by
  intro n
  induction n with
  | zero => intro v3 v4 σ h; rw [fX11_holdsTeeth_10] at h; cases h
  | succ n ih =>
    intro v3 v4 σ h
    rw [fX11_holdsTeeth_10] at h
    refine J_iload (pc := 10) 4 dX11_holdsTeeth_10 rfl ?_
    refine J_aload_n (pc := 12) 0 dX11_holdsTeeth_12 rfl ?_
    refine J_getT (pc := 13) dX11_holdsTeeth_13 ho flX11_50 rfl ?_
    refine J_getR (pc := 16) dX11_holdsTeeth_16 (tk11_9 ho) flX11_174 rfl h (fun q1 hq1 h => ?_)
    refine J_getI (pc := 19) dX11_holdsTeeth_19 hq1 flX11_190 rfl h (fun x2 h => ?_)
    refine J_icmp_ge (pc := 22) 82 dX11_holdsTeeth_22 (by decide) h (fun h => ?_) (fun h => ?_)
    · refine J_iinc (pc := 82) (L' := [(3, .int (v3 + (1 : Int32))), (0, .ref (e_a E o 0)), (1, .ref (e_a E a1 0)), (2, .int a2), (4, .int v4)]) 3 (v3 + (1 : Int32)) dX11_holdsTeeth_82 rfl (by rfl) (by decide) rfl ?_
      refine J_goto (pc := 85) 2 dX11_holdsTeeth_85 (by decide) ?_
      refine J_sub (L' := [(0, .ref (e_a E o 0)), (1, .ref (e_a E a1 0)), (2, .int a2), (3, .int (v3 + (1 : Int32)))]) [1, 2, 3, 0] rfl ?_
      exact hk2 (v3 + (1 : Int32)) σ h
    · refine J_aload_n (pc := 25) 1 dX11_holdsTeeth_25 rfl ?_
      refine J_getA (pc := 26) dX11_holdsTeeth_26 ha1 flX11_134 rfl ?_
      refine J_iload_n (pc := 29) 3 dX11_holdsTeeth_29 rfl ?_
      refine J_aload_n (pc := 30) 0 dX11_holdsTeeth_30 rfl ?_
      refine J_getT (pc := 31) dX11_holdsTeeth_31 ho flX11_50 rfl ?_
      refine J_getR (pc := 34) dX11_holdsTeeth_34 (tk11_9 ho) flX11_174 rfl h (fun q3 hq3 h => ?_)
      refine J_getI (pc := 37) dX11_holdsTeeth_37 hq3 flX11_190 rfl h (fun x4 h => ?_)
      refine J_imul (pc := 40) dX11_holdsTeeth_40 ?_
      refine J_iload (pc := 41) 4 dX11_holdsTeeth_41 rfl ?_
      refine J_iadd (pc := 43) dX11_holdsTeeth_43 ?_
      refine J_lald (pc := 44) dX11_holdsTeeth_44 ha1 ha8_0 h (fun x5 h => ?_)
      refine J_lstore (pc := 45) (L' := [(5, .long x5), (0, .ref (e_a E o 0)), (1, .ref (e_a E a1 0)), (2, .int a2), (3, .int v3), (4, .int v4)]) dX11_holdsTeeth_45 (by decide) rfl ?_
      refine J_lload (pc := 47) 0 dX11_holdsTeeth_47 rfl ?_
      refine J_lconst (pc := 49) (0 : Int64) dX11_holdsTeeth_49 (by decide) ?_
      refine J_lcmp (pc := 50) dX11_holdsTeeth_50 ?_
      refine J_if_lt (pc := 51) 74 dX11_holdsTeeth_51 (by decide) h (fun h => ?_) (fun h => ?_)
      · refine J_iconst (pc := 74) (0 : Int32) dX11_holdsTeeth_74 (by decide) ?_
        cases h
        exact J_iret (pc := 75) dX11_holdsTeeth_75 rfl rfl
      · refine J_lload (pc := 54) 0 dX11_holdsTeeth_54 rfl ?_
        refine J_aload_n (pc := 56) 1 dX11_holdsTeeth_56 rfl ?_
        refine J_getT (pc := 57) dX11_holdsTeeth_57 ho flX11_50 rfl ?_
        refine J_getR (pc := 60) dX11_holdsTeeth_60 (tk11_9 ho) flX11_174 rfl h (fun q6 hq6 h => ?_)
        refine J_getA (pc := 63) dX11_holdsTeeth_63 hq6 flX11_220 rfl ?_
        refine J_iload (pc := 66) 5 dX11_holdsTeeth_66 rfl ?_
        refine J_iald (pc := 68) dX11_holdsTeeth_68 hq6 ha2_3 h (fun x7 h => ?_)
        refine J_i2l (pc := 69) dX11_holdsTeeth_69 ?_
        refine J_lcmp (pc := 70) dX11_holdsTeeth_70 ?_
        refine J_if_lt (pc := 71) 76 dX11_holdsTeeth_71 (by decide) h (fun h => ?_) (fun h => ?_)
        · refine J_iinc (pc := 76) (L' := [(4, .int (v4 + (1 : Int32))), (5, .long x5), (0, .ref (e_a E o 0)), (1, .ref (e_a E a1 0)), (2, .int a2), (3, .int v3)]) 5 (v4 + (1 : Int32)) dX11_holdsTeeth_76 rfl (by rfl) (by decide) rfl ?_
          refine J_goto (pc := 79) 10 dX11_holdsTeeth_79 (by decide) ?_
          refine J_sub (L' := [(0, .ref (e_a E o 0)), (1, .ref (e_a E a1 0)), (2, .int a2), (3, .int v3), (4, .int (v4 + (1 : Int32)))]) [2, 3, 4, 5, 0] rfl ?_
          exact ih v3 (v4 + (1 : Int32)) σ h
        · refine J_iconst (pc := 74) (0 : Int32) dX11_holdsTeeth_74 (by decide) ?_
          cases h
          exact J_iret (pc := 75) dX11_holdsTeeth_75 rfl rfl
def fX11_holdsTeeth_2 (o : Nat) (a1 : Nat) (a2 : Int32) : Nat → Int32 → Mm → Option (Int32 × Mm)
  | 0, _, _ => none
  | n + 1, v3, σ => if a2 ≤ v3 then (some ((1 : Int32), σ)) else (fX11_holdsTeeth_10 o a1 a2 (fX11_holdsTeeth_2 o a1 a2 n) FU v3 (0 : Int32) σ)
set_option maxRecDepth 100000 in
set_option maxHeartbeats 4000000 in
theorem tX11_holdsTeeth_2 (l : Launch) (E : EV) {xr : Int32} {τ : Mm} (o : Nat) (a1 : Nat) (a2 : Int32) (ho : KD o = 11) (ha1 : KD a1 = 8) : ∀ (n : Nat) (v3 : Int32) (σ : Mm), fX11_holdsTeeth_2 o a1 a2 n v3 σ = some (xr, τ) → Jd l E mX11_holdsTeeth 0 (some (.int xr), τ) σ 2 [(0, .ref (e_a E o 0)), (1, .ref (e_a E a1 0)), (2, .int a2), (3, .int v3)] [] := by
  intro n
  induction n with
  | zero => intro v3 σ h; rw [fX11_holdsTeeth_2] at h; cases h
  | succ n ih =>
    intro v3 σ h
    rw [fX11_holdsTeeth_2] at h
    refine J_iload_n (pc := 2) 3 dX11_holdsTeeth_2 rfl ?_
    refine J_iload_n (pc := 3) 2 dX11_holdsTeeth_3 rfl ?_
    refine J_icmp_ge (pc := 4) 88 dX11_holdsTeeth_4 (by decide) h (fun h => ?_) (fun h => ?_)
    · refine J_iconst (pc := 88) (1 : Int32) dX11_holdsTeeth_88 (by decide) ?_
      cases h
      exact J_iret (pc := 89) dX11_holdsTeeth_89 rfl rfl
    · refine J_iconst (pc := 7) (0 : Int32) dX11_holdsTeeth_7 (by decide) ?_
      refine J_istore (pc := 8) (L' := [(4, .int (0 : Int32)), (0, .ref (e_a E o 0)), (1, .ref (e_a E a1 0)), (2, .int a2), (3, .int v3)]) dX11_holdsTeeth_8 (by decide) rfl ?_
      refine J_sub (L' := [(0, .ref (e_a E o 0)), (1, .ref (e_a E a1 0)), (2, .int a2), (3, .int v3), (4, .int (0 : Int32))]) [1, 2, 3, 4, 0] rfl ?_
      exact tX11_holdsTeeth_10 l E o a1 a2 ho ha1 (fX11_holdsTeeth_2 o a1 a2 n) ih FU v3 (0 : Int32) σ h
def fX11_holdsTeeth (o : Nat) (a1 : Nat) (a2 : Int32) (σ : Mm) : Option (Int32 × Mm) := fX11_holdsTeeth_2 o a1 a2 FU (0 : Int32) σ
set_option maxRecDepth 100000 in
set_option maxHeartbeats 4000000 in
theorem ctX11_holdsTeeth (l : Launch) (E : EV) (o : Nat) (a1 : Nat) (a2 : Int32) (ho : KD o = 11) (ha1 : KD a1 = 8) (σ : Mm) {xr : Int32} {τ : Mm} (h : fX11_holdsTeeth o a1 a2 σ = some (xr, τ)) : Ct l E mX11_holdsTeeth 0 [.ref (e_a E o 0), .ref (e_a E a1 0), .int a2] σ (some (.int xr), τ) := by
  refine Ct.of (by decide +kernel) (Nat.le_of_ble_eq_true rfl) ?_
  show Jd l E mX11_holdsTeeth 0 (some (.int xr), τ) σ 0 [(0, .ref (e_a E o 0)), (1, .ref (e_a E a1 0)), (2, .int a2)] []
  unfold fX11_holdsTeeth at h
  refine J_iconst (pc := 0) (0 : Int32) dX11_holdsTeeth_0 (by decide) ?_
  refine J_istore_n (pc := 1) (L' := [(3, .int (0 : Int32)), (0, .ref (e_a E o 0)), (1, .ref (e_a E a1 0)), (2, .int a2)]) dX11_holdsTeeth_1 (by decide) rfl ?_
  refine J_sub (L' := [(0, .ref (e_a E o 0)), (1, .ref (e_a E a1 0)), (2, .int a2), (3, .int (0 : Int32))]) [1, 2, 3, 0] rfl ?_
  exact tX11_holdsTeeth_2 l E o a1 a2 ho ha1 FU (0 : Int32) σ h
def fX11_seenStatus (o : Nat) (a1 : Int32) (a2 : Int32) (σ : Mm) : Option (Int32 × Mm) := c_I (fX11_isTray o a1 σ) (fun x3 σ1 => if x3 = 0 then (some ((1 : Int32), σ1)) else (if a2 < (1 : Int32) then (some ((1 : Int32), σ1)) else (if a2 ≤ (15 : Int32) then (g_bl 0 4 a1 (fun q4 => c_I (fX8_isMissing q4 σ1) (fun x7 σ5 => if x7 = 0 then (g_bl 0 4 a1 (fun q8 => r_rf σ5 (tg o 9) 0 2 (fun q9 => r_sc σ5 q9 1 (fun x10 => c_I (fX8_hasFrom q8 (0 : Int32) (a2 * x10) σ5) (fun x13 σ11 => if x13 = 0 then (some ((3 : Int32), σ11)) else (g_bl 0 4 a1 (fun q14 => c_I (fX11_holdsTeeth o q14 a2 σ11) (fun x17 σ15 => if x17 = 0 then (some ((5 : Int32), σ15)) else (some ((0 : Int32), σ15)))))))))) else (some ((2 : Int32), σ5))))) else (some ((1 : Int32), σ1)))))
set_option maxRecDepth 100000 in
set_option maxHeartbeats 4000000 in
theorem ctX11_seenStatus (l : Launch) (E : EV) (o : Nat) (a1 : Int32) (a2 : Int32) (ho : KD o = 11) (σ : Mm) {xr : Int32} {τ : Mm} (h : fX11_seenStatus o a1 a2 σ = some (xr, τ)) : Ct l E mX11_seenStatus 1 [.ref (e_a E o 0), .int a1, .int a2] σ (some (.int xr), τ) := by
  refine Ct.of (by decide +kernel) (Nat.le_of_ble_eq_true rfl) ?_
  show Jd l E mX11_seenStatus 1 (some (.int xr), τ) σ 0 [(0, .ref (e_a E o 0)), (1, .int a1), (2, .int a2)] []
  unfold fX11_seenStatus at h
  refine J_aload_n (pc := 0) 0 dX11_seenStatus_0 rfl ?_
  refine J_iload_n (pc := 1) 1 dX11_seenStatus_1 rfl ?_
  obtain ⟨x3, σ1, hc2, h⟩ := cI_t h
  refine J_cVi (pc := 2) (ctX11_isTray l E o a1 ho σ hc2) dX11_seenStatus_2 mlX11_107 mvX11_isTray ho rfl (by decide) rfl (Nat.le_of_ble_eq_true rfl) ?_
  refine J_if_eq (pc := 5) 19 dX11_seenStatus_5 (by decide) h (fun h => ?_) (fun h => ?_)
  · refine J_iconst (pc := 19) (1 : Int32) dX11_seenStatus_19 (by decide) ?_
    cases h
    exact J_iret (pc := 20) dX11_seenStatus_20 rfl rfl
  · refine J_iload_n (pc := 8) 2 dX11_seenStatus_8 rfl ?_
    refine J_iconst (pc := 9) (1 : Int32) dX11_seenStatus_9 (by decide) ?_
    refine J_icmp_lt (pc := 10) 19 dX11_seenStatus_10 (by decide) h (fun h => ?_) (fun h => ?_)
    · refine J_iconst (pc := 19) (1 : Int32) dX11_seenStatus_19 (by decide) ?_
      cases h
      exact J_iret (pc := 20) dX11_seenStatus_20 rfl rfl
    · refine J_iload_n (pc := 13) 2 dX11_seenStatus_13 rfl ?_
      refine J_bipush (pc := 14) (15 : Int32) dX11_seenStatus_14 (by decide) ?_
      refine J_icmp_le (pc := 16) 21 dX11_seenStatus_16 (by decide) h (fun h => ?_) (fun h => ?_)
      · refine J_aload_n (pc := 21) 0 dX11_seenStatus_21 rfl ?_
        refine J_getA (pc := 22) dX11_seenStatus_22 ho flX11_15 rfl ?_
        refine J_iload_n (pc := 25) 1 dX11_seenStatus_25 rfl ?_
        refine J_aaldK (pc := 26) (t := 0) dX11_seenStatus_26 ho ha11_0 rfl (fun _ q => kr0 q) h (fun q4 hq4 h => ?_)
        obtain ⟨x7, σ5, hc6, h⟩ := cI_t h
        refine J_cVi (pc := 27) (ctX8_isMissing l E q4 hq4 σ1 hc6) dX11_seenStatus_27 mlX11_138 mvX8_isMissing hq4 rfl (by decide) rfl (Nat.le_of_ble_eq_true rfl) ?_
        refine J_if_eq (pc := 30) 35 dX11_seenStatus_30 (by decide) h (fun h => ?_) (fun h => ?_)
        · refine J_aload_n (pc := 35) 0 dX11_seenStatus_35 rfl ?_
          refine J_getA (pc := 36) dX11_seenStatus_36 ho flX11_15 rfl ?_
          refine J_iload_n (pc := 39) 1 dX11_seenStatus_39 rfl ?_
          refine J_aaldK (pc := 40) (t := 0) dX11_seenStatus_40 ho ha11_0 rfl (fun _ q => kr0 q) h (fun q8 hq8 h => ?_)
          refine J_iconst (pc := 41) (0 : Int32) dX11_seenStatus_41 (by decide) ?_
          refine J_iload_n (pc := 42) 2 dX11_seenStatus_42 rfl ?_
          refine J_aload_n (pc := 43) 0 dX11_seenStatus_43 rfl ?_
          refine J_getT (pc := 44) dX11_seenStatus_44 ho flX11_50 rfl ?_
          refine J_getR (pc := 47) dX11_seenStatus_47 (tk11_9 ho) flX11_174 rfl h (fun q9 hq9 h => ?_)
          refine J_getI (pc := 50) dX11_seenStatus_50 hq9 flX11_190 rfl h (fun x10 h => ?_)
          refine J_imul (pc := 53) dX11_seenStatus_53 ?_
          obtain ⟨x13, σ11, hc12, h⟩ := cI_t h
          refine J_cVi (pc := 54) (ctX8_hasFrom l E q8 (0 : Int32) (a2 * x10) hq8 σ5 hc12) dX11_seenStatus_54 mlX11_144 mvX8_hasFrom hq8 rfl (by decide) rfl (Nat.le_of_ble_eq_true rfl) ?_
          refine J_if_ne (pc := 57) 62 dX11_seenStatus_57 (by decide) h (fun h => ?_) (fun h => ?_)
          · refine J_aload_n (pc := 62) 0 dX11_seenStatus_62 rfl ?_
            refine J_aload_n (pc := 63) 0 dX11_seenStatus_63 rfl ?_
            refine J_getA (pc := 64) dX11_seenStatus_64 ho flX11_15 rfl ?_
            refine J_iload_n (pc := 67) 1 dX11_seenStatus_67 rfl ?_
            refine J_aaldK (pc := 68) (t := 0) dX11_seenStatus_68 ho ha11_0 rfl (fun _ q => kr0 q) h (fun q14 hq14 h => ?_)
            refine J_iload_n (pc := 69) 2 dX11_seenStatus_69 rfl ?_
            obtain ⟨x17, σ15, hc16, h⟩ := cI_t h
            refine J_cVi (pc := 70) (ctX11_holdsTeeth l E o q14 a2 ho hq14 σ11 hc16) dX11_seenStatus_70 mlX11_444 mvX11_holdsTeeth ho rfl (by decide) rfl (Nat.le_of_ble_eq_true rfl) ?_
            refine J_if_eq (pc := 73) 80 dX11_seenStatus_73 (by decide) h (fun h => ?_) (fun h => ?_)
            · refine J_iconst (pc := 80) (5 : Int32) dX11_seenStatus_80 (by decide) ?_
              cases h
              exact J_iret (pc := 81) dX11_seenStatus_81 rfl rfl
            · refine J_iconst (pc := 76) (0 : Int32) dX11_seenStatus_76 (by decide) ?_
              refine J_goto (pc := 77) 81 dX11_seenStatus_77 (by decide) ?_
              cases h
              exact J_iret (pc := 81) dX11_seenStatus_81 rfl rfl
          · refine J_iconst (pc := 60) (3 : Int32) dX11_seenStatus_60 (by decide) ?_
            cases h
            exact J_iret (pc := 61) dX11_seenStatus_61 rfl rfl
        · refine J_iconst (pc := 33) (2 : Int32) dX11_seenStatus_33 (by decide) ?_
          cases h
          exact J_iret (pc := 34) dX11_seenStatus_34 rfl rfl
      · refine J_iconst (pc := 19) (1 : Int32) dX11_seenStatus_19 (by decide) ?_
        cases h
        exact J_iret (pc := 20) dX11_seenStatus_20 rfl rfl
def fX11_comesAsSeen_19 (o : Nat) (a1 : Nat) (a2 : Int32) (k2 : Int32 → Mm → Option (Int32 × Mm)) : Nat → Int32 → Int32 → Mm → Option (Int32 × Mm)
  | 0, _, _, _ => none
  | n + 1, v3, v4, σ => r_rf σ (tg o 9) 0 2 (fun q4 => r_sc σ q4 1 (fun x5 => if x5 ≤ v4 then (k2 (v3 + (1 : Int32)) σ) else (r_rf σ (tg o 9) 0 2 (fun q6 => r_sc σ q6 1 (fun x7 => g_la σ a1 0 60 ((v3 * x7) + v4) (fun x8 => g_ar σ (tg o 15) 2 8 v4 (fun x9 => if (lg_cmp x8 x9.toInt64) = 0 then ((fX11_comesAsSeen_19 o a1 a2 k2 n) v3 (v4 + (1 : Int32)) σ) else (some ((0 : Int32), σ)))))))))
set_option maxRecDepth 100000 in
set_option maxHeartbeats 4000000 in
theorem tX11_comesAsSeen_19 (l : Launch) (E : EV) {xr : Int32} {τ : Mm} (o : Nat) (a1 : Nat) (a2 : Int32) (ho : KD o = 11) (ha1 : KD a1 = 8) (k2 : Int32 → Mm → Option (Int32 × Mm)) (hk2 : ∀ (v3 : Int32) (σ : Mm), k2 v3 σ = some (xr, τ) → Jd l E mX11_comesAsSeen 5 (some (.int xr), τ) σ 2 [(0, .ref (e_a E o 0)), (1, .ref (e_a E a1 0)), (2, .int a2), (3, .int v3)] []) : ∀ (n : Nat) (v3 : Int32) (v4 : Int32) (σ : Mm), fX11_comesAsSeen_19 o a1 a2 k2 n v3 v4 σ = some (xr, τ) → Jd l E mX11_comesAsSeen 5 (some (.int xr), τ) σ 19 [(0, .ref (e_a E o 0)), (1, .ref (e_a E a1 0)), (2, .int a2), (3, .int v3), (4, .int v4)] [] := by
  intro n
  induction n with
  | zero => intro v3 v4 σ h; rw [fX11_comesAsSeen_19] at h; cases h
  | succ n ih =>
    intro v3 v4 σ h
    rw [fX11_comesAsSeen_19] at h
    refine J_iload (pc := 19) 4 dX11_comesAsSeen_19 rfl ?_
    refine J_aload_n (pc := 21) 0 dX11_comesAsSeen_21 rfl ?_
    refine J_getT (pc := 22) dX11_comesAsSeen_22 ho flX11_50 rfl ?_
    refine J_getR (pc := 25) dX11_comesAsSeen_25 (tk11_9 ho) flX11_174 rfl h (fun q4 hq4 h => ?_)
    refine J_getI (pc := 28) dX11_comesAsSeen_28 hq4 flX11_190 rfl h (fun x5 h => ?_)
    refine J_icmp_ge (pc := 31) 77 dX11_comesAsSeen_31 (by decide) h (fun h => ?_) (fun h => ?_)
    · refine J_iinc (pc := 77) (L' := [(3, .int (v3 + (1 : Int32))), (0, .ref (e_a E o 0)), (1, .ref (e_a E a1 0)), (2, .int a2), (4, .int v4)]) 3 (v3 + (1 : Int32)) dX11_comesAsSeen_77 rfl (by rfl) (by decide) rfl ?_
      refine J_goto (pc := 80) 2 dX11_comesAsSeen_80 (by decide) ?_
      refine J_sub (L' := [(0, .ref (e_a E o 0)), (1, .ref (e_a E a1 0)), (2, .int a2), (3, .int (v3 + (1 : Int32)))]) [1, 2, 3, 0] rfl ?_
      exact hk2 (v3 + (1 : Int32)) σ h
    · refine J_aload_n (pc := 34) 1 dX11_comesAsSeen_34 rfl ?_
      refine J_getA (pc := 35) dX11_comesAsSeen_35 ha1 flX11_134 rfl ?_
      refine J_iload_n (pc := 38) 3 dX11_comesAsSeen_38 rfl ?_
      refine J_aload_n (pc := 39) 0 dX11_comesAsSeen_39 rfl ?_
      refine J_getT (pc := 40) dX11_comesAsSeen_40 ho flX11_50 rfl ?_
      refine J_getR (pc := 43) dX11_comesAsSeen_43 (tk11_9 ho) flX11_174 rfl h (fun q6 hq6 h => ?_)
      refine J_getI (pc := 46) dX11_comesAsSeen_46 hq6 flX11_190 rfl h (fun x7 h => ?_)
      refine J_imul (pc := 49) dX11_comesAsSeen_49 ?_
      refine J_iload (pc := 50) 4 dX11_comesAsSeen_50 rfl ?_
      refine J_iadd (pc := 52) dX11_comesAsSeen_52 ?_
      refine J_lald (pc := 53) dX11_comesAsSeen_53 ha1 ha8_0 h (fun x8 h => ?_)
      refine J_aload_n (pc := 54) 0 dX11_comesAsSeen_54 rfl ?_
      refine J_getT (pc := 55) dX11_comesAsSeen_55 ho flX11_82 rfl ?_
      refine J_getA (pc := 58) dX11_comesAsSeen_58 (tk11_15 ho) flX11_230 rfl ?_
      refine J_iload (pc := 61) 4 dX11_comesAsSeen_61 rfl ?_
      refine J_iald (pc := 63) dX11_comesAsSeen_63 (tk11_15 ho) ha4_2 h (fun x9 h => ?_)
      refine J_i2l (pc := 64) dX11_comesAsSeen_64 ?_
      refine J_lcmp (pc := 65) dX11_comesAsSeen_65 ?_
      refine J_if_eq (pc := 66) 71 dX11_comesAsSeen_66 (by decide) h (fun h => ?_) (fun h => ?_)
      · refine J_iinc (pc := 71) (L' := [(4, .int (v4 + (1 : Int32))), (0, .ref (e_a E o 0)), (1, .ref (e_a E a1 0)), (2, .int a2), (3, .int v3)]) 4 (v4 + (1 : Int32)) dX11_comesAsSeen_71 rfl (by rfl) (by decide) rfl ?_
        refine J_goto (pc := 74) 19 dX11_comesAsSeen_74 (by decide) ?_
        refine J_sub (L' := [(0, .ref (e_a E o 0)), (1, .ref (e_a E a1 0)), (2, .int a2), (3, .int v3), (4, .int (v4 + (1 : Int32)))]) [1, 2, 3, 4, 0] rfl ?_
        exact ih v3 (v4 + (1 : Int32)) σ h
      · refine J_iconst (pc := 69) (0 : Int32) dX11_comesAsSeen_69 (by decide) ?_
        cases h
        exact J_iret (pc := 70) dX11_comesAsSeen_70 rfl rfl
def fX11_comesAsSeen_2 (o : Nat) (a1 : Nat) (a2 : Int32) : Nat → Int32 → Mm → Option (Int32 × Mm)
  | 0, _, _ => none
  | n + 1, v3, σ => if a2 ≤ v3 then (some ((1 : Int32), σ)) else (c_I (fX10_goOn (tg o 14) (1 : Int32) σ) (fun x3 σ1 => fX11_comesAsSeen_19 o a1 a2 (fX11_comesAsSeen_2 o a1 a2 n) FU v3 (0 : Int32) σ1))
set_option maxRecDepth 100000 in
set_option maxHeartbeats 4000000 in
theorem tX11_comesAsSeen_2 (l : Launch) (E : EV) {xr : Int32} {τ : Mm} (o : Nat) (a1 : Nat) (a2 : Int32) (ho : KD o = 11) (ha1 : KD a1 = 8) : ∀ (n : Nat) (v3 : Int32) (σ : Mm), fX11_comesAsSeen_2 o a1 a2 n v3 σ = some (xr, τ) → Jd l E mX11_comesAsSeen 5 (some (.int xr), τ) σ 2 [(0, .ref (e_a E o 0)), (1, .ref (e_a E a1 0)), (2, .int a2), (3, .int v3)] [] := by
  intro n
  induction n with
  | zero => intro v3 σ h; rw [fX11_comesAsSeen_2] at h; cases h
  | succ n ih =>
    intro v3 σ h
    rw [fX11_comesAsSeen_2] at h
    refine J_iload_n (pc := 2) 3 dX11_comesAsSeen_2 rfl ?_
    refine J_iload_n (pc := 3) 2 dX11_comesAsSeen_3 rfl ?_
    refine J_icmp_ge (pc := 4) 83 dX11_comesAsSeen_4 (by decide) h (fun h => ?_) (fun h => ?_)
    · refine J_iconst (pc := 83) (1 : Int32) dX11_comesAsSeen_83 (by decide) ?_
      cases h
      exact J_iret (pc := 84) dX11_comesAsSeen_84 rfl rfl
    · refine J_aload_n (pc := 7) 0 dX11_comesAsSeen_7 rfl ?_
      refine J_getT (pc := 8) dX11_comesAsSeen_8 ho flX11_75 rfl ?_
      refine J_iconst (pc := 11) (1 : Int32) dX11_comesAsSeen_11 (by decide) ?_
      obtain ⟨x3, σ1, hc2, h⟩ := cI_t h
      refine J_cVi (pc := 12) (ctX10_goOn l E (tg o 14) (1 : Int32) (tk11_14 ho) σ hc2) dX11_comesAsSeen_12 mlX11_279 mvX10_goOn (tk11_14 ho) rfl (by decide) rfl (Nat.le_of_ble_eq_true rfl) ?_
      refine J_pop (pc := 15) dX11_comesAsSeen_15 rfl ?_
      refine J_iconst (pc := 16) (0 : Int32) dX11_comesAsSeen_16 (by decide) ?_
      refine J_istore (pc := 17) (L' := [(4, .int (0 : Int32)), (0, .ref (e_a E o 0)), (1, .ref (e_a E a1 0)), (2, .int a2), (3, .int v3)]) dX11_comesAsSeen_17 (by decide) rfl ?_
      refine J_sub (L' := [(0, .ref (e_a E o 0)), (1, .ref (e_a E a1 0)), (2, .int a2), (3, .int v3), (4, .int (0 : Int32))]) [1, 2, 3, 4, 0] rfl ?_
      exact tX11_comesAsSeen_19 l E o a1 a2 ho ha1 (fX11_comesAsSeen_2 o a1 a2 n) ih FU v3 (0 : Int32) σ1 h
def fX11_comesAsSeen (o : Nat) (a1 : Nat) (a2 : Int32) (σ : Mm) : Option (Int32 × Mm) := fX11_comesAsSeen_2 o a1 a2 FU (0 : Int32) σ
set_option maxRecDepth 100000 in
set_option maxHeartbeats 4000000 in
theorem ctX11_comesAsSeen (l : Launch) (E : EV) (o : Nat) (a1 : Nat) (a2 : Int32) (ho : KD o = 11) (ha1 : KD a1 = 8) (σ : Mm) {xr : Int32} {τ : Mm} (h : fX11_comesAsSeen o a1 a2 σ = some (xr, τ)) : Ct l E mX11_comesAsSeen 5 [.ref (e_a E o 0), .ref (e_a E a1 0), .int a2] σ (some (.int xr), τ) := by
  refine Ct.of (by decide +kernel) (Nat.le_of_ble_eq_true rfl) ?_
  show Jd l E mX11_comesAsSeen 5 (some (.int xr), τ) σ 0 [(0, .ref (e_a E o 0)), (1, .ref (e_a E a1 0)), (2, .int a2)] []
  unfold fX11_comesAsSeen at h
  refine J_iconst (pc := 0) (0 : Int32) dX11_comesAsSeen_0 (by decide) ?_
  refine J_istore_n (pc := 1) (L' := [(3, .int (0 : Int32)), (0, .ref (e_a E o 0)), (1, .ref (e_a E a1 0)), (2, .int a2)]) dX11_comesAsSeen_1 (by decide) rfl ?_
  refine J_sub (L' := [(0, .ref (e_a E o 0)), (1, .ref (e_a E a1 0)), (2, .int a2), (3, .int (0 : Int32))]) [1, 2, 3, 0] rfl ?_
  exact tX11_comesAsSeen_2 l E o a1 a2 ho ha1 FU (0 : Int32) σ h
def fX11_whole (o : Nat) (a1 : Int32) (a2 : Int32) (σ : Mm) : Option (Int32 × Mm) := c_I (fX11_seenStatus o a1 a2 σ) (fun x3 σ1 => if x3 = 0 then (c_V (fX11_look o σ1) (fun σ4 => g_bl 0 4 a1 (fun q6 => c_I (fX11_comesAsSeen o q6 a2 σ4) (fun x9 σ7 => if x9 = 0 then (c_I (fX11_answer o (0 : Int32) σ7) (fun x12 σ10 => some (x12, σ10))) else (c_I (fX11_answer o (1 : Int32) σ7) (fun x15 σ13 => some (x15, σ13))))))) else (c_I (fX11_none o x3 σ1) (fun x18 σ16 => some (x18, σ16))))
set_option maxRecDepth 100000 in
set_option maxHeartbeats 4000000 in
theorem ctX11_whole (l : Launch) (E : EV) (o : Nat) (a1 : Int32) (a2 : Int32) (ho : KD o = 11) (σ : Mm) {xr : Int32} {τ : Mm} (h : fX11_whole o a1 a2 σ = some (xr, τ)) : Ct l E mX11_whole 6 [.ref (e_a E o 0), .int a1, .int a2] σ (some (.int xr), τ) := by
  refine Ct.of (by decide +kernel) (Nat.le_of_ble_eq_true rfl) ?_
  show Jd l E mX11_whole 6 (some (.int xr), τ) σ 0 [(0, .ref (e_a E o 0)), (1, .int a1), (2, .int a2)] []
  unfold fX11_whole at h
  refine J_aload_n (pc := 0) 0 dX11_whole_0 rfl ?_
  refine J_iload_n (pc := 1) 1 dX11_whole_1 rfl ?_
  refine J_iload_n (pc := 2) 2 dX11_whole_2 rfl ?_
  obtain ⟨x3, σ1, hc2, h⟩ := cI_t h
  refine J_cVi (pc := 3) (ctX11_seenStatus l E o a1 a2 ho σ hc2) dX11_whole_3 mlX11_391 mvX11_seenStatus ho rfl (by decide) rfl (Nat.le_of_ble_eq_true rfl) ?_
  refine J_istore_n (pc := 6) (L' := [(3, .int x3), (0, .ref (e_a E o 0)), (1, .int a1), (2, .int a2)]) dX11_whole_6 (by decide) rfl ?_
  refine J_iload_n (pc := 7) 0 dX11_whole_7 rfl ?_
  refine J_if_eq (pc := 8) 17 dX11_whole_8 (by decide) h (fun h => ?_) (fun h => ?_)
  · refine J_aload_n (pc := 17) 1 dX11_whole_17 rfl ?_
    obtain ⟨σ4, hc5, h⟩ := cV_t h
    refine J_cVv (pc := 18) (ctX11_look l E o ho σ1 hc5) dX11_whole_18 mlX11_323 mvX11_look ho rfl (by decide) rfl (Nat.le_of_ble_eq_true rfl) ?_
    refine J_aload_n (pc := 21) 1 dX11_whole_21 rfl ?_
    refine J_aload_n (pc := 22) 1 dX11_whole_22 rfl ?_
    refine J_aload_n (pc := 23) 1 dX11_whole_23 rfl ?_
    refine J_getA (pc := 24) dX11_whole_24 ho flX11_15 rfl ?_
    refine J_iload_n (pc := 27) 2 dX11_whole_27 rfl ?_
    refine J_aaldK (pc := 28) (t := 0) dX11_whole_28 ho ha11_0 rfl (fun _ q => kr0 q) h (fun q6 hq6 h => ?_)
    refine J_iload_n (pc := 29) 3 dX11_whole_29 rfl ?_
    obtain ⟨x9, σ7, hc8, h⟩ := cI_t h
    refine J_cVi (pc := 30) (ctX11_comesAsSeen l E o q6 a2 ho hq6 σ4 hc8) dX11_whole_30 mlX11_394 mvX11_comesAsSeen ho rfl (by decide) rfl (Nat.le_of_ble_eq_true rfl) ?_
    refine J_if_eq (pc := 33) 40 dX11_whole_33 (by decide) h (fun h => ?_) (fun h => ?_)
    · refine J_iconst (pc := 40) (0 : Int32) dX11_whole_40 (by decide) ?_
      obtain ⟨x12, σ10, hc11, h⟩ := cI_t h
      refine J_cVi (pc := 41) (ctX11_answer l E o (0 : Int32) ho σ7 hc11) dX11_whole_41 mlX11_193 mvX11_answer ho rfl (by decide) rfl (Nat.le_of_ble_eq_true rfl) ?_
      cases h
      exact J_iret (pc := 44) dX11_whole_44 rfl rfl
    · refine J_iconst (pc := 36) (1 : Int32) dX11_whole_36 (by decide) ?_
      refine J_goto (pc := 37) 41 dX11_whole_37 (by decide) ?_
      obtain ⟨x15, σ13, hc14, h⟩ := cI_t h
      refine J_cVi (pc := 41) (ctX11_answer l E o (1 : Int32) ho σ7 hc14) dX11_whole_41 mlX11_193 mvX11_answer ho rfl (by decide) rfl (Nat.le_of_ble_eq_true rfl) ?_
      cases h
      exact J_iret (pc := 44) dX11_whole_44 rfl rfl
  · refine J_aload_n (pc := 11) 1 dX11_whole_11 rfl ?_
    refine J_iload_n (pc := 12) 0 dX11_whole_12 rfl ?_
    obtain ⟨x18, σ16, hc17, h⟩ := cI_t h
    refine J_cVi (pc := 13) (ctX11_none l E o x3 ho σ1 hc17) dX11_whole_13 mlX11_130 mvX11_none ho rfl (by decide) rfl (Nat.le_of_ble_eq_true rfl) ?_
    cases h
    exact J_iret (pc := 16) dX11_whole_16 rfl rfl
def fX11_broken_23 (o : Nat) (a1 : Int32) (a2 : Int32) : Nat → Int32 → Int32 → Mm → Option (Int32 × Mm)
  | 0, _, _, _ => none
  | n + 1, v4, v5, σ => r_rf σ (tg o 9) 0 2 (fun q7 => r_sc σ q7 2 (fun x8 => if x8 ≤ v5 then (c_I (fX11_answer o v4 σ) (fun x11 σ9 => some (x11, σ9))) else (r_sc σ (tg (tg o 9) 1) 6 (fun x12 => c_I (fX11_has x12 v5 σ) (fun x15 σ13 => if x15 = 0 then (c_V (fX11_look o σ13) (fun σ16 => r_sc σ16 (tg o 15) 6 (fun x18 => c_I (fX11_with x18 v5 (1 : Int32) σ16) (fun x21 σ19 => p_sc σ19 (tg o 15) 6 x21 (fun σ22 => g_bl 0 4 a1 (fun q23 => c_I (fX11_comesAsSeen o q23 a2 σ22) (fun x26 σ24 => if x26 = 0 then ((fX11_broken_23 o a1 a2 n) v4 (v5 + (1 : Int32)) σ24) else (c_I (fX11_with v4 v5 (1 : Int32) σ24) (fun x29 σ27 => (fX11_broken_23 o a1 a2 n) x29 (v5 + (1 : Int32)) σ27))))))))) else ((fX11_broken_23 o a1 a2 n) v4 (v5 + (1 : Int32)) σ13))))))
set_option maxRecDepth 100000 in
set_option maxHeartbeats 4000000 in
theorem tX11_broken_23 (l : Launch) (E : EV) {xr : Int32} {τ : Mm} (o : Nat) (a1 : Int32) (a2 : Int32) (ho : KD o = 11) : ∀ (n : Nat) (v4 : Int32) (v5 : Int32) (σ : Mm), fX11_broken_23 o a1 a2 n v4 v5 σ = some (xr, τ) → Jd l E mX11_broken 6 (some (.int xr), τ) σ 23 [(0, .ref (e_a E o 0)), (1, .int a1), (2, .int a2), (4, .int v4), (5, .int v5)] [] := by
  intro n
  induction n with
  | zero => intro v4 v5 σ h; rw [fX11_broken_23] at h; cases h
  | succ n ih =>
    intro v4 v5 σ h
    rw [fX11_broken_23] at h
    refine J_iload (pc := 23) 4 dX11_broken_23 rfl ?_
    refine J_aload_n (pc := 25) 0 dX11_broken_25 rfl ?_
    refine J_getT (pc := 26) dX11_broken_26 ho flX11_50 rfl ?_
    refine J_getR (pc := 29) dX11_broken_29 (tk11_9 ho) flX11_174 rfl h (fun q7 hq7 h => ?_)
    refine J_getI (pc := 32) dX11_broken_32 hq7 flX11_205 rfl h (fun x8 h => ?_)
    refine J_icmp_ge (pc := 35) 113 dX11_broken_35 (by decide) h (fun h => ?_) (fun h => ?_)
    · refine J_aload_n (pc := 113) 0 dX11_broken_113 rfl ?_
      refine J_iload (pc := 114) 3 dX11_broken_114 rfl ?_
      obtain ⟨x11, σ9, hc10, h⟩ := cI_t h
      refine J_cVi (pc := 116) (ctX11_answer l E o v4 ho σ hc10) dX11_broken_116 mlX11_193 mvX11_answer ho rfl (by decide) rfl (Nat.le_of_ble_eq_true rfl) ?_
      cases h
      exact J_iret (pc := 119) dX11_broken_119 rfl rfl
    · refine J_aload_n (pc := 38) 0 dX11_broken_38 rfl ?_
      refine J_getT (pc := 39) dX11_broken_39 ho flX11_50 rfl ?_
      refine J_getT (pc := 42) dX11_broken_42 (tk11_9 ho) flX11_177 rfl ?_
      refine J_getI (pc := 45) dX11_broken_45 (tk7_1 (tk11_9 ho)) flX11_211 rfl h (fun x12 h => ?_)
      refine J_iload (pc := 48) 4 dX11_broken_48 rfl ?_
      obtain ⟨x15, σ13, hc14, h⟩ := cI_t h
      refine J_cSi (pc := 50) (ctX11_has l E x12 v5 σ hc14) dX11_broken_50 mlX11_298 msX11_has rfl (by decide) rfl (Nat.le_of_ble_eq_true rfl) ?_
      refine J_if_eq (pc := 53) 59 dX11_broken_53 (by decide) h (fun h => ?_) (fun h => ?_)
      · refine J_aload_n (pc := 59) 0 dX11_broken_59 rfl ?_
        obtain ⟨σ16, hc17, h⟩ := cV_t h
        refine J_cVv (pc := 60) (ctX11_look l E o ho σ13 hc17) dX11_broken_60 mlX11_323 mvX11_look ho rfl (by decide) rfl (Nat.le_of_ble_eq_true rfl) ?_
        refine J_aload_n (pc := 63) 0 dX11_broken_63 rfl ?_
        refine J_getT (pc := 64) dX11_broken_64 ho flX11_82 rfl ?_
        refine J_aload_n (pc := 67) 0 dX11_broken_67 rfl ?_
        refine J_getT (pc := 68) dX11_broken_68 ho flX11_82 rfl ?_
        refine J_getI (pc := 71) dX11_broken_71 (tk11_15 ho) flX11_211 rfl h (fun x18 h => ?_)
        refine J_iload (pc := 74) 4 dX11_broken_74 rfl ?_
        refine J_iconst (pc := 76) (1 : Int32) dX11_broken_76 (by decide) ?_
        obtain ⟨x21, σ19, hc20, h⟩ := cI_t h
        refine J_cSi (pc := 77) (ctX11_with l E x18 v5 (1 : Int32) σ16 hc20) dX11_broken_77 mlX11_275 msX11_with rfl (by decide) rfl (Nat.le_of_ble_eq_true rfl) ?_
        refine J_putI (pc := 80) dX11_broken_80 (tk11_15 ho) flX11_211 rfl h (fun σ22 h => ?_)
        refine J_aload_n (pc := 83) 0 dX11_broken_83 rfl ?_
        refine J_aload_n (pc := 84) 0 dX11_broken_84 rfl ?_
        refine J_getA (pc := 85) dX11_broken_85 ho flX11_15 rfl ?_
        refine J_iload_n (pc := 88) 1 dX11_broken_88 rfl ?_
        refine J_aaldK (pc := 89) (t := 0) dX11_broken_89 ho ha11_0 rfl (fun _ q => kr0 q) h (fun q23 hq23 h => ?_)
        refine J_iload_n (pc := 90) 2 dX11_broken_90 rfl ?_
        obtain ⟨x26, σ24, hc25, h⟩ := cI_t h
        refine J_cVi (pc := 91) (ctX11_comesAsSeen l E o q23 a2 ho hq23 σ22 hc25) dX11_broken_91 mlX11_394 mvX11_comesAsSeen ho rfl (by decide) rfl (Nat.le_of_ble_eq_true rfl) ?_
        refine J_if_eq (pc := 94) 107 dX11_broken_94 (by decide) h (fun h => ?_) (fun h => ?_)
        · refine J_iinc (pc := 107) (L' := [(5, .int (v5 + (1 : Int32))), (0, .ref (e_a E o 0)), (1, .int a1), (2, .int a2), (4, .int v4)]) 4 (v5 + (1 : Int32)) dX11_broken_107 rfl (by rfl) (by decide) rfl ?_
          refine J_goto (pc := 110) 23 dX11_broken_110 (by decide) ?_
          refine J_sub (L' := [(0, .ref (e_a E o 0)), (1, .int a1), (2, .int a2), (4, .int v4), (5, .int (v5 + (1 : Int32)))]) [1, 2, 3, 4, 0] rfl ?_
          exact ih v4 (v5 + (1 : Int32)) σ24 h
        · refine J_iload (pc := 97) 3 dX11_broken_97 rfl ?_
          refine J_iload (pc := 99) 4 dX11_broken_99 rfl ?_
          refine J_iconst (pc := 101) (1 : Int32) dX11_broken_101 (by decide) ?_
          obtain ⟨x29, σ27, hc28, h⟩ := cI_t h
          refine J_cSi (pc := 102) (ctX11_with l E v4 v5 (1 : Int32) σ24 hc28) dX11_broken_102 mlX11_275 msX11_with rfl (by decide) rfl (Nat.le_of_ble_eq_true rfl) ?_
          refine J_istore (pc := 105) (L' := [(4, .int x29), (0, .ref (e_a E o 0)), (1, .int a1), (2, .int a2), (5, .int v5)]) dX11_broken_105 (by decide) rfl ?_
          refine J_iinc (pc := 107) (L' := [(5, .int (v5 + (1 : Int32))), (4, .int x29), (0, .ref (e_a E o 0)), (1, .int a1), (2, .int a2)]) 4 (v5 + (1 : Int32)) dX11_broken_107 rfl (by rfl) (by decide) rfl ?_
          refine J_goto (pc := 110) 23 dX11_broken_110 (by decide) ?_
          refine J_sub (L' := [(0, .ref (e_a E o 0)), (1, .int a1), (2, .int a2), (4, .int x29), (5, .int (v5 + (1 : Int32)))]) [2, 3, 4, 1, 0] rfl ?_
          exact ih x29 (v5 + (1 : Int32)) σ27 h
      · refine J_goto (pc := 56) 107 dX11_broken_56 (by decide) ?_
        refine J_iinc (pc := 107) (L' := [(5, .int (v5 + (1 : Int32))), (0, .ref (e_a E o 0)), (1, .int a1), (2, .int a2), (4, .int v4)]) 4 (v5 + (1 : Int32)) dX11_broken_107 rfl (by rfl) (by decide) rfl ?_
        refine J_goto (pc := 110) 23 dX11_broken_110 (by decide) ?_
        refine J_sub (L' := [(0, .ref (e_a E o 0)), (1, .int a1), (2, .int a2), (4, .int v4), (5, .int (v5 + (1 : Int32)))]) [1, 2, 3, 4, 0] rfl ?_
        exact ih v4 (v5 + (1 : Int32)) σ13 h
def fX11_broken (o : Nat) (a1 : Int32) (a2 : Int32) (σ : Mm) : Option (Int32 × Mm) := c_I (fX11_seenStatus o a1 a2 σ) (fun x3 σ1 => if x3 = 0 then (fX11_broken_23 o a1 a2 FU (0 : Int32) (0 : Int32) σ1) else (c_I (fX11_none o x3 σ1) (fun x6 σ4 => some (x6, σ4))))
set_option maxRecDepth 100000 in
set_option maxHeartbeats 4000000 in
theorem ctX11_broken (l : Launch) (E : EV) (o : Nat) (a1 : Int32) (a2 : Int32) (ho : KD o = 11) (σ : Mm) {xr : Int32} {τ : Mm} (h : fX11_broken o a1 a2 σ = some (xr, τ)) : Ct l E mX11_broken 6 [.ref (e_a E o 0), .int a1, .int a2] σ (some (.int xr), τ) := by
  refine Ct.of (by decide +kernel) (Nat.le_of_ble_eq_true rfl) ?_
  show Jd l E mX11_broken 6 (some (.int xr), τ) σ 0 [(0, .ref (e_a E o 0)), (1, .int a1), (2, .int a2)] []
  unfold fX11_broken at h
  refine J_aload_n (pc := 0) 0 dX11_broken_0 rfl ?_
  refine J_iload_n (pc := 1) 1 dX11_broken_1 rfl ?_
  refine J_iload_n (pc := 2) 2 dX11_broken_2 rfl ?_
  obtain ⟨x3, σ1, hc2, h⟩ := cI_t h
  refine J_cVi (pc := 3) (ctX11_seenStatus l E o a1 a2 ho σ hc2) dX11_broken_3 mlX11_391 mvX11_seenStatus ho rfl (by decide) rfl (Nat.le_of_ble_eq_true rfl) ?_
  refine J_istore_n (pc := 6) (L' := [(3, .int x3), (0, .ref (e_a E o 0)), (1, .int a1), (2, .int a2)]) dX11_broken_6 (by decide) rfl ?_
  refine J_iload_n (pc := 7) 0 dX11_broken_7 rfl ?_
  refine J_if_eq (pc := 8) 17 dX11_broken_8 (by decide) h (fun h => ?_) (fun h => ?_)
  · refine J_iconst (pc := 17) (0 : Int32) dX11_broken_17 (by decide) ?_
    refine J_istore (pc := 18) (L' := [(4, .int (0 : Int32)), (3, .int x3), (0, .ref (e_a E o 0)), (1, .int a1), (2, .int a2)]) dX11_broken_18 (by decide) rfl ?_
    refine J_iconst (pc := 20) (0 : Int32) dX11_broken_20 (by decide) ?_
    refine J_istore (pc := 21) (L' := [(5, .int (0 : Int32)), (4, .int (0 : Int32)), (3, .int x3), (0, .ref (e_a E o 0)), (1, .int a1), (2, .int a2)]) dX11_broken_21 (by decide) rfl ?_
    refine J_sub (L' := [(0, .ref (e_a E o 0)), (1, .int a1), (2, .int a2), (4, .int (0 : Int32)), (5, .int (0 : Int32))]) [3, 4, 5, 1, 0] rfl ?_
    exact tX11_broken_23 l E o a1 a2 ho FU (0 : Int32) (0 : Int32) σ1 h
  · refine J_aload_n (pc := 11) 1 dX11_broken_11 rfl ?_
    refine J_iload_n (pc := 12) 0 dX11_broken_12 rfl ?_
    obtain ⟨x6, σ4, hc5, h⟩ := cI_t h
    refine J_cVi (pc := 13) (ctX11_none l E o x3 ho σ1 hc5) dX11_broken_13 mlX11_130 mvX11_none ho rfl (by decide) rfl (Nat.le_of_ble_eq_true rfl) ?_
    cases h
    exact J_iret (pc := 16) dX11_broken_16 rfl rfl
def fX11_run (o : Nat) (a1 : Int32) (σ : Mm) : Option (Int32 × Mm) := if a1 < 0 then (c_I (fX11_none o (1 : Int32) σ) (fun x3 σ1 => some (x3, σ1))) else (if a1 ≤ (9999 : Int32) then (r_rf σ (tg o 9) 2 5 (fun q4 => r_sc σ q4 0 (fun x5 => if x5 = 0 then (c_I (fX11_none o (6 : Int32) σ) (fun x16 σ14 => some (x16, σ14))) else (c_V (fX3_carryOut (tg o 17) (tg o 9) a1 (tg o 14) σ) (fun σ6 => c_V (fX3_report (tg o 17) (tg o 14) σ6) (fun σ8 => r_sc σ8 (tg o 17) 8 (fun x10 => c_I (fX11_answer o x10 σ8) (fun x13 σ11 => some (x13, σ11))))))))) else (c_I (fX11_none o (1 : Int32) σ) (fun x19 σ17 => some (x19, σ17))))
set_option maxRecDepth 100000 in
set_option maxHeartbeats 4000000 in
theorem ctX11_run (l : Launch) (E : EV) (o : Nat) (a1 : Int32) (ho : KD o = 11) (σ : Mm) {xr : Int32} {τ : Mm} (h : fX11_run o a1 σ = some (xr, τ)) : Ct l E mX11_run 7 [.ref (e_a E o 0), .int a1] σ (some (.int xr), τ) := by
  refine Ct.of (by decide +kernel) (Nat.le_of_ble_eq_true rfl) ?_
  show Jd l E mX11_run 7 (some (.int xr), τ) σ 0 [(0, .ref (e_a E o 0)), (1, .int a1)] []
  unfold fX11_run at h
  refine J_iload_n (pc := 0) 1 dX11_run_0 rfl ?_
  refine J_if_lt (pc := 1) 11 dX11_run_1 (by decide) h (fun h => ?_) (fun h => ?_)
  · refine J_aload_n (pc := 11) 0 dX11_run_11 rfl ?_
    refine J_iconst (pc := 12) (1 : Int32) dX11_run_12 (by decide) ?_
    obtain ⟨x3, σ1, hc2, h⟩ := cI_t h
    refine J_cVi (pc := 13) (ctX11_none l E o (1 : Int32) ho σ hc2) dX11_run_13 mlX11_130 mvX11_none ho rfl (by decide) rfl (Nat.le_of_ble_eq_true rfl) ?_
    cases h
    exact J_iret (pc := 16) dX11_run_16 rfl rfl
  · refine J_iload_n (pc := 4) 1 dX11_run_4 rfl ?_
    refine J_sipush (pc := 5) (9999 : Int32) dX11_run_5 (by decide) ?_
    refine J_icmp_le (pc := 8) 17 dX11_run_8 (by decide) h (fun h => ?_) (fun h => ?_)
    · refine J_aload_n (pc := 17) 0 dX11_run_17 rfl ?_
      refine J_getT (pc := 18) dX11_run_18 ho flX11_50 rfl ?_
      refine J_getR (pc := 21) dX11_run_21 (tk11_9 ho) flX11_184 rfl h (fun q4 hq4 h => ?_)
      refine J_getI (pc := 24) dX11_run_24 hq4 flX11_398 rfl h (fun x5 h => ?_)
      refine J_if_ne (pc := 27) 37 dX11_run_27 (by decide) h (fun h => ?_) (fun h => ?_)
      · refine J_aload_n (pc := 37) 0 dX11_run_37 rfl ?_
        refine J_getT (pc := 38) dX11_run_38 ho flX11_96 rfl ?_
        refine J_aload_n (pc := 41) 0 dX11_run_41 rfl ?_
        refine J_getT (pc := 42) dX11_run_42 ho flX11_50 rfl ?_
        refine J_iload_n (pc := 45) 1 dX11_run_45 rfl ?_
        refine J_aload_n (pc := 46) 0 dX11_run_46 rfl ?_
        refine J_getT (pc := 47) dX11_run_47 ho flX11_75 rfl ?_
        obtain ⟨σ6, hc7, h⟩ := cV_t h
        refine J_cVv (pc := 50) (ctX3_carryOut l E (tg o 17) (tg o 9) a1 (tg o 14) (tk11_17 ho) (tk11_9 ho) (tk11_14 ho) σ hc7) dX11_run_50 mlX11_402 mvX3_carryOut (tk11_17 ho) rfl (by decide) rfl (Nat.le_of_ble_eq_true rfl) ?_
        refine J_aload_n (pc := 53) 0 dX11_run_53 rfl ?_
        refine J_getT (pc := 54) dX11_run_54 ho flX11_96 rfl ?_
        refine J_aload_n (pc := 57) 0 dX11_run_57 rfl ?_
        refine J_getT (pc := 58) dX11_run_58 ho flX11_75 rfl ?_
        obtain ⟨σ8, hc9, h⟩ := cV_t h
        refine J_cVv (pc := 61) (ctX3_report l E (tg o 17) (tg o 14) (tk11_17 ho) (tk11_14 ho) σ6 hc9) dX11_run_61 mlX11_406 mvX3_report (tk11_17 ho) rfl (by decide) rfl (Nat.le_of_ble_eq_true rfl) ?_
        refine J_aload_n (pc := 64) 0 dX11_run_64 rfl ?_
        refine J_aload_n (pc := 65) 0 dX11_run_65 rfl ?_
        refine J_getT (pc := 66) dX11_run_66 ho flX11_96 rfl ?_
        refine J_getI (pc := 69) dX11_run_69 (tk11_17 ho) flX11_410 rfl h (fun x10 h => ?_)
        obtain ⟨x13, σ11, hc12, h⟩ := cI_t h
        refine J_cVi (pc := 72) (ctX11_answer l E o x10 ho σ8 hc12) dX11_run_72 mlX11_193 mvX11_answer ho rfl (by decide) rfl (Nat.le_of_ble_eq_true rfl) ?_
        cases h
        exact J_iret (pc := 75) dX11_run_75 rfl rfl
      · refine J_aload_n (pc := 30) 0 dX11_run_30 rfl ?_
        refine J_bipush (pc := 31) (6 : Int32) dX11_run_31 (by decide) ?_
        obtain ⟨x16, σ14, hc15, h⟩ := cI_t h
        refine J_cVi (pc := 33) (ctX11_none l E o (6 : Int32) ho σ hc15) dX11_run_33 mlX11_130 mvX11_none ho rfl (by decide) rfl (Nat.le_of_ble_eq_true rfl) ?_
        cases h
        exact J_iret (pc := 36) dX11_run_36 rfl rfl
    · refine J_aload_n (pc := 11) 0 dX11_run_11 rfl ?_
      refine J_iconst (pc := 12) (1 : Int32) dX11_run_12 (by decide) ?_
      obtain ⟨x19, σ17, hc18, h⟩ := cI_t h
      refine J_cVi (pc := 13) (ctX11_none l E o (1 : Int32) ho σ hc18) dX11_run_13 mlX11_130 mvX11_none ho rfl (by decide) rfl (Nat.le_of_ble_eq_true rfl) ?_
      cases h
      exact J_iret (pc := 16) dX11_run_16 rfl rfl
def fX11_ran (o : Nat) (a1 : Int32) (σ : Mm) : Option (Int32 × Mm) := if a1 < 0 then (c_I (fX11_none o (1 : Int32) σ) (fun x3 σ1 => some (x3, σ1))) else (if a1 ≤ (4 : Int32) then (r_sc σ (tg o 17) 9 (fun x4 => if x4 = 0 then (c_I (fX11_none o (6 : Int32) σ) (fun x7 σ5 => some (x7, σ5))) else (g_ar σ (tg o 17) 1 5 a1 (fun x8 => c_I (fX11_answer o x8 σ) (fun x11 σ9 => some (x11, σ9)))))) else (c_I (fX11_none o (1 : Int32) σ) (fun x14 σ12 => some (x14, σ12))))
set_option maxRecDepth 100000 in
set_option maxHeartbeats 4000000 in
theorem ctX11_ran (l : Launch) (E : EV) (o : Nat) (a1 : Int32) (ho : KD o = 11) (σ : Mm) {xr : Int32} {τ : Mm} (h : fX11_ran o a1 σ = some (xr, τ)) : Ct l E mX11_ran 1 [.ref (e_a E o 0), .int a1] σ (some (.int xr), τ) := by
  refine Ct.of (by decide +kernel) (Nat.le_of_ble_eq_true rfl) ?_
  show Jd l E mX11_ran 1 (some (.int xr), τ) σ 0 [(0, .ref (e_a E o 0)), (1, .int a1)] []
  unfold fX11_ran at h
  refine J_iload_n (pc := 0) 1 dX11_ran_0 rfl ?_
  refine J_if_lt (pc := 1) 9 dX11_ran_1 (by decide) h (fun h => ?_) (fun h => ?_)
  · refine J_aload_n (pc := 9) 0 dX11_ran_9 rfl ?_
    refine J_iconst (pc := 10) (1 : Int32) dX11_ran_10 (by decide) ?_
    obtain ⟨x3, σ1, hc2, h⟩ := cI_t h
    refine J_cVi (pc := 11) (ctX11_none l E o (1 : Int32) ho σ hc2) dX11_ran_11 mlX11_130 mvX11_none ho rfl (by decide) rfl (Nat.le_of_ble_eq_true rfl) ?_
    cases h
    exact J_iret (pc := 14) dX11_ran_14 rfl rfl
  · refine J_iload_n (pc := 4) 1 dX11_ran_4 rfl ?_
    refine J_iconst (pc := 5) (4 : Int32) dX11_ran_5 (by decide) ?_
    refine J_icmp_le (pc := 6) 15 dX11_ran_6 (by decide) h (fun h => ?_) (fun h => ?_)
    · refine J_aload_n (pc := 15) 0 dX11_ran_15 rfl ?_
      refine J_getT (pc := 16) dX11_ran_16 ho flX11_96 rfl ?_
      refine J_getI (pc := 19) dX11_ran_19 (tk11_17 ho) flX11_413 rfl h (fun x4 h => ?_)
      refine J_if_eq (pc := 22) 41 dX11_ran_22 (by decide) h (fun h => ?_) (fun h => ?_)
      · refine J_aload_n (pc := 41) 0 dX11_ran_41 rfl ?_
        refine J_bipush (pc := 42) (6 : Int32) dX11_ran_42 (by decide) ?_
        obtain ⟨x7, σ5, hc6, h⟩ := cI_t h
        refine J_cVi (pc := 44) (ctX11_none l E o (6 : Int32) ho σ hc6) dX11_ran_44 mlX11_130 mvX11_none ho rfl (by decide) rfl (Nat.le_of_ble_eq_true rfl) ?_
        cases h
        exact J_iret (pc := 47) dX11_ran_47 rfl rfl
      · refine J_aload_n (pc := 25) 0 dX11_ran_25 rfl ?_
        refine J_aload_n (pc := 26) 0 dX11_ran_26 rfl ?_
        refine J_getT (pc := 27) dX11_ran_27 ho flX11_96 rfl ?_
        refine J_getA (pc := 30) dX11_ran_30 (tk11_17 ho) flX11_416 rfl ?_
        refine J_iload_n (pc := 33) 1 dX11_ran_33 rfl ?_
        refine J_iald (pc := 34) dX11_ran_34 (tk11_17 ho) ha3_1 h (fun x8 h => ?_)
        obtain ⟨x11, σ9, hc10, h⟩ := cI_t h
        refine J_cVi (pc := 35) (ctX11_answer l E o x8 ho σ hc10) dX11_ran_35 mlX11_193 mvX11_answer ho rfl (by decide) rfl (Nat.le_of_ble_eq_true rfl) ?_
        refine J_goto (pc := 38) 47 dX11_ran_38 (by decide) ?_
        cases h
        exact J_iret (pc := 47) dX11_ran_47 rfl rfl
    · refine J_aload_n (pc := 9) 0 dX11_ran_9 rfl ?_
      refine J_iconst (pc := 10) (1 : Int32) dX11_ran_10 (by decide) ?_
      obtain ⟨x14, σ12, hc13, h⟩ := cI_t h
      refine J_cVi (pc := 11) (ctX11_none l E o (1 : Int32) ho σ hc13) dX11_ran_11 mlX11_130 mvX11_none ho rfl (by decide) rfl (Nat.le_of_ble_eq_true rfl) ?_
      cases h
      exact J_iret (pc := 14) dX11_ran_14 rfl rfl
def fX11_ranTo (o : Nat) (a1 : Int32) (σ : Mm) : Option (Int32 × Mm) := if a1 < 0 then (c_I (fX11_none o (1 : Int32) σ) (fun x3 σ1 => some (x3, σ1))) else (if a1 < (8 : Int32) then (r_sc σ (tg o 17) 11 (fun x4 => if x4 ≤ a1 then (c_I (fX11_none o (6 : Int32) σ) (fun x7 σ5 => some (x7, σ5))) else (g_ar σ (tg o 17) 2 8 a1 (fun x8 => c_I (fX11_answer o x8 σ) (fun x11 σ9 => some (x11, σ9)))))) else (c_I (fX11_none o (1 : Int32) σ) (fun x14 σ12 => some (x14, σ12))))
set_option maxRecDepth 100000 in
set_option maxHeartbeats 4000000 in
theorem ctX11_ranTo (l : Launch) (E : EV) (o : Nat) (a1 : Int32) (ho : KD o = 11) (σ : Mm) {xr : Int32} {τ : Mm} (h : fX11_ranTo o a1 σ = some (xr, τ)) : Ct l E mX11_ranTo 1 [.ref (e_a E o 0), .int a1] σ (some (.int xr), τ) := by
  refine Ct.of (by decide +kernel) (Nat.le_of_ble_eq_true rfl) ?_
  show Jd l E mX11_ranTo 1 (some (.int xr), τ) σ 0 [(0, .ref (e_a E o 0)), (1, .int a1)] []
  unfold fX11_ranTo at h
  refine J_iload_n (pc := 0) 1 dX11_ranTo_0 rfl ?_
  refine J_if_lt (pc := 1) 10 dX11_ranTo_1 (by decide) h (fun h => ?_) (fun h => ?_)
  · refine J_aload_n (pc := 10) 0 dX11_ranTo_10 rfl ?_
    refine J_iconst (pc := 11) (1 : Int32) dX11_ranTo_11 (by decide) ?_
    obtain ⟨x3, σ1, hc2, h⟩ := cI_t h
    refine J_cVi (pc := 12) (ctX11_none l E o (1 : Int32) ho σ hc2) dX11_ranTo_12 mlX11_130 mvX11_none ho rfl (by decide) rfl (Nat.le_of_ble_eq_true rfl) ?_
    cases h
    exact J_iret (pc := 15) dX11_ranTo_15 rfl rfl
  · refine J_iload_n (pc := 4) 1 dX11_ranTo_4 rfl ?_
    refine J_bipush (pc := 5) (8 : Int32) dX11_ranTo_5 (by decide) ?_
    refine J_icmp_lt (pc := 7) 16 dX11_ranTo_7 (by decide) h (fun h => ?_) (fun h => ?_)
    · refine J_iload_n (pc := 16) 1 dX11_ranTo_16 rfl ?_
      refine J_aload_n (pc := 17) 0 dX11_ranTo_17 rfl ?_
      refine J_getT (pc := 18) dX11_ranTo_18 ho flX11_96 rfl ?_
      refine J_getI (pc := 21) dX11_ranTo_21 (tk11_17 ho) flX11_419 rfl h (fun x4 h => ?_)
      refine J_icmp_ge (pc := 24) 43 dX11_ranTo_24 (by decide) h (fun h => ?_) (fun h => ?_)
      · refine J_aload_n (pc := 43) 0 dX11_ranTo_43 rfl ?_
        refine J_bipush (pc := 44) (6 : Int32) dX11_ranTo_44 (by decide) ?_
        obtain ⟨x7, σ5, hc6, h⟩ := cI_t h
        refine J_cVi (pc := 46) (ctX11_none l E o (6 : Int32) ho σ hc6) dX11_ranTo_46 mlX11_130 mvX11_none ho rfl (by decide) rfl (Nat.le_of_ble_eq_true rfl) ?_
        cases h
        exact J_iret (pc := 49) dX11_ranTo_49 rfl rfl
      · refine J_aload_n (pc := 27) 0 dX11_ranTo_27 rfl ?_
        refine J_aload_n (pc := 28) 0 dX11_ranTo_28 rfl ?_
        refine J_getT (pc := 29) dX11_ranTo_29 ho flX11_96 rfl ?_
        refine J_getA (pc := 32) dX11_ranTo_32 (tk11_17 ho) flX11_422 rfl ?_
        refine J_iload_n (pc := 35) 1 dX11_ranTo_35 rfl ?_
        refine J_iald (pc := 36) dX11_ranTo_36 (tk11_17 ho) ha3_2 h (fun x8 h => ?_)
        obtain ⟨x11, σ9, hc10, h⟩ := cI_t h
        refine J_cVi (pc := 37) (ctX11_answer l E o x8 ho σ hc10) dX11_ranTo_37 mlX11_193 mvX11_answer ho rfl (by decide) rfl (Nat.le_of_ble_eq_true rfl) ?_
        refine J_goto (pc := 40) 49 dX11_ranTo_40 (by decide) ?_
        cases h
        exact J_iret (pc := 49) dX11_ranTo_49 rfl rfl
    · refine J_aload_n (pc := 10) 0 dX11_ranTo_10 rfl ?_
      refine J_iconst (pc := 11) (1 : Int32) dX11_ranTo_11 (by decide) ?_
      obtain ⟨x14, σ12, hc13, h⟩ := cI_t h
      refine J_cVi (pc := 12) (ctX11_none l E o (1 : Int32) ho σ hc13) dX11_ranTo_12 mlX11_130 mvX11_none ho rfl (by decide) rfl (Nat.le_of_ble_eq_true rfl) ?_
      cases h
      exact J_iret (pc := 15) dX11_ranTo_15 rfl rfl
def fX11_odds_124 (o : Nat) (a1 : Int32) (a2 : Int32) (a3 : Int32) (v4 : Int32) (σ : Mm) : Option (Int32 × Mm) := c_V (fX11_tellFraction o v4.toInt64 a3.toInt64 σ) (fun σ39 => c_I (fX11_agree o σ39) (fun x43 σ41 => b_z x43 σ41))
set_option maxRecDepth 100000 in
set_option maxHeartbeats 4000000 in
theorem tX11_odds_124 (l : Launch) (E : EV) {xr : Int32} {τ : Mm} (o : Nat) (a1 : Int32) (a2 : Int32) (a3 : Int32) (ho : KD o = 11) (v4 : Int32) (σ : Mm) (h : fX11_odds_124 o a1 a2 a3 v4 σ = some (xr, τ)) : Jd l E mX11_odds 7 (some (.int xr), τ) σ 124 [(0, .ref (e_a E o 0)), (3, .int a3), (4, .int v4)] [] := by
  unfold fX11_odds_124 at h
  refine J_aload_n (pc := 124) 0 dX11_odds_124 rfl ?_
  refine J_iload (pc := 125) 2 dX11_odds_125 rfl ?_
  refine J_i2l (pc := 127) dX11_odds_127 ?_
  refine J_iload_n (pc := 128) 1 dX11_odds_128 rfl ?_
  refine J_i2l (pc := 129) dX11_odds_129 ?_
  obtain ⟨σ39, hc40, h⟩ := cV_t h
  refine J_cVv (pc := 130) (ctX11_tellFraction l E o v4.toInt64 a3.toInt64 ho σ hc40) dX11_odds_130 mlX11_304 mvX11_tellFraction ho rfl (by decide) rfl (Nat.le_of_ble_eq_true rfl) ?_
  refine J_aload_n (pc := 133) 0 dX11_odds_133 rfl ?_
  obtain ⟨x43, σ41, hc42, h⟩ := cI_t h
  refine J_cVi (pc := 134) (ctX11_agree l E o ho σ39 hc42) dX11_odds_134 mlX11_118 mvX11_agree ho rfl (by decide) rfl (Nat.le_of_ble_eq_true rfl) ?_
  obtain ⟨hz44, h⟩ := bz_t h
  cases h
  exact J_iret (pc := 137) dX11_odds_137 rfl hz44
def fX11_odds_79 (o : Nat) (a1 : Int32) (a2 : Int32) (a3 : Int32) : Nat → Int32 → Int32 → Mm → Option (Int32 × Mm)
  | 0, _, _, _ => none
  | n + 1, v4, v5, σ => if a3 ≤ v5 then (fX11_odds_124 o a1 a2 a3 v4 σ) else (c_V (fX3_carryOut (tg o 17) (tg o 9) (a2 + v5) (tg o 14) σ) (fun σ34 => c_I (fX10_isRight (tg o 14) a1 σ34) (fun x38 σ36 => if x38 = 0 then ((fX11_odds_79 o a1 a2 a3 n) v4 (v5 + (1 : Int32)) σ36) else ((fX11_odds_79 o a1 a2 a3 n) (v4 + (1 : Int32)) (v5 + (1 : Int32)) σ36))))
set_option maxRecDepth 100000 in
set_option maxHeartbeats 4000000 in
theorem tX11_odds_79 (l : Launch) (E : EV) {xr : Int32} {τ : Mm} (o : Nat) (a1 : Int32) (a2 : Int32) (a3 : Int32) (ho : KD o = 11) : ∀ (n : Nat) (v4 : Int32) (v5 : Int32) (σ : Mm), fX11_odds_79 o a1 a2 a3 n v4 v5 σ = some (xr, τ) → Jd l E mX11_odds 7 (some (.int xr), τ) σ 79 [(0, .ref (e_a E o 0)), (1, .int a1), (2, .int a2), (3, .int a3), (4, .int v4), (5, .int v5)] [] := by
  intro n
  induction n with
  | zero => intro v4 v5 σ h; rw [fX11_odds_79] at h; cases h
  | succ n ih =>
    intro v4 v5 σ h
    rw [fX11_odds_79] at h
    refine J_iload (pc := 79) 5 dX11_odds_79 rfl ?_
    refine J_iload_n (pc := 81) 3 dX11_odds_81 rfl ?_
    refine J_icmp_ge (pc := 82) 124 dX11_odds_82 (by decide) h (fun h => ?_) (fun h => ?_)
    · refine J_sub (L' := [(0, .ref (e_a E o 0)), (3, .int a3), (4, .int v4)]) [0, 3, 4] rfl ?_
      exact tX11_odds_124 l E o a1 a2 a3 ho v4 σ h
    · refine J_aload_n (pc := 85) 0 dX11_odds_85 rfl ?_
      refine J_getT (pc := 86) dX11_odds_86 ho flX11_96 rfl ?_
      refine J_aload_n (pc := 89) 0 dX11_odds_89 rfl ?_
      refine J_getT (pc := 90) dX11_odds_90 ho flX11_50 rfl ?_
      refine J_iload_n (pc := 93) 2 dX11_odds_93 rfl ?_
      refine J_iload (pc := 94) 5 dX11_odds_94 rfl ?_
      refine J_iadd (pc := 96) dX11_odds_96 ?_
      refine J_aload_n (pc := 97) 0 dX11_odds_97 rfl ?_
      refine J_getT (pc := 98) dX11_odds_98 ho flX11_75 rfl ?_
      obtain ⟨σ34, hc35, h⟩ := cV_t h
      refine J_cVv (pc := 101) (ctX3_carryOut l E (tg o 17) (tg o 9) (a2 + v5) (tg o 14) (tk11_17 ho) (tk11_9 ho) (tk11_14 ho) σ hc35) dX11_odds_101 mlX11_402 mvX3_carryOut (tk11_17 ho) rfl (by decide) rfl (Nat.le_of_ble_eq_true rfl) ?_
      refine J_aload_n (pc := 104) 0 dX11_odds_104 rfl ?_
      refine J_getT (pc := 105) dX11_odds_105 ho flX11_75 rfl ?_
      refine J_iload_n (pc := 108) 1 dX11_odds_108 rfl ?_
      obtain ⟨x38, σ36, hc37, h⟩ := cI_t h
      refine J_cVi (pc := 109) (ctX10_isRight l E (tg o 14) a1 (tk11_14 ho) σ34 hc37) dX11_odds_109 mlX11_263 mvX10_isRight (tk11_14 ho) rfl (by decide) rfl (Nat.le_of_ble_eq_true rfl) ?_
      refine J_if_eq (pc := 112) 118 dX11_odds_112 (by decide) h (fun h => ?_) (fun h => ?_)
      · refine J_iinc (pc := 118) (L' := [(5, .int (v5 + (1 : Int32))), (0, .ref (e_a E o 0)), (1, .int a1), (2, .int a2), (3, .int a3), (4, .int v4)]) 5 (v5 + (1 : Int32)) dX11_odds_118 rfl (by rfl) (by decide) rfl ?_
        refine J_goto (pc := 121) 79 dX11_odds_121 (by decide) ?_
        refine J_sub (L' := [(0, .ref (e_a E o 0)), (1, .int a1), (2, .int a2), (3, .int a3), (4, .int v4), (5, .int (v5 + (1 : Int32)))]) [1, 2, 3, 4, 5, 0] rfl ?_
        exact ih v4 (v5 + (1 : Int32)) σ36 h
      · refine J_iinc (pc := 115) (L' := [(4, .int (v4 + (1 : Int32))), (0, .ref (e_a E o 0)), (1, .int a1), (2, .int a2), (3, .int a3), (5, .int v5)]) 4 (v4 + (1 : Int32)) dX11_odds_115 rfl (by rfl) (by decide) rfl ?_
        refine J_iinc (pc := 118) (L' := [(5, .int (v5 + (1 : Int32))), (4, .int (v4 + (1 : Int32))), (0, .ref (e_a E o 0)), (1, .int a1), (2, .int a2), (3, .int a3)]) 5 (v5 + (1 : Int32)) dX11_odds_118 rfl (by rfl) (by decide) rfl ?_
        refine J_goto (pc := 121) 79 dX11_odds_121 (by decide) ?_
        refine J_sub (L' := [(0, .ref (e_a E o 0)), (1, .int a1), (2, .int a2), (3, .int a3), (4, .int (v4 + (1 : Int32))), (5, .int (v5 + (1 : Int32)))]) [2, 3, 4, 5, 1, 0] rfl ?_
        exact ih (v4 + (1 : Int32)) (v5 + (1 : Int32)) σ36 h
def fX11_odds (o : Nat) (a1 : Int32) (a2 : Int32) (a3 : Int32) (σ : Mm) : Option (Int32 × Mm) := c_I (fX11_isVane o a1 σ) (fun x3 σ1 => if x3 = 0 then (c_I (fX11_refuse o (1 : Int32) σ1) (fun x6 σ4 => b_z x6 σ4)) else (if a2 < 0 then (c_I (fX11_refuse o (1 : Int32) σ1) (fun x10 σ8 => b_z x10 σ8)) else (if (9999 : Int32) < a2 then (c_I (fX11_refuse o (1 : Int32) σ1) (fun x14 σ12 => b_z x14 σ12)) else (if a3 < (1 : Int32) then (c_I (fX11_refuse o (1 : Int32) σ1) (fun x18 σ16 => b_z x18 σ16)) else (if a3 ≤ (20 : Int32) then (if ((a2 + a3) - (1 : Int32)) ≤ (9999 : Int32) then (r_rf σ1 (tg o 9) 2 5 (fun q20 => r_sc σ1 q20 0 (fun x21 => if x21 = 0 then (c_I (fX11_refuse o (6 : Int32) σ1) (fun x24 σ22 => b_z x24 σ22)) else (fX11_odds_79 o a1 a2 a3 FU (0 : Int32) (0 : Int32) σ1)))) else (c_I (fX11_refuse o (1 : Int32) σ1) (fun x28 σ26 => b_z x28 σ26))) else (c_I (fX11_refuse o (1 : Int32) σ1) (fun x32 σ30 => b_z x32 σ30)))))))
set_option maxRecDepth 100000 in
set_option maxHeartbeats 4000000 in
theorem ctX11_odds (l : Launch) (E : EV) (o : Nat) (a1 : Int32) (a2 : Int32) (a3 : Int32) (ho : KD o = 11) (σ : Mm) {xr : Int32} {τ : Mm} (h : fX11_odds o a1 a2 a3 σ = some (xr, τ)) : Ct l E mX11_odds 7 [.ref (e_a E o 0), .int a1, .int a2, .int a3] σ (some (.int xr), τ) := by
  refine Ct.of (by decide +kernel) (Nat.le_of_ble_eq_true rfl) ?_
  show Jd l E mX11_odds 7 (some (.int xr), τ) σ 0 [(0, .ref (e_a E o 0)), (1, .int a1), (2, .int a2), (3, .int a3)] []
  unfold fX11_odds at h
  refine J_aload_n (pc := 0) 0 dX11_odds_0 rfl ?_
  refine J_iload_n (pc := 1) 1 dX11_odds_1 rfl ?_
  obtain ⟨x3, σ1, hc2, h⟩ := cI_t h
  refine J_cVi (pc := 2) (ctX11_isVane l E o a1 ho σ hc2) dX11_odds_2 mlX11_217 mvX11_isVane ho rfl (by decide) rfl (Nat.le_of_ble_eq_true rfl) ?_
  refine J_if_eq (pc := 5) 30 dX11_odds_5 (by decide) h (fun h => ?_) (fun h => ?_)
  · refine J_aload_n (pc := 30) 0 dX11_odds_30 rfl ?_
    refine J_iconst (pc := 31) (1 : Int32) dX11_odds_31 (by decide) ?_
    obtain ⟨x6, σ4, hc5, h⟩ := cI_t h
    refine J_cVi (pc := 32) (ctX11_refuse l E o (1 : Int32) ho σ1 hc5) dX11_odds_32 mlX11_111 mvX11_refuse ho rfl (by decide) rfl (Nat.le_of_ble_eq_true rfl) ?_
    obtain ⟨hz7, h⟩ := bz_t h
    cases h
    exact J_iret (pc := 35) dX11_odds_35 rfl hz7
  · refine J_iload_n (pc := 8) 2 dX11_odds_8 rfl ?_
    refine J_if_lt (pc := 9) 30 dX11_odds_9 (by decide) h (fun h => ?_) (fun h => ?_)
    · refine J_aload_n (pc := 30) 0 dX11_odds_30 rfl ?_
      refine J_iconst (pc := 31) (1 : Int32) dX11_odds_31 (by decide) ?_
      obtain ⟨x10, σ8, hc9, h⟩ := cI_t h
      refine J_cVi (pc := 32) (ctX11_refuse l E o (1 : Int32) ho σ1 hc9) dX11_odds_32 mlX11_111 mvX11_refuse ho rfl (by decide) rfl (Nat.le_of_ble_eq_true rfl) ?_
      obtain ⟨hz11, h⟩ := bz_t h
      cases h
      exact J_iret (pc := 35) dX11_odds_35 rfl hz11
    · refine J_iload_n (pc := 12) 2 dX11_odds_12 rfl ?_
      refine J_sipush (pc := 13) (9999 : Int32) dX11_odds_13 (by decide) ?_
      refine J_icmp_gt (pc := 16) 30 dX11_odds_16 (by decide) h (fun h => ?_) (fun h => ?_)
      · refine J_aload_n (pc := 30) 0 dX11_odds_30 rfl ?_
        refine J_iconst (pc := 31) (1 : Int32) dX11_odds_31 (by decide) ?_
        obtain ⟨x14, σ12, hc13, h⟩ := cI_t h
        refine J_cVi (pc := 32) (ctX11_refuse l E o (1 : Int32) ho σ1 hc13) dX11_odds_32 mlX11_111 mvX11_refuse ho rfl (by decide) rfl (Nat.le_of_ble_eq_true rfl) ?_
        obtain ⟨hz15, h⟩ := bz_t h
        cases h
        exact J_iret (pc := 35) dX11_odds_35 rfl hz15
      · refine J_iload_n (pc := 19) 3 dX11_odds_19 rfl ?_
        refine J_iconst (pc := 20) (1 : Int32) dX11_odds_20 (by decide) ?_
        refine J_icmp_lt (pc := 21) 30 dX11_odds_21 (by decide) h (fun h => ?_) (fun h => ?_)
        · refine J_aload_n (pc := 30) 0 dX11_odds_30 rfl ?_
          refine J_iconst (pc := 31) (1 : Int32) dX11_odds_31 (by decide) ?_
          obtain ⟨x18, σ16, hc17, h⟩ := cI_t h
          refine J_cVi (pc := 32) (ctX11_refuse l E o (1 : Int32) ho σ1 hc17) dX11_odds_32 mlX11_111 mvX11_refuse ho rfl (by decide) rfl (Nat.le_of_ble_eq_true rfl) ?_
          obtain ⟨hz19, h⟩ := bz_t h
          cases h
          exact J_iret (pc := 35) dX11_odds_35 rfl hz19
        · refine J_iload_n (pc := 24) 3 dX11_odds_24 rfl ?_
          refine J_bipush (pc := 25) (20 : Int32) dX11_odds_25 (by decide) ?_
          refine J_icmp_le (pc := 27) 36 dX11_odds_27 (by decide) h (fun h => ?_) (fun h => ?_)
          · refine J_iload_n (pc := 36) 2 dX11_odds_36 rfl ?_
            refine J_iload_n (pc := 37) 3 dX11_odds_37 rfl ?_
            refine J_iadd (pc := 38) dX11_odds_38 ?_
            refine J_iconst (pc := 39) (1 : Int32) dX11_odds_39 (by decide) ?_
            refine J_isub (pc := 40) dX11_odds_40 ?_
            refine J_sipush (pc := 41) (9999 : Int32) dX11_odds_41 (by decide) ?_
            refine J_icmp_le (pc := 44) 53 dX11_odds_44 (by decide) h (fun h => ?_) (fun h => ?_)
            · refine J_aload_n (pc := 53) 0 dX11_odds_53 rfl ?_
              refine J_getT (pc := 54) dX11_odds_54 ho flX11_50 rfl ?_
              refine J_getR (pc := 57) dX11_odds_57 (tk11_9 ho) flX11_184 rfl h (fun q20 hq20 h => ?_)
              refine J_getI (pc := 60) dX11_odds_60 hq20 flX11_398 rfl h (fun x21 h => ?_)
              refine J_if_ne (pc := 63) 73 dX11_odds_63 (by decide) h (fun h => ?_) (fun h => ?_)
              · refine J_iconst (pc := 73) (0 : Int32) dX11_odds_73 (by decide) ?_
                refine J_istore (pc := 74) (L' := [(4, .int (0 : Int32)), (0, .ref (e_a E o 0)), (1, .int a1), (2, .int a2), (3, .int a3)]) dX11_odds_74 (by decide) rfl ?_
                refine J_iconst (pc := 76) (0 : Int32) dX11_odds_76 (by decide) ?_
                refine J_istore (pc := 77) (L' := [(5, .int (0 : Int32)), (4, .int (0 : Int32)), (0, .ref (e_a E o 0)), (1, .int a1), (2, .int a2), (3, .int a3)]) dX11_odds_77 (by decide) rfl ?_
                refine J_sub (L' := [(0, .ref (e_a E o 0)), (1, .int a1), (2, .int a2), (3, .int a3), (4, .int (0 : Int32)), (5, .int (0 : Int32))]) [2, 3, 4, 5, 1, 0] rfl ?_
                exact tX11_odds_79 l E o a1 a2 a3 ho FU (0 : Int32) (0 : Int32) σ1 h
              · refine J_aload_n (pc := 66) 0 dX11_odds_66 rfl ?_
                refine J_bipush (pc := 67) (6 : Int32) dX11_odds_67 (by decide) ?_
                obtain ⟨x24, σ22, hc23, h⟩ := cI_t h
                refine J_cVi (pc := 69) (ctX11_refuse l E o (6 : Int32) ho σ1 hc23) dX11_odds_69 mlX11_111 mvX11_refuse ho rfl (by decide) rfl (Nat.le_of_ble_eq_true rfl) ?_
                obtain ⟨hz25, h⟩ := bz_t h
                cases h
                exact J_iret (pc := 72) dX11_odds_72 rfl hz25
            · refine J_aload_n (pc := 47) 0 dX11_odds_47 rfl ?_
              refine J_iconst (pc := 48) (1 : Int32) dX11_odds_48 (by decide) ?_
              obtain ⟨x28, σ26, hc27, h⟩ := cI_t h
              refine J_cVi (pc := 49) (ctX11_refuse l E o (1 : Int32) ho σ1 hc27) dX11_odds_49 mlX11_111 mvX11_refuse ho rfl (by decide) rfl (Nat.le_of_ble_eq_true rfl) ?_
              obtain ⟨hz29, h⟩ := bz_t h
              cases h
              exact J_iret (pc := 52) dX11_odds_52 rfl hz29
          · refine J_aload_n (pc := 30) 0 dX11_odds_30 rfl ?_
            refine J_iconst (pc := 31) (1 : Int32) dX11_odds_31 (by decide) ?_
            obtain ⟨x32, σ30, hc31, h⟩ := cI_t h
            refine J_cVi (pc := 32) (ctX11_refuse l E o (1 : Int32) ho σ1 hc31) dX11_odds_32 mlX11_111 mvX11_refuse ho rfl (by decide) rfl (Nat.le_of_ble_eq_true rfl) ?_
            obtain ⟨hz33, h⟩ := bz_t h
            cases h
            exact J_iret (pc := 35) dX11_odds_35 rfl hz33
def fX11_mark (o : Nat) (σ : Mm) : Option (Int32 × Mm) := r_sc σ o 13 (fun x1 => if x1 < (3 : Int32) then (r_sc σ o 13 (fun x2 => g_bl 1 3 x2 (fun q3 => c_V (fX7_copyFrom q3 (tg o 9) σ) (fun σ4 => r_sc σ4 o 13 (fun x6 => p_sc σ4 o 13 (x6 + (1 : Int32)) (fun σ7 => r_sc σ7 o 13 (fun x8 => c_I (fX11_answer o x8 σ7) (fun x11 σ9 => some (x11, σ9))))))))) else (c_I (fX11_none o (4 : Int32) σ) (fun x14 σ12 => some (x14, σ12))))
set_option maxRecDepth 100000 in
set_option maxHeartbeats 4000000 in
theorem ctX11_mark (l : Launch) (E : EV) (o : Nat) (ho : KD o = 11) (σ : Mm) {xr : Int32} {τ : Mm} (h : fX11_mark o σ = some (xr, τ)) : Ct l E mX11_mark 3 [.ref (e_a E o 0)] σ (some (.int xr), τ) := by
  refine Ct.of (by decide +kernel) (Nat.le_of_ble_eq_true rfl) ?_
  show Jd l E mX11_mark 3 (some (.int xr), τ) σ 0 [(0, .ref (e_a E o 0))] []
  unfold fX11_mark at h
  refine J_aload_n (pc := 0) 0 dX11_mark_0 rfl ?_
  refine J_getI (pc := 1) dX11_mark_1 ho flX11_425 rfl h (fun x1 h => ?_)
  refine J_iconst (pc := 4) (3 : Int32) dX11_mark_4 (by decide) ?_
  refine J_icmp_lt (pc := 5) 14 dX11_mark_5 (by decide) h (fun h => ?_) (fun h => ?_)
  · refine J_aload_n (pc := 14) 0 dX11_mark_14 rfl ?_
    refine J_getA (pc := 15) dX11_mark_15 ho flX11_68 rfl ?_
    refine J_aload_n (pc := 18) 0 dX11_mark_18 rfl ?_
    refine J_getI (pc := 19) dX11_mark_19 ho flX11_425 rfl h (fun x2 h => ?_)
    refine J_aaldK (pc := 22) (t := 1) dX11_mark_22 ho ha11_1 rfl (fun _ q => kr1 q) h (fun q3 hq3 h => ?_)
    refine J_aload_n (pc := 23) 0 dX11_mark_23 rfl ?_
    refine J_getT (pc := 24) dX11_mark_24 ho flX11_50 rfl ?_
    obtain ⟨σ4, hc5, h⟩ := cV_t h
    refine J_cVv (pc := 27) (ctX7_copyFrom l E q3 (tg o 9) hq3 (tk11_9 ho) σ hc5) dX11_mark_27 mlX11_428 mvX7_copyFrom hq3 rfl (by decide) rfl (Nat.le_of_ble_eq_true rfl) ?_
    refine J_aload_n (pc := 30) 0 dX11_mark_30 rfl ?_
    refine J_dup (pc := 31) dX11_mark_31 rfl ?_
    refine J_getI (pc := 32) dX11_mark_32 ho flX11_425 rfl h (fun x6 h => ?_)
    refine J_iconst (pc := 35) (1 : Int32) dX11_mark_35 (by decide) ?_
    refine J_iadd (pc := 36) dX11_mark_36 ?_
    refine J_putI (pc := 37) dX11_mark_37 ho flX11_425 rfl h (fun σ7 h => ?_)
    refine J_aload_n (pc := 40) 0 dX11_mark_40 rfl ?_
    refine J_aload_n (pc := 41) 0 dX11_mark_41 rfl ?_
    refine J_getI (pc := 42) dX11_mark_42 ho flX11_425 rfl h (fun x8 h => ?_)
    obtain ⟨x11, σ9, hc10, h⟩ := cI_t h
    refine J_cVi (pc := 45) (ctX11_answer l E o x8 ho σ7 hc10) dX11_mark_45 mlX11_193 mvX11_answer ho rfl (by decide) rfl (Nat.le_of_ble_eq_true rfl) ?_
    cases h
    exact J_iret (pc := 48) dX11_mark_48 rfl rfl
  · refine J_aload_n (pc := 8) 0 dX11_mark_8 rfl ?_
    refine J_iconst (pc := 9) (4 : Int32) dX11_mark_9 (by decide) ?_
    obtain ⟨x14, σ12, hc13, h⟩ := cI_t h
    refine J_cVi (pc := 10) (ctX11_none l E o (4 : Int32) ho σ hc13) dX11_mark_10 mlX11_130 mvX11_none ho rfl (by decide) rfl (Nat.le_of_ble_eq_true rfl) ?_
    cases h
    exact J_iret (pc := 13) dX11_mark_13 rfl rfl
def fX11_back (o : Nat) (σ : Mm) : Option (Int32 × Mm) := r_sc σ o 13 (fun x1 => if 0 < x1 then (r_sc σ o 13 (fun x2 => p_sc σ o 13 (x2 - (1 : Int32)) (fun σ3 => r_sc σ3 o 13 (fun x4 => g_bl 1 3 x4 (fun q5 => c_V (fX7_copyFrom (tg o 9) q5 σ3) (fun σ6 => r_sc σ6 o 13 (fun x8 => c_I (fX11_answer o x8 σ6) (fun x11 σ9 => some (x11, σ9))))))))) else (c_I (fX11_none o (6 : Int32) σ) (fun x14 σ12 => some (x14, σ12))))
set_option maxRecDepth 100000 in
set_option maxHeartbeats 4000000 in
theorem ctX11_back (l : Launch) (E : EV) (o : Nat) (ho : KD o = 11) (σ : Mm) {xr : Int32} {τ : Mm} (h : fX11_back o σ = some (xr, τ)) : Ct l E mX11_back 3 [.ref (e_a E o 0)] σ (some (.int xr), τ) := by
  refine Ct.of (by decide +kernel) (Nat.le_of_ble_eq_true rfl) ?_
  show Jd l E mX11_back 3 (some (.int xr), τ) σ 0 [(0, .ref (e_a E o 0))] []
  unfold fX11_back at h
  refine J_aload_n (pc := 0) 0 dX11_back_0 rfl ?_
  refine J_getI (pc := 1) dX11_back_1 ho flX11_425 rfl h (fun x1 h => ?_)
  refine J_if_gt (pc := 4) 14 dX11_back_4 (by decide) h (fun h => ?_) (fun h => ?_)
  · refine J_aload_n (pc := 14) 0 dX11_back_14 rfl ?_
    refine J_dup (pc := 15) dX11_back_15 rfl ?_
    refine J_getI (pc := 16) dX11_back_16 ho flX11_425 rfl h (fun x2 h => ?_)
    refine J_iconst (pc := 19) (1 : Int32) dX11_back_19 (by decide) ?_
    refine J_isub (pc := 20) dX11_back_20 ?_
    refine J_putI (pc := 21) dX11_back_21 ho flX11_425 rfl h (fun σ3 h => ?_)
    refine J_aload_n (pc := 24) 0 dX11_back_24 rfl ?_
    refine J_getT (pc := 25) dX11_back_25 ho flX11_50 rfl ?_
    refine J_aload_n (pc := 28) 0 dX11_back_28 rfl ?_
    refine J_getA (pc := 29) dX11_back_29 ho flX11_68 rfl ?_
    refine J_aload_n (pc := 32) 0 dX11_back_32 rfl ?_
    refine J_getI (pc := 33) dX11_back_33 ho flX11_425 rfl h (fun x4 h => ?_)
    refine J_aaldK (pc := 36) (t := 1) dX11_back_36 ho ha11_1 rfl (fun _ q => kr1 q) h (fun q5 hq5 h => ?_)
    obtain ⟨σ6, hc7, h⟩ := cV_t h
    refine J_cVv (pc := 37) (ctX7_copyFrom l E (tg o 9) q5 (tk11_9 ho) hq5 σ3 hc7) dX11_back_37 mlX11_428 mvX7_copyFrom (tk11_9 ho) rfl (by decide) rfl (Nat.le_of_ble_eq_true rfl) ?_
    refine J_aload_n (pc := 40) 0 dX11_back_40 rfl ?_
    refine J_aload_n (pc := 41) 0 dX11_back_41 rfl ?_
    refine J_getI (pc := 42) dX11_back_42 ho flX11_425 rfl h (fun x8 h => ?_)
    obtain ⟨x11, σ9, hc10, h⟩ := cI_t h
    refine J_cVi (pc := 45) (ctX11_answer l E o x8 ho σ6 hc10) dX11_back_45 mlX11_193 mvX11_answer ho rfl (by decide) rfl (Nat.le_of_ble_eq_true rfl) ?_
    cases h
    exact J_iret (pc := 48) dX11_back_48 rfl rfl
  · refine J_aload_n (pc := 7) 0 dX11_back_7 rfl ?_
    refine J_bipush (pc := 8) (6 : Int32) dX11_back_8 (by decide) ?_
    obtain ⟨x14, σ12, hc13, h⟩ := cI_t h
    refine J_cVi (pc := 10) (ctX11_none l E o (6 : Int32) ho σ hc13) dX11_back_10 mlX11_130 mvX11_none ho rfl (by decide) rfl (Nat.le_of_ble_eq_true rfl) ?_
    cases h
    exact J_iret (pc := 13) dX11_back_13 rfl rfl
def fX12_status (o : Nat) (σ : Mm) : Option (Int32 × Mm) := r_sc σ o 2 (fun x1 => some (x1, σ))
set_option maxRecDepth 100000 in
set_option maxHeartbeats 4000000 in
theorem ctX12_status (l : Launch) (E : EV) (o : Nat) (ho : KD o = 12) (σ : Mm) {xr : Int32} {τ : Mm} (h : fX12_status o σ = some (xr, τ)) : Ct l E mX12_status 0 [.ref (e_a E o 0)] σ (some (.int xr), τ) := by
  refine Ct.of (by decide +kernel) (Nat.le_of_ble_eq_true rfl) ?_
  show Jd l E mX12_status 0 (some (.int xr), τ) σ 0 [(0, .ref (e_a E o 0))] []
  unfold fX12_status at h
  refine J_aload_n (pc := 0) 0 dX12_status_0 rfl ?_
  refine J_getI (pc := 1) dX12_status_1 ho flX12_77 rfl h (fun x1 h => ?_)
  cases h
  exact J_iret (pc := 4) dX12_status_4 rfl rfl
def fX12_top (o : Nat) (σ : Mm) : Option (Int64 × Mm) := r_lg σ o 3 (fun x1 => some (x1, σ))
set_option maxRecDepth 100000 in
set_option maxHeartbeats 4000000 in
theorem ctX12_top (l : Launch) (E : EV) (o : Nat) (ho : KD o = 12) (σ : Mm) {xr : Int64} {τ : Mm} (h : fX12_top o σ = some (xr, τ)) : Ct l E mX12_top 0 [.ref (e_a E o 0)] σ (some (.long xr), τ) := by
  refine Ct.of (by decide +kernel) (Nat.le_of_ble_eq_true rfl) ?_
  show Jd l E mX12_top 0 (some (.long xr), τ) σ 0 [(0, .ref (e_a E o 0))] []
  unfold fX12_top at h
  refine J_aload_n (pc := 0) 0 dX12_top_0 rfl ?_
  refine J_getL (pc := 1) dX12_top_1 ho flX12_80 rfl h (fun x1 h => ?_)
  cases h
  exact J_lret (pc := 4) dX12_top_4 rfl
def fX12_bottom (o : Nat) (σ : Mm) : Option (Int64 × Mm) := r_lg σ o 4 (fun x1 => some (x1, σ))
set_option maxRecDepth 100000 in
set_option maxHeartbeats 4000000 in
theorem ctX12_bottom (l : Launch) (E : EV) (o : Nat) (ho : KD o = 12) (σ : Mm) {xr : Int64} {τ : Mm} (h : fX12_bottom o σ = some (xr, τ)) : Ct l E mX12_bottom 0 [.ref (e_a E o 0)] σ (some (.long xr), τ) := by
  refine Ct.of (by decide +kernel) (Nat.le_of_ble_eq_true rfl) ?_
  show Jd l E mX12_bottom 0 (some (.long xr), τ) σ 0 [(0, .ref (e_a E o 0))] []
  unfold fX12_bottom at h
  refine J_aload_n (pc := 0) 0 dX12_bottom_0 rfl ?_
  refine J_getL (pc := 1) dX12_bottom_1 ho flX12_17 rfl h (fun x1 h => ?_)
  cases h
  exact J_lret (pc := 4) dX12_bottom_4 rfl
def fX12_is (o : Nat) (a1 : Int32) (σ : Mm) : Option (Int32 × Mm) := p_sc σ o 2 a1 (fun σ1 => if a1 = 0 then (some ((1 : Int32), σ1)) else (some ((0 : Int32), σ1)))
set_option maxRecDepth 100000 in
set_option maxHeartbeats 4000000 in
theorem ctX12_is (l : Launch) (E : EV) (o : Nat) (a1 : Int32) (ho : KD o = 12) (σ : Mm) {xr : Int32} {τ : Mm} (h : fX12_is o a1 σ = some (xr, τ)) : Ct l E mX12_is 0 [.ref (e_a E o 0), .int a1] σ (some (.int xr), τ) := by
  refine Ct.of (by decide +kernel) (Nat.le_of_ble_eq_true rfl) ?_
  show Jd l E mX12_is 0 (some (.int xr), τ) σ 0 [(0, .ref (e_a E o 0)), (1, .int a1)] []
  unfold fX12_is at h
  refine J_aload_n (pc := 0) 0 dX12_is_0 rfl ?_
  refine J_iload_n (pc := 1) 1 dX12_is_1 rfl ?_
  refine J_putI (pc := 2) dX12_is_2 ho flX12_77 rfl h (fun σ1 h => ?_)
  refine J_iload_n (pc := 5) 1 dX12_is_5 rfl ?_
  refine J_if_ne (pc := 6) 13 dX12_is_6 (by decide) h (fun h => ?_) (fun h => ?_)
  · refine J_iconst (pc := 13) (0 : Int32) dX12_is_13 (by decide) ?_
    cases h
    exact J_iret (pc := 14) dX12_is_14 rfl rfl
  · refine J_iconst (pc := 9) (1 : Int32) dX12_is_9 (by decide) ?_
    refine J_goto (pc := 10) 14 dX12_is_10 (by decide) ?_
    cases h
    exact J_iret (pc := 14) dX12_is_14 rfl rfl
def fX12_refuse (o : Nat) (a1 : Int32) (σ : Mm) : Option (Int32 × Mm) := p_sc σ o 2 a1 (fun σ1 => some ((-1 : Int32), σ1))
set_option maxRecDepth 100000 in
set_option maxHeartbeats 4000000 in
theorem ctX12_refuse (l : Launch) (E : EV) (o : Nat) (a1 : Int32) (ho : KD o = 12) (σ : Mm) {xr : Int32} {τ : Mm} (h : fX12_refuse o a1 σ = some (xr, τ)) : Ct l E mX12_refuse 0 [.ref (e_a E o 0), .int a1] σ (some (.int xr), τ) := by
  refine Ct.of (by decide +kernel) (Nat.le_of_ble_eq_true rfl) ?_
  show Jd l E mX12_refuse 0 (some (.int xr), τ) σ 0 [(0, .ref (e_a E o 0)), (1, .int a1)] []
  unfold fX12_refuse at h
  refine J_aload_n (pc := 0) 0 dX12_refuse_0 rfl ?_
  refine J_iload_n (pc := 1) 1 dX12_refuse_1 rfl ?_
  refine J_putI (pc := 2) dX12_refuse_2 ho flX12_77 rfl h (fun σ1 h => ?_)
  refine J_iconst (pc := 5) (-1 : Int32) dX12_refuse_5 (by decide) ?_
  cases h
  exact J_iret (pc := 6) dX12_refuse_6 rfl rfl
def fX12_gives (o : Nat) (a1 : Int32) (σ : Mm) : Option (Int32 × Mm) := p_sc σ o 2 (0 : Int32) (fun σ1 => some (a1, σ1))
set_option maxRecDepth 100000 in
set_option maxHeartbeats 4000000 in
theorem ctX12_gives (l : Launch) (E : EV) (o : Nat) (a1 : Int32) (ho : KD o = 12) (σ : Mm) {xr : Int32} {τ : Mm} (h : fX12_gives o a1 σ = some (xr, τ)) : Ct l E mX12_gives 0 [.ref (e_a E o 0), .int a1] σ (some (.int xr), τ) := by
  refine Ct.of (by decide +kernel) (Nat.le_of_ble_eq_true rfl) ?_
  show Jd l E mX12_gives 0 (some (.int xr), τ) σ 0 [(0, .ref (e_a E o 0)), (1, .int a1)] []
  unfold fX12_gives at h
  refine J_aload_n (pc := 0) 0 dX12_gives_0 rfl ?_
  refine J_iconst (pc := 1) (0 : Int32) dX12_gives_1 (by decide) ?_
  refine J_putI (pc := 2) dX12_gives_2 ho flX12_77 rfl h (fun σ1 h => ?_)
  refine J_iload_n (pc := 5) 1 dX12_gives_5 rfl ?_
  cases h
  exact J_iret (pc := 6) dX12_gives_6 rfl rfl
def fX12_orNone (o : Nat) (a1 : Int32) (σ : Mm) : Option (Int32 × Mm) := if a1 = (-1 : Int32) then (c_I (fX12_refuse o (6 : Int32) σ) (fun x6 σ4 => some (x6, σ4))) else (c_I (fX12_gives o a1 σ) (fun x3 σ1 => some (x3, σ1)))
set_option maxRecDepth 100000 in
set_option maxHeartbeats 4000000 in
theorem ctX12_orNone (l : Launch) (E : EV) (o : Nat) (a1 : Int32) (ho : KD o = 12) (σ : Mm) {xr : Int32} {τ : Mm} (h : fX12_orNone o a1 σ = some (xr, τ)) : Ct l E mX12_orNone 1 [.ref (e_a E o 0), .int a1] σ (some (.int xr), τ) := by
  refine Ct.of (by decide +kernel) (Nat.le_of_ble_eq_true rfl) ?_
  show Jd l E mX12_orNone 1 (some (.int xr), τ) σ 0 [(0, .ref (e_a E o 0)), (1, .int a1)] []
  unfold fX12_orNone at h
  refine J_iload_n (pc := 0) 1 dX12_orNone_0 rfl ?_
  refine J_iconst (pc := 1) (-1 : Int32) dX12_orNone_1 (by decide) ?_
  refine J_icmp_ne (pc := 2) 14 dX12_orNone_2 (by decide) h (fun h => ?_) (fun h => ?_)
  · refine J_aload_n (pc := 14) 0 dX12_orNone_14 rfl ?_
    refine J_iload_n (pc := 15) 1 dX12_orNone_15 rfl ?_
    obtain ⟨x3, σ1, hc2, h⟩ := cI_t h
    refine J_cVi (pc := 16) (ctX12_gives l E o a1 ho σ hc2) dX12_orNone_16 mlX12_87 mvX12_gives ho rfl (by decide) rfl (Nat.le_of_ble_eq_true rfl) ?_
    cases h
    exact J_iret (pc := 19) dX12_orNone_19 rfl rfl
  · refine J_aload_n (pc := 5) 0 dX12_orNone_5 rfl ?_
    refine J_bipush (pc := 6) (6 : Int32) dX12_orNone_6 (by decide) ?_
    obtain ⟨x6, σ4, hc5, h⟩ := cI_t h
    refine J_cVi (pc := 8) (ctX12_refuse l E o (6 : Int32) ho σ hc5) dX12_orNone_8 mlX12_83 mvX12_refuse ho rfl (by decide) rfl (Nat.le_of_ble_eq_true rfl) ?_
    refine J_goto (pc := 11) 19 dX12_orNone_11 (by decide) ?_
    cases h
    exact J_iret (pc := 19) dX12_orNone_19 rfl rfl
def fX12_tellsBy_42 (o : Nat) (a1 : Int64) (a2 : Int64) (v5 : Int64) (σ : Mm) : Option (Int32 × Mm) := n_zl v5 (p_lg σ o 3 (a1 / v5) (fun σ2 => n_zl v5 (p_lg σ2 o 4 (a2 / v5) (fun σ3 => c_I (fX12_is o (0 : Int32) σ3) (fun x6 σ4 => b_z x6 σ4)))))
set_option maxRecDepth 100000 in
set_option maxHeartbeats 4000000 in
theorem tX12_tellsBy_42 (l : Launch) (E : EV) {xr : Int32} {τ : Mm} (o : Nat) (a1 : Int64) (a2 : Int64) (ho : KD o = 12) (v5 : Int64) (σ : Mm) (h : fX12_tellsBy_42 o a1 a2 v5 σ = some (xr, τ)) : Jd l E mX12_tellsBy 1 (some (.int xr), τ) σ 42 [(0, .ref (e_a E o 0)), (1, .long a1), (3, .long a2), (5, .long v5)] [] := by
  unfold fX12_tellsBy_42 at h
  refine J_aload_n (pc := 42) 0 dX12_tellsBy_42 rfl ?_
  refine J_lload_n (pc := 43) 1 dX12_tellsBy_43 rfl ?_
  refine J_lload (pc := 44) 3 dX12_tellsBy_44 rfl ?_
  obtain ⟨hz9, h⟩ := nzl_t h
  refine J_ldiv (pc := 46) dX12_tellsBy_46 hz9 ?_
  refine J_putL (pc := 47) dX12_tellsBy_47 ho flX12_80 rfl h (fun σ2 h => ?_)
  refine J_aload_n (pc := 50) 0 dX12_tellsBy_50 rfl ?_
  refine J_lload_n (pc := 51) 2 dX12_tellsBy_51 rfl ?_
  refine J_lload (pc := 52) 3 dX12_tellsBy_52 rfl ?_
  obtain ⟨hz8, h⟩ := nzl_t h
  refine J_ldiv (pc := 54) dX12_tellsBy_54 hz8 ?_
  refine J_putL (pc := 55) dX12_tellsBy_55 ho flX12_17 rfl h (fun σ3 h => ?_)
  refine J_aload_n (pc := 58) 0 dX12_tellsBy_58 rfl ?_
  refine J_iconst (pc := 59) (0 : Int32) dX12_tellsBy_59 (by decide) ?_
  obtain ⟨x6, σ4, hc5, h⟩ := cI_t h
  refine J_cVi (pc := 60) (ctX12_is l E o (0 : Int32) ho σ3 hc5) dX12_tellsBy_60 mlX12_90 mvX12_is ho rfl (by decide) rfl (Nat.le_of_ble_eq_true rfl) ?_
  obtain ⟨hz7, h⟩ := bz_t h
  cases h
  exact J_iret (pc := 63) dX12_tellsBy_63 rfl hz7
def fX12_tellsBy_17 (o : Nat) (a1 : Int64) (a2 : Int64) : Nat → Int64 → Int64 → Mm → Option (Int32 × Mm)
  | 0, _, _, _ => none
  | n + 1, v5, v7, σ => if (lg_cmp v7 (0 : Int64)) = 0 then (fX12_tellsBy_42 o a1 a2 v5 σ) else (n_zl v7 ((fX12_tellsBy_17 o a1 a2 n) v7 (v5 - v5 / v7 * v7) σ))
set_option maxRecDepth 100000 in
set_option maxHeartbeats 4000000 in
theorem tX12_tellsBy_17 (l : Launch) (E : EV) {xr : Int32} {τ : Mm} (o : Nat) (a1 : Int64) (a2 : Int64) (ho : KD o = 12) : ∀ (n : Nat) (v5 : Int64) (v7 : Int64) (σ : Mm), fX12_tellsBy_17 o a1 a2 n v5 v7 σ = some (xr, τ) → Jd l E mX12_tellsBy 1 (some (.int xr), τ) σ 17 [(0, .ref (e_a E o 0)), (1, .long a1), (3, .long a2), (5, .long v5), (7, .long v7)] [] := by
  intro n
  induction n with
  | zero => intro v5 v7 σ h; rw [fX12_tellsBy_17] at h; cases h
  | succ n ih =>
    intro v5 v7 σ h
    rw [fX12_tellsBy_17] at h
    refine J_lload (pc := 17) 4 dX12_tellsBy_17 rfl ?_
    refine J_lconst (pc := 19) (0 : Int64) dX12_tellsBy_19 (by decide) ?_
    refine J_lcmp (pc := 20) dX12_tellsBy_20 ?_
    refine J_if_eq (pc := 21) 42 dX12_tellsBy_21 (by decide) h (fun h => ?_) (fun h => ?_)
    · refine J_sub (L' := [(0, .ref (e_a E o 0)), (1, .long a1), (3, .long a2), (5, .long v5)]) [0, 1, 2, 3] rfl ?_
      exact tX12_tellsBy_42 l E o a1 a2 ho v5 σ h
    · refine J_lload (pc := 24) 3 dX12_tellsBy_24 rfl ?_
      refine J_lload (pc := 26) 4 dX12_tellsBy_26 rfl ?_
      obtain ⟨hz1, h⟩ := nzl_t h
      refine J_lrem (pc := 28) dX12_tellsBy_28 hz1 ?_
      refine J_lstore (pc := 29) (L' := [(9, .long (v5 - v5 / v7 * v7)), (0, .ref (e_a E o 0)), (1, .long a1), (3, .long a2), (5, .long v5), (7, .long v7)]) dX12_tellsBy_29 (by decide) rfl ?_
      refine J_lload (pc := 31) 5 dX12_tellsBy_31 rfl ?_
      refine J_lstore (pc := 33) (L' := [(5, .long v7), (9, .long (v5 - v5 / v7 * v7)), (0, .ref (e_a E o 0)), (1, .long a1), (3, .long a2), (7, .long v7)]) dX12_tellsBy_33 (by decide) rfl ?_
      refine J_lload (pc := 35) 1 dX12_tellsBy_35 rfl ?_
      refine J_lstore (pc := 37) (L' := [(7, .long (v5 - v5 / v7 * v7)), (5, .long v7), (9, .long (v5 - v5 / v7 * v7)), (0, .ref (e_a E o 0)), (1, .long a1), (3, .long a2)]) dX12_tellsBy_37 (by decide) rfl ?_
      refine J_goto (pc := 39) 17 dX12_tellsBy_39 (by decide) ?_
      refine J_sub (L' := [(0, .ref (e_a E o 0)), (1, .long a1), (3, .long a2), (5, .long v7), (7, .long (v5 - v5 / v7 * v7))]) [3, 4, 5, 1, 0] rfl ?_
      exact ih v7 (v5 - v5 / v7 * v7) σ h
def fX12_tellsBy (o : Nat) (a1 : Int64) (a2 : Int64) (σ : Mm) : Option (Int32 × Mm) := if 0 ≤ (lg_cmp a1 (0 : Int64)) then (fX12_tellsBy_17 o a1 a2 FU a1 a2 σ) else (fX12_tellsBy_17 o a1 a2 FU (-a1) a2 σ)
set_option maxRecDepth 100000 in
set_option maxHeartbeats 4000000 in
theorem ctX12_tellsBy (l : Launch) (E : EV) (o : Nat) (a1 : Int64) (a2 : Int64) (ho : KD o = 12) (σ : Mm) {xr : Int32} {τ : Mm} (h : fX12_tellsBy o a1 a2 σ = some (xr, τ)) : Ct l E mX12_tellsBy 1 [.ref (e_a E o 0), .long a1, .long a2] σ (some (.int xr), τ) := by
  refine Ct.of (by decide +kernel) (Nat.le_of_ble_eq_true rfl) ?_
  show Jd l E mX12_tellsBy 1 (some (.int xr), τ) σ 0 [(0, .ref (e_a E o 0)), (1, .long a1), (3, .long a2)] []
  unfold fX12_tellsBy at h
  refine J_lload_n (pc := 0) 1 dX12_tellsBy_0 rfl ?_
  refine J_lconst (pc := 1) (0 : Int64) dX12_tellsBy_1 (by decide) ?_
  refine J_lcmp (pc := 2) dX12_tellsBy_2 ?_
  refine J_if_ge (pc := 3) 11 dX12_tellsBy_3 (by decide) h (fun h => ?_) (fun h => ?_)
  · refine J_lload_n (pc := 11) 1 dX12_tellsBy_11 rfl ?_
    refine J_lstore (pc := 12) (L' := [(5, .long a1), (0, .ref (e_a E o 0)), (1, .long a1), (3, .long a2)]) dX12_tellsBy_12 (by decide) rfl ?_
    refine J_lload_n (pc := 14) 3 dX12_tellsBy_14 rfl ?_
    refine J_lstore (pc := 15) (L' := [(7, .long a2), (5, .long a1), (0, .ref (e_a E o 0)), (1, .long a1), (3, .long a2)]) dX12_tellsBy_15 (by decide) rfl ?_
    refine J_sub (L' := [(0, .ref (e_a E o 0)), (1, .long a1), (3, .long a2), (5, .long a1), (7, .long a2)]) [2, 3, 4, 1, 0] rfl ?_
    exact tX12_tellsBy_17 l E o a1 a2 ho FU a1 a2 σ h
  · refine J_lload_n (pc := 6) 1 dX12_tellsBy_6 rfl ?_
    refine J_lneg (pc := 7) dX12_tellsBy_7 ?_
    refine J_goto (pc := 8) 12 dX12_tellsBy_8 (by decide) ?_
    refine J_lstore (pc := 12) (L' := [(5, .long (-a1)), (0, .ref (e_a E o 0)), (1, .long a1), (3, .long a2)]) dX12_tellsBy_12 (by decide) rfl ?_
    refine J_lload_n (pc := 14) 3 dX12_tellsBy_14 rfl ?_
    refine J_lstore (pc := 15) (L' := [(7, .long a2), (5, .long (-a1)), (0, .ref (e_a E o 0)), (1, .long a1), (3, .long a2)]) dX12_tellsBy_15 (by decide) rfl ?_
    refine J_sub (L' := [(0, .ref (e_a E o 0)), (1, .long a1), (3, .long a2), (5, .long (-a1)), (7, .long a2)]) [2, 3, 4, 1, 0] rfl ?_
    exact tX12_tellsBy_17 l E o a1 a2 ho FU (-a1) a2 σ h
def fX12_isTray (a1 : Int32) (σ : Mm) : Option (Int32 × Mm) := if a1 < 0 then (some ((0 : Int32), σ)) else (if (4 : Int32) ≤ a1 then (some ((0 : Int32), σ)) else (some ((1 : Int32), σ)))
set_option maxRecDepth 100000 in
set_option maxHeartbeats 4000000 in
theorem ctX12_isTray (l : Launch) (E : EV) (a1 : Int32) (σ : Mm) {xr : Int32} {τ : Mm} (h : fX12_isTray a1 σ = some (xr, τ)) : Ct l E mX12_isTray 0 [.int a1] σ (some (.int xr), τ) := by
  refine Ct.of (by decide +kernel) (Nat.le_of_ble_eq_true rfl) ?_
  show Jd l E mX12_isTray 0 (some (.int xr), τ) σ 0 [(0, .int a1)] []
  unfold fX12_isTray at h
  refine J_iload_n (pc := 0) 0 dX12_isTray_0 rfl ?_
  refine J_if_lt (pc := 1) 13 dX12_isTray_1 (by decide) h (fun h => ?_) (fun h => ?_)
  · refine J_iconst (pc := 13) (0 : Int32) dX12_isTray_13 (by decide) ?_
    cases h
    exact J_iret (pc := 14) dX12_isTray_14 rfl rfl
  · refine J_iload_n (pc := 4) 0 dX12_isTray_4 rfl ?_
    refine J_iconst (pc := 5) (4 : Int32) dX12_isTray_5 (by decide) ?_
    refine J_icmp_ge (pc := 6) 13 dX12_isTray_6 (by decide) h (fun h => ?_) (fun h => ?_)
    · refine J_iconst (pc := 13) (0 : Int32) dX12_isTray_13 (by decide) ?_
      cases h
      exact J_iret (pc := 14) dX12_isTray_14 rfl rfl
    · refine J_iconst (pc := 9) (1 : Int32) dX12_isTray_9 (by decide) ?_
      refine J_goto (pc := 10) 14 dX12_isTray_10 (by decide) ?_
      cases h
      exact J_iret (pc := 14) dX12_isTray_14 rfl rfl
def fX12_cut (a1 : Int64) (a2 : Int32) (σ : Mm) : Option (Int64 × Mm) := if a2 = 0 then (some (a1.toInt32.toInt8.toInt32.toInt64, σ)) else (if a2 = (1 : Int32) then (some (a1.toInt32.toInt16.toInt32.toInt64, σ)) else (if a2 = (2 : Int32) then (some (a1.toInt32.toInt64, σ)) else (some (a1, σ))))
set_option maxRecDepth 100000 in
set_option maxHeartbeats 4000000 in
theorem ctX12_cut (l : Launch) (E : EV) (a1 : Int64) (a2 : Int32) (σ : Mm) {xr : Int64} {τ : Mm} (h : fX12_cut a1 a2 σ = some (xr, τ)) : Ct l E mX12_cut 0 [.long a1, .int a2] σ (some (.long xr), τ) := by
  refine Ct.of (by decide +kernel) (Nat.le_of_ble_eq_true rfl) ?_
  show Jd l E mX12_cut 0 (some (.long xr), τ) σ 0 [(0, .long a1), (2, .int a2)] []
  unfold fX12_cut at h
  refine J_iload_n (pc := 0) 1 dX12_cut_0 rfl ?_
  refine J_if_ne (pc := 1) 11 dX12_cut_1 (by decide) h (fun h => ?_) (fun h => ?_)
  · refine J_iload_n (pc := 11) 1 dX12_cut_11 rfl ?_
    refine J_iconst (pc := 12) (1 : Int32) dX12_cut_12 (by decide) ?_
    refine J_icmp_ne (pc := 13) 23 dX12_cut_13 (by decide) h (fun h => ?_) (fun h => ?_)
    · refine J_iload_n (pc := 23) 1 dX12_cut_23 rfl ?_
      refine J_iconst (pc := 24) (2 : Int32) dX12_cut_24 (by decide) ?_
      refine J_icmp_ne (pc := 25) 34 dX12_cut_25 (by decide) h (fun h => ?_) (fun h => ?_)
      · refine J_lload_n (pc := 34) 0 dX12_cut_34 rfl ?_
        cases h
        exact J_lret (pc := 35) dX12_cut_35 rfl
      · refine J_lload_n (pc := 28) 0 dX12_cut_28 rfl ?_
        refine J_l2i (pc := 29) dX12_cut_29 ?_
        refine J_i2l (pc := 30) dX12_cut_30 ?_
        refine J_goto (pc := 31) 35 dX12_cut_31 (by decide) ?_
        cases h
        exact J_lret (pc := 35) dX12_cut_35 rfl
    · refine J_lload_n (pc := 16) 0 dX12_cut_16 rfl ?_
      refine J_l2i (pc := 17) dX12_cut_17 ?_
      refine J_i2s (pc := 18) dX12_cut_18 ?_
      refine J_i2l (pc := 19) dX12_cut_19 ?_
      refine J_goto (pc := 20) 35 dX12_cut_20 (by decide) ?_
      cases h
      exact J_lret (pc := 35) dX12_cut_35 rfl
  · refine J_lload_n (pc := 4) 0 dX12_cut_4 rfl ?_
    refine J_l2i (pc := 5) dX12_cut_5 ?_
    refine J_i2b (pc := 6) dX12_cut_6 ?_
    refine J_i2l (pc := 7) dX12_cut_7 ?_
    refine J_goto (pc := 8) 35 dX12_cut_8 (by decide) ?_
    cases h
    exact J_lret (pc := 35) dX12_cut_35 rfl
def fX12_tray_49 (o : Nat) (a1 : Int32) (a2 : Int32) (a3 : Int32) : Nat → Int32 → Mm → Option (Int32 × Mm)
  | 0, _, _ => none
  | n + 1, v4, σ => if a3 ≤ v4 then (c_I (fX12_is o (0 : Int32) σ) (fun x28 σ26 => b_z x28 σ26)) else (s_la σ o 4 240 (((60 : Int32) * a1) + v4) (0 : Int64) (fun σ30 => (fX12_tray_49 o a1 a2 a3 n) (v4 + (1 : Int32)) σ30))
set_option maxRecDepth 100000 in
set_option maxHeartbeats 4000000 in
theorem tX12_tray_49 (l : Launch) (E : EV) {xr : Int32} {τ : Mm} (o : Nat) (a1 : Int32) (a2 : Int32) (a3 : Int32) (ho : KD o = 12) : ∀ (n : Nat) (v4 : Int32) (σ : Mm), fX12_tray_49 o a1 a2 a3 n v4 σ = some (xr, τ) → Jd l E mX12_tray 1 (some (.int xr), τ) σ 49 [(0, .ref (e_a E o 0)), (1, .int a1), (3, .int a3), (4, .int v4)] [] := by
  intro n
  induction n with
  | zero => intro v4 σ h; rw [fX12_tray_49] at h; cases h
  | succ n ih =>
    intro v4 σ h
    rw [fX12_tray_49] at h
    refine J_iload (pc := 49) 3 dX12_tray_49 rfl ?_
    refine J_iload_n (pc := 51) 2 dX12_tray_51 rfl ?_
    refine J_icmp_ge (pc := 52) 74 dX12_tray_52 (by decide) h (fun h => ?_) (fun h => ?_)
    · refine J_aload_n (pc := 74) 0 dX12_tray_74 rfl ?_
      refine J_iconst (pc := 75) (0 : Int32) dX12_tray_75 (by decide) ?_
      obtain ⟨x28, σ26, hc27, h⟩ := cI_t h
      refine J_cVi (pc := 76) (ctX12_is l E o (0 : Int32) ho σ hc27) dX12_tray_76 mlX12_90 mvX12_is ho rfl (by decide) rfl (Nat.le_of_ble_eq_true rfl) ?_
      obtain ⟨hz29, h⟩ := bz_t h
      cases h
      exact J_iret (pc := 79) dX12_tray_79 rfl hz29
    · refine J_aload_n (pc := 55) 0 dX12_tray_55 rfl ?_
      refine J_getA (pc := 56) dX12_tray_56 ho flX12_27 rfl ?_
      refine J_bipush (pc := 59) (60 : Int32) dX12_tray_59 (by decide) ?_
      refine J_iload_n (pc := 61) 1 dX12_tray_61 rfl ?_
      refine J_imul (pc := 62) dX12_tray_62 ?_
      refine J_iload (pc := 63) 3 dX12_tray_63 rfl ?_
      refine J_iadd (pc := 65) dX12_tray_65 ?_
      refine J_lconst (pc := 66) (0 : Int64) dX12_tray_66 (by decide) ?_
      refine J_last (pc := 67) dX12_tray_67 ho ha12_4 h (fun σ30 h => ?_)
      refine J_iinc (pc := 68) (L' := [(4, .int (v4 + (1 : Int32))), (0, .ref (e_a E o 0)), (1, .int a1), (3, .int a3)]) 3 (v4 + (1 : Int32)) dX12_tray_68 rfl (by rfl) (by decide) rfl ?_
      refine J_goto (pc := 71) 49 dX12_tray_71 (by decide) ?_
      refine J_sub (L' := [(0, .ref (e_a E o 0)), (1, .int a1), (3, .int a3), (4, .int (v4 + (1 : Int32)))]) [1, 2, 3, 0] rfl ?_
      exact ih (v4 + (1 : Int32)) σ30 h
def fX12_tray (o : Nat) (a1 : Int32) (a2 : Int32) (a3 : Int32) (σ : Mm) : Option (Int32 × Mm) := c_I (fX12_isTray a1 σ) (fun x3 σ1 => if x3 = 0 then (c_I (fX12_is o (1 : Int32) σ1) (fun x6 σ4 => b_z x6 σ4)) else (if a2 < 0 then (c_I (fX12_is o (1 : Int32) σ1) (fun x10 σ8 => b_z x10 σ8)) else (if (3 : Int32) < a2 then (c_I (fX12_is o (1 : Int32) σ1) (fun x14 σ12 => b_z x14 σ12)) else (if a3 < 0 then (c_I (fX12_is o (1 : Int32) σ1) (fun x18 σ16 => b_z x18 σ16)) else (if a3 ≤ (60 : Int32) then (s_ar σ1 o 2 4 a1 a2 (fun σ20 => s_ar σ20 o 3 4 a1 a3 (fun σ21 => fX12_tray_49 o a1 a2 a3 FU (0 : Int32) σ21))) else (c_I (fX12_is o (1 : Int32) σ1) (fun x24 σ22 => b_z x24 σ22)))))))
set_option maxRecDepth 100000 in
set_option maxHeartbeats 4000000 in
theorem ctX12_tray (l : Launch) (E : EV) (o : Nat) (a1 : Int32) (a2 : Int32) (a3 : Int32) (ho : KD o = 12) (σ : Mm) {xr : Int32} {τ : Mm} (h : fX12_tray o a1 a2 a3 σ = some (xr, τ)) : Ct l E mX12_tray 1 [.ref (e_a E o 0), .int a1, .int a2, .int a3] σ (some (.int xr), τ) := by
  refine Ct.of (by decide +kernel) (Nat.le_of_ble_eq_true rfl) ?_
  show Jd l E mX12_tray 1 (some (.int xr), τ) σ 0 [(0, .ref (e_a E o 0)), (1, .int a1), (2, .int a2), (3, .int a3)] []
  unfold fX12_tray at h
  refine J_iload_n (pc := 0) 1 dX12_tray_0 rfl ?_
  obtain ⟨x3, σ1, hc2, h⟩ := cI_t h
  refine J_cSi (pc := 1) (ctX12_isTray l E a1 σ hc2) dX12_tray_1 mlX12_94 msX12_isTray rfl (by decide) rfl (Nat.le_of_ble_eq_true rfl) ?_
  refine J_if_eq (pc := 4) 26 dX12_tray_4 (by decide) h (fun h => ?_) (fun h => ?_)
  · refine J_aload_n (pc := 26) 0 dX12_tray_26 rfl ?_
    refine J_iconst (pc := 27) (1 : Int32) dX12_tray_27 (by decide) ?_
    obtain ⟨x6, σ4, hc5, h⟩ := cI_t h
    refine J_cVi (pc := 28) (ctX12_is l E o (1 : Int32) ho σ1 hc5) dX12_tray_28 mlX12_90 mvX12_is ho rfl (by decide) rfl (Nat.le_of_ble_eq_true rfl) ?_
    obtain ⟨hz7, h⟩ := bz_t h
    cases h
    exact J_iret (pc := 31) dX12_tray_31 rfl hz7
  · refine J_iload_n (pc := 7) 2 dX12_tray_7 rfl ?_
    refine J_if_lt (pc := 8) 26 dX12_tray_8 (by decide) h (fun h => ?_) (fun h => ?_)
    · refine J_aload_n (pc := 26) 0 dX12_tray_26 rfl ?_
      refine J_iconst (pc := 27) (1 : Int32) dX12_tray_27 (by decide) ?_
      obtain ⟨x10, σ8, hc9, h⟩ := cI_t h
      refine J_cVi (pc := 28) (ctX12_is l E o (1 : Int32) ho σ1 hc9) dX12_tray_28 mlX12_90 mvX12_is ho rfl (by decide) rfl (Nat.le_of_ble_eq_true rfl) ?_
      obtain ⟨hz11, h⟩ := bz_t h
      cases h
      exact J_iret (pc := 31) dX12_tray_31 rfl hz11
    · refine J_iload_n (pc := 11) 2 dX12_tray_11 rfl ?_
      refine J_iconst (pc := 12) (3 : Int32) dX12_tray_12 (by decide) ?_
      refine J_icmp_gt (pc := 13) 26 dX12_tray_13 (by decide) h (fun h => ?_) (fun h => ?_)
      · refine J_aload_n (pc := 26) 0 dX12_tray_26 rfl ?_
        refine J_iconst (pc := 27) (1 : Int32) dX12_tray_27 (by decide) ?_
        obtain ⟨x14, σ12, hc13, h⟩ := cI_t h
        refine J_cVi (pc := 28) (ctX12_is l E o (1 : Int32) ho σ1 hc13) dX12_tray_28 mlX12_90 mvX12_is ho rfl (by decide) rfl (Nat.le_of_ble_eq_true rfl) ?_
        obtain ⟨hz15, h⟩ := bz_t h
        cases h
        exact J_iret (pc := 31) dX12_tray_31 rfl hz15
      · refine J_iload_n (pc := 16) 3 dX12_tray_16 rfl ?_
        refine J_if_lt (pc := 17) 26 dX12_tray_17 (by decide) h (fun h => ?_) (fun h => ?_)
        · refine J_aload_n (pc := 26) 0 dX12_tray_26 rfl ?_
          refine J_iconst (pc := 27) (1 : Int32) dX12_tray_27 (by decide) ?_
          obtain ⟨x18, σ16, hc17, h⟩ := cI_t h
          refine J_cVi (pc := 28) (ctX12_is l E o (1 : Int32) ho σ1 hc17) dX12_tray_28 mlX12_90 mvX12_is ho rfl (by decide) rfl (Nat.le_of_ble_eq_true rfl) ?_
          obtain ⟨hz19, h⟩ := bz_t h
          cases h
          exact J_iret (pc := 31) dX12_tray_31 rfl hz19
        · refine J_iload_n (pc := 20) 3 dX12_tray_20 rfl ?_
          refine J_bipush (pc := 21) (60 : Int32) dX12_tray_21 (by decide) ?_
          refine J_icmp_le (pc := 23) 32 dX12_tray_23 (by decide) h (fun h => ?_) (fun h => ?_)
          · refine J_aload_n (pc := 32) 0 dX12_tray_32 rfl ?_
            refine J_getA (pc := 33) dX12_tray_33 ho flX12_21 rfl ?_
            refine J_iload_n (pc := 36) 1 dX12_tray_36 rfl ?_
            refine J_iload_n (pc := 37) 2 dX12_tray_37 rfl ?_
            refine J_iast (pc := 38) dX12_tray_38 ho ha12_2 h (fun σ20 h => ?_)
            refine J_aload_n (pc := 39) 0 dX12_tray_39 rfl ?_
            refine J_getA (pc := 40) dX12_tray_40 ho flX12_24 rfl ?_
            refine J_iload_n (pc := 43) 1 dX12_tray_43 rfl ?_
            refine J_iload_n (pc := 44) 3 dX12_tray_44 rfl ?_
            refine J_iast (pc := 45) dX12_tray_45 ho ha12_3 h (fun σ21 h => ?_)
            refine J_iconst (pc := 46) (0 : Int32) dX12_tray_46 (by decide) ?_
            refine J_istore (pc := 47) (L' := [(4, .int (0 : Int32)), (0, .ref (e_a E o 0)), (1, .int a1), (2, .int a2), (3, .int a3)]) dX12_tray_47 (by decide) rfl ?_
            refine J_sub (L' := [(0, .ref (e_a E o 0)), (1, .int a1), (3, .int a3), (4, .int (0 : Int32))]) [1, 2, 4, 0] rfl ?_
            exact tX12_tray_49 l E o a1 a2 a3 ho FU (0 : Int32) σ21 h
          · refine J_aload_n (pc := 26) 0 dX12_tray_26 rfl ?_
            refine J_iconst (pc := 27) (1 : Int32) dX12_tray_27 (by decide) ?_
            obtain ⟨x24, σ22, hc23, h⟩ := cI_t h
            refine J_cVi (pc := 28) (ctX12_is l E o (1 : Int32) ho σ1 hc23) dX12_tray_28 mlX12_90 mvX12_is ho rfl (by decide) rfl (Nat.le_of_ble_eq_true rfl) ?_
            obtain ⟨hz25, h⟩ := bz_t h
            cases h
            exact J_iret (pc := 31) dX12_tray_31 rfl hz25
def fX12_wrongPlace (o : Nat) (a1 : Int32) (a2 : Int32) (σ : Mm) : Option (Int32 × Mm) := c_I (fX12_isTray a1 σ) (fun x3 σ1 => if x3 = 0 then (some ((1 : Int32), σ1)) else (g_ar σ1 o 3 4 a1 (fun x4 => if x4 = (-1 : Int32) then (some ((2 : Int32), σ1)) else (if a2 < 0 then (some ((3 : Int32), σ1)) else (g_ar σ1 o 3 4 a1 (fun x5 => if a2 < x5 then (some ((0 : Int32), σ1)) else (some ((3 : Int32), σ1))))))))
set_option maxRecDepth 100000 in
set_option maxHeartbeats 4000000 in
theorem ctX12_wrongPlace (l : Launch) (E : EV) (o : Nat) (a1 : Int32) (a2 : Int32) (ho : KD o = 12) (σ : Mm) {xr : Int32} {τ : Mm} (h : fX12_wrongPlace o a1 a2 σ = some (xr, τ)) : Ct l E mX12_wrongPlace 1 [.ref (e_a E o 0), .int a1, .int a2] σ (some (.int xr), τ) := by
  refine Ct.of (by decide +kernel) (Nat.le_of_ble_eq_true rfl) ?_
  show Jd l E mX12_wrongPlace 1 (some (.int xr), τ) σ 0 [(0, .ref (e_a E o 0)), (1, .int a1), (2, .int a2)] []
  unfold fX12_wrongPlace at h
  refine J_iload_n (pc := 0) 1 dX12_wrongPlace_0 rfl ?_
  obtain ⟨x3, σ1, hc2, h⟩ := cI_t h
  refine J_cSi (pc := 1) (ctX12_isTray l E a1 σ hc2) dX12_wrongPlace_1 mlX12_94 msX12_isTray rfl (by decide) rfl (Nat.le_of_ble_eq_true rfl) ?_
  refine J_if_ne (pc := 4) 11 dX12_wrongPlace_4 (by decide) h (fun h => ?_) (fun h => ?_)
  · refine J_aload_n (pc := 11) 0 dX12_wrongPlace_11 rfl ?_
    refine J_getA (pc := 12) dX12_wrongPlace_12 ho flX12_24 rfl ?_
    refine J_iload_n (pc := 15) 1 dX12_wrongPlace_15 rfl ?_
    refine J_iald (pc := 16) dX12_wrongPlace_16 ho ha12_3 h (fun x4 h => ?_)
    refine J_iconst (pc := 17) (-1 : Int32) dX12_wrongPlace_17 (by decide) ?_
    refine J_icmp_ne (pc := 18) 25 dX12_wrongPlace_18 (by decide) h (fun h => ?_) (fun h => ?_)
    · refine J_iload_n (pc := 25) 2 dX12_wrongPlace_25 rfl ?_
      refine J_if_lt (pc := 26) 39 dX12_wrongPlace_26 (by decide) h (fun h => ?_) (fun h => ?_)
      · refine J_iconst (pc := 39) (3 : Int32) dX12_wrongPlace_39 (by decide) ?_
        refine J_goto (pc := 40) 44 dX12_wrongPlace_40 (by decide) ?_
        cases h
        exact J_iret (pc := 44) dX12_wrongPlace_44 rfl rfl
      · refine J_iload_n (pc := 29) 2 dX12_wrongPlace_29 rfl ?_
        refine J_aload_n (pc := 30) 0 dX12_wrongPlace_30 rfl ?_
        refine J_getA (pc := 31) dX12_wrongPlace_31 ho flX12_24 rfl ?_
        refine J_iload_n (pc := 34) 1 dX12_wrongPlace_34 rfl ?_
        refine J_iald (pc := 35) dX12_wrongPlace_35 ho ha12_3 h (fun x5 h => ?_)
        refine J_icmp_lt (pc := 36) 43 dX12_wrongPlace_36 (by decide) h (fun h => ?_) (fun h => ?_)
        · refine J_iconst (pc := 43) (0 : Int32) dX12_wrongPlace_43 (by decide) ?_
          cases h
          exact J_iret (pc := 44) dX12_wrongPlace_44 rfl rfl
        · refine J_iconst (pc := 39) (3 : Int32) dX12_wrongPlace_39 (by decide) ?_
          refine J_goto (pc := 40) 44 dX12_wrongPlace_40 (by decide) ?_
          cases h
          exact J_iret (pc := 44) dX12_wrongPlace_44 rfl rfl
    · refine J_iconst (pc := 21) (2 : Int32) dX12_wrongPlace_21 (by decide) ?_
      refine J_goto (pc := 22) 44 dX12_wrongPlace_22 (by decide) ?_
      cases h
      exact J_iret (pc := 44) dX12_wrongPlace_44 rfl rfl
  · refine J_iconst (pc := 7) (1 : Int32) dX12_wrongPlace_7 (by decide) ?_
    refine J_goto (pc := 8) 44 dX12_wrongPlace_8 (by decide) ?_
    cases h
    exact J_iret (pc := 44) dX12_wrongPlace_44 rfl rfl
def fX12_write (o : Nat) (a1 : Int32) (a2 : Int32) (a3 : Int64) (σ : Mm) : Option (Int32 × Mm) := c_I (fX12_wrongPlace o a1 a2 σ) (fun x3 σ1 => if x3 = 0 then (g_ar σ1 o 2 4 a1 (fun x8 => c_L (fX12_cut a3 x8 σ1) (fun x11 σ9 => s_la σ9 o 4 240 (((60 : Int32) * a1) + a2) x11 (fun σ12 => c_I (fX12_is o x3 σ12) (fun x15 σ13 => b_z x15 σ13))))) else (c_I (fX12_is o x3 σ1) (fun x6 σ4 => b_z x6 σ4)))
set_option maxRecDepth 100000 in
set_option maxHeartbeats 4000000 in
theorem ctX12_write (l : Launch) (E : EV) (o : Nat) (a1 : Int32) (a2 : Int32) (a3 : Int64) (ho : KD o = 12) (σ : Mm) {xr : Int32} {τ : Mm} (h : fX12_write o a1 a2 a3 σ = some (xr, τ)) : Ct l E mX12_write 2 [.ref (e_a E o 0), .int a1, .int a2, .long a3] σ (some (.int xr), τ) := by
  refine Ct.of (by decide +kernel) (Nat.le_of_ble_eq_true rfl) ?_
  show Jd l E mX12_write 2 (some (.int xr), τ) σ 0 [(0, .ref (e_a E o 0)), (1, .int a1), (2, .int a2), (3, .long a3)] []
  unfold fX12_write at h
  refine J_aload_n (pc := 0) 0 dX12_write_0 rfl ?_
  refine J_iload_n (pc := 1) 1 dX12_write_1 rfl ?_
  refine J_iload_n (pc := 2) 2 dX12_write_2 rfl ?_
  obtain ⟨x3, σ1, hc2, h⟩ := cI_t h
  refine J_cVi (pc := 3) (ctX12_wrongPlace l E o a1 a2 ho σ hc2) dX12_write_3 mlX12_97 mvX12_wrongPlace ho rfl (by decide) rfl (Nat.le_of_ble_eq_true rfl) ?_
  refine J_istore (pc := 6) (L' := [(5, .int x3), (0, .ref (e_a E o 0)), (1, .int a1), (2, .int a2), (3, .long a3)]) dX12_write_6 (by decide) rfl ?_
  refine J_iload (pc := 8) 0 dX12_write_8 rfl ?_
  refine J_if_ne (pc := 10) 34 dX12_write_10 (by decide) h (fun h => ?_) (fun h => ?_)
  · refine J_aload_n (pc := 34) 1 dX12_write_34 rfl ?_
    refine J_iload (pc := 35) 0 dX12_write_35 rfl ?_
    obtain ⟨x6, σ4, hc5, h⟩ := cI_t h
    refine J_cVi (pc := 37) (ctX12_is l E o x3 ho σ1 hc5) dX12_write_37 mlX12_90 mvX12_is ho rfl (by decide) rfl (Nat.le_of_ble_eq_true rfl) ?_
    obtain ⟨hz7, h⟩ := bz_t h
    cases h
    exact J_iret (pc := 40) dX12_write_40 rfl hz7
  · refine J_aload_n (pc := 13) 1 dX12_write_13 rfl ?_
    refine J_getA (pc := 14) dX12_write_14 ho flX12_27 rfl ?_
    refine J_bipush (pc := 17) (60 : Int32) dX12_write_17 (by decide) ?_
    refine J_iload_n (pc := 19) 2 dX12_write_19 rfl ?_
    refine J_imul (pc := 20) dX12_write_20 ?_
    refine J_iload_n (pc := 21) 3 dX12_write_21 rfl ?_
    refine J_iadd (pc := 22) dX12_write_22 ?_
    refine J_lload_n (pc := 23) 4 dX12_write_23 rfl ?_
    refine J_aload_n (pc := 24) 1 dX12_write_24 rfl ?_
    refine J_getA (pc := 25) dX12_write_25 ho flX12_21 rfl ?_
    refine J_iload_n (pc := 28) 2 dX12_write_28 rfl ?_
    refine J_iald (pc := 29) dX12_write_29 ho ha12_2 h (fun x8 h => ?_)
    obtain ⟨x11, σ9, hc10, h⟩ := cL_t h
    refine J_cSl (pc := 30) (ctX12_cut l E a3 x8 σ1 hc10) dX12_write_30 mlX12_101 msX12_cut rfl (by decide) rfl (Nat.le_of_ble_eq_true rfl) ?_
    refine J_last (pc := 33) dX12_write_33 ho ha12_4 h (fun σ12 h => ?_)
    refine J_aload_n (pc := 34) 1 dX12_write_34 rfl ?_
    refine J_iload (pc := 35) 0 dX12_write_35 rfl ?_
    obtain ⟨x15, σ13, hc14, h⟩ := cI_t h
    refine J_cVi (pc := 37) (ctX12_is l E o x3 ho σ12 hc14) dX12_write_37 mlX12_90 mvX12_is ho rfl (by decide) rfl (Nat.le_of_ble_eq_true rfl) ?_
    obtain ⟨hz16, h⟩ := bz_t h
    cases h
    exact J_iret (pc := 40) dX12_write_40 rfl hz16
def fX12_read (o : Nat) (a1 : Int32) (a2 : Int32) (σ : Mm) : Option (Int64 × Mm) := c_I (fX12_wrongPlace o a1 a2 σ) (fun x3 σ1 => p_sc σ1 o 2 x3 (fun σ4 => r_sc σ4 o 2 (fun x5 => if x5 ≤ 0 then (g_la σ4 o 4 240 (((60 : Int32) * a1) + a2) (fun x6 => some (x6, σ4))) else (some ((-1 : Int64), σ4)))))
set_option maxRecDepth 100000 in
set_option maxHeartbeats 4000000 in
theorem ctX12_read (l : Launch) (E : EV) (o : Nat) (a1 : Int32) (a2 : Int32) (ho : KD o = 12) (σ : Mm) {xr : Int64} {τ : Mm} (h : fX12_read o a1 a2 σ = some (xr, τ)) : Ct l E mX12_read 2 [.ref (e_a E o 0), .int a1, .int a2] σ (some (.long xr), τ) := by
  refine Ct.of (by decide +kernel) (Nat.le_of_ble_eq_true rfl) ?_
  show Jd l E mX12_read 2 (some (.long xr), τ) σ 0 [(0, .ref (e_a E o 0)), (1, .int a1), (2, .int a2)] []
  unfold fX12_read at h
  refine J_aload_n (pc := 0) 0 dX12_read_0 rfl ?_
  refine J_aload_n (pc := 1) 0 dX12_read_1 rfl ?_
  refine J_iload_n (pc := 2) 1 dX12_read_2 rfl ?_
  refine J_iload_n (pc := 3) 2 dX12_read_3 rfl ?_
  obtain ⟨x3, σ1, hc2, h⟩ := cI_t h
  refine J_cVi (pc := 4) (ctX12_wrongPlace l E o a1 a2 ho σ hc2) dX12_read_4 mlX12_97 mvX12_wrongPlace ho rfl (by decide) rfl (Nat.le_of_ble_eq_true rfl) ?_
  refine J_putI (pc := 7) dX12_read_7 ho flX12_77 rfl h (fun σ4 h => ?_)
  refine J_aload_n (pc := 10) 0 dX12_read_10 rfl ?_
  refine J_getI (pc := 11) dX12_read_11 ho flX12_77 rfl h (fun x5 h => ?_)
  refine J_if_le (pc := 14) 23 dX12_read_14 (by decide) h (fun h => ?_) (fun h => ?_)
  · refine J_aload_n (pc := 23) 0 dX12_read_23 rfl ?_
    refine J_getA (pc := 24) dX12_read_24 ho flX12_27 rfl ?_
    refine J_bipush (pc := 27) (60 : Int32) dX12_read_27 (by decide) ?_
    refine J_iload_n (pc := 29) 1 dX12_read_29 rfl ?_
    refine J_imul (pc := 30) dX12_read_30 ?_
    refine J_iload_n (pc := 31) 2 dX12_read_31 rfl ?_
    refine J_iadd (pc := 32) dX12_read_32 ?_
    refine J_lald (pc := 33) dX12_read_33 ho ha12_4 h (fun x6 h => ?_)
    cases h
    exact J_lret (pc := 34) dX12_read_34 rfl
  · refine J_ldc2 (pc := 17) (-1 : Int64) dX12_read_17 klX12_105 ?_
    refine J_goto (pc := 20) 34 dX12_read_20 (by decide) ?_
    cases h
    exact J_lret (pc := 34) dX12_read_34 rfl
