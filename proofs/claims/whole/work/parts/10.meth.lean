def fX11_has (a1 : Int32) (a2 : Int32) (σ : Mm) : Option (Int32 × Mm) := if ((a1 >>> (a2 &&& 31)) &&& (1 : Int32)) = 0 then (some ((0 : Int32), σ)) else (some ((1 : Int32), σ))
set_option maxRecDepth 100000 in
set_option maxHeartbeats 4000000 in
theorem ctX11_has (l : Launch) (E : EV) (a1 : Int32) (a2 : Int32) (σ : Mm) {xr : Int32} {τ : Mm} (h : fX11_has a1 a2 σ = some (xr, τ)) : Ct l E mX11_has 0 [.int a1, .int a2] σ (some (.int xr), τ) := by
  refine Ct.of (by decide +kernel) (Nat.le_of_ble_eq_true rfl) ?_
  show Jd l E mX11_has 0 (some (.int xr), τ) σ 0 [(0, .int a1), (1, .int a2)] []
  unfold fX11_has at h
  refine J_iload_n (pc := 0) 0 dX11_has_0 rfl ?_
  refine J_iload_n (pc := 1) 1 dX11_has_1 rfl ?_
  refine J_ishr (pc := 2) dX11_has_2 ?_
  refine J_iconst (pc := 3) (1 : Int32) dX11_has_3 (by decide) ?_
  refine J_iand (pc := 4) dX11_has_4 ?_
  refine J_if_eq (pc := 5) 12 dX11_has_5 (by decide) h (fun h => ?_) (fun h => ?_)
  · refine J_iconst (pc := 12) (0 : Int32) dX11_has_12 (by decide) ?_
    cases h
    exact J_iret (pc := 13) dX11_has_13 rfl rfl
  · refine J_iconst (pc := 8) (1 : Int32) dX11_has_8 (by decide) ?_
    refine J_goto (pc := 9) 13 dX11_has_9 (by decide) ?_
    cases h
    exact J_iret (pc := 13) dX11_has_13 rfl rfl
def fX11_with (a1 : Int32) (a2 : Int32) (a3 : Int32) (σ : Mm) : Option (Int32 × Mm) := if a3 = 0 then (some ((a1 &&& (((1 : Int32) <<< (a2 &&& 31)) ^^^ (-1 : Int32))), σ)) else (some ((a1 ||| ((1 : Int32) <<< (a2 &&& 31))), σ))
set_option maxRecDepth 100000 in
set_option maxHeartbeats 4000000 in
theorem ctX11_with (l : Launch) (E : EV) (a1 : Int32) (a2 : Int32) (a3 : Int32) (σ : Mm) {xr : Int32} {τ : Mm} (h : fX11_with a1 a2 a3 σ = some (xr, τ)) : Ct l E mX11_with 0 [.int a1, .int a2, .int a3] σ (some (.int xr), τ) := by
  refine Ct.of (by decide +kernel) (Nat.le_of_ble_eq_true rfl) ?_
  show Jd l E mX11_with 0 (some (.int xr), τ) σ 0 [(0, .int a1), (1, .int a2), (2, .int a3)] []
  unfold fX11_with at h
  refine J_iload_n (pc := 0) 2 dX11_with_0 rfl ?_
  refine J_if_eq (pc := 1) 12 dX11_with_1 (by decide) h (fun h => ?_) (fun h => ?_)
  · refine J_iload_n (pc := 12) 0 dX11_with_12 rfl ?_
    refine J_iconst (pc := 13) (1 : Int32) dX11_with_13 (by decide) ?_
    refine J_iload_n (pc := 14) 1 dX11_with_14 rfl ?_
    refine J_ishl (pc := 15) dX11_with_15 ?_
    refine J_iconst (pc := 16) (-1 : Int32) dX11_with_16 (by decide) ?_
    refine J_ixor (pc := 17) dX11_with_17 ?_
    refine J_iand (pc := 18) dX11_with_18 ?_
    cases h
    exact J_iret (pc := 19) dX11_with_19 rfl rfl
  · refine J_iload_n (pc := 4) 0 dX11_with_4 rfl ?_
    refine J_iconst (pc := 5) (1 : Int32) dX11_with_5 (by decide) ?_
    refine J_iload_n (pc := 6) 1 dX11_with_6 rfl ?_
    refine J_ishl (pc := 7) dX11_with_7 ?_
    refine J_ior (pc := 8) dX11_with_8 ?_
    refine J_goto (pc := 9) 19 dX11_with_9 (by decide) ?_
    cases h
    exact J_iret (pc := 19) dX11_with_19 rfl rfl
def fX0_find (o : Nat) (a1 : Int32) (a2 : Int32) (σ : Mm) : Option (Mm) := r_sc σ o 2 (fun x1 => c_I (fX11_has x1 a1 σ) (fun x4 σ2 => if x4 = 0 then (r_sc σ2 o 2 (fun x5 => c_I (fX11_with x5 a1 (1 : Int32) σ2) (fun x8 σ6 => p_sc σ6 o 2 x8 (fun σ9 => s_ar σ9 o 0 8 a1 a2 (fun σ10 => r_sc σ10 o 5 (fun x11 => s_ar σ10 o 1 8 x11 a1 (fun σ12 => r_sc σ12 o 5 (fun x13 => p_sc σ12 o 5 (x13 + (1 : Int32)) (fun σ14 => some σ14))))))))) else (some σ2)))
set_option maxRecDepth 100000 in
set_option maxHeartbeats 4000000 in
theorem ctX0_find (l : Launch) (E : EV) (o : Nat) (a1 : Int32) (a2 : Int32) (ho : KD o = 0) (σ : Mm) {τ : Mm} (h : fX0_find o a1 a2 σ = some τ) : Ct l E mX0_find 1 [.ref (e_a E o 0), .int a1, .int a2] σ (none, τ) := by
  refine Ct.of (by decide +kernel) (Nat.le_of_ble_eq_true rfl) ?_
  show Jd l E mX0_find 1 (none, τ) σ 0 [(0, .ref (e_a E o 0)), (1, .int a1), (2, .int a2)] []
  unfold fX0_find at h
  refine J_aload_n (pc := 0) 0 dX0_find_0 rfl ?_
  refine J_getI (pc := 1) dX0_find_1 ho flX0_29 rfl h (fun x1 h => ?_)
  refine J_iload_n (pc := 4) 1 dX0_find_4 rfl ?_
  obtain ⟨x4, σ2, hc3, h⟩ := cI_t h
  refine J_cNi (pc := 5) (host := "VaneTown") (ctX11_has l E x1 a1 σ hc3) dX0_find_5 mnX0_43 msX11_has rfl (by decide) rfl (Nat.le_of_ble_eq_true rfl) ?_
  refine J_if_eq (pc := 8) 12 dX0_find_8 (by decide) h (fun h => ?_) (fun h => ?_)
  · refine J_aload_n (pc := 12) 0 dX0_find_12 rfl ?_
    refine J_aload_n (pc := 13) 0 dX0_find_13 rfl ?_
    refine J_getI (pc := 14) dX0_find_14 ho flX0_29 rfl h (fun x5 h => ?_)
    refine J_iload_n (pc := 17) 1 dX0_find_17 rfl ?_
    refine J_iconst (pc := 18) (1 : Int32) dX0_find_18 (by decide) ?_
    obtain ⟨x8, σ6, hc7, h⟩ := cI_t h
    refine J_cNi (pc := 19) (host := "VaneTown") (ctX11_with l E x5 a1 (1 : Int32) σ2 hc7) dX0_find_19 mnX0_47 msX11_with rfl (by decide) rfl (Nat.le_of_ble_eq_true rfl) ?_
    refine J_putI (pc := 22) dX0_find_22 ho flX0_29 rfl h (fun σ9 h => ?_)
    refine J_aload_n (pc := 25) 0 dX0_find_25 rfl ?_
    refine J_getA (pc := 26) dX0_find_26 ho flX0_9 rfl ?_
    refine J_iload_n (pc := 29) 1 dX0_find_29 rfl ?_
    refine J_iload_n (pc := 30) 2 dX0_find_30 rfl ?_
    refine J_iast (pc := 31) dX0_find_31 ho ha0_0 h (fun σ10 h => ?_)
    refine J_aload_n (pc := 32) 0 dX0_find_32 rfl ?_
    refine J_getA (pc := 33) dX0_find_33 ho flX0_15 rfl ?_
    refine J_aload_n (pc := 36) 0 dX0_find_36 rfl ?_
    refine J_getI (pc := 37) dX0_find_37 ho flX0_32 rfl h (fun x11 h => ?_)
    refine J_iload_n (pc := 40) 1 dX0_find_40 rfl ?_
    refine J_iast (pc := 41) dX0_find_41 ho ha0_1 h (fun σ12 h => ?_)
    refine J_aload_n (pc := 42) 0 dX0_find_42 rfl ?_
    refine J_dup (pc := 43) dX0_find_43 rfl ?_
    refine J_getI (pc := 44) dX0_find_44 ho flX0_32 rfl h (fun x13 h => ?_)
    refine J_iconst (pc := 47) (1 : Int32) dX0_find_47 (by decide) ?_
    refine J_iadd (pc := 48) dX0_find_48 ?_
    refine J_putI (pc := 49) dX0_find_49 ho flX0_32 rfl h (fun σ14 h => ?_)
    cases h
    exact J_vret (pc := 52) dX0_find_52 rfl
  · cases h
    exact J_vret (pc := 11) dX0_find_11 rfl
def fX0_findFrom_2 (o : Nat) (a1 : Int32) : Nat → Int32 → Mm → Option (Mm)
  | 0, _, _ => none
  | n + 1, v2, σ => r_rf σ o 0 2 (fun q1 => r_sc σ q1 2 (fun x2 => if x2 ≤ v2 then (some σ) else (r_sc σ o 1 (fun x3 => c_I (fX11_has x3 v2 σ) (fun x6 σ4 => if x6 = 0 then (g_ar σ4 o 0 8 a1 (fun x7 => r_rf σ4 o 0 2 (fun q8 => g_ar σ4 q8 9 10 v2 (fun x9 => r_rf σ4 o 0 2 (fun q10 => g_ar σ4 q10 7 10 v2 (fun x11 => if x11 = a1 then (r_rf σ4 o 0 2 (fun q18 => g_ar σ4 q18 8 10 v2 (fun x19 => c_V (fX0_find o x19 (x7 * x9) σ4) (fun σ20 => (fX0_findFrom_2 o a1 n) (v2 + (1 : Int32)) σ20)))) else (r_rf σ4 o 0 2 (fun q12 => g_ar σ4 q12 8 10 v2 (fun x13 => if x13 = a1 then (r_rf σ4 o 0 2 (fun q14 => g_ar σ4 q14 7 10 v2 (fun x15 => c_V (fX0_find o x15 (x7 * x9) σ4) (fun σ16 => (fX0_findFrom_2 o a1 n) (v2 + (1 : Int32)) σ16)))) else ((fX0_findFrom_2 o a1 n) (v2 + (1 : Int32)) σ4)))))))))) else ((fX0_findFrom_2 o a1 n) (v2 + (1 : Int32)) σ4))))))
set_option maxRecDepth 100000 in
set_option maxHeartbeats 4000000 in
theorem tX0_findFrom_2 (l : Launch) (E : EV) {τ : Mm} (o : Nat) (a1 : Int32) (ho : KD o = 0) : ∀ (n : Nat) (v2 : Int32) (σ : Mm), fX0_findFrom_2 o a1 n v2 σ = some τ → Jd l E mX0_findFrom 2 (none, τ) σ 2 [(0, .ref (e_a E o 0)), (1, .int a1), (2, .int v2)] [] := by
  intro n
  induction n with
  | zero => intro v2 σ h; rw [fX0_findFrom_2] at h; cases h
  | succ n ih =>
    intro v2 σ h
    rw [fX0_findFrom_2] at h
    refine J_iload_n (pc := 2) 2 dX0_findFrom_2 rfl ?_
    refine J_aload_n (pc := 3) 0 dX0_findFrom_3 rfl ?_
    refine J_getR (pc := 4) dX0_findFrom_4 ho flX0_21 rfl h (fun q1 hq1 h => ?_)
    refine J_getI (pc := 7) dX0_findFrom_7 hq1 flX0_51 rfl h (fun x2 h => ?_)
    refine J_icmp_ge (pc := 10) 107 dX0_findFrom_10 (by decide) h (fun h => ?_) (fun h => ?_)
    · cases h
      exact J_vret (pc := 107) dX0_findFrom_107 rfl
    · refine J_aload_n (pc := 13) 0 dX0_findFrom_13 rfl ?_
      refine J_getI (pc := 14) dX0_findFrom_14 ho flX0_25 rfl h (fun x3 h => ?_)
      refine J_iload_n (pc := 17) 2 dX0_findFrom_17 rfl ?_
      obtain ⟨x6, σ4, hc5, h⟩ := cI_t h
      refine J_cNi (pc := 18) (host := "VaneTown") (ctX11_has l E x3 v2 σ hc5) dX0_findFrom_18 mnX0_43 msX11_has rfl (by decide) rfl (Nat.le_of_ble_eq_true rfl) ?_
      refine J_if_eq (pc := 21) 27 dX0_findFrom_21 (by decide) h (fun h => ?_) (fun h => ?_)
      · refine J_aload_n (pc := 27) 0 dX0_findFrom_27 rfl ?_
        refine J_getA (pc := 28) dX0_findFrom_28 ho flX0_9 rfl ?_
        refine J_iload_n (pc := 31) 1 dX0_findFrom_31 rfl ?_
        refine J_iald (pc := 32) dX0_findFrom_32 ho ha0_0 h (fun x7 h => ?_)
        refine J_aload_n (pc := 33) 0 dX0_findFrom_33 rfl ?_
        refine J_getR (pc := 34) dX0_findFrom_34 ho flX0_21 rfl h (fun q8 hq8 h => ?_)
        refine J_getA (pc := 37) dX0_findFrom_37 hq8 flX0_56 rfl ?_
        refine J_iload_n (pc := 40) 2 dX0_findFrom_40 rfl ?_
        refine J_iald (pc := 41) dX0_findFrom_41 hq8 ha2_9 h (fun x9 h => ?_)
        refine J_imul (pc := 42) dX0_findFrom_42 ?_
        refine J_istore_n (pc := 43) (L' := [(3, .int (x7 * x9)), (0, .ref (e_a E o 0)), (1, .int a1), (2, .int v2)]) dX0_findFrom_43 (by decide) rfl ?_
        refine J_aload_n (pc := 44) 1 dX0_findFrom_44 rfl ?_
        refine J_getR (pc := 45) dX0_findFrom_45 ho flX0_21 rfl h (fun q10 hq10 h => ?_)
        refine J_getA (pc := 48) dX0_findFrom_48 hq10 flX0_59 rfl ?_
        refine J_iload_n (pc := 51) 3 dX0_findFrom_51 rfl ?_
        refine J_iald (pc := 52) dX0_findFrom_52 hq10 ha2_7 h (fun x11 h => ?_)
        refine J_iload_n (pc := 53) 2 dX0_findFrom_53 rfl ?_
        refine J_icmp_ne (pc := 54) 74 dX0_findFrom_54 (by decide) h (fun h => ?_) (fun h => ?_)
        · refine J_aload_n (pc := 74) 1 dX0_findFrom_74 rfl ?_
          refine J_getR (pc := 75) dX0_findFrom_75 ho flX0_21 rfl h (fun q12 hq12 h => ?_)
          refine J_getA (pc := 78) dX0_findFrom_78 hq12 flX0_62 rfl ?_
          refine J_iload_n (pc := 81) 3 dX0_findFrom_81 rfl ?_
          refine J_iald (pc := 82) dX0_findFrom_82 hq12 ha2_8 h (fun x13 h => ?_)
          refine J_iload_n (pc := 83) 2 dX0_findFrom_83 rfl ?_
          refine J_icmp_ne (pc := 84) 101 dX0_findFrom_84 (by decide) h (fun h => ?_) (fun h => ?_)
          · refine J_iinc (pc := 101) (L' := [(2, .int (v2 + (1 : Int32))), (3, .int (x7 * x9)), (0, .ref (e_a E o 0)), (1, .int a1)]) 3 (v2 + (1 : Int32)) dX0_findFrom_101 rfl (by rfl) (by decide) rfl ?_
            refine J_goto (pc := 104) 2 dX0_findFrom_104 (by decide) ?_
            refine J_sub (L' := [(0, .ref (e_a E o 0)), (1, .int a1), (2, .int (v2 + (1 : Int32)))]) [2, 3, 0] rfl ?_
            exact ih (v2 + (1 : Int32)) σ4 h
          · refine J_aload_n (pc := 87) 1 dX0_findFrom_87 rfl ?_
            refine J_aload_n (pc := 88) 1 dX0_findFrom_88 rfl ?_
            refine J_getR (pc := 89) dX0_findFrom_89 ho flX0_21 rfl h (fun q14 hq14 h => ?_)
            refine J_getA (pc := 92) dX0_findFrom_92 hq14 flX0_59 rfl ?_
            refine J_iload_n (pc := 95) 3 dX0_findFrom_95 rfl ?_
            refine J_iald (pc := 96) dX0_findFrom_96 hq14 ha2_7 h (fun x15 h => ?_)
            refine J_iload_n (pc := 97) 0 dX0_findFrom_97 rfl ?_
            obtain ⟨σ16, hc17, h⟩ := cV_t h
            refine J_cVv (pc := 98) (ctX0_find l E o x15 (x7 * x9) ho σ4 hc17) dX0_findFrom_98 mlX0_35 mvX0_find ho rfl (by decide) rfl (Nat.le_of_ble_eq_true rfl) ?_
            refine J_iinc (pc := 101) (L' := [(2, .int (v2 + (1 : Int32))), (3, .int (x7 * x9)), (0, .ref (e_a E o 0)), (1, .int a1)]) 3 (v2 + (1 : Int32)) dX0_findFrom_101 rfl (by rfl) (by decide) rfl ?_
            refine J_goto (pc := 104) 2 dX0_findFrom_104 (by decide) ?_
            refine J_sub (L' := [(0, .ref (e_a E o 0)), (1, .int a1), (2, .int (v2 + (1 : Int32)))]) [2, 3, 0] rfl ?_
            exact ih (v2 + (1 : Int32)) σ16 h
        · refine J_aload_n (pc := 57) 1 dX0_findFrom_57 rfl ?_
          refine J_aload_n (pc := 58) 1 dX0_findFrom_58 rfl ?_
          refine J_getR (pc := 59) dX0_findFrom_59 ho flX0_21 rfl h (fun q18 hq18 h => ?_)
          refine J_getA (pc := 62) dX0_findFrom_62 hq18 flX0_62 rfl ?_
          refine J_iload_n (pc := 65) 3 dX0_findFrom_65 rfl ?_
          refine J_iald (pc := 66) dX0_findFrom_66 hq18 ha2_8 h (fun x19 h => ?_)
          refine J_iload_n (pc := 67) 0 dX0_findFrom_67 rfl ?_
          obtain ⟨σ20, hc21, h⟩ := cV_t h
          refine J_cVv (pc := 68) (ctX0_find l E o x19 (x7 * x9) ho σ4 hc21) dX0_findFrom_68 mlX0_35 mvX0_find ho rfl (by decide) rfl (Nat.le_of_ble_eq_true rfl) ?_
          refine J_goto (pc := 71) 101 dX0_findFrom_71 (by decide) ?_
          refine J_iinc (pc := 101) (L' := [(2, .int (v2 + (1 : Int32))), (3, .int (x7 * x9)), (0, .ref (e_a E o 0)), (1, .int a1)]) 3 (v2 + (1 : Int32)) dX0_findFrom_101 rfl (by rfl) (by decide) rfl ?_
          refine J_goto (pc := 104) 2 dX0_findFrom_104 (by decide) ?_
          refine J_sub (L' := [(0, .ref (e_a E o 0)), (1, .int a1), (2, .int (v2 + (1 : Int32)))]) [2, 3, 0] rfl ?_
          exact ih (v2 + (1 : Int32)) σ20 h
      · refine J_goto (pc := 24) 101 dX0_findFrom_24 (by decide) ?_
        refine J_iinc (pc := 101) (L' := [(2, .int (v2 + (1 : Int32))), (0, .ref (e_a E o 0)), (1, .int a1)]) 2 (v2 + (1 : Int32)) dX0_findFrom_101 rfl (by rfl) (by decide) rfl ?_
        refine J_goto (pc := 104) 2 dX0_findFrom_104 (by decide) ?_
        refine J_sub (L' := [(0, .ref (e_a E o 0)), (1, .int a1), (2, .int (v2 + (1 : Int32)))]) [1, 2, 0] rfl ?_
        exact ih (v2 + (1 : Int32)) σ4 h
def fX0_findFrom (o : Nat) (a1 : Int32) (σ : Mm) : Option (Mm) := fX0_findFrom_2 o a1 FU (0 : Int32) σ
set_option maxRecDepth 100000 in
set_option maxHeartbeats 4000000 in
theorem ctX0_findFrom (l : Launch) (E : EV) (o : Nat) (a1 : Int32) (ho : KD o = 0) (σ : Mm) {τ : Mm} (h : fX0_findFrom o a1 σ = some τ) : Ct l E mX0_findFrom 2 [.ref (e_a E o 0), .int a1] σ (none, τ) := by
  refine Ct.of (by decide +kernel) (Nat.le_of_ble_eq_true rfl) ?_
  show Jd l E mX0_findFrom 2 (none, τ) σ 0 [(0, .ref (e_a E o 0)), (1, .int a1)] []
  unfold fX0_findFrom at h
  refine J_iconst (pc := 0) (0 : Int32) dX0_findFrom_0 (by decide) ?_
  refine J_istore_n (pc := 1) (L' := [(2, .int (0 : Int32)), (0, .ref (e_a E o 0)), (1, .int a1)]) dX0_findFrom_1 (by decide) rfl ?_
  refine J_sub (L' := [(0, .ref (e_a E o 0)), (1, .int a1), (2, .int (0 : Int32))]) [1, 2, 0] rfl ?_
  exact tX0_findFrom_2 l E o a1 ho FU (0 : Int32) σ h
def fX0_search_29 (o : Nat) (a1 : Nat) (a2 : Int32) (a3 : Int32) : Nat → Int32 → Mm → Option (Mm)
  | 0, _, _ => none
  | n + 1, v4, σ => r_sc σ o 5 (fun x7 => if x7 ≤ v4 then (some σ) else (g_ar σ o 1 8 v4 (fun x8 => c_V (fX0_findFrom o x8 σ) (fun σ9 => (fX0_search_29 o a1 a2 a3 n) (v4 + (1 : Int32)) σ9))))
set_option maxRecDepth 100000 in
set_option maxHeartbeats 4000000 in
theorem tX0_search_29 (l : Launch) (E : EV) {τ : Mm} (o : Nat) (a1 : Nat) (a2 : Int32) (a3 : Int32) (ho : KD o = 0) (ha1 : KD a1 = 2) : ∀ (n : Nat) (v4 : Int32) (σ : Mm), fX0_search_29 o a1 a2 a3 n v4 σ = some τ → Jd l E mX0_search 3 (none, τ) σ 29 [(0, .ref (e_a E o 0)), (4, .int v4)] [] := by
  intro n
  induction n with
  | zero => intro v4 σ h; rw [fX0_search_29] at h; cases h
  | succ n ih =>
    intro v4 σ h
    rw [fX0_search_29] at h
    refine J_iload (pc := 29) 1 dX0_search_29 rfl ?_
    refine J_aload_n (pc := 31) 0 dX0_search_31 rfl ?_
    refine J_getI (pc := 32) dX0_search_32 ho flX0_32 rfl h (fun x7 h => ?_)
    refine J_icmp_ge (pc := 35) 55 dX0_search_35 (by decide) h (fun h => ?_) (fun h => ?_)
    · cases h
      exact J_vret (pc := 55) dX0_search_55 rfl
    · refine J_aload_n (pc := 38) 0 dX0_search_38 rfl ?_
      refine J_aload_n (pc := 39) 0 dX0_search_39 rfl ?_
      refine J_getA (pc := 40) dX0_search_40 ho flX0_15 rfl ?_
      refine J_iload (pc := 43) 1 dX0_search_43 rfl ?_
      refine J_iald (pc := 45) dX0_search_45 ho ha0_1 h (fun x8 h => ?_)
      obtain ⟨σ9, hc10, h⟩ := cV_t h
      refine J_cVv (pc := 46) (ctX0_findFrom l E o x8 ho σ hc10) dX0_search_46 mlX0_39 mvX0_findFrom ho rfl (by decide) rfl (Nat.le_of_ble_eq_true rfl) ?_
      refine J_iinc (pc := 49) (L' := [(4, .int (v4 + (1 : Int32))), (0, .ref (e_a E o 0))]) 1 (v4 + (1 : Int32)) dX0_search_49 rfl (by rfl) (by decide) rfl ?_
      refine J_goto (pc := 52) 29 dX0_search_52 (by decide) ?_
      refine J_sub (L' := [(0, .ref (e_a E o 0)), (4, .int (v4 + (1 : Int32)))]) [1, 0] rfl ?_
      exact ih (v4 + (1 : Int32)) σ9 h
def fX0_search (o : Nat) (a1 : Nat) (a2 : Int32) (a3 : Int32) (σ : Mm) : Option (Mm) := p_rf σ o 0 a1 (fun σ1 => p_sc σ1 o 1 a2 (fun σ2 => p_sc σ2 o 2 (0 : Int32) (fun σ3 => p_sc σ3 o 5 (0 : Int32) (fun σ4 => c_V (fX0_find o a3 (1 : Int32) σ4) (fun σ5 => fX0_search_29 o a1 a2 a3 FU (0 : Int32) σ5)))))
set_option maxRecDepth 100000 in
set_option maxHeartbeats 4000000 in
theorem ctX0_search (l : Launch) (E : EV) (o : Nat) (a1 : Nat) (a2 : Int32) (a3 : Int32) (ho : KD o = 0) (ha1 : KD a1 = 2) (σ : Mm) {τ : Mm} (h : fX0_search o a1 a2 a3 σ = some τ) : Ct l E mX0_search 3 [.ref (e_a E o 0), .ref (e_a E a1 0), .int a2, .int a3] σ (none, τ) := by
  refine Ct.of (by decide +kernel) (Nat.le_of_ble_eq_true rfl) ?_
  show Jd l E mX0_search 3 (none, τ) σ 0 [(0, .ref (e_a E o 0)), (1, .ref (e_a E a1 0)), (2, .int a2), (3, .int a3)] []
  unfold fX0_search at h
  refine J_aload_n (pc := 0) 0 dX0_search_0 rfl ?_
  refine J_aload_n (pc := 1) 1 dX0_search_1 rfl ?_
  refine J_putR (pc := 2) dX0_search_2 ho flX0_21 rfl h (fun σ1 h => ?_)
  refine J_aload_n (pc := 5) 0 dX0_search_5 rfl ?_
  refine J_iload_n (pc := 6) 2 dX0_search_6 rfl ?_
  refine J_putI (pc := 7) dX0_search_7 ho flX0_25 rfl h (fun σ2 h => ?_)
  refine J_aload_n (pc := 10) 0 dX0_search_10 rfl ?_
  refine J_iconst (pc := 11) (0 : Int32) dX0_search_11 (by decide) ?_
  refine J_putI (pc := 12) dX0_search_12 ho flX0_29 rfl h (fun σ3 h => ?_)
  refine J_aload_n (pc := 15) 0 dX0_search_15 rfl ?_
  refine J_iconst (pc := 16) (0 : Int32) dX0_search_16 (by decide) ?_
  refine J_putI (pc := 17) dX0_search_17 ho flX0_32 rfl h (fun σ4 h => ?_)
  refine J_aload_n (pc := 20) 0 dX0_search_20 rfl ?_
  refine J_iload_n (pc := 21) 3 dX0_search_21 rfl ?_
  refine J_iconst (pc := 22) (1 : Int32) dX0_search_22 (by decide) ?_
  obtain ⟨σ5, hc6, h⟩ := cV_t h
  refine J_cVv (pc := 23) (ctX0_find l E o a3 (1 : Int32) ho σ4 hc6) dX0_search_23 mlX0_35 mvX0_find ho rfl (by decide) rfl (Nat.le_of_ble_eq_true rfl) ?_
  refine J_iconst (pc := 26) (0 : Int32) dX0_search_26 (by decide) ?_
  refine J_istore (pc := 27) (L' := [(4, .int (0 : Int32)), (0, .ref (e_a E o 0)), (1, .ref (e_a E a1 0)), (2, .int a2), (3, .int a3)]) dX0_search_27 (by decide) rfl ?_
  refine J_sub (L' := [(0, .ref (e_a E o 0)), (4, .int (0 : Int32))]) [1, 0] rfl ?_
  exact tX0_search_29 l E o a1 a2 a3 ho ha1 FU (0 : Int32) σ5 h
def fX0_turnsBothWays_2 (o : Nat) : Nat → Int32 → Mm → Option (Int32 × Mm)
  | 0, _, _ => none
  | n + 1, v1, σ => r_rf σ o 0 2 (fun q1 => r_sc σ q1 2 (fun x2 => if x2 ≤ v1 then (some ((0 : Int32), σ)) else (r_rf σ o 0 2 (fun q3 => g_ar σ q3 7 10 v1 (fun x4 => r_rf σ o 0 2 (fun q5 => g_ar σ q5 8 10 v1 (fun x6 => r_sc σ o 1 (fun x7 => c_I (fX11_has x7 v1 σ) (fun x10 σ8 => if x10 = 0 then (r_sc σ8 o 2 (fun x11 => c_I (fX11_has x11 x4 σ8) (fun x14 σ12 => if x14 = 0 then ((fX0_turnsBothWays_2 o n) (v1 + (1 : Int32)) σ12) else (g_ar σ12 o 0 8 x4 (fun x15 => r_rf σ12 o 0 2 (fun q16 => g_ar σ12 q16 9 10 v1 (fun x17 => g_ar σ12 o 0 8 x6 (fun x18 => if (x15 * x17) = x18 then ((fX0_turnsBothWays_2 o n) (v1 + (1 : Int32)) σ12) else (some ((1 : Int32), σ12)))))))))) else ((fX0_turnsBothWays_2 o n) (v1 + (1 : Int32)) σ8))))))))))
set_option maxRecDepth 100000 in
set_option maxHeartbeats 4000000 in
theorem tX0_turnsBothWays_2 (l : Launch) (E : EV) {xr : Int32} {τ : Mm} (o : Nat) (ho : KD o = 0) : ∀ (n : Nat) (v1 : Int32) (σ : Mm), fX0_turnsBothWays_2 o n v1 σ = some (xr, τ) → Jd l E mX0_turnsBothWays 1 (some (.int xr), τ) σ 2 [(0, .ref (e_a E o 0)), (1, .int v1)] [] := by
  intro n
  induction n with
  | zero => intro v1 σ h; rw [fX0_turnsBothWays_2] at h; cases h
  | succ n ih =>
    intro v1 σ h
    rw [fX0_turnsBothWays_2] at h
    refine J_iload_n (pc := 2) 1 dX0_turnsBothWays_2 rfl ?_
    refine J_aload_n (pc := 3) 0 dX0_turnsBothWays_3 rfl ?_
    refine J_getR (pc := 4) dX0_turnsBothWays_4 ho flX0_21 rfl h (fun q1 hq1 h => ?_)
    refine J_getI (pc := 7) dX0_turnsBothWays_7 hq1 flX0_51 rfl h (fun x2 h => ?_)
    refine J_icmp_ge (pc := 10) 88 dX0_turnsBothWays_10 (by decide) h (fun h => ?_) (fun h => ?_)
    · refine J_iconst (pc := 88) (0 : Int32) dX0_turnsBothWays_88 (by decide) ?_
      cases h
      exact J_iret (pc := 89) dX0_turnsBothWays_89 rfl rfl
    · refine J_aload_n (pc := 13) 0 dX0_turnsBothWays_13 rfl ?_
      refine J_getR (pc := 14) dX0_turnsBothWays_14 ho flX0_21 rfl h (fun q3 hq3 h => ?_)
      refine J_getA (pc := 17) dX0_turnsBothWays_17 hq3 flX0_59 rfl ?_
      refine J_iload_n (pc := 20) 1 dX0_turnsBothWays_20 rfl ?_
      refine J_iald (pc := 21) dX0_turnsBothWays_21 hq3 ha2_7 h (fun x4 h => ?_)
      refine J_istore_n (pc := 22) (L' := [(2, .int x4), (0, .ref (e_a E o 0)), (1, .int v1)]) dX0_turnsBothWays_22 (by decide) rfl ?_
      refine J_aload_n (pc := 23) 1 dX0_turnsBothWays_23 rfl ?_
      refine J_getR (pc := 24) dX0_turnsBothWays_24 ho flX0_21 rfl h (fun q5 hq5 h => ?_)
      refine J_getA (pc := 27) dX0_turnsBothWays_27 hq5 flX0_62 rfl ?_
      refine J_iload_n (pc := 30) 2 dX0_turnsBothWays_30 rfl ?_
      refine J_iald (pc := 31) dX0_turnsBothWays_31 hq5 ha2_8 h (fun x6 h => ?_)
      refine J_istore_n (pc := 32) (L' := [(3, .int x6), (2, .int x4), (0, .ref (e_a E o 0)), (1, .int v1)]) dX0_turnsBothWays_32 (by decide) rfl ?_
      refine J_aload_n (pc := 33) 2 dX0_turnsBothWays_33 rfl ?_
      refine J_getI (pc := 34) dX0_turnsBothWays_34 ho flX0_25 rfl h (fun x7 h => ?_)
      refine J_iload_n (pc := 37) 3 dX0_turnsBothWays_37 rfl ?_
      obtain ⟨x10, σ8, hc9, h⟩ := cI_t h
      refine J_cNi (pc := 38) (host := "VaneTown") (ctX11_has l E x7 v1 σ hc9) dX0_turnsBothWays_38 mnX0_43 msX11_has rfl (by decide) rfl (Nat.le_of_ble_eq_true rfl) ?_
      refine J_if_ne (pc := 41) 82 dX0_turnsBothWays_41 (by decide) h (fun h => ?_) (fun h => ?_)
      · refine J_iinc (pc := 82) (L' := [(1, .int (v1 + (1 : Int32))), (3, .int x6), (2, .int x4), (0, .ref (e_a E o 0))]) 3 (v1 + (1 : Int32)) dX0_turnsBothWays_82 rfl (by rfl) (by decide) rfl ?_
        refine J_goto (pc := 85) 2 dX0_turnsBothWays_85 (by decide) ?_
        refine J_sub (L' := [(0, .ref (e_a E o 0)), (1, .int (v1 + (1 : Int32)))]) [3, 0] rfl ?_
        exact ih (v1 + (1 : Int32)) σ8 h
      · refine J_aload_n (pc := 44) 2 dX0_turnsBothWays_44 rfl ?_
        refine J_getI (pc := 45) dX0_turnsBothWays_45 ho flX0_29 rfl h (fun x11 h => ?_)
        refine J_iload_n (pc := 48) 1 dX0_turnsBothWays_48 rfl ?_
        obtain ⟨x14, σ12, hc13, h⟩ := cI_t h
        refine J_cNi (pc := 49) (host := "VaneTown") (ctX11_has l E x11 x4 σ8 hc13) dX0_turnsBothWays_49 mnX0_43 msX11_has rfl (by decide) rfl (Nat.le_of_ble_eq_true rfl) ?_
        refine J_if_eq (pc := 52) 82 dX0_turnsBothWays_52 (by decide) h (fun h => ?_) (fun h => ?_)
        · refine J_iinc (pc := 82) (L' := [(1, .int (v1 + (1 : Int32))), (3, .int x6), (2, .int x4), (0, .ref (e_a E o 0))]) 3 (v1 + (1 : Int32)) dX0_turnsBothWays_82 rfl (by rfl) (by decide) rfl ?_
          refine J_goto (pc := 85) 2 dX0_turnsBothWays_85 (by decide) ?_
          refine J_sub (L' := [(0, .ref (e_a E o 0)), (1, .int (v1 + (1 : Int32)))]) [3, 0] rfl ?_
          exact ih (v1 + (1 : Int32)) σ12 h
        · refine J_aload_n (pc := 55) 2 dX0_turnsBothWays_55 rfl ?_
          refine J_getA (pc := 56) dX0_turnsBothWays_56 ho flX0_9 rfl ?_
          refine J_iload_n (pc := 59) 1 dX0_turnsBothWays_59 rfl ?_
          refine J_iald (pc := 60) dX0_turnsBothWays_60 ho ha0_0 h (fun x15 h => ?_)
          refine J_aload_n (pc := 61) 2 dX0_turnsBothWays_61 rfl ?_
          refine J_getR (pc := 62) dX0_turnsBothWays_62 ho flX0_21 rfl h (fun q16 hq16 h => ?_)
          refine J_getA (pc := 65) dX0_turnsBothWays_65 hq16 flX0_56 rfl ?_
          refine J_iload_n (pc := 68) 3 dX0_turnsBothWays_68 rfl ?_
          refine J_iald (pc := 69) dX0_turnsBothWays_69 hq16 ha2_9 h (fun x17 h => ?_)
          refine J_imul (pc := 70) dX0_turnsBothWays_70 ?_
          refine J_aload_n (pc := 71) 2 dX0_turnsBothWays_71 rfl ?_
          refine J_getA (pc := 72) dX0_turnsBothWays_72 ho flX0_9 rfl ?_
          refine J_iload_n (pc := 75) 0 dX0_turnsBothWays_75 rfl ?_
          refine J_iald (pc := 76) dX0_turnsBothWays_76 ho ha0_0 h (fun x18 h => ?_)
          refine J_icmp_eq (pc := 77) 82 dX0_turnsBothWays_77 (by decide) h (fun h => ?_) (fun h => ?_)
          · refine J_iinc (pc := 82) (L' := [(1, .int (v1 + (1 : Int32))), (3, .int x6), (2, .int x4), (0, .ref (e_a E o 0))]) 3 (v1 + (1 : Int32)) dX0_turnsBothWays_82 rfl (by rfl) (by decide) rfl ?_
            refine J_goto (pc := 85) 2 dX0_turnsBothWays_85 (by decide) ?_
            refine J_sub (L' := [(0, .ref (e_a E o 0)), (1, .int (v1 + (1 : Int32)))]) [3, 0] rfl ?_
            exact ih (v1 + (1 : Int32)) σ12 h
          · refine J_iconst (pc := 80) (1 : Int32) dX0_turnsBothWays_80 (by decide) ?_
            cases h
            exact J_iret (pc := 81) dX0_turnsBothWays_81 rfl rfl
def fX0_turnsBothWays (o : Nat) (σ : Mm) : Option (Int32 × Mm) := fX0_turnsBothWays_2 o FU (0 : Int32) σ
set_option maxRecDepth 100000 in
set_option maxHeartbeats 4000000 in
theorem ctX0_turnsBothWays (l : Launch) (E : EV) (o : Nat) (ho : KD o = 0) (σ : Mm) {xr : Int32} {τ : Mm} (h : fX0_turnsBothWays o σ = some (xr, τ)) : Ct l E mX0_turnsBothWays 1 [.ref (e_a E o 0)] σ (some (.int xr), τ) := by
  refine Ct.of (by decide +kernel) (Nat.le_of_ble_eq_true rfl) ?_
  show Jd l E mX0_turnsBothWays 1 (some (.int xr), τ) σ 0 [(0, .ref (e_a E o 0))] []
  unfold fX0_turnsBothWays at h
  refine J_iconst (pc := 0) (0 : Int32) dX0_turnsBothWays_0 (by decide) ?_
  refine J_istore_n (pc := 1) (L' := [(1, .int (0 : Int32)), (0, .ref (e_a E o 0))]) dX0_turnsBothWays_1 (by decide) rfl ?_
  refine J_sub (L' := [(0, .ref (e_a E o 0)), (1, .int (0 : Int32))]) [1, 0] rfl ?_
  exact tX0_turnsBothWays_2 l E o ho FU (0 : Int32) σ h
def fX0_lockedVanes_8 (o : Nat) (a1 : Nat) (a2 : Int32) : Nat → Int32 → Int32 → Int32 → Mm → Option (Int32 × Mm)
  | 0, _, _, _, _ => none
  | n + 1, v3, v4, v5, σ => r_sc σ a1 1 (fun x1 => if x1 ≤ v5 then (some (v3, σ)) else (c_I (fX11_has v4 v5 σ) (fun x4 σ2 => if x4 = 0 then (c_V (fX0_search o a1 a2 v5 σ2) (fun σ5 => r_sc σ5 o 2 (fun x7 => c_I (fX0_turnsBothWays o σ5) (fun x10 σ8 => if x10 = 0 then ((fX0_lockedVanes_8 o a1 a2 n) v3 (v4 ||| x7) (v5 + (1 : Int32)) σ8) else (r_sc σ8 o 2 (fun x11 => (fX0_lockedVanes_8 o a1 a2 n) (v3 ||| x11) (v4 ||| x7) (v5 + (1 : Int32)) σ8)))))) else ((fX0_lockedVanes_8 o a1 a2 n) v3 v4 (v5 + (1 : Int32)) σ2))))
set_option maxRecDepth 100000 in
set_option maxHeartbeats 4000000 in
theorem tX0_lockedVanes_8 (l : Launch) (E : EV) {xr : Int32} {τ : Mm} (o : Nat) (a1 : Nat) (a2 : Int32) (ho : KD o = 0) (ha1 : KD a1 = 2) : ∀ (n : Nat) (v3 : Int32) (v4 : Int32) (v5 : Int32) (σ : Mm), fX0_lockedVanes_8 o a1 a2 n v3 v4 v5 σ = some (xr, τ) → Jd l E mX0_lockedVanes 4 (some (.int xr), τ) σ 8 [(0, .ref (e_a E o 0)), (1, .ref (e_a E a1 0)), (2, .int a2), (3, .int v3), (4, .int v4), (5, .int v5)] [] := by
  intro n
  induction n with
  | zero => intro v3 v4 v5 σ h; rw [fX0_lockedVanes_8] at h; cases h
  | succ n ih =>
    intro v3 v4 v5 σ h
    rw [fX0_lockedVanes_8] at h
    refine J_iload (pc := 8) 5 dX0_lockedVanes_8 rfl ?_
    refine J_aload_n (pc := 10) 1 dX0_lockedVanes_10 rfl ?_
    refine J_getI (pc := 11) dX0_lockedVanes_11 ha1 flX0_65 rfl h (fun x1 h => ?_)
    refine J_icmp_ge (pc := 14) 67 dX0_lockedVanes_14 (by decide) h (fun h => ?_) (fun h => ?_)
    · refine J_iload_n (pc := 67) 3 dX0_lockedVanes_67 rfl ?_
      cases h
      exact J_iret (pc := 68) dX0_lockedVanes_68 rfl rfl
    · refine J_iload (pc := 17) 4 dX0_lockedVanes_17 rfl ?_
      refine J_iload (pc := 19) 5 dX0_lockedVanes_19 rfl ?_
      obtain ⟨x4, σ2, hc3, h⟩ := cI_t h
      refine J_cNi (pc := 21) (host := "VaneTown") (ctX11_has l E v4 v5 σ hc3) dX0_lockedVanes_21 mnX0_43 msX11_has rfl (by decide) rfl (Nat.le_of_ble_eq_true rfl) ?_
      refine J_if_eq (pc := 24) 30 dX0_lockedVanes_24 (by decide) h (fun h => ?_) (fun h => ?_)
      · refine J_aload_n (pc := 30) 0 dX0_lockedVanes_30 rfl ?_
        refine J_aload_n (pc := 31) 1 dX0_lockedVanes_31 rfl ?_
        refine J_iload_n (pc := 32) 2 dX0_lockedVanes_32 rfl ?_
        refine J_iload (pc := 33) 5 dX0_lockedVanes_33 rfl ?_
        obtain ⟨σ5, hc6, h⟩ := cV_t h
        refine J_cVv (pc := 35) (ctX0_search l E o a1 a2 v5 ho ha1 σ2 hc6) dX0_lockedVanes_35 mlX0_68 mvX0_search ho rfl (by decide) rfl (Nat.le_of_ble_eq_true rfl) ?_
        refine J_iload (pc := 38) 4 dX0_lockedVanes_38 rfl ?_
        refine J_aload_n (pc := 40) 0 dX0_lockedVanes_40 rfl ?_
        refine J_getI (pc := 41) dX0_lockedVanes_41 ho flX0_29 rfl h (fun x7 h => ?_)
        refine J_ior (pc := 44) dX0_lockedVanes_44 ?_
        refine J_istore (pc := 45) (L' := [(4, .int (v4 ||| x7)), (0, .ref (e_a E o 0)), (1, .ref (e_a E a1 0)), (2, .int a2), (3, .int v3), (5, .int v5)]) dX0_lockedVanes_45 (by decide) rfl ?_
        refine J_aload_n (pc := 47) 1 dX0_lockedVanes_47 rfl ?_
        obtain ⟨x10, σ8, hc9, h⟩ := cI_t h
        refine J_cVi (pc := 48) (ctX0_turnsBothWays l E o ho σ5 hc9) dX0_lockedVanes_48 mlX0_72 mvX0_turnsBothWays ho rfl (by decide) rfl (Nat.le_of_ble_eq_true rfl) ?_
        refine J_if_eq (pc := 51) 61 dX0_lockedVanes_51 (by decide) h (fun h => ?_) (fun h => ?_)
        · refine J_iinc (pc := 61) (L' := [(5, .int (v5 + (1 : Int32))), (4, .int (v4 ||| x7)), (0, .ref (e_a E o 0)), (1, .ref (e_a E a1 0)), (2, .int a2), (3, .int v3)]) 5 (v5 + (1 : Int32)) dX0_lockedVanes_61 rfl (by rfl) (by decide) rfl ?_
          refine J_goto (pc := 64) 8 dX0_lockedVanes_64 (by decide) ?_
          refine J_sub (L' := [(0, .ref (e_a E o 0)), (1, .ref (e_a E a1 0)), (2, .int a2), (3, .int v3), (4, .int (v4 ||| x7)), (5, .int (v5 + (1 : Int32)))]) [2, 3, 4, 5, 1, 0] rfl ?_
          exact ih v3 (v4 ||| x7) (v5 + (1 : Int32)) σ8 h
        · refine J_iload_n (pc := 54) 4 dX0_lockedVanes_54 rfl ?_
          refine J_aload_n (pc := 55) 1 dX0_lockedVanes_55 rfl ?_
          refine J_getI (pc := 56) dX0_lockedVanes_56 ho flX0_29 rfl h (fun x11 h => ?_)
          refine J_ior (pc := 59) dX0_lockedVanes_59 ?_
          refine J_istore_n (pc := 60) (L' := [(3, .int (v3 ||| x11)), (4, .int (v4 ||| x7)), (0, .ref (e_a E o 0)), (1, .ref (e_a E a1 0)), (2, .int a2), (5, .int v5)]) dX0_lockedVanes_60 (by decide) rfl ?_
          refine J_iinc (pc := 61) (L' := [(5, .int (v5 + (1 : Int32))), (3, .int (v3 ||| x11)), (4, .int (v4 ||| x7)), (0, .ref (e_a E o 0)), (1, .ref (e_a E a1 0)), (2, .int a2)]) 5 (v5 + (1 : Int32)) dX0_lockedVanes_61 rfl (by rfl) (by decide) rfl ?_
          refine J_goto (pc := 64) 8 dX0_lockedVanes_64 (by decide) ?_
          refine J_sub (L' := [(0, .ref (e_a E o 0)), (1, .ref (e_a E a1 0)), (2, .int a2), (3, .int (v3 ||| x11)), (4, .int (v4 ||| x7)), (5, .int (v5 + (1 : Int32)))]) [3, 4, 5, 1, 2, 0] rfl ?_
          exact ih (v3 ||| x11) (v4 ||| x7) (v5 + (1 : Int32)) σ8 h
      · refine J_goto (pc := 27) 61 dX0_lockedVanes_27 (by decide) ?_
        refine J_iinc (pc := 61) (L' := [(5, .int (v5 + (1 : Int32))), (0, .ref (e_a E o 0)), (1, .ref (e_a E a1 0)), (2, .int a2), (3, .int v3), (4, .int v4)]) 5 (v5 + (1 : Int32)) dX0_lockedVanes_61 rfl (by rfl) (by decide) rfl ?_
        refine J_goto (pc := 64) 8 dX0_lockedVanes_64 (by decide) ?_
        refine J_sub (L' := [(0, .ref (e_a E o 0)), (1, .ref (e_a E a1 0)), (2, .int a2), (3, .int v3), (4, .int v4), (5, .int (v5 + (1 : Int32)))]) [1, 2, 3, 4, 5, 0] rfl ?_
        exact ih v3 v4 (v5 + (1 : Int32)) σ2 h
def fX0_lockedVanes (o : Nat) (a1 : Nat) (a2 : Int32) (σ : Mm) : Option (Int32 × Mm) := fX0_lockedVanes_8 o a1 a2 FU (0 : Int32) (0 : Int32) (0 : Int32) σ
set_option maxRecDepth 100000 in
set_option maxHeartbeats 4000000 in
theorem ctX0_lockedVanes (l : Launch) (E : EV) (o : Nat) (a1 : Nat) (a2 : Int32) (ho : KD o = 0) (ha1 : KD a1 = 2) (σ : Mm) {xr : Int32} {τ : Mm} (h : fX0_lockedVanes o a1 a2 σ = some (xr, τ)) : Ct l E mX0_lockedVanes 4 [.ref (e_a E o 0), .ref (e_a E a1 0), .int a2] σ (some (.int xr), τ) := by
  refine Ct.of (by decide +kernel) (Nat.le_of_ble_eq_true rfl) ?_
  show Jd l E mX0_lockedVanes 4 (some (.int xr), τ) σ 0 [(0, .ref (e_a E o 0)), (1, .ref (e_a E a1 0)), (2, .int a2)] []
  unfold fX0_lockedVanes at h
  refine J_iconst (pc := 0) (0 : Int32) dX0_lockedVanes_0 (by decide) ?_
  refine J_istore_n (pc := 1) (L' := [(3, .int (0 : Int32)), (0, .ref (e_a E o 0)), (1, .ref (e_a E a1 0)), (2, .int a2)]) dX0_lockedVanes_1 (by decide) rfl ?_
  refine J_iconst (pc := 2) (0 : Int32) dX0_lockedVanes_2 (by decide) ?_
  refine J_istore (pc := 3) (L' := [(4, .int (0 : Int32)), (3, .int (0 : Int32)), (0, .ref (e_a E o 0)), (1, .ref (e_a E a1 0)), (2, .int a2)]) dX0_lockedVanes_3 (by decide) rfl ?_
  refine J_iconst (pc := 5) (0 : Int32) dX0_lockedVanes_5 (by decide) ?_
  refine J_istore (pc := 6) (L' := [(5, .int (0 : Int32)), (4, .int (0 : Int32)), (3, .int (0 : Int32)), (0, .ref (e_a E o 0)), (1, .ref (e_a E a1 0)), (2, .int a2)]) dX0_lockedVanes_6 (by decide) rfl ?_
  refine J_sub (L' := [(0, .ref (e_a E o 0)), (1, .ref (e_a E a1 0)), (2, .int a2), (3, .int (0 : Int32)), (4, .int (0 : Int32)), (5, .int (0 : Int32))]) [3, 4, 5, 2, 1, 0] rfl ?_
  exact tX0_lockedVanes_8 l E o a1 a2 ho ha1 FU (0 : Int32) (0 : Int32) (0 : Int32) σ h
def fX0_spreadSlack_2 (o : Nat) : Nat → Int32 → Mm → Option (Mm)
  | 0, _, _ => none
  | n + 1, v1, σ => r_rf σ o 0 2 (fun q1 => r_sc σ q1 2 (fun x2 => if x2 ≤ v1 then (some σ) else (r_sc σ o 1 (fun x3 => c_I (fX11_has x3 v1 σ) (fun x6 σ4 => if x6 = 0 then (r_rf σ4 o 0 2 (fun q7 => g_ar σ4 q7 7 10 v1 (fun x8 => r_rf σ4 o 0 2 (fun q9 => g_ar σ4 q9 8 10 v1 (fun x10 => g_ar σ4 o 2 8 x8 (fun x11 => g_ar σ4 o 2 8 x10 (fun x12 => r_rf σ4 o 0 2 (fun q13 => g_ar σ4 q13 10 10 v1 (fun x14 => s_ar σ4 o 2 8 x8 (if (x12 + x14) < x11 then (x12 + x14) else x11) (fun σ15 => g_ar σ15 o 2 8 x10 (fun x16 => g_ar σ15 o 2 8 x8 (fun x17 => r_rf σ15 o 0 2 (fun q18 => g_ar σ15 q18 10 10 v1 (fun x19 => s_ar σ15 o 2 8 x10 (if (x17 + x19) < x16 then (x17 + x19) else x16) (fun σ20 => (fX0_spreadSlack_2 o n) (v1 + (1 : Int32)) σ20))))))))))))))) else ((fX0_spreadSlack_2 o n) (v1 + (1 : Int32)) σ4))))))
set_option maxRecDepth 100000 in
set_option maxHeartbeats 4000000 in
theorem tX0_spreadSlack_2 (l : Launch) (E : EV) {τ : Mm} (o : Nat) (ho : KD o = 0) : ∀ (n : Nat) (v1 : Int32) (σ : Mm), fX0_spreadSlack_2 o n v1 σ = some τ → Jd l E mX0_spreadSlack 1 (none, τ) σ 2 [(0, .ref (e_a E o 0)), (1, .int v1)] [] := by
  intro n
  induction n with
  | zero => intro v1 σ h; rw [fX0_spreadSlack_2] at h; cases h
  | succ n ih =>
    intro v1 σ h
    rw [fX0_spreadSlack_2] at h
    refine J_iload_n (pc := 2) 1 dX0_spreadSlack_2 rfl ?_
    refine J_aload_n (pc := 3) 0 dX0_spreadSlack_3 rfl ?_
    refine J_getR (pc := 4) dX0_spreadSlack_4 ho flX0_21 rfl h (fun q1 hq1 h => ?_)
    refine J_getI (pc := 7) dX0_spreadSlack_7 hq1 flX0_51 rfl h (fun x2 h => ?_)
    refine J_icmp_ge (pc := 10) 115 dX0_spreadSlack_10 (by decide) h (fun h => ?_) (fun h => ?_)
    · cases h
      exact J_vret (pc := 115) dX0_spreadSlack_115 rfl
    · refine J_aload_n (pc := 13) 0 dX0_spreadSlack_13 rfl ?_
      refine J_getI (pc := 14) dX0_spreadSlack_14 ho flX0_25 rfl h (fun x3 h => ?_)
      refine J_iload_n (pc := 17) 1 dX0_spreadSlack_17 rfl ?_
      obtain ⟨x6, σ4, hc5, h⟩ := cI_t h
      refine J_cNi (pc := 18) (host := "VaneTown") (ctX11_has l E x3 v1 σ hc5) dX0_spreadSlack_18 mnX0_43 msX11_has rfl (by decide) rfl (Nat.le_of_ble_eq_true rfl) ?_
      refine J_if_eq (pc := 21) 27 dX0_spreadSlack_21 (by decide) h (fun h => ?_) (fun h => ?_)
      · refine J_aload_n (pc := 27) 0 dX0_spreadSlack_27 rfl ?_
        refine J_getR (pc := 28) dX0_spreadSlack_28 ho flX0_21 rfl h (fun q7 hq7 h => ?_)
        refine J_getA (pc := 31) dX0_spreadSlack_31 hq7 flX0_59 rfl ?_
        refine J_iload_n (pc := 34) 1 dX0_spreadSlack_34 rfl ?_
        refine J_iald (pc := 35) dX0_spreadSlack_35 hq7 ha2_7 h (fun x8 h => ?_)
        refine J_istore_n (pc := 36) (L' := [(2, .int x8), (0, .ref (e_a E o 0)), (1, .int v1)]) dX0_spreadSlack_36 (by decide) rfl ?_
        refine J_aload_n (pc := 37) 1 dX0_spreadSlack_37 rfl ?_
        refine J_getR (pc := 38) dX0_spreadSlack_38 ho flX0_21 rfl h (fun q9 hq9 h => ?_)
        refine J_getA (pc := 41) dX0_spreadSlack_41 hq9 flX0_62 rfl ?_
        refine J_iload_n (pc := 44) 2 dX0_spreadSlack_44 rfl ?_
        refine J_iald (pc := 45) dX0_spreadSlack_45 hq9 ha2_8 h (fun x10 h => ?_)
        refine J_istore_n (pc := 46) (L' := [(3, .int x10), (2, .int x8), (0, .ref (e_a E o 0)), (1, .int v1)]) dX0_spreadSlack_46 (by decide) rfl ?_
        refine J_aload_n (pc := 47) 2 dX0_spreadSlack_47 rfl ?_
        refine J_getA (pc := 48) dX0_spreadSlack_48 ho flX0_18 rfl ?_
        refine J_iload_n (pc := 51) 1 dX0_spreadSlack_51 rfl ?_
        refine J_aload_n (pc := 52) 2 dX0_spreadSlack_52 rfl ?_
        refine J_getA (pc := 53) dX0_spreadSlack_53 ho flX0_18 rfl ?_
        refine J_iload_n (pc := 56) 1 dX0_spreadSlack_56 rfl ?_
        refine J_iald (pc := 57) dX0_spreadSlack_57 ho ha0_2 h (fun x11 h => ?_)
        refine J_aload_n (pc := 58) 2 dX0_spreadSlack_58 rfl ?_
        refine J_getA (pc := 59) dX0_spreadSlack_59 ho flX0_18 rfl ?_
        refine J_iload_n (pc := 62) 0 dX0_spreadSlack_62 rfl ?_
        refine J_iald (pc := 63) dX0_spreadSlack_63 ho ha0_2 h (fun x12 h => ?_)
        refine J_aload_n (pc := 64) 2 dX0_spreadSlack_64 rfl ?_
        refine J_getR (pc := 65) dX0_spreadSlack_65 ho flX0_21 rfl h (fun q13 hq13 h => ?_)
        refine J_getA (pc := 68) dX0_spreadSlack_68 hq13 flX0_79 rfl ?_
        refine J_iload_n (pc := 71) 3 dX0_spreadSlack_71 rfl ?_
        refine J_iald (pc := 72) dX0_spreadSlack_72 hq13 ha2_10 h (fun x14 h => ?_)
        refine J_iadd (pc := 73) dX0_spreadSlack_73 ?_
        refine J_mmin (pc := 74) dX0_spreadSlack_74 mmX0_82 (by decide) (Nat.le_of_ble_eq_true rfl) ?_
        refine J_iast (pc := 77) dX0_spreadSlack_77 ho ha0_2 h (fun σ15 h => ?_)
        refine J_aload_n (pc := 78) 2 dX0_spreadSlack_78 rfl ?_
        refine J_getA (pc := 79) dX0_spreadSlack_79 ho flX0_18 rfl ?_
        refine J_iload_n (pc := 82) 0 dX0_spreadSlack_82 rfl ?_
        refine J_aload_n (pc := 83) 2 dX0_spreadSlack_83 rfl ?_
        refine J_getA (pc := 84) dX0_spreadSlack_84 ho flX0_18 rfl ?_
        refine J_iload_n (pc := 87) 0 dX0_spreadSlack_87 rfl ?_
        refine J_iald (pc := 88) dX0_spreadSlack_88 ho ha0_2 h (fun x16 h => ?_)
        refine J_aload_n (pc := 89) 2 dX0_spreadSlack_89 rfl ?_
        refine J_getA (pc := 90) dX0_spreadSlack_90 ho flX0_18 rfl ?_
        refine J_iload_n (pc := 93) 1 dX0_spreadSlack_93 rfl ?_
        refine J_iald (pc := 94) dX0_spreadSlack_94 ho ha0_2 h (fun x17 h => ?_)
        refine J_aload_n (pc := 95) 2 dX0_spreadSlack_95 rfl ?_
        refine J_getR (pc := 96) dX0_spreadSlack_96 ho flX0_21 rfl h (fun q18 hq18 h => ?_)
        refine J_getA (pc := 99) dX0_spreadSlack_99 hq18 flX0_79 rfl ?_
        refine J_iload_n (pc := 102) 3 dX0_spreadSlack_102 rfl ?_
        refine J_iald (pc := 103) dX0_spreadSlack_103 hq18 ha2_10 h (fun x19 h => ?_)
        refine J_iadd (pc := 104) dX0_spreadSlack_104 ?_
        refine J_mmin (pc := 105) dX0_spreadSlack_105 mmX0_82 (by decide) (Nat.le_of_ble_eq_true rfl) ?_
        refine J_iast (pc := 108) dX0_spreadSlack_108 ho ha0_2 h (fun σ20 h => ?_)
        refine J_iinc (pc := 109) (L' := [(1, .int (v1 + (1 : Int32))), (3, .int x10), (2, .int x8), (0, .ref (e_a E o 0))]) 3 (v1 + (1 : Int32)) dX0_spreadSlack_109 rfl (by rfl) (by decide) rfl ?_
        refine J_goto (pc := 112) 2 dX0_spreadSlack_112 (by decide) ?_
        refine J_sub (L' := [(0, .ref (e_a E o 0)), (1, .int (v1 + (1 : Int32)))]) [3, 0] rfl ?_
        exact ih (v1 + (1 : Int32)) σ20 h
      · refine J_goto (pc := 24) 109 dX0_spreadSlack_24 (by decide) ?_
        refine J_iinc (pc := 109) (L' := [(1, .int (v1 + (1 : Int32))), (0, .ref (e_a E o 0))]) 1 (v1 + (1 : Int32)) dX0_spreadSlack_109 rfl (by rfl) (by decide) rfl ?_
        refine J_goto (pc := 112) 2 dX0_spreadSlack_112 (by decide) ?_
        refine J_sub (L' := [(0, .ref (e_a E o 0)), (1, .int (v1 + (1 : Int32)))]) [1, 0] rfl ?_
        exact ih (v1 + (1 : Int32)) σ4 h
def fX0_spreadSlack (o : Nat) (σ : Mm) : Option (Mm) := fX0_spreadSlack_2 o FU (0 : Int32) σ
set_option maxRecDepth 100000 in
set_option maxHeartbeats 4000000 in
theorem ctX0_spreadSlack (l : Launch) (E : EV) (o : Nat) (ho : KD o = 0) (σ : Mm) {τ : Mm} (h : fX0_spreadSlack o σ = some τ) : Ct l E mX0_spreadSlack 1 [.ref (e_a E o 0)] σ (none, τ) := by
  refine Ct.of (by decide +kernel) (Nat.le_of_ble_eq_true rfl) ?_
  show Jd l E mX0_spreadSlack 1 (none, τ) σ 0 [(0, .ref (e_a E o 0))] []
  unfold fX0_spreadSlack at h
  refine J_iconst (pc := 0) (0 : Int32) dX0_spreadSlack_0 (by decide) ?_
  refine J_istore_n (pc := 1) (L' := [(1, .int (0 : Int32)), (0, .ref (e_a E o 0))]) dX0_spreadSlack_1 (by decide) rfl ?_
  refine J_sub (L' := [(0, .ref (e_a E o 0)), (1, .int (0 : Int32))]) [1, 0] rfl ?_
  exact tX0_spreadSlack_2 l E o ho FU (0 : Int32) σ h
def fX0_leastSlack_63 (o : Nat) (a1 : Nat) (a2 : Int32) (a3 : Int32) (a4 : Int32) (σ : Mm) : Option (Int32 × Mm) := g_ar σ o 2 8 a4 (fun x7 => if x7 = (1000 : Int32) then (some ((-1 : Int32), σ)) else (g_ar σ o 2 8 a4 (fun x8 => some (x8, σ))))
set_option maxRecDepth 100000 in
set_option maxHeartbeats 4000000 in
theorem tX0_leastSlack_63 (l : Launch) (E : EV) {xr : Int32} {τ : Mm} (o : Nat) (a1 : Nat) (a2 : Int32) (a3 : Int32) (a4 : Int32) (ho : KD o = 0) (ha1 : KD a1 = 2) (σ : Mm) (h : fX0_leastSlack_63 o a1 a2 a3 a4 σ = some (xr, τ)) : Jd l E mX0_leastSlack 2 (some (.int xr), τ) σ 63 [(0, .ref (e_a E o 0)), (4, .int a4)] [] := by
  unfold fX0_leastSlack_63 at h
  refine J_aload_n (pc := 63) 0 dX0_leastSlack_63 rfl ?_
  refine J_getA (pc := 64) dX0_leastSlack_64 ho flX0_18 rfl ?_
  refine J_iload (pc := 67) 1 dX0_leastSlack_67 rfl ?_
  refine J_iald (pc := 69) dX0_leastSlack_69 ho ha0_2 h (fun x7 h => ?_)
  refine J_sipush (pc := 70) (1000 : Int32) dX0_leastSlack_70 (by decide) ?_
  refine J_icmp_ne (pc := 73) 80 dX0_leastSlack_73 (by decide) h (fun h => ?_) (fun h => ?_)
  · refine J_aload_n (pc := 80) 0 dX0_leastSlack_80 rfl ?_
    refine J_getA (pc := 81) dX0_leastSlack_81 ho flX0_18 rfl ?_
    refine J_iload (pc := 84) 1 dX0_leastSlack_84 rfl ?_
    refine J_iald (pc := 86) dX0_leastSlack_86 ho ha0_2 h (fun x8 h => ?_)
    cases h
    exact J_iret (pc := 87) dX0_leastSlack_87 rfl rfl
  · refine J_iconst (pc := 76) (-1 : Int32) dX0_leastSlack_76 (by decide) ?_
    refine J_goto (pc := 77) 87 dX0_leastSlack_77 (by decide) ?_
    cases h
    exact J_iret (pc := 87) dX0_leastSlack_87 rfl rfl
def fX0_leastSlack_46 (o : Nat) (a1 : Nat) (a2 : Int32) (a3 : Int32) (a4 : Int32) : Nat → Int32 → Mm → Option (Int32 × Mm)
  | 0, _, _ => none
  | n + 1, v5, σ => if (8 : Int32) ≤ v5 then (fX0_leastSlack_63 o a1 a2 a3 a4 σ) else (c_V (fX0_spreadSlack o σ) (fun σ5 => (fX0_leastSlack_46 o a1 a2 a3 a4 n) (v5 + (1 : Int32)) σ5))
set_option maxRecDepth 100000 in
set_option maxHeartbeats 4000000 in
theorem tX0_leastSlack_46 (l : Launch) (E : EV) {xr : Int32} {τ : Mm} (o : Nat) (a1 : Nat) (a2 : Int32) (a3 : Int32) (a4 : Int32) (ho : KD o = 0) (ha1 : KD a1 = 2) : ∀ (n : Nat) (v5 : Int32) (σ : Mm), fX0_leastSlack_46 o a1 a2 a3 a4 n v5 σ = some (xr, τ) → Jd l E mX0_leastSlack 2 (some (.int xr), τ) σ 46 [(0, .ref (e_a E o 0)), (4, .int a4), (5, .int v5)] [] := by
  intro n
  induction n with
  | zero => intro v5 σ h; rw [fX0_leastSlack_46] at h; cases h
  | succ n ih =>
    intro v5 σ h
    rw [fX0_leastSlack_46] at h
    refine J_iload (pc := 46) 2 dX0_leastSlack_46 rfl ?_
    refine J_bipush (pc := 48) (8 : Int32) dX0_leastSlack_48 (by decide) ?_
    refine J_icmp_ge (pc := 50) 63 dX0_leastSlack_50 (by decide) h (fun h => ?_) (fun h => ?_)
    · refine J_sub (L' := [(0, .ref (e_a E o 0)), (4, .int a4)]) [0, 1] rfl ?_
      exact tX0_leastSlack_63 l E o a1 a2 a3 a4 ho ha1 σ h
    · refine J_aload_n (pc := 53) 0 dX0_leastSlack_53 rfl ?_
      obtain ⟨σ5, hc6, h⟩ := cV_t h
      refine J_cVv (pc := 54) (ctX0_spreadSlack l E o ho σ hc6) dX0_leastSlack_54 mlX0_76 mvX0_spreadSlack ho rfl (by decide) rfl (Nat.le_of_ble_eq_true rfl) ?_
      refine J_iinc (pc := 57) (L' := [(5, .int (v5 + (1 : Int32))), (0, .ref (e_a E o 0)), (4, .int a4)]) 2 (v5 + (1 : Int32)) dX0_leastSlack_57 rfl (by rfl) (by decide) rfl ?_
      refine J_goto (pc := 60) 46 dX0_leastSlack_60 (by decide) ?_
      refine J_sub (L' := [(0, .ref (e_a E o 0)), (4, .int a4), (5, .int (v5 + (1 : Int32)))]) [1, 2, 0] rfl ?_
      exact ih (v5 + (1 : Int32)) σ5 h
def fX0_leastSlack_36 (o : Nat) (a1 : Nat) (a2 : Int32) (a3 : Int32) (a4 : Int32) (σ : Mm) : Option (Int32 × Mm) := s_ar σ o 2 8 a3 (0 : Int32) (fun σ4 => fX0_leastSlack_46 o a1 a2 a3 a4 FU (0 : Int32) σ4)
set_option maxRecDepth 100000 in
set_option maxHeartbeats 4000000 in
theorem tX0_leastSlack_36 (l : Launch) (E : EV) {xr : Int32} {τ : Mm} (o : Nat) (a1 : Nat) (a2 : Int32) (a3 : Int32) (a4 : Int32) (ho : KD o = 0) (ha1 : KD a1 = 2) (σ : Mm) (h : fX0_leastSlack_36 o a1 a2 a3 a4 σ = some (xr, τ)) : Jd l E mX0_leastSlack 2 (some (.int xr), τ) σ 36 [(0, .ref (e_a E o 0)), (3, .int a3), (4, .int a4)] [] := by
  unfold fX0_leastSlack_36 at h
  refine J_aload_n (pc := 36) 0 dX0_leastSlack_36 rfl ?_
  refine J_getA (pc := 37) dX0_leastSlack_37 ho flX0_18 rfl ?_
  refine J_iload_n (pc := 40) 1 dX0_leastSlack_40 rfl ?_
  refine J_iconst (pc := 41) (0 : Int32) dX0_leastSlack_41 (by decide) ?_
  refine J_iast (pc := 42) dX0_leastSlack_42 ho ha0_2 h (fun σ4 h => ?_)
  refine J_iconst (pc := 43) (0 : Int32) dX0_leastSlack_43 (by decide) ?_
  refine J_istore (pc := 44) (L' := [(5, .int (0 : Int32)), (0, .ref (e_a E o 0)), (3, .int a3), (4, .int a4)]) dX0_leastSlack_44 (by decide) rfl ?_
  refine J_sub (L' := [(0, .ref (e_a E o 0)), (4, .int a4), (5, .int (0 : Int32))]) [1, 3, 0] rfl ?_
  exact tX0_leastSlack_46 l E o a1 a2 a3 a4 ho ha1 FU (0 : Int32) σ4 h
def fX0_leastSlack_13 (o : Nat) (a1 : Nat) (a2 : Int32) (a3 : Int32) (a4 : Int32) : Nat → Int32 → Mm → Option (Int32 × Mm)
  | 0, _, _ => none
  | n + 1, v5, σ => if (8 : Int32) ≤ v5 then (fX0_leastSlack_36 o a1 a2 a3 a4 σ) else (s_ar σ o 2 8 v5 (1000 : Int32) (fun σ3 => (fX0_leastSlack_13 o a1 a2 a3 a4 n) (v5 + (1 : Int32)) σ3))
set_option maxRecDepth 100000 in
set_option maxHeartbeats 4000000 in
theorem tX0_leastSlack_13 (l : Launch) (E : EV) {xr : Int32} {τ : Mm} (o : Nat) (a1 : Nat) (a2 : Int32) (a3 : Int32) (a4 : Int32) (ho : KD o = 0) (ha1 : KD a1 = 2) : ∀ (n : Nat) (v5 : Int32) (σ : Mm), fX0_leastSlack_13 o a1 a2 a3 a4 n v5 σ = some (xr, τ) → Jd l E mX0_leastSlack 2 (some (.int xr), τ) σ 13 [(0, .ref (e_a E o 0)), (3, .int a3), (4, .int a4), (5, .int v5)] [] := by
  intro n
  induction n with
  | zero => intro v5 σ h; rw [fX0_leastSlack_13] at h; cases h
  | succ n ih =>
    intro v5 σ h
    rw [fX0_leastSlack_13] at h
    refine J_iload (pc := 13) 3 dX0_leastSlack_13 rfl ?_
    refine J_bipush (pc := 15) (8 : Int32) dX0_leastSlack_15 (by decide) ?_
    refine J_icmp_ge (pc := 17) 36 dX0_leastSlack_17 (by decide) h (fun h => ?_) (fun h => ?_)
    · refine J_sub (L' := [(0, .ref (e_a E o 0)), (3, .int a3), (4, .int a4)]) [0, 1, 2] rfl ?_
      exact tX0_leastSlack_36 l E o a1 a2 a3 a4 ho ha1 σ h
    · refine J_aload_n (pc := 20) 0 dX0_leastSlack_20 rfl ?_
      refine J_getA (pc := 21) dX0_leastSlack_21 ho flX0_18 rfl ?_
      refine J_iload (pc := 24) 3 dX0_leastSlack_24 rfl ?_
      refine J_sipush (pc := 26) (1000 : Int32) dX0_leastSlack_26 (by decide) ?_
      refine J_iast (pc := 29) dX0_leastSlack_29 ho ha0_2 h (fun σ3 h => ?_)
      refine J_iinc (pc := 30) (L' := [(5, .int (v5 + (1 : Int32))), (0, .ref (e_a E o 0)), (3, .int a3), (4, .int a4)]) 3 (v5 + (1 : Int32)) dX0_leastSlack_30 rfl (by rfl) (by decide) rfl ?_
      refine J_goto (pc := 33) 13 dX0_leastSlack_33 (by decide) ?_
      refine J_sub (L' := [(0, .ref (e_a E o 0)), (3, .int a3), (4, .int a4), (5, .int (v5 + (1 : Int32)))]) [1, 2, 3, 0] rfl ?_
      exact ih (v5 + (1 : Int32)) σ3 h
def fX0_leastSlack (o : Nat) (a1 : Nat) (a2 : Int32) (a3 : Int32) (a4 : Int32) (σ : Mm) : Option (Int32 × Mm) := p_rf σ o 0 a1 (fun σ1 => p_sc σ1 o 1 a2 (fun σ2 => fX0_leastSlack_13 o a1 a2 a3 a4 FU (0 : Int32) σ2))
set_option maxRecDepth 100000 in
set_option maxHeartbeats 4000000 in
theorem ctX0_leastSlack (l : Launch) (E : EV) (o : Nat) (a1 : Nat) (a2 : Int32) (a3 : Int32) (a4 : Int32) (ho : KD o = 0) (ha1 : KD a1 = 2) (σ : Mm) {xr : Int32} {τ : Mm} (h : fX0_leastSlack o a1 a2 a3 a4 σ = some (xr, τ)) : Ct l E mX0_leastSlack 2 [.ref (e_a E o 0), .ref (e_a E a1 0), .int a2, .int a3, .int a4] σ (some (.int xr), τ) := by
  refine Ct.of (by decide +kernel) (Nat.le_of_ble_eq_true rfl) ?_
  show Jd l E mX0_leastSlack 2 (some (.int xr), τ) σ 0 [(0, .ref (e_a E o 0)), (1, .ref (e_a E a1 0)), (2, .int a2), (3, .int a3), (4, .int a4)] []
  unfold fX0_leastSlack at h
  refine J_aload_n (pc := 0) 0 dX0_leastSlack_0 rfl ?_
  refine J_aload_n (pc := 1) 1 dX0_leastSlack_1 rfl ?_
  refine J_putR (pc := 2) dX0_leastSlack_2 ho flX0_21 rfl h (fun σ1 h => ?_)
  refine J_aload_n (pc := 5) 0 dX0_leastSlack_5 rfl ?_
  refine J_iload_n (pc := 6) 2 dX0_leastSlack_6 rfl ?_
  refine J_putI (pc := 7) dX0_leastSlack_7 ho flX0_25 rfl h (fun σ2 h => ?_)
  refine J_iconst (pc := 10) (0 : Int32) dX0_leastSlack_10 (by decide) ?_
  refine J_istore (pc := 11) (L' := [(5, .int (0 : Int32)), (0, .ref (e_a E o 0)), (1, .ref (e_a E a1 0)), (2, .int a2), (3, .int a3), (4, .int a4)]) dX0_leastSlack_11 (by decide) rfl ?_
  refine J_sub (L' := [(0, .ref (e_a E o 0)), (3, .int a3), (4, .int a4), (5, .int (0 : Int32))]) [1, 4, 5, 0] rfl ?_
  exact tX0_leastSlack_13 l E o a1 a2 a3 a4 ho ha1 FU (0 : Int32) σ2 h
def fX0_partingShafts_5 (o : Nat) (a1 : Nat) (a2 : Int32) : Nat → Int32 → Int32 → Mm → Option (Int32 × Mm)
  | 0, _, _, _ => none
  | n + 1, v3, v4, σ => r_sc σ a1 2 (fun x1 => if x1 ≤ v4 then (some (v3, σ)) else (c_I (fX11_has a2 v4 σ) (fun x4 σ2 => if x4 = 0 then (c_I (fX11_with a2 v4 (1 : Int32) σ2) (fun x7 σ5 => g_ar σ5 a1 7 10 v4 (fun x8 => c_V (fX0_search o a1 x7 x8 σ5) (fun σ9 => r_sc σ9 o 2 (fun x11 => g_ar σ9 a1 8 10 v4 (fun x12 => c_I (fX11_has x11 x12 σ9) (fun x15 σ13 => if x15 = 0 then (c_I (fX11_with v3 v4 (1 : Int32) σ13) (fun x18 σ16 => (fX0_partingShafts_5 o a1 a2 n) x18 (v4 + (1 : Int32)) σ16)) else ((fX0_partingShafts_5 o a1 a2 n) v3 (v4 + (1 : Int32)) σ13)))))))) else ((fX0_partingShafts_5 o a1 a2 n) v3 (v4 + (1 : Int32)) σ2))))
set_option maxRecDepth 100000 in
set_option maxHeartbeats 4000000 in
theorem tX0_partingShafts_5 (l : Launch) (E : EV) {xr : Int32} {τ : Mm} (o : Nat) (a1 : Nat) (a2 : Int32) (ho : KD o = 0) (ha1 : KD a1 = 2) : ∀ (n : Nat) (v3 : Int32) (v4 : Int32) (σ : Mm), fX0_partingShafts_5 o a1 a2 n v3 v4 σ = some (xr, τ) → Jd l E mX0_partingShafts 4 (some (.int xr), τ) σ 5 [(0, .ref (e_a E o 0)), (1, .ref (e_a E a1 0)), (2, .int a2), (3, .int v3), (4, .int v4)] [] := by
  intro n
  induction n with
  | zero => intro v3 v4 σ h; rw [fX0_partingShafts_5] at h; cases h
  | succ n ih =>
    intro v3 v4 σ h
    rw [fX0_partingShafts_5] at h
    refine J_iload (pc := 5) 4 dX0_partingShafts_5 rfl ?_
    refine J_aload_n (pc := 7) 1 dX0_partingShafts_7 rfl ?_
    refine J_getI (pc := 8) dX0_partingShafts_8 ha1 flX0_51 rfl h (fun x1 h => ?_)
    refine J_icmp_ge (pc := 11) 76 dX0_partingShafts_11 (by decide) h (fun h => ?_) (fun h => ?_)
    · refine J_iload_n (pc := 76) 3 dX0_partingShafts_76 rfl ?_
      cases h
      exact J_iret (pc := 77) dX0_partingShafts_77 rfl rfl
    · refine J_iload_n (pc := 14) 2 dX0_partingShafts_14 rfl ?_
      refine J_iload (pc := 15) 4 dX0_partingShafts_15 rfl ?_
      obtain ⟨x4, σ2, hc3, h⟩ := cI_t h
      refine J_cNi (pc := 17) (host := "VaneTown") (ctX11_has l E a2 v4 σ hc3) dX0_partingShafts_17 mnX0_43 msX11_has rfl (by decide) rfl (Nat.le_of_ble_eq_true rfl) ?_
      refine J_if_eq (pc := 20) 26 dX0_partingShafts_20 (by decide) h (fun h => ?_) (fun h => ?_)
      · refine J_aload_n (pc := 26) 0 dX0_partingShafts_26 rfl ?_
        refine J_aload_n (pc := 27) 1 dX0_partingShafts_27 rfl ?_
        refine J_iload_n (pc := 28) 2 dX0_partingShafts_28 rfl ?_
        refine J_iload (pc := 29) 4 dX0_partingShafts_29 rfl ?_
        refine J_iconst (pc := 31) (1 : Int32) dX0_partingShafts_31 (by decide) ?_
        obtain ⟨x7, σ5, hc6, h⟩ := cI_t h
        refine J_cNi (pc := 32) (host := "VaneTown") (ctX11_with l E a2 v4 (1 : Int32) σ2 hc6) dX0_partingShafts_32 mnX0_47 msX11_with rfl (by decide) rfl (Nat.le_of_ble_eq_true rfl) ?_
        refine J_aload_n (pc := 35) 1 dX0_partingShafts_35 rfl ?_
        refine J_getA (pc := 36) dX0_partingShafts_36 ha1 flX0_59 rfl ?_
        refine J_iload (pc := 39) 4 dX0_partingShafts_39 rfl ?_
        refine J_iald (pc := 41) dX0_partingShafts_41 ha1 ha2_7 h (fun x8 h => ?_)
        obtain ⟨σ9, hc10, h⟩ := cV_t h
        refine J_cVv (pc := 42) (ctX0_search l E o a1 x7 x8 ho ha1 σ5 hc10) dX0_partingShafts_42 mlX0_68 mvX0_search ho rfl (by decide) rfl (Nat.le_of_ble_eq_true rfl) ?_
        refine J_aload_n (pc := 45) 0 dX0_partingShafts_45 rfl ?_
        refine J_getI (pc := 46) dX0_partingShafts_46 ho flX0_29 rfl h (fun x11 h => ?_)
        refine J_aload_n (pc := 49) 1 dX0_partingShafts_49 rfl ?_
        refine J_getA (pc := 50) dX0_partingShafts_50 ha1 flX0_62 rfl ?_
        refine J_iload (pc := 53) 4 dX0_partingShafts_53 rfl ?_
        refine J_iald (pc := 55) dX0_partingShafts_55 ha1 ha2_8 h (fun x12 h => ?_)
        obtain ⟨x15, σ13, hc14, h⟩ := cI_t h
        refine J_cNi (pc := 56) (host := "VaneTown") (ctX11_has l E x11 x12 σ9 hc14) dX0_partingShafts_56 mnX0_43 msX11_has rfl (by decide) rfl (Nat.le_of_ble_eq_true rfl) ?_
        refine J_if_ne (pc := 59) 70 dX0_partingShafts_59 (by decide) h (fun h => ?_) (fun h => ?_)
        · refine J_iinc (pc := 70) (L' := [(4, .int (v4 + (1 : Int32))), (0, .ref (e_a E o 0)), (1, .ref (e_a E a1 0)), (2, .int a2), (3, .int v3)]) 4 (v4 + (1 : Int32)) dX0_partingShafts_70 rfl (by rfl) (by decide) rfl ?_
          refine J_goto (pc := 73) 5 dX0_partingShafts_73 (by decide) ?_
          refine J_sub (L' := [(0, .ref (e_a E o 0)), (1, .ref (e_a E a1 0)), (2, .int a2), (3, .int v3), (4, .int (v4 + (1 : Int32)))]) [1, 2, 3, 4, 0] rfl ?_
          exact ih v3 (v4 + (1 : Int32)) σ13 h
        · refine J_iload_n (pc := 62) 3 dX0_partingShafts_62 rfl ?_
          refine J_iload (pc := 63) 4 dX0_partingShafts_63 rfl ?_
          refine J_iconst (pc := 65) (1 : Int32) dX0_partingShafts_65 (by decide) ?_
          obtain ⟨x18, σ16, hc17, h⟩ := cI_t h
          refine J_cNi (pc := 66) (host := "VaneTown") (ctX11_with l E v3 v4 (1 : Int32) σ13 hc17) dX0_partingShafts_66 mnX0_47 msX11_with rfl (by decide) rfl (Nat.le_of_ble_eq_true rfl) ?_
          refine J_istore_n (pc := 69) (L' := [(3, .int x18), (0, .ref (e_a E o 0)), (1, .ref (e_a E a1 0)), (2, .int a2), (4, .int v4)]) dX0_partingShafts_69 (by decide) rfl ?_
          refine J_iinc (pc := 70) (L' := [(4, .int (v4 + (1 : Int32))), (3, .int x18), (0, .ref (e_a E o 0)), (1, .ref (e_a E a1 0)), (2, .int a2)]) 4 (v4 + (1 : Int32)) dX0_partingShafts_70 rfl (by rfl) (by decide) rfl ?_
          refine J_goto (pc := 73) 5 dX0_partingShafts_73 (by decide) ?_
          refine J_sub (L' := [(0, .ref (e_a E o 0)), (1, .ref (e_a E a1 0)), (2, .int a2), (3, .int x18), (4, .int (v4 + (1 : Int32)))]) [2, 3, 4, 1, 0] rfl ?_
          exact ih x18 (v4 + (1 : Int32)) σ16 h
      · refine J_goto (pc := 23) 70 dX0_partingShafts_23 (by decide) ?_
        refine J_iinc (pc := 70) (L' := [(4, .int (v4 + (1 : Int32))), (0, .ref (e_a E o 0)), (1, .ref (e_a E a1 0)), (2, .int a2), (3, .int v3)]) 4 (v4 + (1 : Int32)) dX0_partingShafts_70 rfl (by rfl) (by decide) rfl ?_
        refine J_goto (pc := 73) 5 dX0_partingShafts_73 (by decide) ?_
        refine J_sub (L' := [(0, .ref (e_a E o 0)), (1, .ref (e_a E a1 0)), (2, .int a2), (3, .int v3), (4, .int (v4 + (1 : Int32)))]) [1, 2, 3, 4, 0] rfl ?_
        exact ih v3 (v4 + (1 : Int32)) σ2 h
def fX0_partingShafts (o : Nat) (a1 : Nat) (a2 : Int32) (σ : Mm) : Option (Int32 × Mm) := fX0_partingShafts_5 o a1 a2 FU (0 : Int32) (0 : Int32) σ
set_option maxRecDepth 100000 in
set_option maxHeartbeats 4000000 in
theorem ctX0_partingShafts (l : Launch) (E : EV) (o : Nat) (a1 : Nat) (a2 : Int32) (ho : KD o = 0) (ha1 : KD a1 = 2) (σ : Mm) {xr : Int32} {τ : Mm} (h : fX0_partingShafts o a1 a2 σ = some (xr, τ)) : Ct l E mX0_partingShafts 4 [.ref (e_a E o 0), .ref (e_a E a1 0), .int a2] σ (some (.int xr), τ) := by
  refine Ct.of (by decide +kernel) (Nat.le_of_ble_eq_true rfl) ?_
  show Jd l E mX0_partingShafts 4 (some (.int xr), τ) σ 0 [(0, .ref (e_a E o 0)), (1, .ref (e_a E a1 0)), (2, .int a2)] []
  unfold fX0_partingShafts at h
  refine J_iconst (pc := 0) (0 : Int32) dX0_partingShafts_0 (by decide) ?_
  refine J_istore_n (pc := 1) (L' := [(3, .int (0 : Int32)), (0, .ref (e_a E o 0)), (1, .ref (e_a E a1 0)), (2, .int a2)]) dX0_partingShafts_1 (by decide) rfl ?_
  refine J_iconst (pc := 2) (0 : Int32) dX0_partingShafts_2 (by decide) ?_
  refine J_istore (pc := 3) (L' := [(4, .int (0 : Int32)), (3, .int (0 : Int32)), (0, .ref (e_a E o 0)), (1, .ref (e_a E a1 0)), (2, .int a2)]) dX0_partingShafts_3 (by decide) rfl ?_
  refine J_sub (L' := [(0, .ref (e_a E o 0)), (1, .ref (e_a E a1 0)), (2, .int a2), (3, .int (0 : Int32)), (4, .int (0 : Int32))]) [2, 3, 4, 1, 0] rfl ?_
  exact tX0_partingShafts_5 l E o a1 a2 ho ha1 FU (0 : Int32) (0 : Int32) σ h
def fX5_clear (o : Nat) (σ : Mm) : Option (Mm) := p_bz σ o 0 (0 : Int32) (fun σ1 => p_sc σ1 o 1 (0 : Int32) (fun σ2 => p_sc σ2 o 2 (0 : Int32) (fun σ3 => some σ3)))
set_option maxRecDepth 100000 in
set_option maxHeartbeats 4000000 in
theorem ctX5_clear (l : Launch) (E : EV) (o : Nat) (ho : KD o = 5) (σ : Mm) {τ : Mm} (h : fX5_clear o σ = some τ) : Ct l E mX5_clear 0 [.ref (e_a E o 0)] σ (none, τ) := by
  refine Ct.of (by decide +kernel) (Nat.le_of_ble_eq_true rfl) ?_
  show Jd l E mX5_clear 0 (none, τ) σ 0 [(0, .ref (e_a E o 0))] []
  unfold fX5_clear at h
  refine J_aload_n (pc := 0) 0 dX5_clear_0 rfl ?_
  refine J_iconst (pc := 1) (0 : Int32) dX5_clear_1 (by decide) ?_
  refine J_putZ (pc := 2) dX5_clear_2 ho flX5_25 rfl h (fun σ1 h => ?_)
  refine J_aload_n (pc := 5) 0 dX5_clear_5 rfl ?_
  refine J_iconst (pc := 6) (0 : Int32) dX5_clear_6 (by decide) ?_
  refine J_putI (pc := 7) dX5_clear_7 ho flX5_29 rfl h (fun σ2 h => ?_)
  refine J_aload_n (pc := 10) 0 dX5_clear_10 rfl ?_
  refine J_iconst (pc := 11) (0 : Int32) dX5_clear_11 (by decide) ?_
  refine J_putI (pc := 12) dX5_clear_12 ho flX5_33 rfl h (fun σ3 h => ?_)
  cases h
  exact J_vret (pc := 15) dX5_clear_15 rfl
def fX6_scanWord_96 (o : Nat) : Nat → Int32 → Mm → Option (Mm)
  | 0, _, _ => none
  | n + 1, v2, σ => if (23 : Int32) ≤ v2 then (some σ) else (g_kw v2 (fun x14 => r_lg σ o 8 (fun x15 => if (lg_cmp x14 x15) = 0 then (p_sc σ o 6 v2 (fun σ16 => (fX6_scanWord_96 o n) (v2 + (1 : Int32)) σ16)) else ((fX6_scanWord_96 o n) (v2 + (1 : Int32)) σ))))
set_option maxRecDepth 100000 in
set_option maxHeartbeats 4000000 in
theorem tX6_scanWord_96 (l : Launch) (E : EV) {τ : Mm} (o : Nat) (ho : KD o = 6) : ∀ (n : Nat) (v2 : Int32) (σ : Mm), fX6_scanWord_96 o n v2 σ = some τ → Jd l E mX6_scanWord 0 (none, τ) σ 96 [(0, .ref (e_a E o 0)), (2, .int v2)] [] := by
  intro n
  induction n with
  | zero => intro v2 σ h; rw [fX6_scanWord_96] at h; cases h
  | succ n ih =>
    intro v2 σ h
    rw [fX6_scanWord_96] at h
    refine J_iload_n (pc := 96) 1 dX6_scanWord_96 rfl ?_
    refine J_gets (pc := 97) dX6_scanWord_97 flX6_66 (fun _ _ q => q.1) ?_
    refine J_kwlen (pc := 100) dX6_scanWord_100 ?_
    refine J_icmp_ge (pc := 101) 128 dX6_scanWord_101 (by decide) h (fun h => ?_) (fun h => ?_)
    · cases h
      exact J_vret (pc := 128) dX6_scanWord_128 rfl
    · refine J_gets (pc := 104) dX6_scanWord_104 flX6_66 (fun _ _ q => q.1) ?_
      refine J_iload_n (pc := 107) 1 dX6_scanWord_107 rfl ?_
      refine J_kwald (pc := 108) dX6_scanWord_108 h (fun x14 h => ?_)
      refine J_aload_n (pc := 109) 0 dX6_scanWord_109 rfl ?_
      refine J_getL (pc := 110) dX6_scanWord_110 ho flX6_62 rfl h (fun x15 h => ?_)
      refine J_lcmp (pc := 113) dX6_scanWord_113 ?_
      refine J_if_ne (pc := 114) 122 dX6_scanWord_114 (by decide) h (fun h => ?_) (fun h => ?_)
      · refine J_iinc (pc := 122) (L' := [(2, .int (v2 + (1 : Int32))), (0, .ref (e_a E o 0))]) 1 (v2 + (1 : Int32)) dX6_scanWord_122 rfl (by rfl) (by decide) rfl ?_
        refine J_goto (pc := 125) 96 dX6_scanWord_125 (by decide) ?_
        refine J_sub (L' := [(0, .ref (e_a E o 0)), (2, .int (v2 + (1 : Int32)))]) [1, 0] rfl ?_
        exact ih (v2 + (1 : Int32)) σ h
      · refine J_aload_n (pc := 117) 0 dX6_scanWord_117 rfl ?_
        refine J_iload_n (pc := 118) 1 dX6_scanWord_118 rfl ?_
        refine J_putI (pc := 119) dX6_scanWord_119 ho flX6_43 rfl h (fun σ16 h => ?_)
        refine J_iinc (pc := 122) (L' := [(2, .int (v2 + (1 : Int32))), (0, .ref (e_a E o 0))]) 1 (v2 + (1 : Int32)) dX6_scanWord_122 rfl (by rfl) (by decide) rfl ?_
        refine J_goto (pc := 125) 96 dX6_scanWord_125 (by decide) ?_
        refine J_sub (L' := [(0, .ref (e_a E o 0)), (2, .int (v2 + (1 : Int32)))]) [1, 0] rfl ?_
        exact ih (v2 + (1 : Int32)) σ16 h
def fX6_scanWord_65 (o : Nat) (v1 : Int32) (σ : Mm) : Option (Mm) := p_sc σ o 4 v1 (fun σ9 => p_sc σ9 o 5 (2 : Int32) (fun σ10 => r_sc σ10 o 4 (fun x11 => r_sc σ10 o 3 (fun x12 => if (x11 - x12) ≤ (8 : Int32) then (fX6_scanWord_96 o FU (0 : Int32) σ10) else (p_lg σ10 o 8 (0 : Int64) (fun σ13 => fX6_scanWord_96 o FU (0 : Int32) σ13))))))
set_option maxRecDepth 100000 in
set_option maxHeartbeats 4000000 in
theorem tX6_scanWord_65 (l : Launch) (E : EV) {τ : Mm} (o : Nat) (ho : KD o = 6) (v1 : Int32) (σ : Mm) (h : fX6_scanWord_65 o v1 σ = some τ) : Jd l E mX6_scanWord 0 (none, τ) σ 65 [(0, .ref (e_a E o 0)), (1, .int v1)] [] := by
  unfold fX6_scanWord_65 at h
  refine J_aload_n (pc := 65) 0 dX6_scanWord_65 rfl ?_
  refine J_iload_n (pc := 66) 1 dX6_scanWord_66 rfl ?_
  refine J_putI (pc := 67) dX6_scanWord_67 ho flX6_28 rfl h (fun σ9 h => ?_)
  refine J_aload_n (pc := 70) 0 dX6_scanWord_70 rfl ?_
  refine J_iconst (pc := 71) (2 : Int32) dX6_scanWord_71 (by decide) ?_
  refine J_putI (pc := 72) dX6_scanWord_72 ho flX6_46 rfl h (fun σ10 h => ?_)
  refine J_aload_n (pc := 75) 0 dX6_scanWord_75 rfl ?_
  refine J_getI (pc := 76) dX6_scanWord_76 ho flX6_28 rfl h (fun x11 h => ?_)
  refine J_aload_n (pc := 79) 0 dX6_scanWord_79 rfl ?_
  refine J_getI (pc := 80) dX6_scanWord_80 ho flX6_40 rfl h (fun x12 h => ?_)
  refine J_isub (pc := 83) dX6_scanWord_83 ?_
  refine J_bipush (pc := 84) (8 : Int32) dX6_scanWord_84 (by decide) ?_
  refine J_icmp_le (pc := 86) 94 dX6_scanWord_86 (by decide) h (fun h => ?_) (fun h => ?_)
  · refine J_iconst (pc := 94) (0 : Int32) dX6_scanWord_94 (by decide) ?_
    refine J_istore_n (pc := 95) (L' := [(2, .int (0 : Int32)), (0, .ref (e_a E o 0)), (1, .int v1)]) dX6_scanWord_95 (by decide) rfl ?_
    refine J_sub (L' := [(0, .ref (e_a E o 0)), (2, .int (0 : Int32))]) [1, 0] rfl ?_
    exact tX6_scanWord_96 l E o ho FU (0 : Int32) σ10 h
  · refine J_aload_n (pc := 89) 0 dX6_scanWord_89 rfl ?_
    refine J_lconst (pc := 90) (0 : Int64) dX6_scanWord_90 (by decide) ?_
    refine J_putL (pc := 91) dX6_scanWord_91 ho flX6_62 rfl h (fun σ13 h => ?_)
    refine J_iconst (pc := 94) (0 : Int32) dX6_scanWord_94 (by decide) ?_
    refine J_istore_n (pc := 95) (L' := [(2, .int (0 : Int32)), (0, .ref (e_a E o 0)), (1, .int v1)]) dX6_scanWord_95 (by decide) rfl ?_
    refine J_sub (L' := [(0, .ref (e_a E o 0)), (2, .int (0 : Int32))]) [1, 0] rfl ?_
    exact tX6_scanWord_96 l E o ho FU (0 : Int32) σ13 h
def fX6_scanWord_10 (o : Nat) : Nat → Int32 → Mm → Option (Mm)
  | 0, _, _ => none
  | n + 1, v1, σ => r_sc σ o 2 (fun x3 => if x3 ≤ v1 then (fX6_scanWord_65 o v1 σ) else (g_ar σ o 0 900 v1 (fun x4 => if x4 < (97 : Int32) then (fX6_scanWord_65 o v1 σ) else (g_ar σ o 0 900 v1 (fun x5 => if (122 : Int32) < x5 then (fX6_scanWord_65 o v1 σ) else (r_lg σ o 8 (fun x6 => g_ar σ o 0 900 v1 (fun x7 => p_lg σ o 8 ((x6 <<< ((8 : Int32).toInt64 &&& 63)) ||| x7.toInt64) (fun σ8 => (fX6_scanWord_10 o n) (v1 + (1 : Int32)) σ8)))))))))
set_option maxRecDepth 100000 in
set_option maxHeartbeats 4000000 in
theorem tX6_scanWord_10 (l : Launch) (E : EV) {τ : Mm} (o : Nat) (ho : KD o = 6) : ∀ (n : Nat) (v1 : Int32) (σ : Mm), fX6_scanWord_10 o n v1 σ = some τ → Jd l E mX6_scanWord 0 (none, τ) σ 10 [(0, .ref (e_a E o 0)), (1, .int v1)] [] := by
  intro n
  induction n with
  | zero => intro v1 σ h; rw [fX6_scanWord_10] at h; cases h
  | succ n ih =>
    intro v1 σ h
    rw [fX6_scanWord_10] at h
    refine J_iload_n (pc := 10) 1 dX6_scanWord_10 rfl ?_
    refine J_aload_n (pc := 11) 0 dX6_scanWord_11 rfl ?_
    refine J_getI (pc := 12) dX6_scanWord_12 ho flX6_25 rfl h (fun x3 h => ?_)
    refine J_icmp_ge (pc := 15) 65 dX6_scanWord_15 (by decide) h (fun h => ?_) (fun h => ?_)
    · refine J_sub (L' := [(0, .ref (e_a E o 0)), (1, .int v1)]) [0, 1] rfl ?_
      exact tX6_scanWord_65 l E o ho v1 σ h
    · refine J_aload_n (pc := 18) 0 dX6_scanWord_18 rfl ?_
      refine J_getA (pc := 19) dX6_scanWord_19 ho flX6_11 rfl ?_
      refine J_iload_n (pc := 22) 1 dX6_scanWord_22 rfl ?_
      refine J_bald (pc := 23) dX6_scanWord_23 ho ha6_0 h (fun x4 h => ?_)
      refine J_bipush (pc := 24) (97 : Int32) dX6_scanWord_24 (by decide) ?_
      refine J_icmp_lt (pc := 26) 65 dX6_scanWord_26 (by decide) h (fun h => ?_) (fun h => ?_)
      · refine J_sub (L' := [(0, .ref (e_a E o 0)), (1, .int v1)]) [0, 1] rfl ?_
        exact tX6_scanWord_65 l E o ho v1 σ h
      · refine J_aload_n (pc := 29) 0 dX6_scanWord_29 rfl ?_
        refine J_getA (pc := 30) dX6_scanWord_30 ho flX6_11 rfl ?_
        refine J_iload_n (pc := 33) 1 dX6_scanWord_33 rfl ?_
        refine J_bald (pc := 34) dX6_scanWord_34 ho ha6_0 h (fun x5 h => ?_)
        refine J_bipush (pc := 35) (122 : Int32) dX6_scanWord_35 (by decide) ?_
        refine J_icmp_gt (pc := 37) 65 dX6_scanWord_37 (by decide) h (fun h => ?_) (fun h => ?_)
        · refine J_sub (L' := [(0, .ref (e_a E o 0)), (1, .int v1)]) [0, 1] rfl ?_
          exact tX6_scanWord_65 l E o ho v1 σ h
        · refine J_aload_n (pc := 40) 0 dX6_scanWord_40 rfl ?_
          refine J_aload_n (pc := 41) 0 dX6_scanWord_41 rfl ?_
          refine J_getL (pc := 42) dX6_scanWord_42 ho flX6_62 rfl h (fun x6 h => ?_)
          refine J_bipush (pc := 45) (8 : Int32) dX6_scanWord_45 (by decide) ?_
          refine J_lshl (pc := 47) dX6_scanWord_47 ?_
          refine J_aload_n (pc := 48) 0 dX6_scanWord_48 rfl ?_
          refine J_getA (pc := 49) dX6_scanWord_49 ho flX6_11 rfl ?_
          refine J_iload_n (pc := 52) 1 dX6_scanWord_52 rfl ?_
          refine J_bald (pc := 53) dX6_scanWord_53 ho ha6_0 h (fun x7 h => ?_)
          refine J_i2l (pc := 54) dX6_scanWord_54 ?_
          refine J_lor (pc := 55) dX6_scanWord_55 ?_
          refine J_putL (pc := 56) dX6_scanWord_56 ho flX6_62 rfl h (fun σ8 h => ?_)
          refine J_iinc (pc := 59) (L' := [(1, .int (v1 + (1 : Int32))), (0, .ref (e_a E o 0))]) 1 (v1 + (1 : Int32)) dX6_scanWord_59 rfl (by rfl) (by decide) rfl ?_
          refine J_goto (pc := 62) 10 dX6_scanWord_62 (by decide) ?_
          refine J_sub (L' := [(0, .ref (e_a E o 0)), (1, .int (v1 + (1 : Int32)))]) [1, 0] rfl ?_
          exact ih (v1 + (1 : Int32)) σ8 h
def fX6_scanWord (o : Nat) (σ : Mm) : Option (Mm) := r_sc σ o 3 (fun x1 => p_lg σ o 8 (0 : Int64) (fun σ2 => fX6_scanWord_10 o FU x1 σ2))
set_option maxRecDepth 100000 in
set_option maxHeartbeats 4000000 in
theorem ctX6_scanWord (l : Launch) (E : EV) (o : Nat) (ho : KD o = 6) (σ : Mm) {τ : Mm} (h : fX6_scanWord o σ = some τ) : Ct l E mX6_scanWord 0 [.ref (e_a E o 0)] σ (none, τ) := by
  refine Ct.of (by decide +kernel) (Nat.le_of_ble_eq_true rfl) ?_
  show Jd l E mX6_scanWord 0 (none, τ) σ 0 [(0, .ref (e_a E o 0))] []
  unfold fX6_scanWord at h
  refine J_aload_n (pc := 0) 0 dX6_scanWord_0 rfl ?_
  refine J_getI (pc := 1) dX6_scanWord_1 ho flX6_40 rfl h (fun x1 h => ?_)
  refine J_istore_n (pc := 4) (L' := [(1, .int x1), (0, .ref (e_a E o 0))]) dX6_scanWord_4 (by decide) rfl ?_
  refine J_aload_n (pc := 5) 1 dX6_scanWord_5 rfl ?_
  refine J_lconst (pc := 6) (0 : Int64) dX6_scanWord_6 (by decide) ?_
  refine J_putL (pc := 7) dX6_scanWord_7 ho flX6_62 rfl h (fun σ2 h => ?_)
  refine J_sub (L' := [(0, .ref (e_a E o 0)), (1, .int x1)]) [1, 0] rfl ?_
  exact tX6_scanWord_10 l E o ho FU x1 σ2 h
def fX6_scanNumber_67 (o : Nat) (v1 : Int32) (σ : Mm) : Option (Mm) := p_sc σ o 4 v1 (fun σ9 => r_sc σ9 o 4 (fun x10 => r_sc σ9 o 3 (fun x11 => if (x10 - x11) ≤ (4 : Int32) then (p_sc σ9 o 5 (3 : Int32) (fun σ12 => some σ12)) else (p_sc σ9 o 5 (1 : Int32) (fun σ13 => some σ13)))))
set_option maxRecDepth 100000 in
set_option maxHeartbeats 4000000 in
theorem tX6_scanNumber_67 (l : Launch) (E : EV) {τ : Mm} (o : Nat) (ho : KD o = 6) (v1 : Int32) (σ : Mm) (h : fX6_scanNumber_67 o v1 σ = some τ) : Jd l E mX6_scanNumber 0 (none, τ) σ 67 [(0, .ref (e_a E o 0)), (1, .int v1)] [] := by
  unfold fX6_scanNumber_67 at h
  refine J_aload_n (pc := 67) 0 dX6_scanNumber_67 rfl ?_
  refine J_iload_n (pc := 68) 1 dX6_scanNumber_68 rfl ?_
  refine J_putI (pc := 69) dX6_scanNumber_69 ho flX6_28 rfl h (fun σ9 h => ?_)
  refine J_aload_n (pc := 72) 0 dX6_scanNumber_72 rfl ?_
  refine J_aload_n (pc := 73) 0 dX6_scanNumber_73 rfl ?_
  refine J_getI (pc := 74) dX6_scanNumber_74 ho flX6_28 rfl h (fun x10 h => ?_)
  refine J_aload_n (pc := 77) 0 dX6_scanNumber_77 rfl ?_
  refine J_getI (pc := 78) dX6_scanNumber_78 ho flX6_40 rfl h (fun x11 h => ?_)
  refine J_isub (pc := 81) dX6_scanNumber_81 ?_
  refine J_iconst (pc := 82) (4 : Int32) dX6_scanNumber_82 (by decide) ?_
  refine J_icmp_le (pc := 83) 90 dX6_scanNumber_83 (by decide) h (fun h => ?_) (fun h => ?_)
  · refine J_iconst (pc := 90) (3 : Int32) dX6_scanNumber_90 (by decide) ?_
    refine J_putI (pc := 91) dX6_scanNumber_91 ho flX6_46 rfl h (fun σ12 h => ?_)
    cases h
    exact J_vret (pc := 94) dX6_scanNumber_94 rfl
  · refine J_iconst (pc := 86) (1 : Int32) dX6_scanNumber_86 (by decide) ?_
    refine J_goto (pc := 87) 91 dX6_scanNumber_87 (by decide) ?_
    refine J_putI (pc := 91) dX6_scanNumber_91 ho flX6_46 rfl h (fun σ13 h => ?_)
    cases h
    exact J_vret (pc := 94) dX6_scanNumber_94 rfl
def fX6_scanNumber_10 (o : Nat) : Nat → Int32 → Mm → Option (Mm)
  | 0, _, _ => none
  | n + 1, v1, σ => r_sc σ o 2 (fun x3 => if x3 ≤ v1 then (fX6_scanNumber_67 o v1 σ) else (g_ar σ o 0 900 v1 (fun x4 => if x4 < (48 : Int32) then (fX6_scanNumber_67 o v1 σ) else (g_ar σ o 0 900 v1 (fun x5 => if (57 : Int32) < x5 then (fX6_scanNumber_67 o v1 σ) else (r_sc σ o 9 (fun x6 => g_ar σ o 0 900 v1 (fun x7 => p_sc σ o 9 (((x6 * (10 : Int32)) + x7) - (48 : Int32)) (fun σ8 => (fX6_scanNumber_10 o n) (v1 + (1 : Int32)) σ8)))))))))
set_option maxRecDepth 100000 in
set_option maxHeartbeats 4000000 in
theorem tX6_scanNumber_10 (l : Launch) (E : EV) {τ : Mm} (o : Nat) (ho : KD o = 6) : ∀ (n : Nat) (v1 : Int32) (σ : Mm), fX6_scanNumber_10 o n v1 σ = some τ → Jd l E mX6_scanNumber 0 (none, τ) σ 10 [(0, .ref (e_a E o 0)), (1, .int v1)] [] := by
  intro n
  induction n with
  | zero => intro v1 σ h; rw [fX6_scanNumber_10] at h; cases h
  | succ n ih =>
    intro v1 σ h
    rw [fX6_scanNumber_10] at h
    refine J_iload_n (pc := 10) 1 dX6_scanNumber_10 rfl ?_
    refine J_aload_n (pc := 11) 0 dX6_scanNumber_11 rfl ?_
    refine J_getI (pc := 12) dX6_scanNumber_12 ho flX6_25 rfl h (fun x3 h => ?_)
    refine J_icmp_ge (pc := 15) 67 dX6_scanNumber_15 (by decide) h (fun h => ?_) (fun h => ?_)
    · refine J_sub (L' := [(0, .ref (e_a E o 0)), (1, .int v1)]) [0, 1] rfl ?_
      exact tX6_scanNumber_67 l E o ho v1 σ h
    · refine J_aload_n (pc := 18) 0 dX6_scanNumber_18 rfl ?_
      refine J_getA (pc := 19) dX6_scanNumber_19 ho flX6_11 rfl ?_
      refine J_iload_n (pc := 22) 1 dX6_scanNumber_22 rfl ?_
      refine J_bald (pc := 23) dX6_scanNumber_23 ho ha6_0 h (fun x4 h => ?_)
      refine J_bipush (pc := 24) (48 : Int32) dX6_scanNumber_24 (by decide) ?_
      refine J_icmp_lt (pc := 26) 67 dX6_scanNumber_26 (by decide) h (fun h => ?_) (fun h => ?_)
      · refine J_sub (L' := [(0, .ref (e_a E o 0)), (1, .int v1)]) [0, 1] rfl ?_
        exact tX6_scanNumber_67 l E o ho v1 σ h
      · refine J_aload_n (pc := 29) 0 dX6_scanNumber_29 rfl ?_
        refine J_getA (pc := 30) dX6_scanNumber_30 ho flX6_11 rfl ?_
        refine J_iload_n (pc := 33) 1 dX6_scanNumber_33 rfl ?_
        refine J_bald (pc := 34) dX6_scanNumber_34 ho ha6_0 h (fun x5 h => ?_)
        refine J_bipush (pc := 35) (57 : Int32) dX6_scanNumber_35 (by decide) ?_
        refine J_icmp_gt (pc := 37) 67 dX6_scanNumber_37 (by decide) h (fun h => ?_) (fun h => ?_)
        · refine J_sub (L' := [(0, .ref (e_a E o 0)), (1, .int v1)]) [0, 1] rfl ?_
          exact tX6_scanNumber_67 l E o ho v1 σ h
        · refine J_aload_n (pc := 40) 0 dX6_scanNumber_40 rfl ?_
          refine J_aload_n (pc := 41) 0 dX6_scanNumber_41 rfl ?_
          refine J_getI (pc := 42) dX6_scanNumber_42 ho flX6_70 rfl h (fun x6 h => ?_)
          refine J_bipush (pc := 45) (10 : Int32) dX6_scanNumber_45 (by decide) ?_
          refine J_imul (pc := 47) dX6_scanNumber_47 ?_
          refine J_aload_n (pc := 48) 0 dX6_scanNumber_48 rfl ?_
          refine J_getA (pc := 49) dX6_scanNumber_49 ho flX6_11 rfl ?_
          refine J_iload_n (pc := 52) 1 dX6_scanNumber_52 rfl ?_
          refine J_bald (pc := 53) dX6_scanNumber_53 ho ha6_0 h (fun x7 h => ?_)
          refine J_iadd (pc := 54) dX6_scanNumber_54 ?_
          refine J_bipush (pc := 55) (48 : Int32) dX6_scanNumber_55 (by decide) ?_
          refine J_isub (pc := 57) dX6_scanNumber_57 ?_
          refine J_putI (pc := 58) dX6_scanNumber_58 ho flX6_70 rfl h (fun σ8 h => ?_)
          refine J_iinc (pc := 61) (L' := [(1, .int (v1 + (1 : Int32))), (0, .ref (e_a E o 0))]) 1 (v1 + (1 : Int32)) dX6_scanNumber_61 rfl (by rfl) (by decide) rfl ?_
          refine J_goto (pc := 64) 10 dX6_scanNumber_64 (by decide) ?_
          refine J_sub (L' := [(0, .ref (e_a E o 0)), (1, .int (v1 + (1 : Int32)))]) [1, 0] rfl ?_
          exact ih (v1 + (1 : Int32)) σ8 h
def fX6_scanNumber (o : Nat) (σ : Mm) : Option (Mm) := r_sc σ o 3 (fun x1 => p_sc σ o 9 (0 : Int32) (fun σ2 => fX6_scanNumber_10 o FU x1 σ2))
set_option maxRecDepth 100000 in
set_option maxHeartbeats 4000000 in
theorem ctX6_scanNumber (l : Launch) (E : EV) (o : Nat) (ho : KD o = 6) (σ : Mm) {τ : Mm} (h : fX6_scanNumber o σ = some τ) : Ct l E mX6_scanNumber 0 [.ref (e_a E o 0)] σ (none, τ) := by
  refine Ct.of (by decide +kernel) (Nat.le_of_ble_eq_true rfl) ?_
  show Jd l E mX6_scanNumber 0 (none, τ) σ 0 [(0, .ref (e_a E o 0))] []
  unfold fX6_scanNumber at h
  refine J_aload_n (pc := 0) 0 dX6_scanNumber_0 rfl ?_
  refine J_getI (pc := 1) dX6_scanNumber_1 ho flX6_40 rfl h (fun x1 h => ?_)
  refine J_istore_n (pc := 4) (L' := [(1, .int x1), (0, .ref (e_a E o 0))]) dX6_scanNumber_4 (by decide) rfl ?_
  refine J_aload_n (pc := 5) 1 dX6_scanNumber_5 rfl ?_
  refine J_iconst (pc := 6) (0 : Int32) dX6_scanNumber_6 (by decide) ?_
  refine J_putI (pc := 7) dX6_scanNumber_7 ho flX6_70 rfl h (fun σ2 h => ?_)
  refine J_sub (L' := [(0, .ref (e_a E o 0)), (1, .int x1)]) [1, 0] rfl ?_
  exact tX6_scanNumber_10 l E o ho FU x1 σ2 h
def fX6_isSign (a1 : Int32) (σ : Mm) : Option (Int32 × Mm) := if a1 = (59 : Int32) then (some ((1 : Int32), σ)) else (if a1 = (60 : Int32) then (some ((1 : Int32), σ)) else (if a1 = (62 : Int32) then (some ((1 : Int32), σ)) else (if a1 = (61 : Int32) then (some ((1 : Int32), σ)) else (some ((0 : Int32), σ)))))
set_option maxRecDepth 100000 in
set_option maxHeartbeats 4000000 in
theorem ctX6_isSign (l : Launch) (E : EV) (a1 : Int32) (σ : Mm) {xr : Int32} {τ : Mm} (h : fX6_isSign a1 σ = some (xr, τ)) : Ct l E mX6_isSign 0 [.int a1] σ (some (.int xr), τ) := by
  refine Ct.of (by decide +kernel) (Nat.le_of_ble_eq_true rfl) ?_
  show Jd l E mX6_isSign 0 (some (.int xr), τ) σ 0 [(0, .int a1)] []
  unfold fX6_isSign at h
  refine J_iload_n (pc := 0) 0 dX6_isSign_0 rfl ?_
  refine J_bipush (pc := 1) (59 : Int32) dX6_isSign_1 (by decide) ?_
  refine J_icmp_eq (pc := 3) 24 dX6_isSign_3 (by decide) h (fun h => ?_) (fun h => ?_)
  · refine J_iconst (pc := 24) (1 : Int32) dX6_isSign_24 (by decide) ?_
    refine J_goto (pc := 25) 29 dX6_isSign_25 (by decide) ?_
    cases h
    exact J_iret (pc := 29) dX6_isSign_29 rfl rfl
  · refine J_iload_n (pc := 6) 0 dX6_isSign_6 rfl ?_
    refine J_bipush (pc := 7) (60 : Int32) dX6_isSign_7 (by decide) ?_
    refine J_icmp_eq (pc := 9) 24 dX6_isSign_9 (by decide) h (fun h => ?_) (fun h => ?_)
    · refine J_iconst (pc := 24) (1 : Int32) dX6_isSign_24 (by decide) ?_
      refine J_goto (pc := 25) 29 dX6_isSign_25 (by decide) ?_
      cases h
      exact J_iret (pc := 29) dX6_isSign_29 rfl rfl
    · refine J_iload_n (pc := 12) 0 dX6_isSign_12 rfl ?_
      refine J_bipush (pc := 13) (62 : Int32) dX6_isSign_13 (by decide) ?_
      refine J_icmp_eq (pc := 15) 24 dX6_isSign_15 (by decide) h (fun h => ?_) (fun h => ?_)
      · refine J_iconst (pc := 24) (1 : Int32) dX6_isSign_24 (by decide) ?_
        refine J_goto (pc := 25) 29 dX6_isSign_25 (by decide) ?_
        cases h
        exact J_iret (pc := 29) dX6_isSign_29 rfl rfl
      · refine J_iload_n (pc := 18) 0 dX6_isSign_18 rfl ?_
        refine J_bipush (pc := 19) (61 : Int32) dX6_isSign_19 (by decide) ?_
        refine J_icmp_ne (pc := 21) 28 dX6_isSign_21 (by decide) h (fun h => ?_) (fun h => ?_)
        · refine J_iconst (pc := 28) (0 : Int32) dX6_isSign_28 (by decide) ?_
          cases h
          exact J_iret (pc := 29) dX6_isSign_29 rfl rfl
        · refine J_iconst (pc := 24) (1 : Int32) dX6_isSign_24 (by decide) ?_
          refine J_goto (pc := 25) 29 dX6_isSign_25 (by decide) ?_
          cases h
          exact J_iret (pc := 29) dX6_isSign_29 rfl rfl
def fX6_advance_133 (o : Nat) (v1 : Int32) (σ : Mm) : Option (Mm) := g_ar σ o 0 900 v1 (fun x23 => p_sc σ o 7 x23 (fun σ24 => r_sc σ24 o 7 (fun x25 => c_I (fX6_isSign x25 σ24) (fun x28 σ26 => if x28 = 0 then (p_sc σ26 o 5 (1 : Int32) (fun σ29 => p_sc σ29 o 4 (v1 + (1 : Int32)) (fun σ30 => some σ30))) else (p_sc σ26 o 5 (4 : Int32) (fun σ31 => p_sc σ31 o 4 (v1 + (1 : Int32)) (fun σ32 => some σ32)))))))
set_option maxRecDepth 100000 in
set_option maxHeartbeats 4000000 in
theorem tX6_advance_133 (l : Launch) (E : EV) {τ : Mm} (o : Nat) (ho : KD o = 6) (v1 : Int32) (σ : Mm) (h : fX6_advance_133 o v1 σ = some τ) : Jd l E mX6_advance 1 (none, τ) σ 133 [(0, .ref (e_a E o 0)), (1, .int v1)] [] := by
  unfold fX6_advance_133 at h
  refine J_aload_n (pc := 133) 0 dX6_advance_133 rfl ?_
  refine J_aload_n (pc := 134) 0 dX6_advance_134 rfl ?_
  refine J_getA (pc := 135) dX6_advance_135 ho flX6_11 rfl ?_
  refine J_iload_n (pc := 138) 1 dX6_advance_138 rfl ?_
  refine J_bald (pc := 139) dX6_advance_139 ho ha6_0 h (fun x23 h => ?_)
  refine J_putI (pc := 140) dX6_advance_140 ho flX6_55 rfl h (fun σ24 h => ?_)
  refine J_aload_n (pc := 143) 0 dX6_advance_143 rfl ?_
  refine J_aload_n (pc := 144) 0 dX6_advance_144 rfl ?_
  refine J_getI (pc := 145) dX6_advance_145 ho flX6_55 rfl h (fun x25 h => ?_)
  obtain ⟨x28, σ26, hc27, h⟩ := cI_t h
  refine J_cSi (pc := 148) (ctX6_isSign l E x25 σ24 hc27) dX6_advance_148 mlX6_58 msX6_isSign rfl (by decide) rfl (Nat.le_of_ble_eq_true rfl) ?_
  refine J_if_eq (pc := 151) 158 dX6_advance_151 (by decide) h (fun h => ?_) (fun h => ?_)
  · refine J_iconst (pc := 158) (1 : Int32) dX6_advance_158 (by decide) ?_
    refine J_putI (pc := 159) dX6_advance_159 ho flX6_46 rfl h (fun σ29 h => ?_)
    refine J_aload_n (pc := 162) 0 dX6_advance_162 rfl ?_
    refine J_iload_n (pc := 163) 1 dX6_advance_163 rfl ?_
    refine J_iconst (pc := 164) (1 : Int32) dX6_advance_164 (by decide) ?_
    refine J_iadd (pc := 165) dX6_advance_165 ?_
    refine J_putI (pc := 166) dX6_advance_166 ho flX6_28 rfl h (fun σ30 h => ?_)
    cases h
    exact J_vret (pc := 169) dX6_advance_169 rfl
  · refine J_iconst (pc := 154) (4 : Int32) dX6_advance_154 (by decide) ?_
    refine J_goto (pc := 155) 159 dX6_advance_155 (by decide) ?_
    refine J_putI (pc := 159) dX6_advance_159 ho flX6_46 rfl h (fun σ31 h => ?_)
    refine J_aload_n (pc := 162) 0 dX6_advance_162 rfl ?_
    refine J_iload_n (pc := 163) 1 dX6_advance_163 rfl ?_
    refine J_iconst (pc := 164) (1 : Int32) dX6_advance_164 (by decide) ?_
    refine J_iadd (pc := 165) dX6_advance_165 ?_
    refine J_putI (pc := 166) dX6_advance_166 ho flX6_28 rfl h (fun σ32 h => ?_)
    cases h
    exact J_vret (pc := 169) dX6_advance_169 rfl
def fX6_advance_41 (o : Nat) (v1 : Int32) (σ : Mm) : Option (Mm) := p_sc σ o 3 v1 (fun σ5 => p_sc σ5 o 6 (-1 : Int32) (fun σ6 => r_sc σ6 o 2 (fun x7 => if v1 < x7 then (g_ar σ6 o 0 900 v1 (fun x8 => if x8 < (97 : Int32) then (g_ar σ6 o 0 900 v1 (fun x9 => if x9 < (48 : Int32) then (fX6_advance_133 o v1 σ6) else (g_ar σ6 o 0 900 v1 (fun x10 => if (57 : Int32) < x10 then (fX6_advance_133 o v1 σ6) else (c_V (fX6_scanNumber o σ6) (fun σ11 => some σ11)))))) else (g_ar σ6 o 0 900 v1 (fun x13 => if (122 : Int32) < x13 then (g_ar σ6 o 0 900 v1 (fun x14 => if x14 < (48 : Int32) then (fX6_advance_133 o v1 σ6) else (g_ar σ6 o 0 900 v1 (fun x15 => if (57 : Int32) < x15 then (fX6_advance_133 o v1 σ6) else (c_V (fX6_scanNumber o σ6) (fun σ16 => some σ16)))))) else (c_V (fX6_scanWord o σ6) (fun σ18 => some σ18)))))) else (p_sc σ6 o 5 (0 : Int32) (fun σ20 => r_sc σ20 o 2 (fun x21 => p_sc σ20 o 4 x21 (fun σ22 => some σ22)))))))
set_option maxRecDepth 100000 in
set_option maxHeartbeats 4000000 in
theorem tX6_advance_41 (l : Launch) (E : EV) {τ : Mm} (o : Nat) (ho : KD o = 6) (v1 : Int32) (σ : Mm) (h : fX6_advance_41 o v1 σ = some τ) : Jd l E mX6_advance 1 (none, τ) σ 41 [(0, .ref (e_a E o 0)), (1, .int v1)] [] := by
  unfold fX6_advance_41 at h
  refine J_aload_n (pc := 41) 0 dX6_advance_41 rfl ?_
  refine J_iload_n (pc := 42) 1 dX6_advance_42 rfl ?_
  refine J_putI (pc := 43) dX6_advance_43 ho flX6_40 rfl h (fun σ5 h => ?_)
  refine J_aload_n (pc := 46) 0 dX6_advance_46 rfl ?_
  refine J_iconst (pc := 47) (-1 : Int32) dX6_advance_47 (by decide) ?_
  refine J_putI (pc := 48) dX6_advance_48 ho flX6_43 rfl h (fun σ6 h => ?_)
  refine J_iload_n (pc := 51) 1 dX6_advance_51 rfl ?_
  refine J_aload_n (pc := 52) 0 dX6_advance_52 rfl ?_
  refine J_getI (pc := 53) dX6_advance_53 ho flX6_25 rfl h (fun x7 h => ?_)
  refine J_icmp_lt (pc := 56) 75 dX6_advance_56 (by decide) h (fun h => ?_) (fun h => ?_)
  · refine J_aload_n (pc := 75) 0 dX6_advance_75 rfl ?_
    refine J_getA (pc := 76) dX6_advance_76 ho flX6_11 rfl ?_
    refine J_iload_n (pc := 79) 1 dX6_advance_79 rfl ?_
    refine J_bald (pc := 80) dX6_advance_80 ho ha6_0 h (fun x8 h => ?_)
    refine J_bipush (pc := 81) (97 : Int32) dX6_advance_81 (by decide) ?_
    refine J_icmp_lt (pc := 83) 104 dX6_advance_83 (by decide) h (fun h => ?_) (fun h => ?_)
    · refine J_aload_n (pc := 104) 0 dX6_advance_104 rfl ?_
      refine J_getA (pc := 105) dX6_advance_105 ho flX6_11 rfl ?_
      refine J_iload_n (pc := 108) 1 dX6_advance_108 rfl ?_
      refine J_bald (pc := 109) dX6_advance_109 ho ha6_0 h (fun x9 h => ?_)
      refine J_bipush (pc := 110) (48 : Int32) dX6_advance_110 (by decide) ?_
      refine J_icmp_lt (pc := 112) 133 dX6_advance_112 (by decide) h (fun h => ?_) (fun h => ?_)
      · refine J_sub (L' := [(0, .ref (e_a E o 0)), (1, .int v1)]) [0, 1] rfl ?_
        exact tX6_advance_133 l E o ho v1 σ6 h
      · refine J_aload_n (pc := 115) 0 dX6_advance_115 rfl ?_
        refine J_getA (pc := 116) dX6_advance_116 ho flX6_11 rfl ?_
        refine J_iload_n (pc := 119) 1 dX6_advance_119 rfl ?_
        refine J_bald (pc := 120) dX6_advance_120 ho ha6_0 h (fun x10 h => ?_)
        refine J_bipush (pc := 121) (57 : Int32) dX6_advance_121 (by decide) ?_
        refine J_icmp_gt (pc := 123) 133 dX6_advance_123 (by decide) h (fun h => ?_) (fun h => ?_)
        · refine J_sub (L' := [(0, .ref (e_a E o 0)), (1, .int v1)]) [0, 1] rfl ?_
          exact tX6_advance_133 l E o ho v1 σ6 h
        · refine J_aload_n (pc := 126) 0 dX6_advance_126 rfl ?_
          obtain ⟨σ11, hc12, h⟩ := cV_t h
          refine J_cVv (pc := 127) (ctX6_scanNumber l E o ho σ6 hc12) dX6_advance_127 mlX6_52 mvX6_scanNumber ho rfl (by decide) rfl (Nat.le_of_ble_eq_true rfl) ?_
          refine J_goto (pc := 130) 169 dX6_advance_130 (by decide) ?_
          cases h
          exact J_vret (pc := 169) dX6_advance_169 rfl
    · refine J_aload_n (pc := 86) 0 dX6_advance_86 rfl ?_
      refine J_getA (pc := 87) dX6_advance_87 ho flX6_11 rfl ?_
      refine J_iload_n (pc := 90) 1 dX6_advance_90 rfl ?_
      refine J_bald (pc := 91) dX6_advance_91 ho ha6_0 h (fun x13 h => ?_)
      refine J_bipush (pc := 92) (122 : Int32) dX6_advance_92 (by decide) ?_
      refine J_icmp_gt (pc := 94) 104 dX6_advance_94 (by decide) h (fun h => ?_) (fun h => ?_)
      · refine J_aload_n (pc := 104) 0 dX6_advance_104 rfl ?_
        refine J_getA (pc := 105) dX6_advance_105 ho flX6_11 rfl ?_
        refine J_iload_n (pc := 108) 1 dX6_advance_108 rfl ?_
        refine J_bald (pc := 109) dX6_advance_109 ho ha6_0 h (fun x14 h => ?_)
        refine J_bipush (pc := 110) (48 : Int32) dX6_advance_110 (by decide) ?_
        refine J_icmp_lt (pc := 112) 133 dX6_advance_112 (by decide) h (fun h => ?_) (fun h => ?_)
        · refine J_sub (L' := [(0, .ref (e_a E o 0)), (1, .int v1)]) [0, 1] rfl ?_
          exact tX6_advance_133 l E o ho v1 σ6 h
        · refine J_aload_n (pc := 115) 0 dX6_advance_115 rfl ?_
          refine J_getA (pc := 116) dX6_advance_116 ho flX6_11 rfl ?_
          refine J_iload_n (pc := 119) 1 dX6_advance_119 rfl ?_
          refine J_bald (pc := 120) dX6_advance_120 ho ha6_0 h (fun x15 h => ?_)
          refine J_bipush (pc := 121) (57 : Int32) dX6_advance_121 (by decide) ?_
          refine J_icmp_gt (pc := 123) 133 dX6_advance_123 (by decide) h (fun h => ?_) (fun h => ?_)
          · refine J_sub (L' := [(0, .ref (e_a E o 0)), (1, .int v1)]) [0, 1] rfl ?_
            exact tX6_advance_133 l E o ho v1 σ6 h
          · refine J_aload_n (pc := 126) 0 dX6_advance_126 rfl ?_
            obtain ⟨σ16, hc17, h⟩ := cV_t h
            refine J_cVv (pc := 127) (ctX6_scanNumber l E o ho σ6 hc17) dX6_advance_127 mlX6_52 mvX6_scanNumber ho rfl (by decide) rfl (Nat.le_of_ble_eq_true rfl) ?_
            refine J_goto (pc := 130) 169 dX6_advance_130 (by decide) ?_
            cases h
            exact J_vret (pc := 169) dX6_advance_169 rfl
      · refine J_aload_n (pc := 97) 0 dX6_advance_97 rfl ?_
        obtain ⟨σ18, hc19, h⟩ := cV_t h
        refine J_cVv (pc := 98) (ctX6_scanWord l E o ho σ6 hc19) dX6_advance_98 mlX6_49 mvX6_scanWord ho rfl (by decide) rfl (Nat.le_of_ble_eq_true rfl) ?_
        refine J_goto (pc := 101) 169 dX6_advance_101 (by decide) ?_
        cases h
        exact J_vret (pc := 169) dX6_advance_169 rfl
  · refine J_aload_n (pc := 59) 0 dX6_advance_59 rfl ?_
    refine J_iconst (pc := 60) (0 : Int32) dX6_advance_60 (by decide) ?_
    refine J_putI (pc := 61) dX6_advance_61 ho flX6_46 rfl h (fun σ20 h => ?_)
    refine J_aload_n (pc := 64) 0 dX6_advance_64 rfl ?_
    refine J_aload_n (pc := 65) 0 dX6_advance_65 rfl ?_
    refine J_getI (pc := 66) dX6_advance_66 ho flX6_25 rfl h (fun x21 h => ?_)
    refine J_putI (pc := 69) dX6_advance_69 ho flX6_28 rfl h (fun σ22 h => ?_)
    refine J_goto (pc := 72) 169 dX6_advance_72 (by decide) ?_
    cases h
    exact J_vret (pc := 169) dX6_advance_169 rfl
def fX6_advance_5 (o : Nat) : Nat → Int32 → Mm → Option (Mm)
  | 0, _, _ => none
  | n + 1, v1, σ => r_sc σ o 2 (fun x2 => if x2 ≤ v1 then (fX6_advance_41 o v1 σ) else (g_ar σ o 0 900 v1 (fun x3 => if x3 = (32 : Int32) then ((fX6_advance_5 o n) (v1 + (1 : Int32)) σ) else (g_ar σ o 0 900 v1 (fun x4 => if x4 = (10 : Int32) then ((fX6_advance_5 o n) (v1 + (1 : Int32)) σ) else (fX6_advance_41 o v1 σ))))))
set_option maxRecDepth 100000 in
set_option maxHeartbeats 4000000 in
theorem tX6_advance_5 (l : Launch) (E : EV) {τ : Mm} (o : Nat) (ho : KD o = 6) : ∀ (n : Nat) (v1 : Int32) (σ : Mm), fX6_advance_5 o n v1 σ = some τ → Jd l E mX6_advance 1 (none, τ) σ 5 [(0, .ref (e_a E o 0)), (1, .int v1)] [] := by
  intro n
  induction n with
  | zero => intro v1 σ h; rw [fX6_advance_5] at h; cases h
  | succ n ih =>
    intro v1 σ h
    rw [fX6_advance_5] at h
    refine J_iload_n (pc := 5) 1 dX6_advance_5 rfl ?_
    refine J_aload_n (pc := 6) 0 dX6_advance_6 rfl ?_
    refine J_getI (pc := 7) dX6_advance_7 ho flX6_25 rfl h (fun x2 h => ?_)
    refine J_icmp_ge (pc := 10) 41 dX6_advance_10 (by decide) h (fun h => ?_) (fun h => ?_)
    · refine J_sub (L' := [(0, .ref (e_a E o 0)), (1, .int v1)]) [0, 1] rfl ?_
      exact tX6_advance_41 l E o ho v1 σ h
    · refine J_aload_n (pc := 13) 0 dX6_advance_13 rfl ?_
      refine J_getA (pc := 14) dX6_advance_14 ho flX6_11 rfl ?_
      refine J_iload_n (pc := 17) 1 dX6_advance_17 rfl ?_
      refine J_bald (pc := 18) dX6_advance_18 ho ha6_0 h (fun x3 h => ?_)
      refine J_bipush (pc := 19) (32 : Int32) dX6_advance_19 (by decide) ?_
      refine J_icmp_eq (pc := 21) 35 dX6_advance_21 (by decide) h (fun h => ?_) (fun h => ?_)
      · refine J_iinc (pc := 35) (L' := [(1, .int (v1 + (1 : Int32))), (0, .ref (e_a E o 0))]) 1 (v1 + (1 : Int32)) dX6_advance_35 rfl (by rfl) (by decide) rfl ?_
        refine J_goto (pc := 38) 5 dX6_advance_38 (by decide) ?_
        refine J_sub (L' := [(0, .ref (e_a E o 0)), (1, .int (v1 + (1 : Int32)))]) [1, 0] rfl ?_
        exact ih (v1 + (1 : Int32)) σ h
      · refine J_aload_n (pc := 24) 0 dX6_advance_24 rfl ?_
        refine J_getA (pc := 25) dX6_advance_25 ho flX6_11 rfl ?_
        refine J_iload_n (pc := 28) 1 dX6_advance_28 rfl ?_
        refine J_bald (pc := 29) dX6_advance_29 ho ha6_0 h (fun x4 h => ?_)
        refine J_bipush (pc := 30) (10 : Int32) dX6_advance_30 (by decide) ?_
        refine J_icmp_ne (pc := 32) 41 dX6_advance_32 (by decide) h (fun h => ?_) (fun h => ?_)
        · refine J_sub (L' := [(0, .ref (e_a E o 0)), (1, .int v1)]) [0, 1] rfl ?_
          exact tX6_advance_41 l E o ho v1 σ h
        · refine J_iinc (pc := 35) (L' := [(1, .int (v1 + (1 : Int32))), (0, .ref (e_a E o 0))]) 1 (v1 + (1 : Int32)) dX6_advance_35 rfl (by rfl) (by decide) rfl ?_
          refine J_goto (pc := 38) 5 dX6_advance_38 (by decide) ?_
          refine J_sub (L' := [(0, .ref (e_a E o 0)), (1, .int (v1 + (1 : Int32)))]) [1, 0] rfl ?_
          exact ih (v1 + (1 : Int32)) σ h
def fX6_advance (o : Nat) (σ : Mm) : Option (Mm) := r_sc σ o 4 (fun x1 => fX6_advance_5 o FU x1 σ)
set_option maxRecDepth 100000 in
set_option maxHeartbeats 4000000 in
theorem ctX6_advance (l : Launch) (E : EV) (o : Nat) (ho : KD o = 6) (σ : Mm) {τ : Mm} (h : fX6_advance o σ = some τ) : Ct l E mX6_advance 1 [.ref (e_a E o 0)] σ (none, τ) := by
  refine Ct.of (by decide +kernel) (Nat.le_of_ble_eq_true rfl) ?_
  show Jd l E mX6_advance 1 (none, τ) σ 0 [(0, .ref (e_a E o 0))] []
  unfold fX6_advance at h
  refine J_aload_n (pc := 0) 0 dX6_advance_0 rfl ?_
  refine J_getI (pc := 1) dX6_advance_1 ho flX6_28 rfl h (fun x1 h => ?_)
  refine J_istore_n (pc := 4) (L' := [(1, .int x1), (0, .ref (e_a E o 0))]) dX6_advance_4 (by decide) rfl ?_
  refine J_sub (L' := [(0, .ref (e_a E o 0)), (1, .int x1)]) [1, 0] rfl ?_
  exact tX6_advance_5 l E o ho FU x1 σ h
def fX6_refuse (o : Nat) (a1 : Int32) (σ : Mm) : Option (Int32 × Mm) := p_sc σ o 11 a1 (fun σ1 => r_sc σ1 o 3 (fun x2 => p_sc σ1 o 12 x2 (fun σ3 => some ((0 : Int32), σ3))))
set_option maxRecDepth 100000 in
set_option maxHeartbeats 4000000 in
theorem ctX6_refuse (l : Launch) (E : EV) (o : Nat) (a1 : Int32) (ho : KD o = 6) (σ : Mm) {xr : Int32} {τ : Mm} (h : fX6_refuse o a1 σ = some (xr, τ)) : Ct l E mX6_refuse 0 [.ref (e_a E o 0), .int a1] σ (some (.int xr), τ) := by
  refine Ct.of (by decide +kernel) (Nat.le_of_ble_eq_true rfl) ?_
  show Jd l E mX6_refuse 0 (some (.int xr), τ) σ 0 [(0, .ref (e_a E o 0)), (1, .int a1)] []
  unfold fX6_refuse at h
  refine J_aload_n (pc := 0) 0 dX6_refuse_0 rfl ?_
  refine J_iload_n (pc := 1) 1 dX6_refuse_1 rfl ?_
  refine J_putI (pc := 2) dX6_refuse_2 ho flX6_31 rfl h (fun σ1 h => ?_)
  refine J_aload_n (pc := 5) 0 dX6_refuse_5 rfl ?_
  refine J_aload_n (pc := 6) 0 dX6_refuse_6 rfl ?_
  refine J_getI (pc := 7) dX6_refuse_7 ho flX6_40 rfl h (fun x2 h => ?_)
  refine J_putI (pc := 10) dX6_refuse_10 ho flX6_34 rfl h (fun σ3 h => ?_)
  refine J_iconst (pc := 13) (0 : Int32) dX6_refuse_13 (by decide) ?_
  cases h
  exact J_iret (pc := 14) dX6_refuse_14 rfl rfl
def fX6_refuseToken (o : Nat) (σ : Mm) : Option (Int32 × Mm) := r_sc σ o 5 (fun x1 => if x1 = (1 : Int32) then (c_I (fX6_refuse o (1 : Int32) σ) (fun x8 σ6 => b_z x8 σ6)) else (c_I (fX6_refuse o (2 : Int32) σ) (fun x4 σ2 => b_z x4 σ2)))
set_option maxRecDepth 100000 in
set_option maxHeartbeats 4000000 in
theorem ctX6_refuseToken (l : Launch) (E : EV) (o : Nat) (ho : KD o = 6) (σ : Mm) {xr : Int32} {τ : Mm} (h : fX6_refuseToken o σ = some (xr, τ)) : Ct l E mX6_refuseToken 1 [.ref (e_a E o 0)] σ (some (.int xr), τ) := by
  refine Ct.of (by decide +kernel) (Nat.le_of_ble_eq_true rfl) ?_
  show Jd l E mX6_refuseToken 1 (some (.int xr), τ) σ 0 [(0, .ref (e_a E o 0))] []
  unfold fX6_refuseToken at h
  refine J_aload_n (pc := 0) 0 dX6_refuseToken_0 rfl ?_
  refine J_aload_n (pc := 1) 0 dX6_refuseToken_1 rfl ?_
  refine J_getI (pc := 2) dX6_refuseToken_2 ho flX6_46 rfl h (fun x1 h => ?_)
  refine J_iconst (pc := 5) (1 : Int32) dX6_refuseToken_5 (by decide) ?_
  refine J_icmp_ne (pc := 6) 13 dX6_refuseToken_6 (by decide) h (fun h => ?_) (fun h => ?_)
  · refine J_iconst (pc := 13) (2 : Int32) dX6_refuseToken_13 (by decide) ?_
    obtain ⟨x4, σ2, hc3, h⟩ := cI_t h
    refine J_cVi (pc := 14) (ctX6_refuse l E o (2 : Int32) ho σ hc3) dX6_refuseToken_14 mlX6_73 mvX6_refuse ho rfl (by decide) rfl (Nat.le_of_ble_eq_true rfl) ?_
    obtain ⟨hz5, h⟩ := bz_t h
    cases h
    exact J_iret (pc := 17) dX6_refuseToken_17 rfl hz5
  · refine J_iconst (pc := 9) (1 : Int32) dX6_refuseToken_9 (by decide) ?_
    refine J_goto (pc := 10) 14 dX6_refuseToken_10 (by decide) ?_
    obtain ⟨x8, σ6, hc7, h⟩ := cI_t h
    refine J_cVi (pc := 14) (ctX6_refuse l E o (1 : Int32) ho σ hc7) dX6_refuseToken_14 mlX6_73 mvX6_refuse ho rfl (by decide) rfl (Nat.le_of_ble_eq_true rfl) ?_
    obtain ⟨hz9, h⟩ := bz_t h
    cases h
    exact J_iret (pc := 17) dX6_refuseToken_17 rfl hz9
def fX6_takeSemicolon (o : Nat) (σ : Mm) : Option (Int32 × Mm) := r_sc σ o 5 (fun x1 => if x1 = (4 : Int32) then (r_sc σ o 7 (fun x6 => if x6 = (59 : Int32) then (c_V (fX6_advance o σ) (fun σ7 => some ((1 : Int32), σ7))) else (c_I (fX6_refuseToken o σ) (fun x11 σ9 => b_z x11 σ9)))) else (c_I (fX6_refuseToken o σ) (fun x4 σ2 => b_z x4 σ2)))
set_option maxRecDepth 100000 in
set_option maxHeartbeats 4000000 in
theorem ctX6_takeSemicolon (l : Launch) (E : EV) (o : Nat) (ho : KD o = 6) (σ : Mm) {xr : Int32} {τ : Mm} (h : fX6_takeSemicolon o σ = some (xr, τ)) : Ct l E mX6_takeSemicolon 2 [.ref (e_a E o 0)] σ (some (.int xr), τ) := by
  refine Ct.of (by decide +kernel) (Nat.le_of_ble_eq_true rfl) ?_
  show Jd l E mX6_takeSemicolon 2 (some (.int xr), τ) σ 0 [(0, .ref (e_a E o 0))] []
  unfold fX6_takeSemicolon at h
  refine J_aload_n (pc := 0) 0 dX6_takeSemicolon_0 rfl ?_
  refine J_getI (pc := 1) dX6_takeSemicolon_1 ho flX6_46 rfl h (fun x1 h => ?_)
  refine J_iconst (pc := 4) (4 : Int32) dX6_takeSemicolon_4 (by decide) ?_
  refine J_icmp_ne (pc := 5) 17 dX6_takeSemicolon_5 (by decide) h (fun h => ?_) (fun h => ?_)
  · refine J_aload_n (pc := 17) 0 dX6_takeSemicolon_17 rfl ?_
    obtain ⟨x4, σ2, hc3, h⟩ := cI_t h
    refine J_cVi (pc := 18) (ctX6_refuseToken l E o ho σ hc3) dX6_takeSemicolon_18 mlX6_76 mvX6_refuseToken ho rfl (by decide) rfl (Nat.le_of_ble_eq_true rfl) ?_
    obtain ⟨hz5, h⟩ := bz_t h
    cases h
    exact J_iret (pc := 21) dX6_takeSemicolon_21 rfl hz5
  · refine J_aload_n (pc := 8) 0 dX6_takeSemicolon_8 rfl ?_
    refine J_getI (pc := 9) dX6_takeSemicolon_9 ho flX6_55 rfl h (fun x6 h => ?_)
    refine J_bipush (pc := 12) (59 : Int32) dX6_takeSemicolon_12 (by decide) ?_
    refine J_icmp_eq (pc := 14) 22 dX6_takeSemicolon_14 (by decide) h (fun h => ?_) (fun h => ?_)
    · refine J_aload_n (pc := 22) 0 dX6_takeSemicolon_22 rfl ?_
      obtain ⟨σ7, hc8, h⟩ := cV_t h
      refine J_cVv (pc := 23) (ctX6_advance l E o ho σ hc8) dX6_takeSemicolon_23 mlX6_37 mvX6_advance ho rfl (by decide) rfl (Nat.le_of_ble_eq_true rfl) ?_
      refine J_iconst (pc := 26) (1 : Int32) dX6_takeSemicolon_26 (by decide) ?_
      cases h
      exact J_iret (pc := 27) dX6_takeSemicolon_27 rfl rfl
    · refine J_aload_n (pc := 17) 0 dX6_takeSemicolon_17 rfl ?_
      obtain ⟨x11, σ9, hc10, h⟩ := cI_t h
      refine J_cVi (pc := 18) (ctX6_refuseToken l E o ho σ hc10) dX6_takeSemicolon_18 mlX6_76 mvX6_refuseToken ho rfl (by decide) rfl (Nat.le_of_ble_eq_true rfl) ?_
      obtain ⟨hz12, h⟩ := bz_t h
      cases h
      exact J_iret (pc := 21) dX6_takeSemicolon_21 rfl hz12
def fX1_addRow (o : Nat) (a1 : Int32) (σ : Mm) : Option (Mm) := r_rf σ o 2 5 (fun q1 => r_rf σ o 2 5 (fun q2 => r_sc σ q2 2 (fun x3 => s_ar σ q1 0 60 x3 a1 (fun σ4 => r_rf σ4 o 2 5 (fun q5 => r_sc σ4 q5 2 (fun x6 => p_sc σ4 q5 2 (x6 + (1 : Int32)) (fun σ7 => some σ7)))))))
set_option maxRecDepth 100000 in
set_option maxHeartbeats 4000000 in
theorem ctX1_addRow (l : Launch) (E : EV) (o : Nat) (a1 : Int32) (ho : KD o = 1) (σ : Mm) {τ : Mm} (h : fX1_addRow o a1 σ = some τ) : Ct l E mX1_addRow 0 [.ref (e_a E o 0), .int a1] σ (none, τ) := by
  refine Ct.of (by decide +kernel) (Nat.le_of_ble_eq_true rfl) ?_
  show Jd l E mX1_addRow 0 (none, τ) σ 0 [(0, .ref (e_a E o 0)), (1, .int a1)] []
  unfold fX1_addRow at h
  refine J_aload_n (pc := 0) 0 dX1_addRow_0 rfl ?_
  refine J_getR (pc := 1) dX1_addRow_1 ho flX1_23 rfl h (fun q1 hq1 h => ?_)
  refine J_getA (pc := 4) dX1_addRow_4 hq1 flX1_91 rfl ?_
  refine J_aload_n (pc := 7) 0 dX1_addRow_7 rfl ?_
  refine J_getR (pc := 8) dX1_addRow_8 ho flX1_23 rfl h (fun q2 hq2 h => ?_)
  refine J_getI (pc := 11) dX1_addRow_11 hq2 flX1_68 rfl h (fun x3 h => ?_)
  refine J_iload_n (pc := 14) 1 dX1_addRow_14 rfl ?_
  refine J_iast (pc := 15) dX1_addRow_15 hq1 ha5_0 h (fun σ4 h => ?_)
  refine J_aload_n (pc := 16) 0 dX1_addRow_16 rfl ?_
  refine J_getR (pc := 17) dX1_addRow_17 ho flX1_23 rfl h (fun q5 hq5 h => ?_)
  refine J_dup (pc := 20) dX1_addRow_20 rfl ?_
  refine J_getI (pc := 21) dX1_addRow_21 hq5 flX1_68 rfl h (fun x6 h => ?_)
  refine J_iconst (pc := 24) (1 : Int32) dX1_addRow_24 (by decide) ?_
  refine J_iadd (pc := 25) dX1_addRow_25 ?_
  refine J_putI (pc := 26) dX1_addRow_26 hq5 flX1_68 rfl h (fun σ7 h => ?_)
  cases h
  exact J_vret (pc := 29) dX1_addRow_29 rfl
def fX1_readEnd (o : Nat) (σ : Mm) : Option (Int32 × Mm) := r_rf σ o 0 6 (fun q1 => c_V (fX6_advance q1 σ) (fun σ2 => r_rf σ2 o 0 6 (fun q4 => c_I (fX6_takeSemicolon q4 σ2) (fun x7 σ5 => if x7 = 0 then (some ((0 : Int32), σ5)) else (r_sc σ5 o 4 (fun x8 => p_sc σ5 o 4 (x8 - (1 : Int32)) (fun σ9 => r_sc σ9 o 4 (fun x10 => g_ar σ9 o 0 3 x10 (fun x11 => r_rf σ9 o 2 5 (fun q12 => r_rf σ9 o 2 5 (fun q13 => r_sc σ9 q13 2 (fun x14 => s_ar σ9 q12 4 60 x11 x14 (fun σ15 => r_rf σ15 o 2 5 (fun q16 => r_rf σ15 o 2 5 (fun q17 => r_sc σ15 q17 2 (fun x18 => s_ar σ15 q16 4 60 x18 x11 (fun σ19 => c_V (fX1_addRow o (21 : Int32) σ19) (fun σ20 => some ((1 : Int32), σ20)))))))))))))))))))
set_option maxRecDepth 100000 in
set_option maxHeartbeats 4000000 in
theorem ctX1_readEnd (l : Launch) (E : EV) (o : Nat) (ho : KD o = 1) (σ : Mm) {xr : Int32} {τ : Mm} (h : fX1_readEnd o σ = some (xr, τ)) : Ct l E mX1_readEnd 3 [.ref (e_a E o 0)] σ (some (.int xr), τ) := by
  refine Ct.of (by decide +kernel) (Nat.le_of_ble_eq_true rfl) ?_
  show Jd l E mX1_readEnd 3 (some (.int xr), τ) σ 0 [(0, .ref (e_a E o 0))] []
  unfold fX1_readEnd at h
  refine J_aload_n (pc := 0) 0 dX1_readEnd_0 rfl ?_
  refine J_getR (pc := 1) dX1_readEnd_1 ho flX1_15 rfl h (fun q1 hq1 h => ?_)
  obtain ⟨σ2, hc3, h⟩ := cV_t h
  refine J_cVv (pc := 4) (ctX6_advance l E q1 hq1 σ hc3) dX1_readEnd_4 mlX1_71 mvX6_advance hq1 rfl (by decide) rfl (Nat.le_of_ble_eq_true rfl) ?_
  refine J_aload_n (pc := 7) 0 dX1_readEnd_7 rfl ?_
  refine J_getR (pc := 8) dX1_readEnd_8 ho flX1_15 rfl h (fun q4 hq4 h => ?_)
  obtain ⟨x7, σ5, hc6, h⟩ := cI_t h
  refine J_cVi (pc := 11) (ctX6_takeSemicolon l E q4 hq4 σ2 hc6) dX1_readEnd_11 mlX1_81 mvX6_takeSemicolon hq4 rfl (by decide) rfl (Nat.le_of_ble_eq_true rfl) ?_
  refine J_if_ne (pc := 14) 19 dX1_readEnd_14 (by decide) h (fun h => ?_) (fun h => ?_)
  · refine J_aload_n (pc := 19) 0 dX1_readEnd_19 rfl ?_
    refine J_dup (pc := 20) dX1_readEnd_20 rfl ?_
    refine J_getI (pc := 21) dX1_readEnd_21 ho flX1_32 rfl h (fun x8 h => ?_)
    refine J_iconst (pc := 24) (1 : Int32) dX1_readEnd_24 (by decide) ?_
    refine J_isub (pc := 25) dX1_readEnd_25 ?_
    refine J_putI (pc := 26) dX1_readEnd_26 ho flX1_32 rfl h (fun σ9 h => ?_)
    refine J_aload_n (pc := 29) 0 dX1_readEnd_29 rfl ?_
    refine J_getA (pc := 30) dX1_readEnd_30 ho flX1_11 rfl ?_
    refine J_aload_n (pc := 33) 0 dX1_readEnd_33 rfl ?_
    refine J_getI (pc := 34) dX1_readEnd_34 ho flX1_32 rfl h (fun x10 h => ?_)
    refine J_iald (pc := 37) dX1_readEnd_37 ho ha1_0 h (fun x11 h => ?_)
    refine J_istore_n (pc := 38) (L' := [(1, .int x11), (0, .ref (e_a E o 0))]) dX1_readEnd_38 (by decide) rfl ?_
    refine J_aload_n (pc := 39) 1 dX1_readEnd_39 rfl ?_
    refine J_getR (pc := 40) dX1_readEnd_40 ho flX1_23 rfl h (fun q12 hq12 h => ?_)
    refine J_getA (pc := 43) dX1_readEnd_43 hq12 flX1_88 rfl ?_
    refine J_iload_n (pc := 46) 0 dX1_readEnd_46 rfl ?_
    refine J_aload_n (pc := 47) 1 dX1_readEnd_47 rfl ?_
    refine J_getR (pc := 48) dX1_readEnd_48 ho flX1_23 rfl h (fun q13 hq13 h => ?_)
    refine J_getI (pc := 51) dX1_readEnd_51 hq13 flX1_68 rfl h (fun x14 h => ?_)
    refine J_iast (pc := 54) dX1_readEnd_54 hq12 ha5_4 h (fun σ15 h => ?_)
    refine J_aload_n (pc := 55) 1 dX1_readEnd_55 rfl ?_
    refine J_getR (pc := 56) dX1_readEnd_56 ho flX1_23 rfl h (fun q16 hq16 h => ?_)
    refine J_getA (pc := 59) dX1_readEnd_59 hq16 flX1_88 rfl ?_
    refine J_aload_n (pc := 62) 1 dX1_readEnd_62 rfl ?_
    refine J_getR (pc := 63) dX1_readEnd_63 ho flX1_23 rfl h (fun q17 hq17 h => ?_)
    refine J_getI (pc := 66) dX1_readEnd_66 hq17 flX1_68 rfl h (fun x18 h => ?_)
    refine J_iload_n (pc := 69) 0 dX1_readEnd_69 rfl ?_
    refine J_iast (pc := 70) dX1_readEnd_70 hq16 ha5_4 h (fun σ19 h => ?_)
    refine J_aload_n (pc := 71) 1 dX1_readEnd_71 rfl ?_
    refine J_bipush (pc := 72) (21 : Int32) dX1_readEnd_72 (by decide) ?_
    obtain ⟨σ20, hc21, h⟩ := cV_t h
    refine J_cVv (pc := 74) (ctX1_addRow l E o (21 : Int32) ho σ19 hc21) dX1_readEnd_74 mlX1_84 mvX1_addRow ho rfl (by decide) rfl (Nat.le_of_ble_eq_true rfl) ?_
    refine J_iconst (pc := 77) (1 : Int32) dX1_readEnd_77 (by decide) ?_
    cases h
    exact J_iret (pc := 78) dX1_readEnd_78 rfl rfl
  · refine J_iconst (pc := 17) (0 : Int32) dX1_readEnd_17 (by decide) ?_
    cases h
    exact J_iret (pc := 18) dX1_readEnd_18 rfl rfl
def fX1_isStep (a1 : Int32) (σ : Mm) : Option (Int32 × Mm) := if a1 = (10 : Int32) then (some ((1 : Int32), σ)) else if a1 = (11 : Int32) then (some ((1 : Int32), σ)) else if a1 = (12 : Int32) then (some ((1 : Int32), σ)) else if a1 = (13 : Int32) then (some ((1 : Int32), σ)) else if a1 = (14 : Int32) then (some ((1 : Int32), σ)) else if a1 = (15 : Int32) then (some ((1 : Int32), σ)) else if a1 = (16 : Int32) then (some ((1 : Int32), σ)) else if a1 = (17 : Int32) then (some ((1 : Int32), σ)) else if a1 = (18 : Int32) then (some ((1 : Int32), σ)) else if a1 = (20 : Int32) then (some ((1 : Int32), σ)) else if a1 = (22 : Int32) then (some ((1 : Int32), σ)) else (some ((0 : Int32), σ))
set_option maxRecDepth 100000 in
set_option maxHeartbeats 4000000 in
theorem ctX1_isStep (l : Launch) (E : EV) (a1 : Int32) (σ : Mm) {xr : Int32} {τ : Mm} (h : fX1_isStep a1 σ = some (xr, τ)) : Ct l E mX1_isStep 0 [.int a1] σ (some (.int xr), τ) := by
  refine Ct.of (by decide +kernel) (Nat.le_of_ble_eq_true rfl) ?_
  show Jd l E mX1_isStep 0 (some (.int xr), τ) σ 0 [(0, .int a1)] []
  unfold fX1_isStep at h
  refine J_iload_n (pc := 0) 0 dX1_isStep_0 rfl ?_
  by_cases hs1 : a1 = (10 : Int32)
  · rw [if_pos hs1] at h
    refine J_tableIn (pc := 1) 68 dX1_isStep_1 (by rw [hs1]; decide) (by rw [hs1]; decide) (by rw [hs1]; rfl) (by decide) ?_
    refine J_iconst (pc := 68) (1 : Int32) dX1_isStep_68 (by decide) ?_
    cases h
    exact J_iret (pc := 69) dX1_isStep_69 rfl rfl
  rw [if_neg hs1] at h
  by_cases hs2 : a1 = (11 : Int32)
  · rw [if_pos hs2] at h
    refine J_tableIn (pc := 1) 68 dX1_isStep_1 (by rw [hs2]; decide) (by rw [hs2]; decide) (by rw [hs2]; rfl) (by decide) ?_
    refine J_iconst (pc := 68) (1 : Int32) dX1_isStep_68 (by decide) ?_
    cases h
    exact J_iret (pc := 69) dX1_isStep_69 rfl rfl
  rw [if_neg hs2] at h
  by_cases hs3 : a1 = (12 : Int32)
  · rw [if_pos hs3] at h
    refine J_tableIn (pc := 1) 68 dX1_isStep_1 (by rw [hs3]; decide) (by rw [hs3]; decide) (by rw [hs3]; rfl) (by decide) ?_
    refine J_iconst (pc := 68) (1 : Int32) dX1_isStep_68 (by decide) ?_
    cases h
    exact J_iret (pc := 69) dX1_isStep_69 rfl rfl
  rw [if_neg hs3] at h
  by_cases hs4 : a1 = (13 : Int32)
  · rw [if_pos hs4] at h
    refine J_tableIn (pc := 1) 68 dX1_isStep_1 (by rw [hs4]; decide) (by rw [hs4]; decide) (by rw [hs4]; rfl) (by decide) ?_
    refine J_iconst (pc := 68) (1 : Int32) dX1_isStep_68 (by decide) ?_
    cases h
    exact J_iret (pc := 69) dX1_isStep_69 rfl rfl
  rw [if_neg hs4] at h
  by_cases hs5 : a1 = (14 : Int32)
  · rw [if_pos hs5] at h
    refine J_tableIn (pc := 1) 68 dX1_isStep_1 (by rw [hs5]; decide) (by rw [hs5]; decide) (by rw [hs5]; rfl) (by decide) ?_
    refine J_iconst (pc := 68) (1 : Int32) dX1_isStep_68 (by decide) ?_
    cases h
    exact J_iret (pc := 69) dX1_isStep_69 rfl rfl
  rw [if_neg hs5] at h
  by_cases hs6 : a1 = (15 : Int32)
  · rw [if_pos hs6] at h
    refine J_tableIn (pc := 1) 68 dX1_isStep_1 (by rw [hs6]; decide) (by rw [hs6]; decide) (by rw [hs6]; rfl) (by decide) ?_
    refine J_iconst (pc := 68) (1 : Int32) dX1_isStep_68 (by decide) ?_
    cases h
    exact J_iret (pc := 69) dX1_isStep_69 rfl rfl
  rw [if_neg hs6] at h
  by_cases hs7 : a1 = (16 : Int32)
  · rw [if_pos hs7] at h
    refine J_tableIn (pc := 1) 68 dX1_isStep_1 (by rw [hs7]; decide) (by rw [hs7]; decide) (by rw [hs7]; rfl) (by decide) ?_
    refine J_iconst (pc := 68) (1 : Int32) dX1_isStep_68 (by decide) ?_
    cases h
    exact J_iret (pc := 69) dX1_isStep_69 rfl rfl
  rw [if_neg hs7] at h
  by_cases hs8 : a1 = (17 : Int32)
  · rw [if_pos hs8] at h
    refine J_tableIn (pc := 1) 68 dX1_isStep_1 (by rw [hs8]; decide) (by rw [hs8]; decide) (by rw [hs8]; rfl) (by decide) ?_
    refine J_iconst (pc := 68) (1 : Int32) dX1_isStep_68 (by decide) ?_
    cases h
    exact J_iret (pc := 69) dX1_isStep_69 rfl rfl
  rw [if_neg hs8] at h
  by_cases hs9 : a1 = (18 : Int32)
  · rw [if_pos hs9] at h
    refine J_tableIn (pc := 1) 68 dX1_isStep_1 (by rw [hs9]; decide) (by rw [hs9]; decide) (by rw [hs9]; rfl) (by decide) ?_
    refine J_iconst (pc := 68) (1 : Int32) dX1_isStep_68 (by decide) ?_
    cases h
    exact J_iret (pc := 69) dX1_isStep_69 rfl rfl
  rw [if_neg hs9] at h
  by_cases hs10 : a1 = (20 : Int32)
  · rw [if_pos hs10] at h
    refine J_tableIn (pc := 1) 68 dX1_isStep_1 (by rw [hs10]; decide) (by rw [hs10]; decide) (by rw [hs10]; rfl) (by decide) ?_
    refine J_iconst (pc := 68) (1 : Int32) dX1_isStep_68 (by decide) ?_
    cases h
    exact J_iret (pc := 69) dX1_isStep_69 rfl rfl
  rw [if_neg hs10] at h
  by_cases hs11 : a1 = (22 : Int32)
  · rw [if_pos hs11] at h
    refine J_tableIn (pc := 1) 68 dX1_isStep_1 (by rw [hs11]; decide) (by rw [hs11]; decide) (by rw [hs11]; rfl) (by decide) ?_
    refine J_iconst (pc := 68) (1 : Int32) dX1_isStep_68 (by decide) ?_
    cases h
    exact J_iret (pc := 69) dX1_isStep_69 rfl rfl
  rw [if_neg hs11] at h
  refine J_tableD (pc := 1) 70 dX1_isStep_1 (by decide) (fun h1 h2 => by have := ne_i hs1 (k := 10) (by decide); have := ne_i hs2 (k := 11) (by decide); have := ne_i hs3 (k := 12) (by decide); have := ne_i hs4 (k := 13) (by decide); have := ne_i hs5 (k := 14) (by decide); have := ne_i hs6 (k := 15) (by decide); have := ne_i hs7 (k := 16) (by decide); have := ne_i hs8 (k := 17) (by decide); have := ne_i hs9 (k := 18) (by decide); have := ne_i hs10 (k := 20) (by decide); have := ne_i hs11 (k := 22) (by decide); rcases (show a1.toInt = 19 ∨ a1.toInt = 21 by omega) with q | q <;> rw [q] <;> rfl) ?_
  refine J_iconst (pc := 70) (0 : Int32) dX1_isStep_70 (by decide) ?_
  cases h
  exact J_iret (pc := 71) dX1_isStep_71 rfl rfl
def fX6_seesName (o : Nat) (σ : Mm) : Option (Int32 × Mm) := r_sc σ o 5 (fun x1 => if x1 = (2 : Int32) then (r_lg σ o 8 (fun x6 => if (lg_cmp x6 (0 : Int64)) = 0 then (c_I (fX6_refuseToken o σ) (fun x9 σ7 => b_z x9 σ7)) else (r_sc σ o 6 (fun x11 => if x11 = (-1 : Int32) then (some ((1 : Int32), σ)) else (c_I (fX6_refuseToken o σ) (fun x14 σ12 => b_z x14 σ12)))))) else (c_I (fX6_refuseToken o σ) (fun x4 σ2 => b_z x4 σ2)))
set_option maxRecDepth 100000 in
set_option maxHeartbeats 4000000 in
theorem ctX6_seesName (l : Launch) (E : EV) (o : Nat) (ho : KD o = 6) (σ : Mm) {xr : Int32} {τ : Mm} (h : fX6_seesName o σ = some (xr, τ)) : Ct l E mX6_seesName 2 [.ref (e_a E o 0)] σ (some (.int xr), τ) := by
  refine Ct.of (by decide +kernel) (Nat.le_of_ble_eq_true rfl) ?_
  show Jd l E mX6_seesName 2 (some (.int xr), τ) σ 0 [(0, .ref (e_a E o 0))] []
  unfold fX6_seesName at h
  refine J_aload_n (pc := 0) 0 dX6_seesName_0 rfl ?_
  refine J_getI (pc := 1) dX6_seesName_1 ho flX6_46 rfl h (fun x1 h => ?_)
  refine J_iconst (pc := 4) (2 : Int32) dX6_seesName_4 (by decide) ?_
  refine J_icmp_ne (pc := 5) 25 dX6_seesName_5 (by decide) h (fun h => ?_) (fun h => ?_)
  · refine J_aload_n (pc := 25) 0 dX6_seesName_25 rfl ?_
    obtain ⟨x4, σ2, hc3, h⟩ := cI_t h
    refine J_cVi (pc := 26) (ctX6_refuseToken l E o ho σ hc3) dX6_seesName_26 mlX6_76 mvX6_refuseToken ho rfl (by decide) rfl (Nat.le_of_ble_eq_true rfl) ?_
    obtain ⟨hz5, h⟩ := bz_t h
    cases h
    exact J_iret (pc := 29) dX6_seesName_29 rfl hz5
  · refine J_aload_n (pc := 8) 0 dX6_seesName_8 rfl ?_
    refine J_getL (pc := 9) dX6_seesName_9 ho flX6_62 rfl h (fun x6 h => ?_)
    refine J_lconst (pc := 12) (0 : Int64) dX6_seesName_12 (by decide) ?_
    refine J_lcmp (pc := 13) dX6_seesName_13 ?_
    refine J_if_eq (pc := 14) 25 dX6_seesName_14 (by decide) h (fun h => ?_) (fun h => ?_)
    · refine J_aload_n (pc := 25) 0 dX6_seesName_25 rfl ?_
      obtain ⟨x9, σ7, hc8, h⟩ := cI_t h
      refine J_cVi (pc := 26) (ctX6_refuseToken l E o ho σ hc8) dX6_seesName_26 mlX6_76 mvX6_refuseToken ho rfl (by decide) rfl (Nat.le_of_ble_eq_true rfl) ?_
      obtain ⟨hz10, h⟩ := bz_t h
      cases h
      exact J_iret (pc := 29) dX6_seesName_29 rfl hz10
    · refine J_aload_n (pc := 17) 0 dX6_seesName_17 rfl ?_
      refine J_getI (pc := 18) dX6_seesName_18 ho flX6_43 rfl h (fun x11 h => ?_)
      refine J_iconst (pc := 21) (-1 : Int32) dX6_seesName_21 (by decide) ?_
      refine J_icmp_eq (pc := 22) 30 dX6_seesName_22 (by decide) h (fun h => ?_) (fun h => ?_)
      · refine J_iconst (pc := 30) (1 : Int32) dX6_seesName_30 (by decide) ?_
        cases h
        exact J_iret (pc := 31) dX6_seesName_31 rfl rfl
      · refine J_aload_n (pc := 25) 0 dX6_seesName_25 rfl ?_
        obtain ⟨x14, σ12, hc13, h⟩ := cI_t h
        refine J_cVi (pc := 26) (ctX6_refuseToken l E o ho σ hc13) dX6_seesName_26 mlX6_76 mvX6_refuseToken ho rfl (by decide) rfl (Nat.le_of_ble_eq_true rfl) ?_
        obtain ⟨hz15, h⟩ := bz_t h
        cases h
        exact J_iret (pc := 29) dX6_seesName_29 rfl hz15
def fX2_indexIn_3 (a1 : Nat) (a1j : Nat) (a1n : Nat) (a2 : Int32) (a3 : Int64) : Nat → Int32 → Mm → Option (Int32 × Mm)
  | 0, _, _ => none
  | n + 1, v4, σ => if a2 ≤ v4 then (some ((-1 : Int32), σ)) else (g_la σ a1 a1j a1n v4 (fun x1 => if (lg_cmp x1 a3) = 0 then (some (v4, σ)) else ((fX2_indexIn_3 a1 a1j a1n a2 a3 n) (v4 + (1 : Int32)) σ)))
set_option maxRecDepth 100000 in
set_option maxHeartbeats 4000000 in
theorem tX2_indexIn_3 (l : Launch) (E : EV) {xr : Int32} {τ : Mm} (a1 : Nat) (a1j : Nat) (a1n : Nat) (a2 : Int32) (a3 : Int64) (ha1 : KD a1 = 2) (hca1 : 2 < 13 ∧ a1j < nA 2 ∧ at_ 2 a1j = (2, a1n)) : ∀ (n : Nat) (v4 : Int32) (σ : Mm), fX2_indexIn_3 a1 a1j a1n a2 a3 n v4 σ = some (xr, τ) → Jd l E mX2_indexIn 0 (some (.int xr), τ) σ 3 [(0, .ref (e_a E a1 (a1j + 1))), (1, .int a2), (2, .long a3), (4, .int v4)] [] := by
  intro n
  induction n with
  | zero => intro v4 σ h; rw [fX2_indexIn_3] at h; cases h
  | succ n ih =>
    intro v4 σ h
    rw [fX2_indexIn_3] at h
    refine J_iload (pc := 3) 3 dX2_indexIn_3 rfl ?_
    refine J_iload_n (pc := 5) 1 dX2_indexIn_5 rfl ?_
    refine J_icmp_ge (pc := 6) 27 dX2_indexIn_6 (by decide) h (fun h => ?_) (fun h => ?_)
    · refine J_iconst (pc := 27) (-1 : Int32) dX2_indexIn_27 (by decide) ?_
      cases h
      exact J_iret (pc := 28) dX2_indexIn_28 rfl rfl
    · refine J_aload_n (pc := 9) 0 dX2_indexIn_9 rfl ?_
      refine J_iload (pc := 10) 3 dX2_indexIn_10 rfl ?_
      refine J_lald (pc := 12) dX2_indexIn_12 ha1 hca1 h (fun x1 h => ?_)
      refine J_lload_n (pc := 13) 2 dX2_indexIn_13 rfl ?_
      refine J_lcmp (pc := 14) dX2_indexIn_14 ?_
      refine J_if_ne (pc := 15) 21 dX2_indexIn_15 (by decide) h (fun h => ?_) (fun h => ?_)
      · refine J_iinc (pc := 21) (L' := [(4, .int (v4 + (1 : Int32))), (0, .ref (e_a E a1 (a1j + 1))), (1, .int a2), (2, .long a3)]) 3 (v4 + (1 : Int32)) dX2_indexIn_21 rfl (by rfl) (by decide) rfl ?_
        refine J_goto (pc := 24) 3 dX2_indexIn_24 (by decide) ?_
        refine J_sub (L' := [(0, .ref (e_a E a1 (a1j + 1))), (1, .int a2), (2, .long a3), (4, .int (v4 + (1 : Int32)))]) [1, 2, 3, 0] rfl ?_
        exact ih (v4 + (1 : Int32)) σ h
      · refine J_iload (pc := 18) 3 dX2_indexIn_18 rfl ?_
        cases h
        exact J_iret (pc := 20) dX2_indexIn_20 rfl rfl
def fX2_indexIn (a1 : Nat) (a1j : Nat) (a1n : Nat) (a2 : Int32) (a3 : Int64) (σ : Mm) : Option (Int32 × Mm) := fX2_indexIn_3 a1 a1j a1n a2 a3 FU (0 : Int32) σ
set_option maxRecDepth 100000 in
set_option maxHeartbeats 4000000 in
theorem ctX2_indexIn (l : Launch) (E : EV) (a1 : Nat) (a1j : Nat) (a1n : Nat) (a2 : Int32) (a3 : Int64) (ha1 : KD a1 = 2) (hca1 : 2 < 13 ∧ a1j < nA 2 ∧ at_ 2 a1j = (2, a1n)) (σ : Mm) {xr : Int32} {τ : Mm} (h : fX2_indexIn a1 a1j a1n a2 a3 σ = some (xr, τ)) : Ct l E mX2_indexIn 0 [.ref (e_a E a1 (a1j + 1)), .int a2, .long a3] σ (some (.int xr), τ) := by
  refine Ct.of (by decide +kernel) (Nat.le_of_ble_eq_true rfl) ?_
  show Jd l E mX2_indexIn 0 (some (.int xr), τ) σ 0 [(0, .ref (e_a E a1 (a1j + 1))), (1, .int a2), (2, .long a3)] []
  unfold fX2_indexIn at h
  refine J_iconst (pc := 0) (0 : Int32) dX2_indexIn_0 (by decide) ?_
  refine J_istore (pc := 1) (L' := [(4, .int (0 : Int32)), (0, .ref (e_a E a1 (a1j + 1))), (1, .int a2), (2, .long a3)]) dX2_indexIn_1 (by decide) rfl ?_
  refine J_sub (L' := [(0, .ref (e_a E a1 (a1j + 1))), (1, .int a2), (2, .long a3), (4, .int (0 : Int32))]) [1, 2, 3, 0] rfl ?_
  exact tX2_indexIn_3 l E a1 a1j a1n a2 a3 ha1 hca1 FU (0 : Int32) σ h
def fX2_vaneNamed (o : Nat) (a1 : Int64) (σ : Mm) : Option (Int32 × Mm) := r_sc σ o 1 (fun x1 => c_I (fX2_indexIn o 1 8 x1 a1 σ) (fun x4 σ2 => some (x4, σ2)))
set_option maxRecDepth 100000 in
set_option maxHeartbeats 4000000 in
theorem ctX2_vaneNamed (l : Launch) (E : EV) (o : Nat) (a1 : Int64) (ho : KD o = 2) (σ : Mm) {xr : Int32} {τ : Mm} (h : fX2_vaneNamed o a1 σ = some (xr, τ)) : Ct l E mX2_vaneNamed 1 [.ref (e_a E o 0), .long a1] σ (some (.int xr), τ) := by
  refine Ct.of (by decide +kernel) (Nat.le_of_ble_eq_true rfl) ?_
  show Jd l E mX2_vaneNamed 1 (some (.int xr), τ) σ 0 [(0, .ref (e_a E o 0)), (1, .long a1)] []
  unfold fX2_vaneNamed at h
  refine J_aload_n (pc := 0) 0 dX2_vaneNamed_0 rfl ?_
  refine J_getA (pc := 1) dX2_vaneNamed_1 ho flX2_15 rfl ?_
  refine J_aload_n (pc := 4) 0 dX2_vaneNamed_4 rfl ?_
  refine J_getI (pc := 5) dX2_vaneNamed_5 ho flX2_50 rfl h (fun x1 h => ?_)
  refine J_lload_n (pc := 8) 1 dX2_vaneNamed_8 rfl ?_
  obtain ⟨x4, σ2, hc3, h⟩ := cI_t h
  refine J_cSi (pc := 9) (ctX2_indexIn l E o 1 8 x1 a1 ho ha2_1 σ hc3) dX2_vaneNamed_9 mlX2_56 msX2_indexIn rfl (by decide) rfl (Nat.le_of_ble_eq_true rfl) ?_
  cases h
  exact J_iret (pc := 12) dX2_vaneNamed_12 rfl rfl
def fX6_takeThing (o : Nat) (a1 : Int32) (σ : Mm) : Option (Int32 × Mm) := if a1 = (-1 : Int32) then (c_I (fX6_refuse o (3 : Int32) σ) (fun x6 σ4 => b_z x6 σ4)) else (p_sc σ o 10 a1 (fun σ1 => c_V (fX6_advance o σ1) (fun σ2 => some ((1 : Int32), σ2))))
set_option maxRecDepth 100000 in
set_option maxHeartbeats 4000000 in
theorem ctX6_takeThing (l : Launch) (E : EV) (o : Nat) (a1 : Int32) (ho : KD o = 6) (σ : Mm) {xr : Int32} {τ : Mm} (h : fX6_takeThing o a1 σ = some (xr, τ)) : Ct l E mX6_takeThing 2 [.ref (e_a E o 0), .int a1] σ (some (.int xr), τ) := by
  refine Ct.of (by decide +kernel) (Nat.le_of_ble_eq_true rfl) ?_
  show Jd l E mX6_takeThing 2 (some (.int xr), τ) σ 0 [(0, .ref (e_a E o 0)), (1, .int a1)] []
  unfold fX6_takeThing at h
  refine J_iload_n (pc := 0) 1 dX6_takeThing_0 rfl ?_
  refine J_iconst (pc := 1) (-1 : Int32) dX6_takeThing_1 (by decide) ?_
  refine J_icmp_ne (pc := 2) 11 dX6_takeThing_2 (by decide) h (fun h => ?_) (fun h => ?_)
  · refine J_aload_n (pc := 11) 0 dX6_takeThing_11 rfl ?_
    refine J_iload_n (pc := 12) 1 dX6_takeThing_12 rfl ?_
    refine J_putI (pc := 13) dX6_takeThing_13 ho flX6_80 rfl h (fun σ1 h => ?_)
    refine J_aload_n (pc := 16) 0 dX6_takeThing_16 rfl ?_
    obtain ⟨σ2, hc3, h⟩ := cV_t h
    refine J_cVv (pc := 17) (ctX6_advance l E o ho σ1 hc3) dX6_takeThing_17 mlX6_37 mvX6_advance ho rfl (by decide) rfl (Nat.le_of_ble_eq_true rfl) ?_
    refine J_iconst (pc := 20) (1 : Int32) dX6_takeThing_20 (by decide) ?_
    cases h
    exact J_iret (pc := 21) dX6_takeThing_21 rfl rfl
  · refine J_aload_n (pc := 5) 0 dX6_takeThing_5 rfl ?_
    refine J_iconst (pc := 6) (3 : Int32) dX6_takeThing_6 (by decide) ?_
    obtain ⟨x6, σ4, hc5, h⟩ := cI_t h
    refine J_cVi (pc := 7) (ctX6_refuse l E o (3 : Int32) ho σ hc5) dX6_takeThing_7 mlX6_73 mvX6_refuse ho rfl (by decide) rfl (Nat.le_of_ble_eq_true rfl) ?_
    obtain ⟨hz7, h⟩ := bz_t h
    cases h
    exact J_iret (pc := 10) dX6_takeThing_10 rfl hz7
def fX6_takeVane (o : Nat) (a1 : Nat) (σ : Mm) : Option (Int32 × Mm) := c_I (fX6_seesName o σ) (fun x3 σ1 => if x3 = 0 then (some ((0 : Int32), σ1)) else (r_lg σ1 o 8 (fun x4 => c_I (fX2_vaneNamed a1 x4 σ1) (fun x7 σ5 => c_I (fX6_takeThing o x7 σ5) (fun x10 σ8 => if x10 = 0 then (some ((0 : Int32), σ8)) else (some ((1 : Int32), σ8)))))))
set_option maxRecDepth 100000 in
set_option maxHeartbeats 4000000 in
theorem ctX6_takeVane (l : Launch) (E : EV) (o : Nat) (a1 : Nat) (ho : KD o = 6) (ha1 : KD a1 = 2) (σ : Mm) {xr : Int32} {τ : Mm} (h : fX6_takeVane o a1 σ = some (xr, τ)) : Ct l E mX6_takeVane 3 [.ref (e_a E o 0), .ref (e_a E a1 0)] σ (some (.int xr), τ) := by
  refine Ct.of (by decide +kernel) (Nat.le_of_ble_eq_true rfl) ?_
  show Jd l E mX6_takeVane 3 (some (.int xr), τ) σ 0 [(0, .ref (e_a E o 0)), (1, .ref (e_a E a1 0))] []
  unfold fX6_takeVane at h
  refine J_aload_n (pc := 0) 0 dX6_takeVane_0 rfl ?_
  obtain ⟨x3, σ1, hc2, h⟩ := cI_t h
  refine J_cVi (pc := 1) (ctX6_seesName l E o ho σ hc2) dX6_takeVane_1 mlX6_87 mvX6_seesName ho rfl (by decide) rfl (Nat.le_of_ble_eq_true rfl) ?_
  refine J_if_eq (pc := 4) 26 dX6_takeVane_4 (by decide) h (fun h => ?_) (fun h => ?_)
  · refine J_iconst (pc := 26) (0 : Int32) dX6_takeVane_26 (by decide) ?_
    cases h
    exact J_iret (pc := 27) dX6_takeVane_27 rfl rfl
  · refine J_aload_n (pc := 7) 0 dX6_takeVane_7 rfl ?_
    refine J_aload_n (pc := 8) 1 dX6_takeVane_8 rfl ?_
    refine J_aload_n (pc := 9) 0 dX6_takeVane_9 rfl ?_
    refine J_getL (pc := 10) dX6_takeVane_10 ho flX6_62 rfl h (fun x4 h => ?_)
    obtain ⟨x7, σ5, hc6, h⟩ := cI_t h
    refine J_cVi (pc := 13) (ctX2_vaneNamed l E a1 x4 ha1 σ1 hc6) dX6_takeVane_13 mlX6_103 mvX2_vaneNamed ha1 rfl (by decide) rfl (Nat.le_of_ble_eq_true rfl) ?_
    obtain ⟨x10, σ8, hc9, h⟩ := cI_t h
    refine J_cVi (pc := 16) (ctX6_takeThing l E o x7 ho σ5 hc9) dX6_takeVane_16 mlX6_100 mvX6_takeThing ho rfl (by decide) rfl (Nat.le_of_ble_eq_true rfl) ?_
    refine J_if_eq (pc := 19) 26 dX6_takeVane_19 (by decide) h (fun h => ?_) (fun h => ?_)
    · refine J_iconst (pc := 26) (0 : Int32) dX6_takeVane_26 (by decide) ?_
      cases h
      exact J_iret (pc := 27) dX6_takeVane_27 rfl rfl
    · refine J_iconst (pc := 22) (1 : Int32) dX6_takeVane_22 (by decide) ?_
      refine J_goto (pc := 23) 27 dX6_takeVane_23 (by decide) ?_
      cases h
      exact J_iret (pc := 27) dX6_takeVane_27 rfl rfl
def fX1_keepWhat (o : Nat) (a1 : Int32) (σ : Mm) : Option (Int32 × Mm) := r_rf σ o 2 5 (fun q1 => r_rf σ o 0 6 (fun q2 => r_sc σ q2 10 (fun x3 => s_ar σ q1 1 60 a1 x3 (fun σ4 => some ((1 : Int32), σ4)))))
set_option maxRecDepth 100000 in
set_option maxHeartbeats 4000000 in
theorem ctX1_keepWhat (l : Launch) (E : EV) (o : Nat) (a1 : Int32) (ho : KD o = 1) (σ : Mm) {xr : Int32} {τ : Mm} (h : fX1_keepWhat o a1 σ = some (xr, τ)) : Ct l E mX1_keepWhat 0 [.ref (e_a E o 0), .int a1] σ (some (.int xr), τ) := by
  refine Ct.of (by decide +kernel) (Nat.le_of_ble_eq_true rfl) ?_
  show Jd l E mX1_keepWhat 0 (some (.int xr), τ) σ 0 [(0, .ref (e_a E o 0)), (1, .int a1)] []
  unfold fX1_keepWhat at h
  refine J_aload_n (pc := 0) 0 dX1_keepWhat_0 rfl ?_
  refine J_getR (pc := 1) dX1_keepWhat_1 ho flX1_23 rfl h (fun q1 hq1 h => ?_)
  refine J_getA (pc := 4) dX1_keepWhat_4 hq1 flX1_124 rfl ?_
  refine J_iload_n (pc := 7) 1 dX1_keepWhat_7 rfl ?_
  refine J_aload_n (pc := 8) 0 dX1_keepWhat_8 rfl ?_
  refine J_getR (pc := 9) dX1_keepWhat_9 ho flX1_15 rfl h (fun q2 hq2 h => ?_)
  refine J_getI (pc := 12) dX1_keepWhat_12 hq2 flX1_127 rfl h (fun x3 h => ?_)
  refine J_iast (pc := 15) dX1_keepWhat_15 hq1 ha5_1 h (fun σ4 h => ?_)
  refine J_iconst (pc := 16) (1 : Int32) dX1_keepWhat_16 (by decide) ?_
  cases h
  exact J_iret (pc := 17) dX1_keepWhat_17 rfl rfl
def fX6_takeKeyword (o : Nat) (a1 : Int32) (σ : Mm) : Option (Int32 × Mm) := r_sc σ o 6 (fun x1 => if x1 = a1 then (c_V (fX6_advance o σ) (fun σ2 => some ((1 : Int32), σ2))) else (c_I (fX6_refuseToken o σ) (fun x6 σ4 => b_z x6 σ4)))
set_option maxRecDepth 100000 in
set_option maxHeartbeats 4000000 in
theorem ctX6_takeKeyword (l : Launch) (E : EV) (o : Nat) (a1 : Int32) (ho : KD o = 6) (σ : Mm) {xr : Int32} {τ : Mm} (h : fX6_takeKeyword o a1 σ = some (xr, τ)) : Ct l E mX6_takeKeyword 2 [.ref (e_a E o 0), .int a1] σ (some (.int xr), τ) := by
  refine Ct.of (by decide +kernel) (Nat.le_of_ble_eq_true rfl) ?_
  show Jd l E mX6_takeKeyword 2 (some (.int xr), τ) σ 0 [(0, .ref (e_a E o 0)), (1, .int a1)] []
  unfold fX6_takeKeyword at h
  refine J_aload_n (pc := 0) 0 dX6_takeKeyword_0 rfl ?_
  refine J_getI (pc := 1) dX6_takeKeyword_1 ho flX6_43 rfl h (fun x1 h => ?_)
  refine J_iload_n (pc := 4) 1 dX6_takeKeyword_4 rfl ?_
  refine J_icmp_eq (pc := 5) 13 dX6_takeKeyword_5 (by decide) h (fun h => ?_) (fun h => ?_)
  · refine J_aload_n (pc := 13) 0 dX6_takeKeyword_13 rfl ?_
    obtain ⟨σ2, hc3, h⟩ := cV_t h
    refine J_cVv (pc := 14) (ctX6_advance l E o ho σ hc3) dX6_takeKeyword_14 mlX6_37 mvX6_advance ho rfl (by decide) rfl (Nat.le_of_ble_eq_true rfl) ?_
    refine J_iconst (pc := 17) (1 : Int32) dX6_takeKeyword_17 (by decide) ?_
    cases h
    exact J_iret (pc := 18) dX6_takeKeyword_18 rfl rfl
  · refine J_aload_n (pc := 8) 0 dX6_takeKeyword_8 rfl ?_
    obtain ⟨x6, σ4, hc5, h⟩ := cI_t h
    refine J_cVi (pc := 9) (ctX6_refuseToken l E o ho σ hc5) dX6_takeKeyword_9 mlX6_76 mvX6_refuseToken ho rfl (by decide) rfl (Nat.le_of_ble_eq_true rfl) ?_
    obtain ⟨hz7, h⟩ := bz_t h
    cases h
    exact J_iret (pc := 12) dX6_takeKeyword_12 rfl hz7
def fX6_takeCompare (o : Nat) (σ : Mm) : Option (Int32 × Mm) := r_sc σ o 5 (fun x1 => if x1 = (4 : Int32) then (r_sc σ o 7 (fun x6 => if x6 = (59 : Int32) then (c_I (fX6_refuseToken o σ) (fun x13 σ11 => b_z x13 σ11)) else (r_sc σ o 7 (fun x7 => p_sc σ o 10 x7 (fun σ8 => c_V (fX6_advance o σ8) (fun σ9 => some ((1 : Int32), σ9))))))) else (c_I (fX6_refuseToken o σ) (fun x4 σ2 => b_z x4 σ2)))
set_option maxRecDepth 100000 in
set_option maxHeartbeats 4000000 in
theorem ctX6_takeCompare (l : Launch) (E : EV) (o : Nat) (ho : KD o = 6) (σ : Mm) {xr : Int32} {τ : Mm} (h : fX6_takeCompare o σ = some (xr, τ)) : Ct l E mX6_takeCompare 2 [.ref (e_a E o 0)] σ (some (.int xr), τ) := by
  refine Ct.of (by decide +kernel) (Nat.le_of_ble_eq_true rfl) ?_
  show Jd l E mX6_takeCompare 2 (some (.int xr), τ) σ 0 [(0, .ref (e_a E o 0))] []
  unfold fX6_takeCompare at h
  refine J_aload_n (pc := 0) 0 dX6_takeCompare_0 rfl ?_
  refine J_getI (pc := 1) dX6_takeCompare_1 ho flX6_46 rfl h (fun x1 h => ?_)
  refine J_iconst (pc := 4) (4 : Int32) dX6_takeCompare_4 (by decide) ?_
  refine J_icmp_ne (pc := 5) 17 dX6_takeCompare_5 (by decide) h (fun h => ?_) (fun h => ?_)
  · refine J_aload_n (pc := 17) 0 dX6_takeCompare_17 rfl ?_
    obtain ⟨x4, σ2, hc3, h⟩ := cI_t h
    refine J_cVi (pc := 18) (ctX6_refuseToken l E o ho σ hc3) dX6_takeCompare_18 mlX6_76 mvX6_refuseToken ho rfl (by decide) rfl (Nat.le_of_ble_eq_true rfl) ?_
    obtain ⟨hz5, h⟩ := bz_t h
    cases h
    exact J_iret (pc := 21) dX6_takeCompare_21 rfl hz5
  · refine J_aload_n (pc := 8) 0 dX6_takeCompare_8 rfl ?_
    refine J_getI (pc := 9) dX6_takeCompare_9 ho flX6_55 rfl h (fun x6 h => ?_)
    refine J_bipush (pc := 12) (59 : Int32) dX6_takeCompare_12 (by decide) ?_
    refine J_icmp_ne (pc := 14) 22 dX6_takeCompare_14 (by decide) h (fun h => ?_) (fun h => ?_)
    · refine J_aload_n (pc := 22) 0 dX6_takeCompare_22 rfl ?_
      refine J_aload_n (pc := 23) 0 dX6_takeCompare_23 rfl ?_
      refine J_getI (pc := 24) dX6_takeCompare_24 ho flX6_55 rfl h (fun x7 h => ?_)
      refine J_putI (pc := 27) dX6_takeCompare_27 ho flX6_80 rfl h (fun σ8 h => ?_)
      refine J_aload_n (pc := 30) 0 dX6_takeCompare_30 rfl ?_
      obtain ⟨σ9, hc10, h⟩ := cV_t h
      refine J_cVv (pc := 31) (ctX6_advance l E o ho σ8 hc10) dX6_takeCompare_31 mlX6_37 mvX6_advance ho rfl (by decide) rfl (Nat.le_of_ble_eq_true rfl) ?_
      refine J_iconst (pc := 34) (1 : Int32) dX6_takeCompare_34 (by decide) ?_
      cases h
      exact J_iret (pc := 35) dX6_takeCompare_35 rfl rfl
    · refine J_aload_n (pc := 17) 0 dX6_takeCompare_17 rfl ?_
      obtain ⟨x13, σ11, hc12, h⟩ := cI_t h
      refine J_cVi (pc := 18) (ctX6_refuseToken l E o ho σ hc12) dX6_takeCompare_18 mlX6_76 mvX6_refuseToken ho rfl (by decide) rfl (Nat.le_of_ble_eq_true rfl) ?_
      obtain ⟨hz14, h⟩ := bz_t h
      cases h
      exact J_iret (pc := 21) dX6_takeCompare_21 rfl hz14
def fX1_keepHow (o : Nat) (a1 : Int32) (σ : Mm) : Option (Int32 × Mm) := r_rf σ o 2 5 (fun q1 => r_rf σ o 0 6 (fun q2 => r_sc σ q2 10 (fun x3 => s_ar σ q1 2 60 a1 x3 (fun σ4 => some ((1 : Int32), σ4)))))
set_option maxRecDepth 100000 in
set_option maxHeartbeats 4000000 in
theorem ctX1_keepHow (l : Launch) (E : EV) (o : Nat) (a1 : Int32) (ho : KD o = 1) (σ : Mm) {xr : Int32} {τ : Mm} (h : fX1_keepHow o a1 σ = some (xr, τ)) : Ct l E mX1_keepHow 0 [.ref (e_a E o 0), .int a1] σ (some (.int xr), τ) := by
  refine Ct.of (by decide +kernel) (Nat.le_of_ble_eq_true rfl) ?_
  show Jd l E mX1_keepHow 0 (some (.int xr), τ) σ 0 [(0, .ref (e_a E o 0)), (1, .int a1)] []
  unfold fX1_keepHow at h
  refine J_aload_n (pc := 0) 0 dX1_keepHow_0 rfl ?_
  refine J_getR (pc := 1) dX1_keepHow_1 ho flX1_23 rfl h (fun q1 hq1 h => ?_)
  refine J_getA (pc := 4) dX1_keepHow_4 hq1 flX1_115 rfl ?_
  refine J_iload_n (pc := 7) 1 dX1_keepHow_7 rfl ?_
  refine J_aload_n (pc := 8) 0 dX1_keepHow_8 rfl ?_
  refine J_getR (pc := 9) dX1_keepHow_9 ho flX1_15 rfl h (fun q2 hq2 h => ?_)
  refine J_getI (pc := 12) dX1_keepHow_12 hq2 flX1_127 rfl h (fun x3 h => ?_)
  refine J_iast (pc := 15) dX1_keepHow_15 hq1 ha5_2 h (fun σ4 h => ?_)
  refine J_iconst (pc := 16) (1 : Int32) dX1_keepHow_16 (by decide) ?_
  cases h
  exact J_iret (pc := 17) dX1_keepHow_17 rfl rfl
def fX6_takeNumber (o : Nat) (a1 : Int32) (a2 : Int32) (σ : Mm) : Option (Int32 × Mm) := r_sc σ o 5 (fun x1 => if x1 = (3 : Int32) then (r_sc σ o 9 (fun x2 => if x2 < a1 then (c_I (fX6_refuse o (4 : Int32) σ) (fun x5 σ3 => b_z x5 σ3)) else (r_sc σ o 9 (fun x7 => if x7 ≤ a2 then (r_sc σ o 9 (fun x8 => p_sc σ o 10 x8 (fun σ9 => c_V (fX6_advance o σ9) (fun σ10 => some ((1 : Int32), σ10))))) else (c_I (fX6_refuse o (4 : Int32) σ) (fun x14 σ12 => b_z x14 σ12)))))) else (c_I (fX6_refuseToken o σ) (fun x18 σ16 => b_z x18 σ16)))
set_option maxRecDepth 100000 in
set_option maxHeartbeats 4000000 in
theorem ctX6_takeNumber (l : Launch) (E : EV) (o : Nat) (a1 : Int32) (a2 : Int32) (ho : KD o = 6) (σ : Mm) {xr : Int32} {τ : Mm} (h : fX6_takeNumber o a1 a2 σ = some (xr, τ)) : Ct l E mX6_takeNumber 2 [.ref (e_a E o 0), .int a1, .int a2] σ (some (.int xr), τ) := by
  refine Ct.of (by decide +kernel) (Nat.le_of_ble_eq_true rfl) ?_
  show Jd l E mX6_takeNumber 2 (some (.int xr), τ) σ 0 [(0, .ref (e_a E o 0)), (1, .int a1), (2, .int a2)] []
  unfold fX6_takeNumber at h
  refine J_aload_n (pc := 0) 0 dX6_takeNumber_0 rfl ?_
  refine J_getI (pc := 1) dX6_takeNumber_1 ho flX6_46 rfl h (fun x1 h => ?_)
  refine J_iconst (pc := 4) (3 : Int32) dX6_takeNumber_4 (by decide) ?_
  refine J_icmp_eq (pc := 5) 13 dX6_takeNumber_5 (by decide) h (fun h => ?_) (fun h => ?_)
  · refine J_aload_n (pc := 13) 0 dX6_takeNumber_13 rfl ?_
    refine J_getI (pc := 14) dX6_takeNumber_14 ho flX6_70 rfl h (fun x2 h => ?_)
    refine J_iload_n (pc := 17) 1 dX6_takeNumber_17 rfl ?_
    refine J_icmp_lt (pc := 18) 29 dX6_takeNumber_18 (by decide) h (fun h => ?_) (fun h => ?_)
    · refine J_aload_n (pc := 29) 0 dX6_takeNumber_29 rfl ?_
      refine J_iconst (pc := 30) (4 : Int32) dX6_takeNumber_30 (by decide) ?_
      obtain ⟨x5, σ3, hc4, h⟩ := cI_t h
      refine J_cVi (pc := 31) (ctX6_refuse l E o (4 : Int32) ho σ hc4) dX6_takeNumber_31 mlX6_73 mvX6_refuse ho rfl (by decide) rfl (Nat.le_of_ble_eq_true rfl) ?_
      obtain ⟨hz6, h⟩ := bz_t h
      cases h
      exact J_iret (pc := 34) dX6_takeNumber_34 rfl hz6
    · refine J_aload_n (pc := 21) 0 dX6_takeNumber_21 rfl ?_
      refine J_getI (pc := 22) dX6_takeNumber_22 ho flX6_70 rfl h (fun x7 h => ?_)
      refine J_iload_n (pc := 25) 2 dX6_takeNumber_25 rfl ?_
      refine J_icmp_le (pc := 26) 35 dX6_takeNumber_26 (by decide) h (fun h => ?_) (fun h => ?_)
      · refine J_aload_n (pc := 35) 0 dX6_takeNumber_35 rfl ?_
        refine J_aload_n (pc := 36) 0 dX6_takeNumber_36 rfl ?_
        refine J_getI (pc := 37) dX6_takeNumber_37 ho flX6_70 rfl h (fun x8 h => ?_)
        refine J_putI (pc := 40) dX6_takeNumber_40 ho flX6_80 rfl h (fun σ9 h => ?_)
        refine J_aload_n (pc := 43) 0 dX6_takeNumber_43 rfl ?_
        obtain ⟨σ10, hc11, h⟩ := cV_t h
        refine J_cVv (pc := 44) (ctX6_advance l E o ho σ9 hc11) dX6_takeNumber_44 mlX6_37 mvX6_advance ho rfl (by decide) rfl (Nat.le_of_ble_eq_true rfl) ?_
        refine J_iconst (pc := 47) (1 : Int32) dX6_takeNumber_47 (by decide) ?_
        cases h
        exact J_iret (pc := 48) dX6_takeNumber_48 rfl rfl
      · refine J_aload_n (pc := 29) 0 dX6_takeNumber_29 rfl ?_
        refine J_iconst (pc := 30) (4 : Int32) dX6_takeNumber_30 (by decide) ?_
        obtain ⟨x14, σ12, hc13, h⟩ := cI_t h
        refine J_cVi (pc := 31) (ctX6_refuse l E o (4 : Int32) ho σ hc13) dX6_takeNumber_31 mlX6_73 mvX6_refuse ho rfl (by decide) rfl (Nat.le_of_ble_eq_true rfl) ?_
        obtain ⟨hz15, h⟩ := bz_t h
        cases h
        exact J_iret (pc := 34) dX6_takeNumber_34 rfl hz15
  · refine J_aload_n (pc := 8) 0 dX6_takeNumber_8 rfl ?_
    obtain ⟨x18, σ16, hc17, h⟩ := cI_t h
    refine J_cVi (pc := 9) (ctX6_refuseToken l E o ho σ hc17) dX6_takeNumber_9 mlX6_76 mvX6_refuseToken ho rfl (by decide) rfl (Nat.le_of_ble_eq_true rfl) ?_
    obtain ⟨hz19, h⟩ := bz_t h
    cases h
    exact J_iret (pc := 12) dX6_takeNumber_12 rfl hz19
def fX1_keepMuch (o : Nat) (a1 : Int32) (σ : Mm) : Option (Int32 × Mm) := r_rf σ o 2 5 (fun q1 => r_rf σ o 0 6 (fun q2 => r_sc σ q2 10 (fun x3 => s_ar σ q1 3 60 a1 x3 (fun σ4 => some ((1 : Int32), σ4)))))
set_option maxRecDepth 100000 in
set_option maxHeartbeats 4000000 in
theorem ctX1_keepMuch (l : Launch) (E : EV) (o : Nat) (a1 : Int32) (ho : KD o = 1) (σ : Mm) {xr : Int32} {τ : Mm} (h : fX1_keepMuch o a1 σ = some (xr, τ)) : Ct l E mX1_keepMuch 0 [.ref (e_a E o 0), .int a1] σ (some (.int xr), τ) := by
  refine Ct.of (by decide +kernel) (Nat.le_of_ble_eq_true rfl) ?_
  show Jd l E mX1_keepMuch 0 (some (.int xr), τ) σ 0 [(0, .ref (e_a E o 0)), (1, .int a1)] []
  unfold fX1_keepMuch at h
  refine J_aload_n (pc := 0) 0 dX1_keepMuch_0 rfl ?_
  refine J_getR (pc := 1) dX1_keepMuch_1 ho flX1_23 rfl h (fun q1 hq1 h => ?_)
  refine J_getA (pc := 4) dX1_keepMuch_4 hq1 flX1_130 rfl ?_
  refine J_iload_n (pc := 7) 1 dX1_keepMuch_7 rfl ?_
  refine J_aload_n (pc := 8) 0 dX1_keepMuch_8 rfl ?_
  refine J_getR (pc := 9) dX1_keepMuch_9 ho flX1_15 rfl h (fun q2 hq2 h => ?_)
  refine J_getI (pc := 12) dX1_keepMuch_12 hq2 flX1_127 rfl h (fun x3 h => ?_)
  refine J_iast (pc := 15) dX1_keepMuch_15 hq1 ha5_3 h (fun σ4 h => ?_)
  refine J_iconst (pc := 16) (1 : Int32) dX1_keepMuch_16 (by decide) ?_
  cases h
  exact J_iret (pc := 17) dX1_keepMuch_17 rfl rfl
def fX1_readTest (o : Nat) (a1 : Int32) (σ : Mm) : Option (Int32 × Mm) := r_rf σ o 0 6 (fun q1 => r_sc σ q1 6 (fun x2 => if x2 = (19 : Int32) then (r_rf σ o 2 5 (fun q29 => s_ar σ q29 2 60 a1 (19 : Int32) (fun σ30 => r_rf σ30 o 0 6 (fun q31 => c_V (fX6_advance q31 σ30) (fun σ32 => r_rf σ32 o 0 6 (fun q34 => r_rf σ32 o 1 2 (fun q35 => c_I (fX6_takeVane q34 q35 σ32) (fun x38 σ36 => if x38 = 0 then (some ((0 : Int32), σ36)) else (c_I (fX1_keepWhat o a1 σ36) (fun x41 σ39 => if x41 = 0 then (some ((0 : Int32), σ39)) else (some ((1 : Int32), σ39)))))))))))) else (r_rf σ o 0 6 (fun q3 => c_I (fX6_takeKeyword q3 (5 : Int32) σ) (fun x6 σ4 => if x6 = 0 then (some ((0 : Int32), σ4)) else (r_rf σ4 o 0 6 (fun q7 => r_rf σ4 o 1 2 (fun q8 => c_I (fX6_takeVane q7 q8 σ4) (fun x11 σ9 => if x11 = 0 then (some ((0 : Int32), σ9)) else (c_I (fX1_keepWhat o a1 σ9) (fun x14 σ12 => if x14 = 0 then (some ((0 : Int32), σ12)) else (r_rf σ12 o 0 6 (fun q15 => c_I (fX6_takeCompare q15 σ12) (fun x18 σ16 => if x18 = 0 then (some ((0 : Int32), σ16)) else (c_I (fX1_keepHow o a1 σ16) (fun x21 σ19 => if x21 = 0 then (some ((0 : Int32), σ19)) else (r_rf σ19 o 0 6 (fun q22 => c_I (fX6_takeNumber q22 (0 : Int32) (60 : Int32) σ19) (fun x25 σ23 => if x25 = 0 then (some ((0 : Int32), σ23)) else (c_I (fX1_keepMuch o a1 σ23) (fun x28 σ26 => if x28 = 0 then (some ((0 : Int32), σ26)) else (some ((1 : Int32), σ26)))))))))))))))))))))))
set_option maxRecDepth 100000 in
set_option maxHeartbeats 4000000 in
theorem ctX1_readTest (l : Launch) (E : EV) (o : Nat) (a1 : Int32) (ho : KD o = 1) (σ : Mm) {xr : Int32} {τ : Mm} (h : fX1_readTest o a1 σ = some (xr, τ)) : Ct l E mX1_readTest 4 [.ref (e_a E o 0), .int a1] σ (some (.int xr), τ) := by
  refine Ct.of (by decide +kernel) (Nat.le_of_ble_eq_true rfl) ?_
  show Jd l E mX1_readTest 4 (some (.int xr), τ) σ 0 [(0, .ref (e_a E o 0)), (1, .int a1)] []
  unfold fX1_readTest at h
  refine J_aload_n (pc := 0) 0 dX1_readTest_0 rfl ?_
  refine J_getR (pc := 1) dX1_readTest_1 ho flX1_15 rfl h (fun q1 hq1 h => ?_)
  refine J_getI (pc := 4) dX1_readTest_4 hq1 flX1_52 rfl h (fun x2 h => ?_)
  refine J_bipush (pc := 7) (19 : Int32) dX1_readTest_7 (by decide) ?_
  refine J_icmp_ne (pc := 9) 58 dX1_readTest_9 (by decide) h (fun h => ?_) (fun h => ?_)
  · refine J_aload_n (pc := 58) 0 dX1_readTest_58 rfl ?_
    refine J_getR (pc := 59) dX1_readTest_59 ho flX1_15 rfl h (fun q3 hq3 h => ?_)
    refine J_iconst (pc := 62) (5 : Int32) dX1_readTest_62 (by decide) ?_
    obtain ⟨x6, σ4, hc5, h⟩ := cI_t h
    refine J_cVi (pc := 63) (ctX6_takeKeyword l E q3 (5 : Int32) hq3 σ hc5) dX1_readTest_63 mlX1_118 mvX6_takeKeyword hq3 rfl (by decide) rfl (Nat.le_of_ble_eq_true rfl) ?_
    refine J_if_eq (pc := 66) 134 dX1_readTest_66 (by decide) h (fun h => ?_) (fun h => ?_)
    · refine J_iconst (pc := 134) (0 : Int32) dX1_readTest_134 (by decide) ?_
      cases h
      exact J_iret (pc := 135) dX1_readTest_135 rfl rfl
    · refine J_aload_n (pc := 69) 0 dX1_readTest_69 rfl ?_
      refine J_getR (pc := 70) dX1_readTest_70 ho flX1_15 rfl h (fun q7 hq7 h => ?_)
      refine J_aload_n (pc := 73) 0 dX1_readTest_73 rfl ?_
      refine J_getR (pc := 74) dX1_readTest_74 ho flX1_19 rfl h (fun q8 hq8 h => ?_)
      obtain ⟨x11, σ9, hc10, h⟩ := cI_t h
      refine J_cVi (pc := 77) (ctX6_takeVane l E q7 q8 hq7 hq8 σ4 hc10) dX1_readTest_77 mlX1_112 mvX6_takeVane hq7 rfl (by decide) rfl (Nat.le_of_ble_eq_true rfl) ?_
      refine J_if_eq (pc := 80) 134 dX1_readTest_80 (by decide) h (fun h => ?_) (fun h => ?_)
      · refine J_iconst (pc := 134) (0 : Int32) dX1_readTest_134 (by decide) ?_
        cases h
        exact J_iret (pc := 135) dX1_readTest_135 rfl rfl
      · refine J_aload_n (pc := 83) 0 dX1_readTest_83 rfl ?_
        refine J_iload_n (pc := 84) 1 dX1_readTest_84 rfl ?_
        obtain ⟨x14, σ12, hc13, h⟩ := cI_t h
        refine J_cVi (pc := 85) (ctX1_keepWhat l E o a1 ho σ9 hc13) dX1_readTest_85 mlX1_97 mvX1_keepWhat ho rfl (by decide) rfl (Nat.le_of_ble_eq_true rfl) ?_
        refine J_if_eq (pc := 88) 134 dX1_readTest_88 (by decide) h (fun h => ?_) (fun h => ?_)
        · refine J_iconst (pc := 134) (0 : Int32) dX1_readTest_134 (by decide) ?_
          cases h
          exact J_iret (pc := 135) dX1_readTest_135 rfl rfl
        · refine J_aload_n (pc := 91) 0 dX1_readTest_91 rfl ?_
          refine J_getR (pc := 92) dX1_readTest_92 ho flX1_15 rfl h (fun q15 hq15 h => ?_)
          obtain ⟨x18, σ16, hc17, h⟩ := cI_t h
          refine J_cVi (pc := 95) (ctX6_takeCompare l E q15 hq15 σ12 hc17) dX1_readTest_95 mlX1_121 mvX6_takeCompare hq15 rfl (by decide) rfl (Nat.le_of_ble_eq_true rfl) ?_
          refine J_if_eq (pc := 98) 134 dX1_readTest_98 (by decide) h (fun h => ?_) (fun h => ?_)
          · refine J_iconst (pc := 134) (0 : Int32) dX1_readTest_134 (by decide) ?_
            cases h
            exact J_iret (pc := 135) dX1_readTest_135 rfl rfl
          · refine J_aload_n (pc := 101) 0 dX1_readTest_101 rfl ?_
            refine J_iload_n (pc := 102) 1 dX1_readTest_102 rfl ?_
            obtain ⟨x21, σ19, hc20, h⟩ := cI_t h
            refine J_cVi (pc := 103) (ctX1_keepHow l E o a1 ho σ16 hc20) dX1_readTest_103 mlX1_103 mvX1_keepHow ho rfl (by decide) rfl (Nat.le_of_ble_eq_true rfl) ?_
            refine J_if_eq (pc := 106) 134 dX1_readTest_106 (by decide) h (fun h => ?_) (fun h => ?_)
            · refine J_iconst (pc := 134) (0 : Int32) dX1_readTest_134 (by decide) ?_
              cases h
              exact J_iret (pc := 135) dX1_readTest_135 rfl rfl
            · refine J_aload_n (pc := 109) 0 dX1_readTest_109 rfl ?_
              refine J_getR (pc := 110) dX1_readTest_110 ho flX1_15 rfl h (fun q22 hq22 h => ?_)
              refine J_iconst (pc := 113) (0 : Int32) dX1_readTest_113 (by decide) ?_
              refine J_bipush (pc := 114) (60 : Int32) dX1_readTest_114 (by decide) ?_
              obtain ⟨x25, σ23, hc24, h⟩ := cI_t h
              refine J_cVi (pc := 116) (ctX6_takeNumber l E q22 (0 : Int32) (60 : Int32) hq22 σ19 hc24) dX1_readTest_116 mlX1_100 mvX6_takeNumber hq22 rfl (by decide) rfl (Nat.le_of_ble_eq_true rfl) ?_
              refine J_if_eq (pc := 119) 134 dX1_readTest_119 (by decide) h (fun h => ?_) (fun h => ?_)
              · refine J_iconst (pc := 134) (0 : Int32) dX1_readTest_134 (by decide) ?_
                cases h
                exact J_iret (pc := 135) dX1_readTest_135 rfl rfl
              · refine J_aload_n (pc := 122) 0 dX1_readTest_122 rfl ?_
                refine J_iload_n (pc := 123) 1 dX1_readTest_123 rfl ?_
                obtain ⟨x28, σ26, hc27, h⟩ := cI_t h
                refine J_cVi (pc := 124) (ctX1_keepMuch l E o a1 ho σ23 hc27) dX1_readTest_124 mlX1_106 mvX1_keepMuch ho rfl (by decide) rfl (Nat.le_of_ble_eq_true rfl) ?_
                refine J_if_eq (pc := 127) 134 dX1_readTest_127 (by decide) h (fun h => ?_) (fun h => ?_)
                · refine J_iconst (pc := 134) (0 : Int32) dX1_readTest_134 (by decide) ?_
                  cases h
                  exact J_iret (pc := 135) dX1_readTest_135 rfl rfl
                · refine J_iconst (pc := 130) (1 : Int32) dX1_readTest_130 (by decide) ?_
                  refine J_goto (pc := 131) 135 dX1_readTest_131 (by decide) ?_
                  cases h
                  exact J_iret (pc := 135) dX1_readTest_135 rfl rfl
  · refine J_aload_n (pc := 12) 0 dX1_readTest_12 rfl ?_
    refine J_getR (pc := 13) dX1_readTest_13 ho flX1_23 rfl h (fun q29 hq29 h => ?_)
    refine J_getA (pc := 16) dX1_readTest_16 hq29 flX1_115 rfl ?_
    refine J_iload_n (pc := 19) 1 dX1_readTest_19 rfl ?_
    refine J_bipush (pc := 20) (19 : Int32) dX1_readTest_20 (by decide) ?_
    refine J_iast (pc := 22) dX1_readTest_22 hq29 ha5_2 h (fun σ30 h => ?_)
    refine J_aload_n (pc := 23) 0 dX1_readTest_23 rfl ?_
    refine J_getR (pc := 24) dX1_readTest_24 ho flX1_15 rfl h (fun q31 hq31 h => ?_)
    obtain ⟨σ32, hc33, h⟩ := cV_t h
    refine J_cVv (pc := 27) (ctX6_advance l E q31 hq31 σ30 hc33) dX1_readTest_27 mlX1_71 mvX6_advance hq31 rfl (by decide) rfl (Nat.le_of_ble_eq_true rfl) ?_
    refine J_aload_n (pc := 30) 0 dX1_readTest_30 rfl ?_
    refine J_getR (pc := 31) dX1_readTest_31 ho flX1_15 rfl h (fun q34 hq34 h => ?_)
    refine J_aload_n (pc := 34) 0 dX1_readTest_34 rfl ?_
    refine J_getR (pc := 35) dX1_readTest_35 ho flX1_19 rfl h (fun q35 hq35 h => ?_)
    obtain ⟨x38, σ36, hc37, h⟩ := cI_t h
    refine J_cVi (pc := 38) (ctX6_takeVane l E q34 q35 hq34 hq35 σ32 hc37) dX1_readTest_38 mlX1_112 mvX6_takeVane hq34 rfl (by decide) rfl (Nat.le_of_ble_eq_true rfl) ?_
    refine J_if_eq (pc := 41) 56 dX1_readTest_41 (by decide) h (fun h => ?_) (fun h => ?_)
    · refine J_iconst (pc := 56) (0 : Int32) dX1_readTest_56 (by decide) ?_
      cases h
      exact J_iret (pc := 57) dX1_readTest_57 rfl rfl
    · refine J_aload_n (pc := 44) 0 dX1_readTest_44 rfl ?_
      refine J_iload_n (pc := 45) 1 dX1_readTest_45 rfl ?_
      obtain ⟨x41, σ39, hc40, h⟩ := cI_t h
      refine J_cVi (pc := 46) (ctX1_keepWhat l E o a1 ho σ36 hc40) dX1_readTest_46 mlX1_97 mvX1_keepWhat ho rfl (by decide) rfl (Nat.le_of_ble_eq_true rfl) ?_
      refine J_if_eq (pc := 49) 56 dX1_readTest_49 (by decide) h (fun h => ?_) (fun h => ?_)
      · refine J_iconst (pc := 56) (0 : Int32) dX1_readTest_56 (by decide) ?_
        cases h
        exact J_iret (pc := 57) dX1_readTest_57 rfl rfl
      · refine J_iconst (pc := 52) (1 : Int32) dX1_readTest_52 (by decide) ?_
        refine J_goto (pc := 53) 57 dX1_readTest_53 (by decide) ?_
        cases h
        exact J_iret (pc := 57) dX1_readTest_57 rfl rfl
def fX2_placeNamed (o : Nat) (a1 : Int64) (σ : Mm) : Option (Int32 × Mm) := r_sc σ o 0 (fun x1 => c_I (fX2_indexIn o 0 4 x1 a1 σ) (fun x4 σ2 => some (x4, σ2)))
set_option maxRecDepth 100000 in
set_option maxHeartbeats 4000000 in
theorem ctX2_placeNamed (l : Launch) (E : EV) (o : Nat) (a1 : Int64) (ho : KD o = 2) (σ : Mm) {xr : Int32} {τ : Mm} (h : fX2_placeNamed o a1 σ = some (xr, τ)) : Ct l E mX2_placeNamed 1 [.ref (e_a E o 0), .long a1] σ (some (.int xr), τ) := by
  refine Ct.of (by decide +kernel) (Nat.le_of_ble_eq_true rfl) ?_
  show Jd l E mX2_placeNamed 1 (some (.int xr), τ) σ 0 [(0, .ref (e_a E o 0)), (1, .long a1)] []
  unfold fX2_placeNamed at h
  refine J_aload_n (pc := 0) 0 dX2_placeNamed_0 rfl ?_
  refine J_getA (pc := 1) dX2_placeNamed_1 ho flX2_9 rfl ?_
  refine J_aload_n (pc := 4) 0 dX2_placeNamed_4 rfl ?_
  refine J_getI (pc := 5) dX2_placeNamed_5 ho flX2_46 rfl h (fun x1 h => ?_)
  refine J_lload_n (pc := 8) 1 dX2_placeNamed_8 rfl ?_
  obtain ⟨x4, σ2, hc3, h⟩ := cI_t h
  refine J_cSi (pc := 9) (ctX2_indexIn l E o 0 4 x1 a1 ho ha2_0 σ hc3) dX2_placeNamed_9 mlX2_56 msX2_indexIn rfl (by decide) rfl (Nat.le_of_ble_eq_true rfl) ?_
  cases h
  exact J_iret (pc := 12) dX2_placeNamed_12 rfl rfl
def fX6_takePlace (o : Nat) (a1 : Nat) (σ : Mm) : Option (Int32 × Mm) := c_I (fX6_seesName o σ) (fun x3 σ1 => if x3 = 0 then (some ((0 : Int32), σ1)) else (r_lg σ1 o 8 (fun x4 => c_I (fX2_placeNamed a1 x4 σ1) (fun x7 σ5 => c_I (fX6_takeThing o x7 σ5) (fun x10 σ8 => if x10 = 0 then (some ((0 : Int32), σ8)) else (some ((1 : Int32), σ8)))))))
set_option maxRecDepth 100000 in
set_option maxHeartbeats 4000000 in
theorem ctX6_takePlace (l : Launch) (E : EV) (o : Nat) (a1 : Nat) (ho : KD o = 6) (ha1 : KD a1 = 2) (σ : Mm) {xr : Int32} {τ : Mm} (h : fX6_takePlace o a1 σ = some (xr, τ)) : Ct l E mX6_takePlace 3 [.ref (e_a E o 0), .ref (e_a E a1 0)] σ (some (.int xr), τ) := by
  refine Ct.of (by decide +kernel) (Nat.le_of_ble_eq_true rfl) ?_
  show Jd l E mX6_takePlace 3 (some (.int xr), τ) σ 0 [(0, .ref (e_a E o 0)), (1, .ref (e_a E a1 0))] []
  unfold fX6_takePlace at h
  refine J_aload_n (pc := 0) 0 dX6_takePlace_0 rfl ?_
  obtain ⟨x3, σ1, hc2, h⟩ := cI_t h
  refine J_cVi (pc := 1) (ctX6_seesName l E o ho σ hc2) dX6_takePlace_1 mlX6_87 mvX6_seesName ho rfl (by decide) rfl (Nat.le_of_ble_eq_true rfl) ?_
  refine J_if_eq (pc := 4) 26 dX6_takePlace_4 (by decide) h (fun h => ?_) (fun h => ?_)
  · refine J_iconst (pc := 26) (0 : Int32) dX6_takePlace_26 (by decide) ?_
    cases h
    exact J_iret (pc := 27) dX6_takePlace_27 rfl rfl
  · refine J_aload_n (pc := 7) 0 dX6_takePlace_7 rfl ?_
    refine J_aload_n (pc := 8) 1 dX6_takePlace_8 rfl ?_
    refine J_aload_n (pc := 9) 0 dX6_takePlace_9 rfl ?_
    refine J_getL (pc := 10) dX6_takePlace_10 ho flX6_62 rfl h (fun x4 h => ?_)
    obtain ⟨x7, σ5, hc6, h⟩ := cI_t h
    refine J_cVi (pc := 13) (ctX2_placeNamed l E a1 x4 ha1 σ1 hc6) dX6_takePlace_13 mlX6_96 mvX2_placeNamed ha1 rfl (by decide) rfl (Nat.le_of_ble_eq_true rfl) ?_
    obtain ⟨x10, σ8, hc9, h⟩ := cI_t h
    refine J_cVi (pc := 16) (ctX6_takeThing l E o x7 ho σ5 hc9) dX6_takePlace_16 mlX6_100 mvX6_takeThing ho rfl (by decide) rfl (Nat.le_of_ble_eq_true rfl) ?_
    refine J_if_eq (pc := 19) 26 dX6_takePlace_19 (by decide) h (fun h => ?_) (fun h => ?_)
    · refine J_iconst (pc := 26) (0 : Int32) dX6_takePlace_26 (by decide) ?_
      cases h
      exact J_iret (pc := 27) dX6_takePlace_27 rfl rfl
    · refine J_iconst (pc := 22) (1 : Int32) dX6_takePlace_22 (by decide) ?_
      refine J_goto (pc := 23) 27 dX6_takePlace_23 (by decide) ?_
      cases h
      exact J_iret (pc := 27) dX6_takePlace_27 rfl rfl
def fX2_shaftNamed (o : Nat) (a1 : Int64) (σ : Mm) : Option (Int32 × Mm) := r_sc σ o 2 (fun x1 => c_I (fX2_indexIn o 2 10 x1 a1 σ) (fun x4 σ2 => some (x4, σ2)))
set_option maxRecDepth 100000 in
set_option maxHeartbeats 4000000 in
theorem ctX2_shaftNamed (l : Launch) (E : EV) (o : Nat) (a1 : Int64) (ho : KD o = 2) (σ : Mm) {xr : Int32} {τ : Mm} (h : fX2_shaftNamed o a1 σ = some (xr, τ)) : Ct l E mX2_shaftNamed 1 [.ref (e_a E o 0), .long a1] σ (some (.int xr), τ) := by
  refine Ct.of (by decide +kernel) (Nat.le_of_ble_eq_true rfl) ?_
  show Jd l E mX2_shaftNamed 1 (some (.int xr), τ) σ 0 [(0, .ref (e_a E o 0)), (1, .long a1)] []
  unfold fX2_shaftNamed at h
  refine J_aload_n (pc := 0) 0 dX2_shaftNamed_0 rfl ?_
  refine J_getA (pc := 1) dX2_shaftNamed_1 ho flX2_18 rfl ?_
  refine J_aload_n (pc := 4) 0 dX2_shaftNamed_4 rfl ?_
  refine J_getI (pc := 5) dX2_shaftNamed_5 ho flX2_53 rfl h (fun x1 h => ?_)
  refine J_lload_n (pc := 8) 1 dX2_shaftNamed_8 rfl ?_
  obtain ⟨x4, σ2, hc3, h⟩ := cI_t h
  refine J_cSi (pc := 9) (ctX2_indexIn l E o 2 10 x1 a1 ho ha2_2 σ hc3) dX2_shaftNamed_9 mlX2_56 msX2_indexIn rfl (by decide) rfl (Nat.le_of_ble_eq_true rfl) ?_
  cases h
  exact J_iret (pc := 12) dX2_shaftNamed_12 rfl rfl
