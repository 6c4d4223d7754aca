theorem ac_byte : Cond.arrayClass .byte ∈ GW := GW_mem (tm1 87 (by decide +kernel)) (by decide +kernel)
theorem ac_int : Cond.arrayClass .int ∈ GW := GW_mem (tm1 123 (by decide +kernel)) (by decide +kernel)
theorem ac_long : Cond.arrayClass .long ∈ GW := GW_mem (tm1 222 (by decide +kernel)) (by decide +kernel)
theorem ao_Tray {E : EV} (U : State) (h : TK E U) : va_AO "VaneTown$Tray" U := h.2.1
theorem ao_Town {E : EV} (U : State) (h : TK E U) : va_AO "VaneTown$Town" U := h.2.2
theorem oiX11_1 : OI RX11 1 := ⟨GW_mem (tm1 26 (by decide +kernel)) (by decide +kernel), GW_mem (tm1 27 (by decide +kernel)) (by decide +kernel), GW_mem (tm1 28 (by decide +kernel)) (by decide +kernel)⟩
theorem oiX0_3 : OI RX0 3 := ⟨GW_mem (tm2 152 (by decide +kernel)) (by decide +kernel), GW_mem (tm1 27 (by decide +kernel)) (by decide +kernel), GW_mem (tm1 28 (by decide +kernel)) (by decide +kernel)⟩
theorem oiX1_3 : OI RX1 3 := ⟨GW_mem (tm1 106 (by decide +kernel)) (by decide +kernel), GW_mem (tm1 27 (by decide +kernel)) (by decide +kernel), GW_mem (tm1 28 (by decide +kernel)) (by decide +kernel)⟩
theorem oiX2_3 : OI RX2 3 := ⟨GW_mem (tm1 135 (by decide +kernel)) (by decide +kernel), GW_mem (tm1 27 (by decide +kernel)) (by decide +kernel), GW_mem (tm1 28 (by decide +kernel)) (by decide +kernel)⟩
theorem oiX3_3 : OI RX3 3 := ⟨GW_mem (tm2 182 (by decide +kernel)) (by decide +kernel), GW_mem (tm1 27 (by decide +kernel)) (by decide +kernel), GW_mem (tm1 28 (by decide +kernel)) (by decide +kernel)⟩
theorem oiX4_3 : OI RX4 3 := ⟨GW_mem (tm1 228 (by decide +kernel)) (by decide +kernel), GW_mem (tm1 27 (by decide +kernel)) (by decide +kernel), GW_mem (tm1 28 (by decide +kernel)) (by decide +kernel)⟩
theorem oiX5_3 : OI RX5 3 := ⟨GW_mem (tm2 42 (by decide +kernel)) (by decide +kernel), GW_mem (tm1 27 (by decide +kernel)) (by decide +kernel), GW_mem (tm1 28 (by decide +kernel)) (by decide +kernel)⟩
theorem oiX6_3 : OI RX6 3 := ⟨GW_mem (tm1 36 (by decide +kernel)) (by decide +kernel), GW_mem (tm1 27 (by decide +kernel)) (by decide +kernel), GW_mem (tm1 28 (by decide +kernel)) (by decide +kernel)⟩
theorem oiX7_1 : OI RX7 1 := ⟨GW_mem (tm1 129 (by decide +kernel)) (by decide +kernel), GW_mem (tm1 27 (by decide +kernel)) (by decide +kernel), GW_mem (tm1 28 (by decide +kernel)) (by decide +kernel)⟩
theorem oiX8_3 : OI RX8 3 := ⟨GW_mem (tm2 234 (by decide +kernel)) (by decide +kernel), GW_mem (tm1 27 (by decide +kernel)) (by decide +kernel), GW_mem (tm1 28 (by decide +kernel)) (by decide +kernel)⟩
theorem oiX9_3 : OI RX9 3 := ⟨GW_mem (tm1 93 (by decide +kernel)) (by decide +kernel), GW_mem (tm1 27 (by decide +kernel)) (by decide +kernel), GW_mem (tm1 28 (by decide +kernel)) (by decide +kernel)⟩
theorem oiX10_3 : OI RX10 3 := ⟨GW_mem (tm2 110 (by decide +kernel)) (by decide +kernel), GW_mem (tm1 27 (by decide +kernel)) (by decide +kernel), GW_mem (tm1 28 (by decide +kernel)) (by decide +kernel)⟩
theorem oiX12_1 : OI RX12 1 := ⟨GW_mem (tm6 110 (by decide +kernel)) (by decide +kernel), GW_mem (tm1 27 (by decide +kernel)) (by decide +kernel), GW_mem (tm1 28 (by decide +kernel)) (by decide +kernel)⟩
theorem ncX11_13 : NC RX11 13 8 := ⟨RX8, TX8, 3, tyX8, ck8, by decide, GW_mem (tm1 29 (by decide +kernel)) (by decide +kernel), GW_mem (tm2 230 (by decide +kernel)) (by decide +kernel), GW_mem (tm1 12 (by decide +kernel)) (by decide +kernel), by decide, by decide⟩
theorem clX11_13 : Cond.classLink RX11 13 "VaneTown$Tray" ∈ GW := GW_mem (tm1 29 (by decide +kernel)) (by decide +kernel)
theorem ncX11_19 : NC RX11 19 6 := ⟨RX6, TX6, 13, tyX6, ck6, by decide, GW_mem (tm1 31 (by decide +kernel)) (by decide +kernel), GW_mem (tm1 32 (by decide +kernel)) (by decide +kernel), GW_mem (tm1 2 (by decide +kernel)) (by decide +kernel), by decide, by decide⟩
theorem clX11_19 : Cond.classLink RX11 19 "VaneTown$Text" ∈ GW := GW_mem (tm1 31 (by decide +kernel)) (by decide +kernel)
theorem ncX11_26 : NC RX11 26 9 := ⟨RX9, TX9, 2, tyX9, ck9, by decide, GW_mem (tm1 88 (by decide +kernel)) (by decide +kernel), GW_mem (tm1 89 (by decide +kernel)) (by decide +kernel), GW_mem (tm1 3 (by decide +kernel)) (by decide +kernel), by decide, by decide⟩
theorem clX11_26 : Cond.classLink RX11 26 "VaneTown$VillageReader" ∈ GW := GW_mem (tm1 88 (by decide +kernel)) (by decide +kernel)
theorem ncX11_33 : NC RX11 33 1 := ⟨RX1, TX1, 5, tyX1, ck1, by decide, GW_mem (tm1 101 (by decide +kernel)) (by decide +kernel), GW_mem (tm1 102 (by decide +kernel)) (by decide +kernel), GW_mem (tm1 4 (by decide +kernel)) (by decide +kernel), by decide, by decide⟩
theorem clX11_33 : Cond.classLink RX11 33 "VaneTown$OrdersReader" ∈ GW := GW_mem (tm1 101 (by decide +kernel)) (by decide +kernel)
theorem ncX11_47 : NC RX11 47 7 := ⟨RX7, TX7, 3, tyX7, ck7, by decide, GW_mem (tm1 124 (by decide +kernel)) (by decide +kernel), GW_mem (tm1 125 (by decide +kernel)) (by decide +kernel), GW_mem (tm1 5 (by decide +kernel)) (by decide +kernel), by decide, by decide⟩
theorem clX11_47 : Cond.classLink RX11 47 "VaneTown$Town" ∈ GW := GW_mem (tm1 124 (by decide +kernel)) (by decide +kernel)
theorem ncX11_54 : NC RX11 54 2 := ⟨RX2, TX2, 14, tyX2, ck2, by decide, GW_mem (tm2 100 (by decide +kernel)) (by decide +kernel), GW_mem (tm1 131 (by decide +kernel)) (by decide +kernel), GW_mem (tm1 6 (by decide +kernel)) (by decide +kernel), by decide, by decide⟩
theorem clX11_54 : Cond.classLink RX11 54 "VaneTown$Plan" ∈ GW := GW_mem (tm2 100 (by decide +kernel)) (by decide +kernel)
theorem ncX11_61 : NC RX11 61 5 := ⟨RX5, TX5, 8, tyX5, ck5, by decide, GW_mem (tm2 102 (by decide +kernel)) (by decide +kernel), GW_mem (tm2 38 (by decide +kernel)) (by decide +kernel), GW_mem (tm1 8 (by decide +kernel)) (by decide +kernel), by decide, by decide⟩
theorem clX11_61 : Cond.classLink RX11 61 "VaneTown$Steps" ∈ GW := GW_mem (tm2 102 (by decide +kernel)) (by decide +kernel)
theorem ncX11_72 : NC RX11 72 10 := ⟨RX10, TX10, 9, tyX10, ck10, by decide, GW_mem (tm2 105 (by decide +kernel)) (by decide +kernel), GW_mem (tm2 106 (by decide +kernel)) (by decide +kernel), GW_mem (tm1 9 (by decide +kernel)) (by decide +kernel), by decide, by decide⟩
theorem clX11_72 : Cond.classLink RX11 72 "VaneTown$Works" ∈ GW := GW_mem (tm2 105 (by decide +kernel)) (by decide +kernel)
theorem ncX11_79 : NC RX11 79 4 := ⟨RX4, TX4, 9, tyX4, ck4, by decide, GW_mem (tm2 145 (by decide +kernel)) (by decide +kernel), GW_mem (tm1 224 (by decide +kernel)) (by decide +kernel), GW_mem (tm1 7 (by decide +kernel)) (by decide +kernel), by decide, by decide⟩
theorem clX11_79 : Cond.classLink RX11 79 "VaneTown$State" ∈ GW := GW_mem (tm2 145 (by decide +kernel)) (by decide +kernel)
theorem ncX11_86 : NC RX11 86 0 := ⟨RX0, TX0, 7, tyX0, ck0, by decide, GW_mem (tm2 147 (by decide +kernel)) (by decide +kernel), GW_mem (tm2 148 (by decide +kernel)) (by decide +kernel), GW_mem (tm1 10 (by decide +kernel)) (by decide +kernel), by decide, by decide⟩
theorem clX11_86 : Cond.classLink RX11 86 "VaneTown$Joins" ∈ GW := GW_mem (tm2 147 (by decide +kernel)) (by decide +kernel)
theorem ncX11_93 : NC RX11 93 3 := ⟨RX3, TX3, 13, tyX3, ck3, by decide, GW_mem (tm2 177 (by decide +kernel)) (by decide +kernel), GW_mem (tm2 178 (by decide +kernel)) (by decide +kernel), GW_mem (tm1 11 (by decide +kernel)) (by decide +kernel), by decide, by decide⟩
theorem clX11_93 : Cond.classLink RX11 93 "VaneTown$Runner" ∈ GW := GW_mem (tm2 177 (by decide +kernel)) (by decide +kernel)
theorem ncX3_9 : NC RX3 9 4 := ⟨RX4, TX4, 9, tyX4, ck4, by decide, GW_mem (tm2 183 (by decide +kernel)) (by decide +kernel), GW_mem (tm1 224 (by decide +kernel)) (by decide +kernel), GW_mem (tm1 7 (by decide +kernel)) (by decide +kernel), by decide, by decide⟩
theorem clX3_9 : Cond.classLink RX3 9 "VaneTown$State" ∈ GW := GW_mem (tm2 183 (by decide +kernel)) (by decide +kernel)
theorem ncX7_7 : NC RX7 7 2 := ⟨RX2, TX2, 14, tyX2, ck2, by decide, GW_mem (tm1 130 (by decide +kernel)) (by decide +kernel), GW_mem (tm1 131 (by decide +kernel)) (by decide +kernel), GW_mem (tm1 6 (by decide +kernel)) (by decide +kernel), by decide, by decide⟩
theorem clX7_7 : Cond.classLink RX7 7 "VaneTown$Plan" ∈ GW := GW_mem (tm1 130 (by decide +kernel)) (by decide +kernel)
theorem ncX7_16 : NC RX7 16 4 := ⟨RX4, TX4, 9, tyX4, ck4, by decide, GW_mem (tm1 223 (by decide +kernel)) (by decide +kernel), GW_mem (tm1 224 (by decide +kernel)) (by decide +kernel), GW_mem (tm1 7 (by decide +kernel)) (by decide +kernel), by decide, by decide⟩
theorem clX7_16 : Cond.classLink RX7 16 "VaneTown$State" ∈ GW := GW_mem (tm1 223 (by decide +kernel)) (by decide +kernel)
theorem ncX7_23 : NC RX7 23 5 := ⟨RX5, TX5, 8, tyX5, ck5, by decide, GW_mem (tm2 37 (by decide +kernel)) (by decide +kernel), GW_mem (tm2 38 (by decide +kernel)) (by decide +kernel), GW_mem (tm1 8 (by decide +kernel)) (by decide +kernel), by decide, by decide⟩
theorem clX7_23 : Cond.classLink RX7 23 "VaneTown$Steps" ∈ GW := GW_mem (tm2 37 (by decide +kernel)) (by decide +kernel)
theorem ncL_7 : NC RL 7 11 := ⟨RX11, TX11, 18, tyX11, ck11, by decide, GW_mem (tm1 21 (by decide +kernel)) (by decide +kernel), GW_mem (tm1 22 (by decide +kernel)) (by decide +kernel), GW_mem (tm1 1 (by decide +kernel)) (by decide +kernel), by decide, by decide⟩
theorem clL_7 : Cond.classLink RL 7 "VaneTown" ∈ GW := GW_mem (tm1 21 (by decide +kernel)) (by decide +kernel)
theorem ncL_10 : NC RL 10 12 := ⟨RX12, TX12, 45, tyX12, ck12, by decide, GW_mem (tm6 105 (by decide +kernel)) (by decide +kernel), GW_mem (tm6 106 (by decide +kernel)) (by decide +kernel), GW_mem (tm1 13 (by decide +kernel)) (by decide +kernel), by decide, by decide⟩
theorem clL_10 : Cond.classLink RL 10 "VaneTownModel" ∈ GW := GW_mem (tm6 105 (by decide +kernel)) (by decide +kernel)
section KN
variable {l : Launch} {E : EV} {y : MI} {d MC MS : Nat} {R cs : List XC} {uc us pc : Nat} {L L' : List (Nat × Value)} {st : List Value} {α : Type} {ρ : α}
theorem K_naI {n : Int32} {K : Nat → List XC → Option α} (N : Nat) (hd : decode y.2.1 pc = .ok (.newarray .int, 2)) (hn : ¬ n < 0) (hN : n.toNatClampNeg = N) (hb : N ≤ 60000000) (h1 : uc + 1 ≤ MC) (h2 : us + N ≤ MS) (h : k_na cs 1 N K = some ρ) (k : ∀ (q : Nat) (cs1 : List XC), K q cs1 = some ρ → Kd l E y d MC MS R cs1 (uc + 1) (us + N) (pc + 2) L (.ref q :: st)) : Kd l E y d MC MS R cs uc us pc L (.int n :: st) :=
  K_na hd rfl ac_int rfl (by decide) (fun _ => rfl) (fun _ _ => rfl) hn hN (by show N * 4 ≤ 536870912; omega) h1 h2 h k
theorem K_naB {n : Int32} {K : Nat → List XC → Option α} (N : Nat) (hd : decode y.2.1 pc = .ok (.newarray .byte, 2)) (hn : ¬ n < 0) (hN : n.toNatClampNeg = N) (hb : N ≤ 60000000) (h1 : uc + 1 ≤ MC) (h2 : us + N ≤ MS) (h : k_na cs 0 N K = some ρ) (k : ∀ (q : Nat) (cs1 : List XC), K q cs1 = some ρ → Kd l E y d MC MS R cs1 (uc + 1) (us + N) (pc + 2) L (.ref q :: st)) : Kd l E y d MC MS R cs uc us pc L (.int n :: st) :=
  K_na hd rfl ac_byte rfl (by decide) (fun _ => rfl) (fun _ _ => rfl) hn hN (by show N * 1 ≤ 536870912; omega) h1 h2 h k
theorem K_naJ {n : Int32} {K : Nat → List XC → Option α} (N : Nat) (hd : decode y.2.1 pc = .ok (.newarray .long, 2)) (hn : ¬ n < 0) (hN : n.toNatClampNeg = N) (hb : N ≤ 60000000) (h1 : uc + 1 ≤ MC) (h2 : us + N ≤ MS) (h : k_na cs 2 N K = some ρ) (k : ∀ (q : Nat) (cs1 : List XC), K q cs1 = some ρ → Kd l E y d MC MS R cs1 (uc + 1) (us + N) (pc + 2) L (.ref q :: st)) : Kd l E y d MC MS R cs uc us pc L (.int n :: st) :=
  K_na hd rfl ac_long rfl (by decide) (fun _ => rfl) (fun _ _ => rfl) hn hN (by show N * 8 ≤ 536870912; omega) h1 h2 h k
def k_sr (cs : List XC) (a kd : Nat) (i : Int32) (v ci : Nat) (K : List XC → Option α) : Option α := match cs[v]? with
  | some (.inl q) => if q.1 = ci then k_st cs a kd i (.ref v) K else none
  | _ => none
theorem K_astK {a v kd ci : Nat} {i : Int32} {C : String} {K : List XC → Option α} (hd : decode y.2.1 pc = .ok (.aastore, 1)) (ht : (tyl E)[kd]? = some (e_c E kd, .object C)) (hkd : kd = 3 ∨ kd = 4) (hcl : ∃ (T : u_T) (N : Nat), vwCl[ci]? = some (C, T, N)) (h : k_sr cs a kd i v ci K = some ρ) (kk : ∀ cs1, K cs1 = some ρ → Kd l E y d MC MS R cs1 uc us (pc + 1) L st) : Kd l E y d MC MS R cs uc us pc L (.ref v :: .int i :: .ref a :: st) := by
  unfold k_sr at h
  split at h
  · rename_i q hq
    split at h
    · rename_i hci
      obtain ⟨ci0, fs⟩ := q
      dsimp only at hci
      subst hci
      exact K_ast hd ht hkd hcl ⟨fs, hq⟩ h kk
    · cases h
  · cases h
end KN
theorem icX0_init : IC mX0_init := ⟨GW_mem (tm2 150 (by decide +kernel)) (by decide +kernel), GW_mem (tm1 10 (by decide +kernel)) (by decide +kernel), GW_mem (tm2 151 (by decide +kernel)) (by decide +kernel), ⟨by decide +kernel, by decide +kernel⟩, by decide +kernel, by decide, by decide +kernel, rfl⟩
def fIX0_init (k : Nat) (cs : List XC) : Option (List XC) := k_na cs 1 8 (fun q1 cs2 => k_pf cs2 k 3 0 (.ref q1) (fun cs3 => k_na cs3 1 8 (fun q4 cs5 => k_pf cs5 k 4 0 (.ref q4) (fun cs6 => k_na cs6 1 8 (fun q7 cs8 => k_pf cs8 k 6 0 (.ref q7) (fun cs9 => some cs9))))))
set_option maxRecDepth 100000 in
set_option maxHeartbeats 4000000 in
theorem kiX0_init (l : Launch) (E : EV) (k : Nat) (cs : List XC) {cs' : List XC} (h : fIX0_init k cs = some cs') : Kc l E mX0_init 1 3 24 k cs cs' := by
  refine Kc.of (by decide +kernel) (by decide) (by decide +kernel) ?_
  unfold fIX0_init at h
  refine K_aload_n (pc := 0) (uc := 0) (us := 0) 0 dX0_init_0 rfl ?_
  refine K_obj (pc := 1) (uc := 0) (us := 0) dX0_init_1 oiX0_3 (by decide) (Nat.le_of_ble_eq_true rfl) ?_
  refine K_aload_n (pc := 4) (uc := 0) (us := 0) 0 dX0_init_4 rfl ?_
  refine K_bipush (pc := 5) (uc := 0) (us := 0) (8 : Int32) dX0_init_5 (by decide) ?_
  refine K_naI (pc := 7) (uc := 0) (us := 0) 8 dX0_init_7 (by decide) (by decide) (by decide) (by decide) (by decide) h (fun q1 cs2 h => ?_)
  refine K_put (pc := 9) (uc := 1) (us := 8) dX0_init_9 flX0_9 ⟨_, _, rfl, rfl⟩ rfl rfl h (fun cs3 h => ?_)
  refine K_aload_n (pc := 12) (uc := 1) (us := 8) 0 dX0_init_12 rfl ?_
  refine K_bipush (pc := 13) (uc := 1) (us := 8) (8 : Int32) dX0_init_13 (by decide) ?_
  refine K_naI (pc := 15) (uc := 1) (us := 8) 8 dX0_init_15 (by decide) (by decide) (by decide) (by decide) (by decide) h (fun q4 cs5 h => ?_)
  refine K_put (pc := 17) (uc := 2) (us := 16) dX0_init_17 flX0_15 ⟨_, _, rfl, rfl⟩ rfl rfl h (fun cs6 h => ?_)
  refine K_aload_n (pc := 20) (uc := 2) (us := 16) 0 dX0_init_20 rfl ?_
  refine K_bipush (pc := 21) (uc := 2) (us := 16) (8 : Int32) dX0_init_21 (by decide) ?_
  refine K_naI (pc := 23) (uc := 2) (us := 16) 8 dX0_init_23 (by decide) (by decide) (by decide) (by decide) (by decide) h (fun q7 cs8 h => ?_)
  refine K_put (pc := 25) (uc := 3) (us := 24) dX0_init_25 flX0_18 ⟨_, _, rfl, rfl⟩ rfl rfl h (fun cs9 h => ?_)
  cases h
  exact K_ret (pc := 28) (uc := 3) (us := 24) dX0_init_28 rfl (by decide) (by decide)
theorem icX1_init : IC mX1_init := ⟨GW_mem (tm1 104 (by decide +kernel)) (by decide +kernel), GW_mem (tm1 4 (by decide +kernel)) (by decide +kernel), GW_mem (tm1 105 (by decide +kernel)) (by decide +kernel), ⟨by decide +kernel, by decide +kernel⟩, by decide +kernel, by decide, by decide +kernel, rfl⟩
def fIX1_init (k : Nat) (cs : List XC) : Option (List XC) := k_na cs 1 3 (fun q1 cs2 => k_pf cs2 k 3 1 (.ref q1) (fun cs3 => some cs3))
set_option maxRecDepth 100000 in
set_option maxHeartbeats 4000000 in
theorem kiX1_init (l : Launch) (E : EV) (k : Nat) (cs : List XC) {cs' : List XC} (h : fIX1_init k cs = some cs') : Kc l E mX1_init 1 1 3 k cs cs' := by
  refine Kc.of (by decide +kernel) (by decide) (by decide +kernel) ?_
  unfold fIX1_init at h
  refine K_aload_n (pc := 0) (uc := 0) (us := 0) 0 dX1_init_0 rfl ?_
  refine K_obj (pc := 1) (uc := 0) (us := 0) dX1_init_1 oiX1_3 (by decide) (Nat.le_of_ble_eq_true rfl) ?_
  refine K_aload_n (pc := 4) (uc := 0) (us := 0) 0 dX1_init_4 rfl ?_
  refine K_iconst (pc := 5) (uc := 0) (us := 0) (3 : Int32) dX1_init_5 (by decide) ?_
  refine K_naI (pc := 6) (uc := 0) (us := 0) 3 dX1_init_6 (by decide) (by decide) (by decide) (by decide) (by decide) h (fun q1 cs2 h => ?_)
  refine K_put (pc := 8) (uc := 1) (us := 3) dX1_init_8 flX1_11 ⟨_, _, rfl, rfl⟩ rfl rfl h (fun cs3 h => ?_)
  cases h
  exact K_ret (pc := 11) (uc := 1) (us := 3) dX1_init_11 rfl (by decide) (by decide)
theorem icX2_init : IC mX2_init := ⟨GW_mem (tm1 133 (by decide +kernel)) (by decide +kernel), GW_mem (tm1 6 (by decide +kernel)) (by decide +kernel), GW_mem (tm1 134 (by decide +kernel)) (by decide +kernel), ⟨by decide +kernel, by decide +kernel⟩, by decide +kernel, by decide, by decide +kernel, rfl⟩
def fIX2_init (k : Nat) (cs : List XC) : Option (List XC) := k_na cs 2 4 (fun q1 cs2 => k_pf cs2 k 3 2 (.ref q1) (fun cs3 => k_na cs3 2 8 (fun q4 cs5 => k_pf cs5 k 4 2 (.ref q4) (fun cs6 => k_na cs6 2 10 (fun q7 cs8 => k_pf cs8 k 5 2 (.ref q7) (fun cs9 => k_na cs9 1 8 (fun q10 cs11 => k_pf cs11 k 6 2 (.ref q10) (fun cs12 => k_na cs12 1 8 (fun q13 cs14 => k_pf cs14 k 7 2 (.ref q13) (fun cs15 => k_na cs15 1 8 (fun q16 cs17 => k_pf cs17 k 8 2 (.ref q16) (fun cs18 => k_na cs18 1 8 (fun q19 cs20 => k_pf cs20 k 9 2 (.ref q19) (fun cs21 => k_na cs21 1 10 (fun q22 cs23 => k_pf cs23 k 10 2 (.ref q22) (fun cs24 => k_na cs24 1 10 (fun q25 cs26 => k_pf cs26 k 11 2 (.ref q25) (fun cs27 => k_na cs27 1 10 (fun q28 cs29 => k_pf cs29 k 12 2 (.ref q28) (fun cs30 => k_na cs30 1 10 (fun q31 cs32 => k_pf cs32 k 13 2 (.ref q31) (fun cs33 => some cs33))))))))))))))))))))))
set_option maxRecDepth 100000 in
set_option maxHeartbeats 4000000 in
theorem kiX2_init (l : Launch) (E : EV) (k : Nat) (cs : List XC) {cs' : List XC} (h : fIX2_init k cs = some cs') : Kc l E mX2_init 1 11 94 k cs cs' := by
  refine Kc.of (by decide +kernel) (by decide) (by decide +kernel) ?_
  unfold fIX2_init at h
  refine K_aload_n (pc := 0) (uc := 0) (us := 0) 0 dX2_init_0 rfl ?_
  refine K_obj (pc := 1) (uc := 0) (us := 0) dX2_init_1 oiX2_3 (by decide) (Nat.le_of_ble_eq_true rfl) ?_
  refine K_aload_n (pc := 4) (uc := 0) (us := 0) 0 dX2_init_4 rfl ?_
  refine K_iconst (pc := 5) (uc := 0) (us := 0) (4 : Int32) dX2_init_5 (by decide) ?_
  refine K_naJ (pc := 6) (uc := 0) (us := 0) 4 dX2_init_6 (by decide) (by decide) (by decide) (by decide) (by decide) h (fun q1 cs2 h => ?_)
  refine K_put (pc := 8) (uc := 1) (us := 4) dX2_init_8 flX2_9 ⟨_, _, rfl, rfl⟩ rfl rfl h (fun cs3 h => ?_)
  refine K_aload_n (pc := 11) (uc := 1) (us := 4) 0 dX2_init_11 rfl ?_
  refine K_bipush (pc := 12) (uc := 1) (us := 4) (8 : Int32) dX2_init_12 (by decide) ?_
  refine K_naJ (pc := 14) (uc := 1) (us := 4) 8 dX2_init_14 (by decide) (by decide) (by decide) (by decide) (by decide) h (fun q4 cs5 h => ?_)
  refine K_put (pc := 16) (uc := 2) (us := 12) dX2_init_16 flX2_15 ⟨_, _, rfl, rfl⟩ rfl rfl h (fun cs6 h => ?_)
  refine K_aload_n (pc := 19) (uc := 2) (us := 12) 0 dX2_init_19 rfl ?_
  refine K_bipush (pc := 20) (uc := 2) (us := 12) (10 : Int32) dX2_init_20 (by decide) ?_
  refine K_naJ (pc := 22) (uc := 2) (us := 12) 10 dX2_init_22 (by decide) (by decide) (by decide) (by decide) (by decide) h (fun q7 cs8 h => ?_)
  refine K_put (pc := 24) (uc := 3) (us := 22) dX2_init_24 flX2_18 ⟨_, _, rfl, rfl⟩ rfl rfl h (fun cs9 h => ?_)
  refine K_aload_n (pc := 27) (uc := 3) (us := 22) 0 dX2_init_27 rfl ?_
  refine K_bipush (pc := 28) (uc := 3) (us := 22) (8 : Int32) dX2_init_28 (by decide) ?_
  refine K_naI (pc := 30) (uc := 3) (us := 22) 8 dX2_init_30 (by decide) (by decide) (by decide) (by decide) (by decide) h (fun q10 cs11 h => ?_)
  refine K_put (pc := 32) (uc := 4) (us := 30) dX2_init_32 flX2_21 ⟨_, _, rfl, rfl⟩ rfl rfl h (fun cs12 h => ?_)
  refine K_aload_n (pc := 35) (uc := 4) (us := 30) 0 dX2_init_35 rfl ?_
  refine K_bipush (pc := 36) (uc := 4) (us := 30) (8 : Int32) dX2_init_36 (by decide) ?_
  refine K_naI (pc := 38) (uc := 4) (us := 30) 8 dX2_init_38 (by decide) (by decide) (by decide) (by decide) (by decide) h (fun q13 cs14 h => ?_)
  refine K_put (pc := 40) (uc := 5) (us := 38) dX2_init_40 flX2_25 ⟨_, _, rfl, rfl⟩ rfl rfl h (fun cs15 h => ?_)
  refine K_aload_n (pc := 43) (uc := 5) (us := 38) 0 dX2_init_43 rfl ?_
  refine K_bipush (pc := 44) (uc := 5) (us := 38) (8 : Int32) dX2_init_44 (by decide) ?_
  refine K_naI (pc := 46) (uc := 5) (us := 38) 8 dX2_init_46 (by decide) (by decide) (by decide) (by decide) (by decide) h (fun q16 cs17 h => ?_)
  refine K_put (pc := 48) (uc := 6) (us := 46) dX2_init_48 flX2_28 ⟨_, _, rfl, rfl⟩ rfl rfl h (fun cs18 h => ?_)
  refine K_aload_n (pc := 51) (uc := 6) (us := 46) 0 dX2_init_51 rfl ?_
  refine K_bipush (pc := 52) (uc := 6) (us := 46) (8 : Int32) dX2_init_52 (by decide) ?_
  refine K_naI (pc := 54) (uc := 6) (us := 46) 8 dX2_init_54 (by decide) (by decide) (by decide) (by decide) (by decide) h (fun q19 cs20 h => ?_)
  refine K_put (pc := 56) (uc := 7) (us := 54) dX2_init_56 flX2_31 ⟨_, _, rfl, rfl⟩ rfl rfl h (fun cs21 h => ?_)
  refine K_aload_n (pc := 59) (uc := 7) (us := 54) 0 dX2_init_59 rfl ?_
  refine K_bipush (pc := 60) (uc := 7) (us := 54) (10 : Int32) dX2_init_60 (by decide) ?_
  refine K_naI (pc := 62) (uc := 7) (us := 54) 10 dX2_init_62 (by decide) (by decide) (by decide) (by decide) (by decide) h (fun q22 cs23 h => ?_)
  refine K_put (pc := 64) (uc := 8) (us := 64) dX2_init_64 flX2_34 ⟨_, _, rfl, rfl⟩ rfl rfl h (fun cs24 h => ?_)
  refine K_aload_n (pc := 67) (uc := 8) (us := 64) 0 dX2_init_67 rfl ?_
  refine K_bipush (pc := 68) (uc := 8) (us := 64) (10 : Int32) dX2_init_68 (by decide) ?_
  refine K_naI (pc := 70) (uc := 8) (us := 64) 10 dX2_init_70 (by decide) (by decide) (by decide) (by decide) (by decide) h (fun q25 cs26 h => ?_)
  refine K_put (pc := 72) (uc := 9) (us := 74) dX2_init_72 flX2_37 ⟨_, _, rfl, rfl⟩ rfl rfl h (fun cs27 h => ?_)
  refine K_aload_n (pc := 75) (uc := 9) (us := 74) 0 dX2_init_75 rfl ?_
  refine K_bipush (pc := 76) (uc := 9) (us := 74) (10 : Int32) dX2_init_76 (by decide) ?_
  refine K_naI (pc := 78) (uc := 9) (us := 74) 10 dX2_init_78 (by decide) (by decide) (by decide) (by decide) (by decide) h (fun q28 cs29 h => ?_)
  refine K_put (pc := 80) (uc := 10) (us := 84) dX2_init_80 flX2_40 ⟨_, _, rfl, rfl⟩ rfl rfl h (fun cs30 h => ?_)
  refine K_aload_n (pc := 83) (uc := 10) (us := 84) 0 dX2_init_83 rfl ?_
  refine K_bipush (pc := 84) (uc := 10) (us := 84) (10 : Int32) dX2_init_84 (by decide) ?_
  refine K_naI (pc := 86) (uc := 10) (us := 84) 10 dX2_init_86 (by decide) (by decide) (by decide) (by decide) (by decide) h (fun q31 cs32 h => ?_)
  refine K_put (pc := 88) (uc := 11) (us := 94) dX2_init_88 flX2_43 ⟨_, _, rfl, rfl⟩ rfl rfl h (fun cs33 h => ?_)
  cases h
  exact K_ret (pc := 91) (uc := 11) (us := 94) dX2_init_91 rfl (by decide) (by decide)
theorem icX4_init : IC mX4_init := ⟨GW_mem (tm1 226 (by decide +kernel)) (by decide +kernel), GW_mem (tm1 7 (by decide +kernel)) (by decide +kernel), GW_mem (tm1 227 (by decide +kernel)) (by decide +kernel), ⟨by decide +kernel, by decide +kernel⟩, by decide +kernel, by decide, by decide +kernel, rfl⟩
def fIX4_init (k : Nat) (cs : List XC) : Option (List XC) := k_na cs 1 4 (fun q1 cs2 => k_pf cs2 k 0 4 (.ref q1) (fun cs3 => k_na cs3 1 4 (fun q4 cs5 => k_pf cs5 k 1 4 (.ref q4) (fun cs6 => k_na cs6 1 8 (fun q7 cs8 => k_pf cs8 k 2 4 (.ref q7) (fun cs9 => k_na cs9 1 8 (fun q10 cs11 => k_pf cs11 k 3 4 (.ref q10) (fun cs12 => k_na cs12 1 8 (fun q13 cs14 => k_pf cs14 k 4 4 (.ref q13) (fun cs15 => k_na cs15 1 10 (fun q16 cs17 => k_pf cs17 k 5 4 (.ref q16) (fun cs18 => some cs18))))))))))))
set_option maxRecDepth 100000 in
set_option maxHeartbeats 4000000 in
theorem kiX4_init (l : Launch) (E : EV) (k : Nat) (cs : List XC) {cs' : List XC} (h : fIX4_init k cs = some cs') : Kc l E mX4_init 1 6 42 k cs cs' := by
  refine Kc.of (by decide +kernel) (by decide) (by decide +kernel) ?_
  unfold fIX4_init at h
  refine K_aload_n (pc := 0) (uc := 0) (us := 0) 0 dX4_init_0 rfl ?_
  refine K_obj (pc := 1) (uc := 0) (us := 0) dX4_init_1 oiX4_3 (by decide) (Nat.le_of_ble_eq_true rfl) ?_
  refine K_aload_n (pc := 4) (uc := 0) (us := 0) 0 dX4_init_4 rfl ?_
  refine K_iconst (pc := 5) (uc := 0) (us := 0) (4 : Int32) dX4_init_5 (by decide) ?_
  refine K_naI (pc := 6) (uc := 0) (us := 0) 4 dX4_init_6 (by decide) (by decide) (by decide) (by decide) (by decide) h (fun q1 cs2 h => ?_)
  refine K_put (pc := 8) (uc := 1) (us := 4) dX4_init_8 flX4_9 ⟨_, _, rfl, rfl⟩ rfl rfl h (fun cs3 h => ?_)
  refine K_aload_n (pc := 11) (uc := 1) (us := 4) 0 dX4_init_11 rfl ?_
  refine K_iconst (pc := 12) (uc := 1) (us := 4) (4 : Int32) dX4_init_12 (by decide) ?_
  refine K_naI (pc := 13) (uc := 1) (us := 4) 4 dX4_init_13 (by decide) (by decide) (by decide) (by decide) (by decide) h (fun q4 cs5 h => ?_)
  refine K_put (pc := 15) (uc := 2) (us := 8) dX4_init_15 flX4_15 ⟨_, _, rfl, rfl⟩ rfl rfl h (fun cs6 h => ?_)
  refine K_aload_n (pc := 18) (uc := 2) (us := 8) 0 dX4_init_18 rfl ?_
  refine K_bipush (pc := 19) (uc := 2) (us := 8) (8 : Int32) dX4_init_19 (by decide) ?_
  refine K_naI (pc := 21) (uc := 2) (us := 8) 8 dX4_init_21 (by decide) (by decide) (by decide) (by decide) (by decide) h (fun q7 cs8 h => ?_)
  refine K_put (pc := 23) (uc := 3) (us := 16) dX4_init_23 flX4_18 ⟨_, _, rfl, rfl⟩ rfl rfl h (fun cs9 h => ?_)
  refine K_aload_n (pc := 26) (uc := 3) (us := 16) 0 dX4_init_26 rfl ?_
  refine K_bipush (pc := 27) (uc := 3) (us := 16) (8 : Int32) dX4_init_27 (by decide) ?_
  refine K_naI (pc := 29) (uc := 3) (us := 16) 8 dX4_init_29 (by decide) (by decide) (by decide) (by decide) (by decide) h (fun q10 cs11 h => ?_)
  refine K_put (pc := 31) (uc := 4) (us := 24) dX4_init_31 flX4_21 ⟨_, _, rfl, rfl⟩ rfl rfl h (fun cs12 h => ?_)
  refine K_aload_n (pc := 34) (uc := 4) (us := 24) 0 dX4_init_34 rfl ?_
  refine K_bipush (pc := 35) (uc := 4) (us := 24) (8 : Int32) dX4_init_35 (by decide) ?_
  refine K_naI (pc := 37) (uc := 4) (us := 24) 8 dX4_init_37 (by decide) (by decide) (by decide) (by decide) (by decide) h (fun q13 cs14 h => ?_)
  refine K_put (pc := 39) (uc := 5) (us := 32) dX4_init_39 flX4_24 ⟨_, _, rfl, rfl⟩ rfl rfl h (fun cs15 h => ?_)
  refine K_aload_n (pc := 42) (uc := 5) (us := 32) 0 dX4_init_42 rfl ?_
  refine K_bipush (pc := 43) (uc := 5) (us := 32) (10 : Int32) dX4_init_43 (by decide) ?_
  refine K_naI (pc := 45) (uc := 5) (us := 32) 10 dX4_init_45 (by decide) (by decide) (by decide) (by decide) (by decide) h (fun q16 cs17 h => ?_)
  refine K_put (pc := 47) (uc := 6) (us := 42) dX4_init_47 flX4_27 ⟨_, _, rfl, rfl⟩ rfl rfl h (fun cs18 h => ?_)
  cases h
  exact K_ret (pc := 50) (uc := 6) (us := 42) dX4_init_50 rfl (by decide) (by decide)
theorem icX3_init : IC mX3_init := ⟨GW_mem (tm2 180 (by decide +kernel)) (by decide +kernel), GW_mem (tm1 11 (by decide +kernel)) (by decide +kernel), GW_mem (tm2 181 (by decide +kernel)) (by decide +kernel), ⟨by decide +kernel, by decide +kernel⟩, by decide +kernel, by decide, by decide +kernel, rfl⟩
def fIX3_init (k : Nat) (cs : List XC) : Option (List XC) := k_nw cs 4 (fun q1 cs2 => k_cl (fIX4_init q1 cs2) (fun cs3 => k_pf cs3 k 0 3 (.ref q1) (fun cs5 => k_na cs5 1 60 (fun q6 cs7 => k_pf cs7 k 4 3 (.ref q6) (fun cs8 => k_na cs8 1 5 (fun q9 cs10 => k_pf cs10 k 10 3 (.ref q9) (fun cs11 => k_na cs11 1 8 (fun q12 cs13 => k_pf cs13 k 12 3 (.ref q12) (fun cs14 => some cs14)))))))))
set_option maxRecDepth 100000 in
set_option maxHeartbeats 4000000 in
theorem kiX3_init (l : Launch) (E : EV) (k : Nat) (cs : List XC) {cs' : List XC} (h : fIX3_init k cs = some cs') : Kc l E mX3_init 2 10 124 k cs cs' := by
  refine Kc.of (by decide +kernel) (by decide) (by decide +kernel) ?_
  unfold fIX3_init at h
  refine K_aload_n (pc := 0) (uc := 0) (us := 0) 0 dX3_init_0 rfl ?_
  refine K_obj (pc := 1) (uc := 0) (us := 0) dX3_init_1 oiX3_3 (by decide) (Nat.le_of_ble_eq_true rfl) ?_
  refine K_aload_n (pc := 4) (uc := 0) (us := 0) 0 dX3_init_4 rfl ?_
  refine K_new (pc := 5) (uc := 0) (us := 0) (n := 9) dX3_init_5 ncX3_9 rfl (by decide) (by decide) h (fun q1 cs2 h => ?_)
  refine K_dup (pc := 8) (uc := 1) (us := 9) dX3_init_8 rfl ?_
  obtain ⟨cs3, hc4, h⟩ := kcl_t h
  refine K_call (pc := 9) (uc := 1) (us := 9) (host := "VaneTown") (kiX4_init l E q1 cs2 hc4) dX3_init_9 mnX3_11 icX4_init (by decide) (by decide) (by decide) (Nat.le_of_ble_eq_true rfl) ?_
  refine K_put (pc := 12) (uc := 7) (us := 51) dX3_init_12 flX3_12 ⟨_, _, rfl, rfl⟩ rfl rfl h (fun cs5 h => ?_)
  refine K_aload_n (pc := 15) (uc := 7) (us := 51) 0 dX3_init_15 rfl ?_
  refine K_bipush (pc := 16) (uc := 7) (us := 51) (60 : Int32) dX3_init_16 (by decide) ?_
  refine K_naI (pc := 18) (uc := 7) (us := 51) 60 dX3_init_18 (by decide) (by decide) (by decide) (by decide) (by decide) h (fun q6 cs7 h => ?_)
  refine K_put (pc := 20) (uc := 8) (us := 111) dX3_init_20 flX3_20 ⟨_, _, rfl, rfl⟩ rfl rfl h (fun cs8 h => ?_)
  refine K_aload_n (pc := 23) (uc := 8) (us := 111) 0 dX3_init_23 rfl ?_
  refine K_iconst (pc := 24) (uc := 8) (us := 111) (5 : Int32) dX3_init_24 (by decide) ?_
  refine K_naI (pc := 25) (uc := 8) (us := 111) 5 dX3_init_25 (by decide) (by decide) (by decide) (by decide) (by decide) h (fun q9 cs10 h => ?_)
  refine K_put (pc := 27) (uc := 9) (us := 116) dX3_init_27 flX3_24 ⟨_, _, rfl, rfl⟩ rfl rfl h (fun cs11 h => ?_)
  refine K_aload_n (pc := 30) (uc := 9) (us := 116) 0 dX3_init_30 rfl ?_
  refine K_bipush (pc := 31) (uc := 9) (us := 116) (8 : Int32) dX3_init_31 (by decide) ?_
  refine K_naI (pc := 33) (uc := 9) (us := 116) 8 dX3_init_33 (by decide) (by decide) (by decide) (by decide) (by decide) h (fun q12 cs13 h => ?_)
  refine K_put (pc := 35) (uc := 10) (us := 124) dX3_init_35 flX3_27 ⟨_, _, rfl, rfl⟩ rfl rfl h (fun cs14 h => ?_)
  cases h
  exact K_ret (pc := 38) (uc := 10) (us := 124) dX3_init_38 rfl (by decide) (by decide)
theorem icX5_init : IC mX5_init := ⟨GW_mem (tm2 40 (by decide +kernel)) (by decide +kernel), GW_mem (tm1 8 (by decide +kernel)) (by decide +kernel), GW_mem (tm2 41 (by decide +kernel)) (by decide +kernel), ⟨by decide +kernel, by decide +kernel⟩, by decide +kernel, by decide, by decide +kernel, rfl⟩
def fIX5_init (k : Nat) (cs : List XC) : Option (List XC) := k_na cs 1 60 (fun q1 cs2 => k_pf cs2 k 3 5 (.ref q1) (fun cs3 => k_na cs3 1 60 (fun q4 cs5 => k_pf cs5 k 4 5 (.ref q4) (fun cs6 => k_na cs6 1 60 (fun q7 cs8 => k_pf cs8 k 5 5 (.ref q7) (fun cs9 => k_na cs9 1 60 (fun q10 cs11 => k_pf cs11 k 6 5 (.ref q10) (fun cs12 => k_na cs12 1 60 (fun q13 cs14 => k_pf cs14 k 7 5 (.ref q13) (fun cs15 => some cs15))))))))))
set_option maxRecDepth 100000 in
set_option maxHeartbeats 4000000 in
theorem kiX5_init (l : Launch) (E : EV) (k : Nat) (cs : List XC) {cs' : List XC} (h : fIX5_init k cs = some cs') : Kc l E mX5_init 1 5 300 k cs cs' := by
  refine Kc.of (by decide +kernel) (by decide) (by decide +kernel) ?_
  unfold fIX5_init at h
  refine K_aload_n (pc := 0) (uc := 0) (us := 0) 0 dX5_init_0 rfl ?_
  refine K_obj (pc := 1) (uc := 0) (us := 0) dX5_init_1 oiX5_3 (by decide) (Nat.le_of_ble_eq_true rfl) ?_
  refine K_aload_n (pc := 4) (uc := 0) (us := 0) 0 dX5_init_4 rfl ?_
  refine K_bipush (pc := 5) (uc := 0) (us := 0) (60 : Int32) dX5_init_5 (by decide) ?_
  refine K_naI (pc := 7) (uc := 0) (us := 0) 60 dX5_init_7 (by decide) (by decide) (by decide) (by decide) (by decide) h (fun q1 cs2 h => ?_)
  refine K_put (pc := 9) (uc := 1) (us := 60) dX5_init_9 flX5_9 ⟨_, _, rfl, rfl⟩ rfl rfl h (fun cs3 h => ?_)
  refine K_aload_n (pc := 12) (uc := 1) (us := 60) 0 dX5_init_12 rfl ?_
  refine K_bipush (pc := 13) (uc := 1) (us := 60) (60 : Int32) dX5_init_13 (by decide) ?_
  refine K_naI (pc := 15) (uc := 1) (us := 60) 60 dX5_init_15 (by decide) (by decide) (by decide) (by decide) (by decide) h (fun q4 cs5 h => ?_)
  refine K_put (pc := 17) (uc := 2) (us := 120) dX5_init_17 flX5_13 ⟨_, _, rfl, rfl⟩ rfl rfl h (fun cs6 h => ?_)
  refine K_aload_n (pc := 20) (uc := 2) (us := 120) 0 dX5_init_20 rfl ?_
  refine K_bipush (pc := 21) (uc := 2) (us := 120) (60 : Int32) dX5_init_21 (by decide) ?_
  refine K_naI (pc := 23) (uc := 2) (us := 120) 60 dX5_init_23 (by decide) (by decide) (by decide) (by decide) (by decide) h (fun q7 cs8 h => ?_)
  refine K_put (pc := 25) (uc := 3) (us := 180) dX5_init_25 flX5_16 ⟨_, _, rfl, rfl⟩ rfl rfl h (fun cs9 h => ?_)
  refine K_aload_n (pc := 28) (uc := 3) (us := 180) 0 dX5_init_28 rfl ?_
  refine K_bipush (pc := 29) (uc := 3) (us := 180) (60 : Int32) dX5_init_29 (by decide) ?_
  refine K_naI (pc := 31) (uc := 3) (us := 180) 60 dX5_init_31 (by decide) (by decide) (by decide) (by decide) (by decide) h (fun q10 cs11 h => ?_)
  refine K_put (pc := 33) (uc := 4) (us := 240) dX5_init_33 flX5_19 ⟨_, _, rfl, rfl⟩ rfl rfl h (fun cs12 h => ?_)
  refine K_aload_n (pc := 36) (uc := 4) (us := 240) 0 dX5_init_36 rfl ?_
  refine K_bipush (pc := 37) (uc := 4) (us := 240) (60 : Int32) dX5_init_37 (by decide) ?_
  refine K_naI (pc := 39) (uc := 4) (us := 240) 60 dX5_init_39 (by decide) (by decide) (by decide) (by decide) (by decide) h (fun q13 cs14 h => ?_)
  refine K_put (pc := 41) (uc := 5) (us := 300) dX5_init_41 flX5_22 ⟨_, _, rfl, rfl⟩ rfl rfl h (fun cs15 h => ?_)
  cases h
  exact K_ret (pc := 44) (uc := 5) (us := 300) dX5_init_44 rfl (by decide) (by decide)
theorem icX6_init : IC mX6_init := ⟨GW_mem (tm1 34 (by decide +kernel)) (by decide +kernel), GW_mem (tm1 2 (by decide +kernel)) (by decide +kernel), GW_mem (tm1 35 (by decide +kernel)) (by decide +kernel), ⟨by decide +kernel, by decide +kernel⟩, by decide +kernel, by decide, by decide +kernel, rfl⟩
def fIX6_init (k : Nat) (cs : List XC) : Option (List XC) := k_na cs 0 900 (fun q1 cs2 => k_pf cs2 k 0 6 (.ref q1) (fun cs3 => some cs3))
set_option maxRecDepth 100000 in
set_option maxHeartbeats 4000000 in
theorem kiX6_init (l : Launch) (E : EV) (k : Nat) (cs : List XC) {cs' : List XC} (h : fIX6_init k cs = some cs') : Kc l E mX6_init 1 1 900 k cs cs' := by
  refine Kc.of (by decide +kernel) (by decide) (by decide +kernel) ?_
  unfold fIX6_init at h
  refine K_aload_n (pc := 0) (uc := 0) (us := 0) 0 dX6_init_0 rfl ?_
  refine K_obj (pc := 1) (uc := 0) (us := 0) dX6_init_1 oiX6_3 (by decide) (Nat.le_of_ble_eq_true rfl) ?_
  refine K_aload_n (pc := 4) (uc := 0) (us := 0) 0 dX6_init_4 rfl ?_
  refine K_sipush (pc := 5) (uc := 0) (us := 0) (900 : Int32) dX6_init_5 (by decide) ?_
  refine K_naB (pc := 8) (uc := 0) (us := 0) 900 dX6_init_8 (by decide) (by decide) (by decide) (by decide) (by decide) h (fun q1 cs2 h => ?_)
  refine K_put (pc := 10) (uc := 1) (us := 900) dX6_init_10 flX6_11 ⟨_, _, rfl, rfl⟩ rfl rfl h (fun cs3 h => ?_)
  cases h
  exact K_ret (pc := 13) (uc := 1) (us := 900) dX6_init_13 rfl (by decide) (by decide)
theorem icX7_init : IC mX7_init := ⟨GW_mem (tm1 127 (by decide +kernel)) (by decide +kernel), GW_mem (tm1 5 (by decide +kernel)) (by decide +kernel), GW_mem (tm1 128 (by decide +kernel)) (by decide +kernel), ⟨by decide +kernel, by decide +kernel⟩, by decide +kernel, by decide, by decide +kernel, rfl⟩
def fIX7_init (k : Nat) (cs : List XC) : Option (List XC) := k_nw cs 2 (fun q1 cs2 => k_cl (fIX2_init q1 cs2) (fun cs3 => k_pf cs3 k 0 7 (.ref q1) (fun cs5 => k_nw cs5 4 (fun q6 cs7 => k_cl (fIX4_init q6 cs7) (fun cs8 => k_pf cs8 k 1 7 (.ref q6) (fun cs10 => k_nw cs10 5 (fun q11 cs12 => k_cl (fIX5_init q11 cs12) (fun cs13 => k_pf cs13 k 2 7 (.ref q11) (fun cs15 => some cs15)))))))))
set_option maxRecDepth 100000 in
set_option maxHeartbeats 4000000 in
theorem kiX7_init (l : Launch) (E : EV) (k : Nat) (cs : List XC) {cs' : List XC} (h : fIX7_init k cs = some cs') : Kc l E mX7_init 2 25 467 k cs cs' := by
  refine Kc.of (by decide +kernel) (by decide) (by decide +kernel) ?_
  unfold fIX7_init at h
  refine K_aload_n (pc := 0) (uc := 0) (us := 0) 0 dX7_init_0 rfl ?_
  refine K_obj (pc := 1) (uc := 0) (us := 0) dX7_init_1 oiX7_1 (by decide) (Nat.le_of_ble_eq_true rfl) ?_
  refine K_aload_n (pc := 4) (uc := 0) (us := 0) 0 dX7_init_4 rfl ?_
  refine K_new (pc := 5) (uc := 0) (us := 0) (n := 14) dX7_init_5 ncX7_7 rfl (by decide) (by decide) h (fun q1 cs2 h => ?_)
  refine K_dup (pc := 8) (uc := 1) (us := 14) dX7_init_8 rfl ?_
  obtain ⟨cs3, hc4, h⟩ := kcl_t h
  refine K_call (pc := 9) (uc := 1) (us := 14) (host := "VaneTown") (kiX2_init l E q1 cs2 hc4) dX7_init_9 mnX7_9 icX2_init (by decide) (by decide) (by decide) (Nat.le_of_ble_eq_true rfl) ?_
  refine K_put (pc := 12) (uc := 12) (us := 108) dX7_init_12 flX7_10 ⟨_, _, rfl, rfl⟩ rfl rfl h (fun cs5 h => ?_)
  refine K_aload_n (pc := 15) (uc := 12) (us := 108) 0 dX7_init_15 rfl ?_
  refine K_new (pc := 16) (uc := 12) (us := 108) (n := 9) dX7_init_16 ncX7_16 rfl (by decide) (by decide) h (fun q6 cs7 h => ?_)
  refine K_dup (pc := 19) (uc := 13) (us := 117) dX7_init_19 rfl ?_
  obtain ⟨cs8, hc9, h⟩ := kcl_t h
  refine K_call (pc := 20) (uc := 13) (us := 117) (host := "VaneTown") (kiX4_init l E q6 cs7 hc9) dX7_init_20 mnX7_18 icX4_init (by decide) (by decide) (by decide) (Nat.le_of_ble_eq_true rfl) ?_
  refine K_put (pc := 23) (uc := 19) (us := 159) dX7_init_23 flX7_19 ⟨_, _, rfl, rfl⟩ rfl rfl h (fun cs10 h => ?_)
  refine K_aload_n (pc := 26) (uc := 19) (us := 159) 0 dX7_init_26 rfl ?_
  refine K_new (pc := 27) (uc := 19) (us := 159) (n := 8) dX7_init_27 ncX7_23 rfl (by decide) (by decide) h (fun q11 cs12 h => ?_)
  refine K_dup (pc := 30) (uc := 20) (us := 167) dX7_init_30 rfl ?_
  obtain ⟨cs13, hc14, h⟩ := kcl_t h
  refine K_call (pc := 31) (uc := 20) (us := 167) (host := "VaneTown") (kiX5_init l E q11 cs12 hc14) dX7_init_31 mnX7_25 icX5_init (by decide) (by decide) (by decide) (Nat.le_of_ble_eq_true rfl) ?_
  refine K_put (pc := 34) (uc := 25) (us := 467) dX7_init_34 flX7_26 ⟨_, _, rfl, rfl⟩ rfl rfl h (fun cs15 h => ?_)
  cases h
  exact K_ret (pc := 37) (uc := 25) (us := 467) dX7_init_37 rfl (by decide) (by decide)
theorem icX8_init : IC mX8_init := ⟨GW_mem (tm2 232 (by decide +kernel)) (by decide +kernel), GW_mem (tm1 12 (by decide +kernel)) (by decide +kernel), GW_mem (tm2 233 (by decide +kernel)) (by decide +kernel), ⟨by decide +kernel, by decide +kernel⟩, by decide +kernel, by decide, by decide +kernel, rfl⟩
def fIX8_init (k : Nat) (cs : List XC) : Option (List XC) := k_pf cs k 0 8 (.int (-1 : Int32)) (fun cs1 => k_na cs1 2 60 (fun q2 cs3 => k_pf cs3 k 2 8 (.ref q2) (fun cs4 => some cs4)))
set_option maxRecDepth 100000 in
set_option maxHeartbeats 4000000 in
theorem kiX8_init (l : Launch) (E : EV) (k : Nat) (cs : List XC) {cs' : List XC} (h : fIX8_init k cs = some cs') : Kc l E mX8_init 1 1 60 k cs cs' := by
  refine Kc.of (by decide +kernel) (by decide) (by decide +kernel) ?_
  unfold fIX8_init at h
  refine K_aload_n (pc := 0) (uc := 0) (us := 0) 0 dX8_init_0 rfl ?_
  refine K_obj (pc := 1) (uc := 0) (us := 0) dX8_init_1 oiX8_3 (by decide) (Nat.le_of_ble_eq_true rfl) ?_
  refine K_aload_n (pc := 4) (uc := 0) (us := 0) 0 dX8_init_4 rfl ?_
  refine K_iconst (pc := 5) (uc := 0) (us := 0) (-1 : Int32) dX8_init_5 (by decide) ?_
  refine K_put (pc := 6) (uc := 0) (us := 0) dX8_init_6 flX8_9 ⟨_, _, rfl, rfl⟩ rfl rfl h (fun cs1 h => ?_)
  refine K_aload_n (pc := 9) (uc := 0) (us := 0) 0 dX8_init_9 rfl ?_
  refine K_bipush (pc := 10) (uc := 0) (us := 0) (60 : Int32) dX8_init_10 (by decide) ?_
  refine K_naJ (pc := 12) (uc := 0) (us := 0) 60 dX8_init_12 (by decide) (by decide) (by decide) (by decide) (by decide) h (fun q2 cs3 h => ?_)
  refine K_put (pc := 14) (uc := 1) (us := 60) dX8_init_14 flX8_15 ⟨_, _, rfl, rfl⟩ rfl rfl h (fun cs4 h => ?_)
  cases h
  exact K_ret (pc := 17) (uc := 1) (us := 60) dX8_init_17 rfl (by decide) (by decide)
theorem icX9_init : IC mX9_init := ⟨GW_mem (tm1 91 (by decide +kernel)) (by decide +kernel), GW_mem (tm1 3 (by decide +kernel)) (by decide +kernel), GW_mem (tm1 92 (by decide +kernel)) (by decide +kernel), ⟨by decide +kernel, by decide +kernel⟩, by decide +kernel, by decide, by decide +kernel, rfl⟩
def fIX9_init (k : Nat) (cs : List XC) : Option (List XC) := some cs
set_option maxRecDepth 100000 in
set_option maxHeartbeats 4000000 in
theorem kiX9_init (l : Launch) (E : EV) (k : Nat) (cs : List XC) {cs' : List XC} (h : fIX9_init k cs = some cs') : Kc l E mX9_init 1 0 0 k cs cs' := by
  refine Kc.of (by decide +kernel) (by decide) (by decide +kernel) ?_
  unfold fIX9_init at h
  refine K_aload_n (pc := 0) (uc := 0) (us := 0) 0 dX9_init_0 rfl ?_
  refine K_obj (pc := 1) (uc := 0) (us := 0) dX9_init_1 oiX9_3 (by decide) (Nat.le_of_ble_eq_true rfl) ?_
  cases h
  exact K_ret (pc := 4) (uc := 0) (us := 0) dX9_init_4 rfl (by decide) (by decide)
theorem icX10_init : IC mX10_init := ⟨GW_mem (tm2 108 (by decide +kernel)) (by decide +kernel), GW_mem (tm1 9 (by decide +kernel)) (by decide +kernel), GW_mem (tm2 109 (by decide +kernel)) (by decide +kernel), ⟨by decide +kernel, by decide +kernel⟩, by decide +kernel, by decide, by decide +kernel, rfl⟩
def fIX10_init (k : Nat) (cs : List XC) : Option (List XC) := k_na cs 1 8 (fun q1 cs2 => k_pf cs2 k 2 10 (.ref q1) (fun cs3 => k_na cs3 1 8 (fun q4 cs5 => k_pf cs5 k 3 10 (.ref q4) (fun cs6 => some cs6))))
set_option maxRecDepth 100000 in
set_option maxHeartbeats 4000000 in
theorem kiX10_init (l : Launch) (E : EV) (k : Nat) (cs : List XC) {cs' : List XC} (h : fIX10_init k cs = some cs') : Kc l E mX10_init 1 2 16 k cs cs' := by
  refine Kc.of (by decide +kernel) (by decide) (by decide +kernel) ?_
  unfold fIX10_init at h
  refine K_aload_n (pc := 0) (uc := 0) (us := 0) 0 dX10_init_0 rfl ?_
  refine K_obj (pc := 1) (uc := 0) (us := 0) dX10_init_1 oiX10_3 (by decide) (Nat.le_of_ble_eq_true rfl) ?_
  refine K_aload_n (pc := 4) (uc := 0) (us := 0) 0 dX10_init_4 rfl ?_
  refine K_bipush (pc := 5) (uc := 0) (us := 0) (8 : Int32) dX10_init_5 (by decide) ?_
  refine K_naI (pc := 7) (uc := 0) (us := 0) 8 dX10_init_7 (by decide) (by decide) (by decide) (by decide) (by decide) h (fun q1 cs2 h => ?_)
  refine K_put (pc := 9) (uc := 1) (us := 8) dX10_init_9 flX10_9 ⟨_, _, rfl, rfl⟩ rfl rfl h (fun cs3 h => ?_)
  refine K_aload_n (pc := 12) (uc := 1) (us := 8) 0 dX10_init_12 rfl ?_
  refine K_bipush (pc := 13) (uc := 1) (us := 8) (8 : Int32) dX10_init_13 (by decide) ?_
  refine K_naI (pc := 15) (uc := 1) (us := 8) 8 dX10_init_15 (by decide) (by decide) (by decide) (by decide) (by decide) h (fun q4 cs5 h => ?_)
  refine K_put (pc := 17) (uc := 2) (us := 16) dX10_init_17 flX10_15 ⟨_, _, rfl, rfl⟩ rfl rfl h (fun cs6 h => ?_)
  cases h
  exact K_ret (pc := 20) (uc := 2) (us := 16) dX10_init_20 rfl (by decide) (by decide)
theorem icX11_init : IC mX11_init := ⟨GW_mem (tm1 24 (by decide +kernel)) (by decide +kernel), GW_mem (tm1 1 (by decide +kernel)) (by decide +kernel), GW_mem (tm1 25 (by decide +kernel)) (by decide +kernel), ⟨by decide +kernel, by decide +kernel⟩, by decide +kernel, by decide, by decide +kernel, rfl⟩
def fIX11_init (k : Nat) (cs : List XC) : Option (List XC) := k_pf cs k 2 11 (.long (1 : Int64)) (fun cs1 => k_na cs1 3 4 (fun q2 cs3 => k_pf cs3 k 3 11 (.ref q2) (fun cs4 => k_nw cs4 6 (fun q5 cs6 => k_cl (fIX6_init q5 cs6) (fun cs7 => k_pf cs7 k 4 11 (.ref q5) (fun cs9 => k_nw cs9 9 (fun q10 cs11 => k_cl (fIX9_init q10 cs11) (fun cs12 => k_pf cs12 k 5 11 (.ref q10) (fun cs14 => k_nw cs14 1 (fun q15 cs16 => k_cl (fIX1_init q15 cs16) (fun cs17 => k_pf cs17 k 6 11 (.ref q15) (fun cs19 => k_pf cs19 k 7 11 (.int (-1 : Int32)) (fun cs20 => k_pf cs20 k 8 11 (.int (-1 : Int32)) (fun cs21 => k_nw cs21 7 (fun q22 cs23 => k_cl (fIX7_init q22 cs23) (fun cs24 => k_pf cs24 k 9 11 (.ref q22) (fun cs26 => k_nw cs26 2 (fun q27 cs28 => k_cl (fIX2_init q27 cs28) (fun cs29 => k_pf cs29 k 10 11 (.ref q27) (fun cs31 => k_nw cs31 5 (fun q32 cs33 => k_cl (fIX5_init q32 cs33) (fun cs34 => k_pf cs34 k 11 11 (.ref q32) (fun cs36 => k_na cs36 4 3 (fun q37 cs38 => k_pf cs38 k 12 11 (.ref q37) (fun cs39 => k_nw cs39 10 (fun q40 cs41 => k_cl (fIX10_init q40 cs41) (fun cs42 => k_pf cs42 k 14 11 (.ref q40) (fun cs44 => k_nw cs44 4 (fun q45 cs46 => k_cl (fIX4_init q45 cs46) (fun cs47 => k_pf cs47 k 15 11 (.ref q45) (fun cs49 => k_nw cs49 0 (fun q50 cs51 => k_cl (fIX0_init q50 cs51) (fun cs52 => k_pf cs52 k 16 11 (.ref q50) (fun cs54 => k_nw cs54 3 (fun q55 cs56 => k_cl (fIX3_init q55 cs56) (fun cs57 => k_pf cs57 k 17 11 (.ref q55) (fun cs59 => k_gf cs59 k 3 11 (fun q60 => k_nw cs59 8 (fun q61 cs62 => k_cl (fIX8_init q61 cs62) (fun cs63 => k_sr cs63 q60 3 (0 : Int32) q61 8 (fun cs65 => k_gf cs65 k 3 11 (fun q66 => k_nw cs65 8 (fun q67 cs68 => k_cl (fIX8_init q67 cs68) (fun cs69 => k_sr cs69 q66 3 (1 : Int32) q67 8 (fun cs71 => k_gf cs71 k 3 11 (fun q72 => k_nw cs71 8 (fun q73 cs74 => k_cl (fIX8_init q73 cs74) (fun cs75 => k_sr cs75 q72 3 (2 : Int32) q73 8 (fun cs77 => k_gf cs77 k 3 11 (fun q78 => k_nw cs77 8 (fun q79 cs80 => k_cl (fIX8_init q79 cs80) (fun cs81 => k_sr cs81 q78 3 (3 : Int32) q79 8 (fun cs83 => k_gf cs83 k 12 11 (fun q84 => k_nw cs83 7 (fun q85 cs86 => k_cl (fIX7_init q85 cs86) (fun cs87 => k_sr cs87 q84 4 (0 : Int32) q85 7 (fun cs89 => k_gf cs89 k 12 11 (fun q90 => k_nw cs89 7 (fun q91 cs92 => k_cl (fIX7_init q91 cs92) (fun cs93 => k_sr cs93 q90 4 (1 : Int32) q91 7 (fun cs95 => k_gf cs95 k 12 11 (fun q96 => k_nw cs95 7 (fun q97 cs98 => k_cl (fIX7_init q97 cs98) (fun cs99 => k_sr cs99 q96 4 (2 : Int32) q97 7 (fun cs101 => some cs101)))))))))))))))))))))))))))))))))))))))))))))))))))))))))))))))))
set_option maxRecDepth 100000 in
set_option maxHeartbeats 4000000 in
theorem kiX11_init (l : Launch) (E : EV) (k : Nat) (cs : List XC) {cs' : List XC} (h : fIX11_init k cs = some cs') : Kc l E mX11_init 3 162 3722 k cs cs' := by
  refine Kc.of (by decide +kernel) (by decide) (by decide +kernel) ?_
  unfold fIX11_init at h
  refine K_aload_n (pc := 0) (uc := 0) (us := 0) 0 dX11_init_0 rfl ?_
  refine K_obj (pc := 1) (uc := 0) (us := 0) dX11_init_1 oiX11_1 (by decide) (Nat.le_of_ble_eq_true rfl) ?_
  refine K_aload_n (pc := 4) (uc := 0) (us := 0) 0 dX11_init_4 rfl ?_
  refine K_lconst (pc := 5) (uc := 0) (us := 0) (1 : Int64) dX11_init_5 (by decide) ?_
  refine K_put (pc := 6) (uc := 0) (us := 0) dX11_init_6 flX11_7 ⟨_, _, rfl, rfl⟩ rfl rfl h (fun cs1 h => ?_)
  refine K_aload_n (pc := 9) (uc := 0) (us := 0) 0 dX11_init_9 rfl ?_
  refine K_iconst (pc := 10) (uc := 0) (us := 0) (4 : Int32) dX11_init_10 (by decide) ?_
  refine K_aa (pc := 11) (uc := 0) (us := 0) (N := 4) (kd := 3) dX11_init_11 clX11_13 ao_Tray rfl (by decide) (by decide) (by decide) (by decide) (by decide) (by decide) h (fun q2 cs3 h => ?_)
  refine K_put (pc := 14) (uc := 1) (us := 4) dX11_init_14 flX11_15 ⟨_, _, rfl, rfl⟩ rfl rfl h (fun cs4 h => ?_)
  refine K_aload_n (pc := 17) (uc := 1) (us := 4) 0 dX11_init_17 rfl ?_
  refine K_new (pc := 18) (uc := 1) (us := 4) (n := 13) dX11_init_18 ncX11_19 rfl (by decide) (by decide) h (fun q5 cs6 h => ?_)
  refine K_dup (pc := 21) (uc := 2) (us := 17) dX11_init_21 rfl ?_
  obtain ⟨cs7, hc8, h⟩ := kcl_t h
  refine K_call (pc := 22) (uc := 2) (us := 17) (host := "VaneTown") (kiX6_init l E q5 cs6 hc8) dX11_init_22 mnX11_21 icX6_init (by decide) (by decide) (by decide) (Nat.le_of_ble_eq_true rfl) ?_
  refine K_put (pc := 25) (uc := 3) (us := 917) dX11_init_25 flX11_22 ⟨_, _, rfl, rfl⟩ rfl rfl h (fun cs9 h => ?_)
  refine K_aload_n (pc := 28) (uc := 3) (us := 917) 0 dX11_init_28 rfl ?_
  refine K_new (pc := 29) (uc := 3) (us := 917) (n := 2) dX11_init_29 ncX11_26 rfl (by decide) (by decide) h (fun q10 cs11 h => ?_)
  refine K_dup (pc := 32) (uc := 4) (us := 919) dX11_init_32 rfl ?_
  obtain ⟨cs12, hc13, h⟩ := kcl_t h
  refine K_call (pc := 33) (uc := 4) (us := 919) (host := "VaneTown") (kiX9_init l E q10 cs11 hc13) dX11_init_33 mnX11_28 icX9_init (by decide) (by decide) (by decide) (Nat.le_of_ble_eq_true rfl) ?_
  refine K_put (pc := 36) (uc := 4) (us := 919) dX11_init_36 flX11_29 ⟨_, _, rfl, rfl⟩ rfl rfl h (fun cs14 h => ?_)
  refine K_aload_n (pc := 39) (uc := 4) (us := 919) 0 dX11_init_39 rfl ?_
  refine K_new (pc := 40) (uc := 4) (us := 919) (n := 5) dX11_init_40 ncX11_33 rfl (by decide) (by decide) h (fun q15 cs16 h => ?_)
  refine K_dup (pc := 43) (uc := 5) (us := 924) dX11_init_43 rfl ?_
  obtain ⟨cs17, hc18, h⟩ := kcl_t h
  refine K_call (pc := 44) (uc := 5) (us := 924) (host := "VaneTown") (kiX1_init l E q15 cs16 hc18) dX11_init_44 mnX11_35 icX1_init (by decide) (by decide) (by decide) (Nat.le_of_ble_eq_true rfl) ?_
  refine K_put (pc := 47) (uc := 6) (us := 927) dX11_init_47 flX11_36 ⟨_, _, rfl, rfl⟩ rfl rfl h (fun cs19 h => ?_)
  refine K_aload_n (pc := 50) (uc := 6) (us := 927) 0 dX11_init_50 rfl ?_
  refine K_iconst (pc := 51) (uc := 6) (us := 927) (-1 : Int32) dX11_init_51 (by decide) ?_
  refine K_put (pc := 52) (uc := 6) (us := 927) dX11_init_52 flX11_40 ⟨_, _, rfl, rfl⟩ rfl rfl h (fun cs20 h => ?_)
  refine K_aload_n (pc := 55) (uc := 6) (us := 927) 0 dX11_init_55 rfl ?_
  refine K_iconst (pc := 56) (uc := 6) (us := 927) (-1 : Int32) dX11_init_56 (by decide) ?_
  refine K_put (pc := 57) (uc := 6) (us := 927) dX11_init_57 flX11_44 ⟨_, _, rfl, rfl⟩ rfl rfl h (fun cs21 h => ?_)
  refine K_aload_n (pc := 60) (uc := 6) (us := 927) 0 dX11_init_60 rfl ?_
  refine K_new (pc := 61) (uc := 6) (us := 927) (n := 3) dX11_init_61 ncX11_47 rfl (by decide) (by decide) h (fun q22 cs23 h => ?_)
  refine K_dup (pc := 64) (uc := 7) (us := 930) dX11_init_64 rfl ?_
  obtain ⟨cs24, hc25, h⟩ := kcl_t h
  refine K_call (pc := 65) (uc := 7) (us := 930) (host := "VaneTown") (kiX7_init l E q22 cs23 hc25) dX11_init_65 mnX11_49 icX7_init (by decide) (by decide) (by decide) (Nat.le_of_ble_eq_true rfl) ?_
  refine K_put (pc := 68) (uc := 32) (us := 1397) dX11_init_68 flX11_50 ⟨_, _, rfl, rfl⟩ rfl rfl h (fun cs26 h => ?_)
  refine K_aload_n (pc := 71) (uc := 32) (us := 1397) 0 dX11_init_71 rfl ?_
  refine K_new (pc := 72) (uc := 32) (us := 1397) (n := 14) dX11_init_72 ncX11_54 rfl (by decide) (by decide) h (fun q27 cs28 h => ?_)
  refine K_dup (pc := 75) (uc := 33) (us := 1411) dX11_init_75 rfl ?_
  obtain ⟨cs29, hc30, h⟩ := kcl_t h
  refine K_call (pc := 76) (uc := 33) (us := 1411) (host := "VaneTown") (kiX2_init l E q27 cs28 hc30) dX11_init_76 mnX11_56 icX2_init (by decide) (by decide) (by decide) (Nat.le_of_ble_eq_true rfl) ?_
  refine K_put (pc := 79) (uc := 44) (us := 1505) dX11_init_79 flX11_57 ⟨_, _, rfl, rfl⟩ rfl rfl h (fun cs31 h => ?_)
  refine K_aload_n (pc := 82) (uc := 44) (us := 1505) 0 dX11_init_82 rfl ?_
  refine K_new (pc := 83) (uc := 44) (us := 1505) (n := 8) dX11_init_83 ncX11_61 rfl (by decide) (by decide) h (fun q32 cs33 h => ?_)
  refine K_dup (pc := 86) (uc := 45) (us := 1513) dX11_init_86 rfl ?_
  obtain ⟨cs34, hc35, h⟩ := kcl_t h
  refine K_call (pc := 87) (uc := 45) (us := 1513) (host := "VaneTown") (kiX5_init l E q32 cs33 hc35) dX11_init_87 mnX11_63 icX5_init (by decide) (by decide) (by decide) (Nat.le_of_ble_eq_true rfl) ?_
  refine K_put (pc := 90) (uc := 50) (us := 1813) dX11_init_90 flX11_64 ⟨_, _, rfl, rfl⟩ rfl rfl h (fun cs36 h => ?_)
  refine K_aload_n (pc := 93) (uc := 50) (us := 1813) 0 dX11_init_93 rfl ?_
  refine K_iconst (pc := 94) (uc := 50) (us := 1813) (3 : Int32) dX11_init_94 (by decide) ?_
  refine K_aa (pc := 95) (uc := 50) (us := 1813) (N := 3) (kd := 4) dX11_init_95 clX11_47 ao_Town rfl (by decide) (by decide) (by decide) (by decide) (by decide) (by decide) h (fun q37 cs38 h => ?_)
  refine K_put (pc := 98) (uc := 51) (us := 1816) dX11_init_98 flX11_68 ⟨_, _, rfl, rfl⟩ rfl rfl h (fun cs39 h => ?_)
  refine K_aload_n (pc := 101) (uc := 51) (us := 1816) 0 dX11_init_101 rfl ?_
  refine K_new (pc := 102) (uc := 51) (us := 1816) (n := 9) dX11_init_102 ncX11_72 rfl (by decide) (by decide) h (fun q40 cs41 h => ?_)
  refine K_dup (pc := 105) (uc := 52) (us := 1825) dX11_init_105 rfl ?_
  obtain ⟨cs42, hc43, h⟩ := kcl_t h
  refine K_call (pc := 106) (uc := 52) (us := 1825) (host := "VaneTown") (kiX10_init l E q40 cs41 hc43) dX11_init_106 mnX11_74 icX10_init (by decide) (by decide) (by decide) (Nat.le_of_ble_eq_true rfl) ?_
  refine K_put (pc := 109) (uc := 54) (us := 1841) dX11_init_109 flX11_75 ⟨_, _, rfl, rfl⟩ rfl rfl h (fun cs44 h => ?_)
  refine K_aload_n (pc := 112) (uc := 54) (us := 1841) 0 dX11_init_112 rfl ?_
  refine K_new (pc := 113) (uc := 54) (us := 1841) (n := 9) dX11_init_113 ncX11_79 rfl (by decide) (by decide) h (fun q45 cs46 h => ?_)
  refine K_dup (pc := 116) (uc := 55) (us := 1850) dX11_init_116 rfl ?_
  obtain ⟨cs47, hc48, h⟩ := kcl_t h
  refine K_call (pc := 117) (uc := 55) (us := 1850) (host := "VaneTown") (kiX4_init l E q45 cs46 hc48) dX11_init_117 mnX11_81 icX4_init (by decide) (by decide) (by decide) (Nat.le_of_ble_eq_true rfl) ?_
  refine K_put (pc := 120) (uc := 61) (us := 1892) dX11_init_120 flX11_82 ⟨_, _, rfl, rfl⟩ rfl rfl h (fun cs49 h => ?_)
  refine K_aload_n (pc := 123) (uc := 61) (us := 1892) 0 dX11_init_123 rfl ?_
  refine K_new (pc := 124) (uc := 61) (us := 1892) (n := 7) dX11_init_124 ncX11_86 rfl (by decide) (by decide) h (fun q50 cs51 h => ?_)
  refine K_dup (pc := 127) (uc := 62) (us := 1899) dX11_init_127 rfl ?_
  obtain ⟨cs52, hc53, h⟩ := kcl_t h
  refine K_call (pc := 128) (uc := 62) (us := 1899) (host := "VaneTown") (kiX0_init l E q50 cs51 hc53) dX11_init_128 mnX11_88 icX0_init (by decide) (by decide) (by decide) (Nat.le_of_ble_eq_true rfl) ?_
  refine K_put (pc := 131) (uc := 65) (us := 1923) dX11_init_131 flX11_89 ⟨_, _, rfl, rfl⟩ rfl rfl h (fun cs54 h => ?_)
  refine K_aload_n (pc := 134) (uc := 65) (us := 1923) 0 dX11_init_134 rfl ?_
  refine K_new (pc := 135) (uc := 65) (us := 1923) (n := 13) dX11_init_135 ncX11_93 rfl (by decide) (by decide) h (fun q55 cs56 h => ?_)
  refine K_dup (pc := 138) (uc := 66) (us := 1936) dX11_init_138 rfl ?_
  obtain ⟨cs57, hc58, h⟩ := kcl_t h
  refine K_call (pc := 139) (uc := 66) (us := 1936) (host := "VaneTown") (kiX3_init l E q55 cs56 hc58) dX11_init_139 mnX11_95 icX3_init (by decide) (by decide) (by decide) (Nat.le_of_ble_eq_true rfl) ?_
  refine K_put (pc := 142) (uc := 76) (us := 2060) dX11_init_142 flX11_96 ⟨_, _, rfl, rfl⟩ rfl rfl h (fun cs59 h => ?_)
  refine K_iconst (pc := 145) (uc := 76) (us := 2060) (0 : Int32) dX11_init_145 (by decide) ?_
  refine K_istore_n (pc := 146) (uc := 76) (us := 2060) (L' := [(1, .int (0 : Int32)), (0, .ref k)]) dX11_init_146 (by decide) rfl ?_
  refine K_iload_n (pc := 147) (uc := 76) (us := 2060) 0 dX11_init_147 rfl ?_
  refine K_iconst (pc := 148) (uc := 76) (us := 2060) (4 : Int32) dX11_init_148 (by decide) ?_
  refine K_geF (pc := 149) (uc := 76) (us := 2060) 171 dX11_init_149 (by decide) (by decide) ?_
  refine K_aload_n (pc := 152) (uc := 76) (us := 2060) 1 dX11_init_152 rfl ?_
  refine K_getA (pc := 153) (uc := 76) (us := 2060) dX11_init_153 flX11_15 h (fun q60 h => ?_)
  refine K_iload_n (pc := 156) (uc := 76) (us := 2060) 0 dX11_init_156 rfl ?_
  refine K_new (pc := 157) (uc := 76) (us := 2060) (n := 3) dX11_init_157 ncX11_13 rfl (by decide) (by decide) h (fun q61 cs62 h => ?_)
  refine K_dup (pc := 160) (uc := 77) (us := 2063) dX11_init_160 rfl ?_
  obtain ⟨cs63, hc64, h⟩ := kcl_t h
  refine K_call (pc := 161) (uc := 77) (us := 2063) (host := "VaneTown") (kiX8_init l E q61 cs62 hc64) dX11_init_161 mnX11_100 icX8_init (by decide) (by decide) (by decide) (Nat.le_of_ble_eq_true rfl) ?_
  refine K_astK (pc := 164) (uc := 78) (us := 2123) dX11_init_164 rfl (by decide) ⟨_, _, rfl⟩ h (fun cs65 h => ?_)
  refine K_iinc (pc := 165) (uc := 78) (us := 2123) (L' := [(1, .int (1 : Int32)), (0, .ref k)]) 0 (1 : Int32) dX11_init_165 rfl (by decide) (by decide) rfl ?_
  refine K_goto (pc := 168) (uc := 78) (us := 2123) 147 dX11_init_168 (by decide) ?_
  refine K_iload_n (pc := 147) (uc := 78) (us := 2123) 0 dX11_init_147 rfl ?_
  refine K_iconst (pc := 148) (uc := 78) (us := 2123) (4 : Int32) dX11_init_148 (by decide) ?_
  refine K_geF (pc := 149) (uc := 78) (us := 2123) 171 dX11_init_149 (by decide) (by decide) ?_
  refine K_aload_n (pc := 152) (uc := 78) (us := 2123) 1 dX11_init_152 rfl ?_
  refine K_getA (pc := 153) (uc := 78) (us := 2123) dX11_init_153 flX11_15 h (fun q66 h => ?_)
  refine K_iload_n (pc := 156) (uc := 78) (us := 2123) 0 dX11_init_156 rfl ?_
  refine K_new (pc := 157) (uc := 78) (us := 2123) (n := 3) dX11_init_157 ncX11_13 rfl (by decide) (by decide) h (fun q67 cs68 h => ?_)
  refine K_dup (pc := 160) (uc := 79) (us := 2126) dX11_init_160 rfl ?_
  obtain ⟨cs69, hc70, h⟩ := kcl_t h
  refine K_call (pc := 161) (uc := 79) (us := 2126) (host := "VaneTown") (kiX8_init l E q67 cs68 hc70) dX11_init_161 mnX11_100 icX8_init (by decide) (by decide) (by decide) (Nat.le_of_ble_eq_true rfl) ?_
  refine K_astK (pc := 164) (uc := 80) (us := 2186) dX11_init_164 rfl (by decide) ⟨_, _, rfl⟩ h (fun cs71 h => ?_)
  refine K_iinc (pc := 165) (uc := 80) (us := 2186) (L' := [(1, .int (2 : Int32)), (0, .ref k)]) 0 (2 : Int32) dX11_init_165 rfl (by decide) (by decide) rfl ?_
  refine K_goto (pc := 168) (uc := 80) (us := 2186) 147 dX11_init_168 (by decide) ?_
  refine K_iload_n (pc := 147) (uc := 80) (us := 2186) 0 dX11_init_147 rfl ?_
  refine K_iconst (pc := 148) (uc := 80) (us := 2186) (4 : Int32) dX11_init_148 (by decide) ?_
  refine K_geF (pc := 149) (uc := 80) (us := 2186) 171 dX11_init_149 (by decide) (by decide) ?_
  refine K_aload_n (pc := 152) (uc := 80) (us := 2186) 1 dX11_init_152 rfl ?_
  refine K_getA (pc := 153) (uc := 80) (us := 2186) dX11_init_153 flX11_15 h (fun q72 h => ?_)
  refine K_iload_n (pc := 156) (uc := 80) (us := 2186) 0 dX11_init_156 rfl ?_
  refine K_new (pc := 157) (uc := 80) (us := 2186) (n := 3) dX11_init_157 ncX11_13 rfl (by decide) (by decide) h (fun q73 cs74 h => ?_)
  refine K_dup (pc := 160) (uc := 81) (us := 2189) dX11_init_160 rfl ?_
  obtain ⟨cs75, hc76, h⟩ := kcl_t h
  refine K_call (pc := 161) (uc := 81) (us := 2189) (host := "VaneTown") (kiX8_init l E q73 cs74 hc76) dX11_init_161 mnX11_100 icX8_init (by decide) (by decide) (by decide) (Nat.le_of_ble_eq_true rfl) ?_
  refine K_astK (pc := 164) (uc := 82) (us := 2249) dX11_init_164 rfl (by decide) ⟨_, _, rfl⟩ h (fun cs77 h => ?_)
  refine K_iinc (pc := 165) (uc := 82) (us := 2249) (L' := [(1, .int (3 : Int32)), (0, .ref k)]) 0 (3 : Int32) dX11_init_165 rfl (by decide) (by decide) rfl ?_
  refine K_goto (pc := 168) (uc := 82) (us := 2249) 147 dX11_init_168 (by decide) ?_
  refine K_iload_n (pc := 147) (uc := 82) (us := 2249) 0 dX11_init_147 rfl ?_
  refine K_iconst (pc := 148) (uc := 82) (us := 2249) (4 : Int32) dX11_init_148 (by decide) ?_
  refine K_geF (pc := 149) (uc := 82) (us := 2249) 171 dX11_init_149 (by decide) (by decide) ?_
  refine K_aload_n (pc := 152) (uc := 82) (us := 2249) 1 dX11_init_152 rfl ?_
  refine K_getA (pc := 153) (uc := 82) (us := 2249) dX11_init_153 flX11_15 h (fun q78 h => ?_)
  refine K_iload_n (pc := 156) (uc := 82) (us := 2249) 0 dX11_init_156 rfl ?_
  refine K_new (pc := 157) (uc := 82) (us := 2249) (n := 3) dX11_init_157 ncX11_13 rfl (by decide) (by decide) h (fun q79 cs80 h => ?_)
  refine K_dup (pc := 160) (uc := 83) (us := 2252) dX11_init_160 rfl ?_
  obtain ⟨cs81, hc82, h⟩ := kcl_t h
  refine K_call (pc := 161) (uc := 83) (us := 2252) (host := "VaneTown") (kiX8_init l E q79 cs80 hc82) dX11_init_161 mnX11_100 icX8_init (by decide) (by decide) (by decide) (Nat.le_of_ble_eq_true rfl) ?_
  refine K_astK (pc := 164) (uc := 84) (us := 2312) dX11_init_164 rfl (by decide) ⟨_, _, rfl⟩ h (fun cs83 h => ?_)
  refine K_iinc (pc := 165) (uc := 84) (us := 2312) (L' := [(1, .int (4 : Int32)), (0, .ref k)]) 0 (4 : Int32) dX11_init_165 rfl (by decide) (by decide) rfl ?_
  refine K_goto (pc := 168) (uc := 84) (us := 2312) 147 dX11_init_168 (by decide) ?_
  refine K_iload_n (pc := 147) (uc := 84) (us := 2312) 0 dX11_init_147 rfl ?_
  refine K_iconst (pc := 148) (uc := 84) (us := 2312) (4 : Int32) dX11_init_148 (by decide) ?_
  refine K_geT (pc := 149) (uc := 84) (us := 2312) 171 dX11_init_149 (by decide) (by decide) ?_
  refine K_iconst (pc := 171) (uc := 84) (us := 2312) (0 : Int32) dX11_init_171 (by decide) ?_
  refine K_istore_n (pc := 172) (uc := 84) (us := 2312) (L' := [(1, .int (0 : Int32)), (0, .ref k)]) dX11_init_172 (by decide) rfl ?_
  refine K_iload_n (pc := 173) (uc := 84) (us := 2312) 0 dX11_init_173 rfl ?_
  refine K_iconst (pc := 174) (uc := 84) (us := 2312) (3 : Int32) dX11_init_174 (by decide) ?_
  refine K_geF (pc := 175) (uc := 84) (us := 2312) 197 dX11_init_175 (by decide) (by decide) ?_
  refine K_aload_n (pc := 178) (uc := 84) (us := 2312) 1 dX11_init_178 rfl ?_
  refine K_getA (pc := 179) (uc := 84) (us := 2312) dX11_init_179 flX11_68 h (fun q84 h => ?_)
  refine K_iload_n (pc := 182) (uc := 84) (us := 2312) 0 dX11_init_182 rfl ?_
  refine K_new (pc := 183) (uc := 84) (us := 2312) (n := 3) dX11_init_183 ncX11_47 rfl (by decide) (by decide) h (fun q85 cs86 h => ?_)
  refine K_dup (pc := 186) (uc := 85) (us := 2315) dX11_init_186 rfl ?_
  obtain ⟨cs87, hc88, h⟩ := kcl_t h
  refine K_call (pc := 187) (uc := 85) (us := 2315) (host := "VaneTown") (kiX7_init l E q85 cs86 hc88) dX11_init_187 mnX11_49 icX7_init (by decide) (by decide) (by decide) (Nat.le_of_ble_eq_true rfl) ?_
  refine K_astK (pc := 190) (uc := 110) (us := 2782) dX11_init_190 rfl (by decide) ⟨_, _, rfl⟩ h (fun cs89 h => ?_)
  refine K_iinc (pc := 191) (uc := 110) (us := 2782) (L' := [(1, .int (1 : Int32)), (0, .ref k)]) 0 (1 : Int32) dX11_init_191 rfl (by decide) (by decide) rfl ?_
  refine K_goto (pc := 194) (uc := 110) (us := 2782) 173 dX11_init_194 (by decide) ?_
  refine K_iload_n (pc := 173) (uc := 110) (us := 2782) 0 dX11_init_173 rfl ?_
  refine K_iconst (pc := 174) (uc := 110) (us := 2782) (3 : Int32) dX11_init_174 (by decide) ?_
  refine K_geF (pc := 175) (uc := 110) (us := 2782) 197 dX11_init_175 (by decide) (by decide) ?_
  refine K_aload_n (pc := 178) (uc := 110) (us := 2782) 1 dX11_init_178 rfl ?_
  refine K_getA (pc := 179) (uc := 110) (us := 2782) dX11_init_179 flX11_68 h (fun q90 h => ?_)
  refine K_iload_n (pc := 182) (uc := 110) (us := 2782) 0 dX11_init_182 rfl ?_
  refine K_new (pc := 183) (uc := 110) (us := 2782) (n := 3) dX11_init_183 ncX11_47 rfl (by decide) (by decide) h (fun q91 cs92 h => ?_)
  refine K_dup (pc := 186) (uc := 111) (us := 2785) dX11_init_186 rfl ?_
  obtain ⟨cs93, hc94, h⟩ := kcl_t h
  refine K_call (pc := 187) (uc := 111) (us := 2785) (host := "VaneTown") (kiX7_init l E q91 cs92 hc94) dX11_init_187 mnX11_49 icX7_init (by decide) (by decide) (by decide) (Nat.le_of_ble_eq_true rfl) ?_
  refine K_astK (pc := 190) (uc := 136) (us := 3252) dX11_init_190 rfl (by decide) ⟨_, _, rfl⟩ h (fun cs95 h => ?_)
  refine K_iinc (pc := 191) (uc := 136) (us := 3252) (L' := [(1, .int (2 : Int32)), (0, .ref k)]) 0 (2 : Int32) dX11_init_191 rfl (by decide) (by decide) rfl ?_
  refine K_goto (pc := 194) (uc := 136) (us := 3252) 173 dX11_init_194 (by decide) ?_
  refine K_iload_n (pc := 173) (uc := 136) (us := 3252) 0 dX11_init_173 rfl ?_
  refine K_iconst (pc := 174) (uc := 136) (us := 3252) (3 : Int32) dX11_init_174 (by decide) ?_
  refine K_geF (pc := 175) (uc := 136) (us := 3252) 197 dX11_init_175 (by decide) (by decide) ?_
  refine K_aload_n (pc := 178) (uc := 136) (us := 3252) 1 dX11_init_178 rfl ?_
  refine K_getA (pc := 179) (uc := 136) (us := 3252) dX11_init_179 flX11_68 h (fun q96 h => ?_)
  refine K_iload_n (pc := 182) (uc := 136) (us := 3252) 0 dX11_init_182 rfl ?_
  refine K_new (pc := 183) (uc := 136) (us := 3252) (n := 3) dX11_init_183 ncX11_47 rfl (by decide) (by decide) h (fun q97 cs98 h => ?_)
  refine K_dup (pc := 186) (uc := 137) (us := 3255) dX11_init_186 rfl ?_
  obtain ⟨cs99, hc100, h⟩ := kcl_t h
  refine K_call (pc := 187) (uc := 137) (us := 3255) (host := "VaneTown") (kiX7_init l E q97 cs98 hc100) dX11_init_187 mnX11_49 icX7_init (by decide) (by decide) (by decide) (Nat.le_of_ble_eq_true rfl) ?_
  refine K_astK (pc := 190) (uc := 162) (us := 3722) dX11_init_190 rfl (by decide) ⟨_, _, rfl⟩ h (fun cs101 h => ?_)
  refine K_iinc (pc := 191) (uc := 162) (us := 3722) (L' := [(1, .int (3 : Int32)), (0, .ref k)]) 0 (3 : Int32) dX11_init_191 rfl (by decide) (by decide) rfl ?_
  refine K_goto (pc := 194) (uc := 162) (us := 3722) 173 dX11_init_194 (by decide) ?_
  refine K_iload_n (pc := 173) (uc := 162) (us := 3722) 0 dX11_init_173 rfl ?_
  refine K_iconst (pc := 174) (uc := 162) (us := 3722) (3 : Int32) dX11_init_174 (by decide) ?_
  refine K_geT (pc := 175) (uc := 162) (us := 3722) 197 dX11_init_175 (by decide) (by decide) ?_
  cases h
  exact K_ret (pc := 197) (uc := 162) (us := 3722) dX11_init_197 rfl (by decide) (by decide)
theorem icX12_init : IC mX12_init := ⟨GW_mem (tm6 108 (by decide +kernel)) (by decide +kernel), GW_mem (tm1 13 (by decide +kernel)) (by decide +kernel), GW_mem (tm6 109 (by decide +kernel)) (by decide +kernel), ⟨by decide +kernel, by decide +kernel⟩, by decide +kernel, by decide, by decide +kernel, rfl⟩
def fIX12_init (k : Nat) (cs : List XC) : Option (List XC) := k_na cs 1 2950 (fun q1 cs2 => k_pf cs2 k 0 12 (.ref q1) (fun cs3 => k_na cs3 2 120 (fun q4 cs5 => k_pf cs5 k 1 12 (.ref q4) (fun cs6 => k_pf cs6 k 4 12 (.long (1 : Int64)) (fun cs7 => k_na cs7 1 4 (fun q8 cs9 => k_pf cs9 k 5 12 (.ref q8) (fun cs10 => k_na cs10 1 4 (fun q11 cs12 => k_st cs12 q11 1 (0 : Int32) (.int (-1 : Int32)) (fun cs13 => k_st cs13 q11 1 (1 : Int32) (.int (-1 : Int32)) (fun cs14 => k_st cs14 q11 1 (2 : Int32) (.int (-1 : Int32)) (fun cs15 => k_st cs15 q11 1 (3 : Int32) (.int (-1 : Int32)) (fun cs16 => k_pf cs16 k 6 12 (.ref q11) (fun cs17 => k_na cs17 2 240 (fun q18 cs19 => k_pf cs19 k 7 12 (.ref q18) (fun cs20 => k_na cs20 0 900 (fun q21 cs22 => k_pf cs22 k 8 12 (.ref q21) (fun cs23 => k_na cs23 0 900 (fun q24 cs25 => k_pf cs25 k 9 12 (.ref q24) (fun cs26 => k_pf cs26 k 16 12 (.int (-1 : Int32)) (fun cs27 => k_pf cs27 k 17 12 (.int (-1 : Int32)) (fun cs28 => k_na cs28 1 3 (fun q29 cs30 => k_pf cs30 k 21 12 (.ref q29) (fun cs31 => k_na cs31 1 8 (fun q32 cs33 => k_pf cs33 k 24 12 (.ref q32) (fun cs34 => k_na cs34 1 12800 (fun q35 cs36 => k_pf cs36 k 25 12 (.ref q35) (fun cs37 => k_na cs37 1 8 (fun q38 cs39 => k_pf cs39 k 30 12 (.ref q38) (fun cs40 => k_na cs40 1 8 (fun q41 cs42 => k_pf cs42 k 31 12 (.ref q41) (fun cs43 => k_na cs43 1 8 (fun q44 cs45 => k_pf cs45 k 33 12 (.ref q44) (fun cs46 => k_na cs46 1 7300 (fun q47 cs48 => k_pf cs48 k 34 12 (.ref q47) (fun cs49 => k_na cs49 1 80 (fun q50 cs51 => k_pf cs51 k 39 12 (.ref q50) (fun cs52 => k_na cs52 1 5 (fun q53 cs54 => k_pf cs54 k 40 12 (.ref q53) (fun cs55 => k_na cs55 1 8 (fun q56 cs57 => k_pf cs57 k 41 12 (.ref q56) (fun cs58 => k_pf cs58 k 42 12 (.int (-1 : Int32)) (fun cs59 => k_gf cs59 k 0 12 (fun q60 => k_st cs59 q60 1 (6 : Int32) (.int (-1 : Int32)) (fun cs61 => some cs61))))))))))))))))))))))))))))))))))))))))))))
set_option maxRecDepth 100000 in
set_option maxHeartbeats 4000000 in
theorem kiX12_init (l : Launch) (E : EV) (k : Nat) (cs : List XC) {cs' : List XC} (h : fIX12_init k cs = some cs') : Kc l E mX12_init 1 17 25346 k cs cs' := by
  refine Kc.of (by decide +kernel) (by decide) (by decide +kernel) ?_
  unfold fIX12_init at h
  refine K_aload_n (pc := 0) (uc := 0) (us := 0) 0 dX12_init_0 rfl ?_
  refine K_obj (pc := 1) (uc := 0) (us := 0) dX12_init_1 oiX12_1 (by decide) (Nat.le_of_ble_eq_true rfl) ?_
  refine K_aload_n (pc := 4) (uc := 0) (us := 0) 0 dX12_init_4 rfl ?_
  refine K_sipush (pc := 5) (uc := 0) (us := 0) (2950 : Int32) dX12_init_5 (by decide) ?_
  refine K_naI (pc := 8) (uc := 0) (us := 0) 2950 dX12_init_8 (by decide) (by decide) (by decide) (by decide) (by decide) h (fun q1 cs2 h => ?_)
  refine K_put (pc := 10) (uc := 1) (us := 2950) dX12_init_10 flX12_7 ⟨_, _, rfl, rfl⟩ rfl rfl h (fun cs3 h => ?_)
  refine K_aload_n (pc := 13) (uc := 1) (us := 2950) 0 dX12_init_13 rfl ?_
  refine K_bipush (pc := 14) (uc := 1) (us := 2950) (120 : Int32) dX12_init_14 (by decide) ?_
  refine K_naJ (pc := 16) (uc := 1) (us := 2950) 120 dX12_init_16 (by decide) (by decide) (by decide) (by decide) (by decide) h (fun q4 cs5 h => ?_)
  refine K_put (pc := 18) (uc := 2) (us := 3070) dX12_init_18 flX12_13 ⟨_, _, rfl, rfl⟩ rfl rfl h (fun cs6 h => ?_)
  refine K_aload_n (pc := 21) (uc := 2) (us := 3070) 0 dX12_init_21 rfl ?_
  refine K_lconst (pc := 22) (uc := 2) (us := 3070) (1 : Int64) dX12_init_22 (by decide) ?_
  refine K_put (pc := 23) (uc := 2) (us := 3070) dX12_init_23 flX12_17 ⟨_, _, rfl, rfl⟩ rfl rfl h (fun cs7 h => ?_)
  refine K_aload_n (pc := 26) (uc := 2) (us := 3070) 0 dX12_init_26 rfl ?_
  refine K_iconst (pc := 27) (uc := 2) (us := 3070) (4 : Int32) dX12_init_27 (by decide) ?_
  refine K_naI (pc := 28) (uc := 2) (us := 3070) 4 dX12_init_28 (by decide) (by decide) (by decide) (by decide) (by decide) h (fun q8 cs9 h => ?_)
  refine K_put (pc := 30) (uc := 3) (us := 3074) dX12_init_30 flX12_21 ⟨_, _, rfl, rfl⟩ rfl rfl h (fun cs10 h => ?_)
  refine K_aload_n (pc := 33) (uc := 3) (us := 3074) 0 dX12_init_33 rfl ?_
  refine K_iconst (pc := 34) (uc := 3) (us := 3074) (4 : Int32) dX12_init_34 (by decide) ?_
  refine K_naI (pc := 35) (uc := 3) (us := 3074) 4 dX12_init_35 (by decide) (by decide) (by decide) (by decide) (by decide) h (fun q11 cs12 h => ?_)
  refine K_dup (pc := 37) (uc := 4) (us := 3078) dX12_init_37 rfl ?_
  refine K_iconst (pc := 38) (uc := 4) (us := 3078) (0 : Int32) dX12_init_38 (by decide) ?_
  refine K_iconst (pc := 39) (uc := 4) (us := 3078) (-1 : Int32) dX12_init_39 (by decide) ?_
  refine K_ist (pc := 40) (uc := 4) (us := 3078) dX12_init_40 h (fun cs13 h => ?_)
  refine K_dup (pc := 41) (uc := 4) (us := 3078) dX12_init_41 rfl ?_
  refine K_iconst (pc := 42) (uc := 4) (us := 3078) (1 : Int32) dX12_init_42 (by decide) ?_
  refine K_iconst (pc := 43) (uc := 4) (us := 3078) (-1 : Int32) dX12_init_43 (by decide) ?_
  refine K_ist (pc := 44) (uc := 4) (us := 3078) dX12_init_44 h (fun cs14 h => ?_)
  refine K_dup (pc := 45) (uc := 4) (us := 3078) dX12_init_45 rfl ?_
  refine K_iconst (pc := 46) (uc := 4) (us := 3078) (2 : Int32) dX12_init_46 (by decide) ?_
  refine K_iconst (pc := 47) (uc := 4) (us := 3078) (-1 : Int32) dX12_init_47 (by decide) ?_
  refine K_ist (pc := 48) (uc := 4) (us := 3078) dX12_init_48 h (fun cs15 h => ?_)
  refine K_dup (pc := 49) (uc := 4) (us := 3078) dX12_init_49 rfl ?_
  refine K_iconst (pc := 50) (uc := 4) (us := 3078) (3 : Int32) dX12_init_50 (by decide) ?_
  refine K_iconst (pc := 51) (uc := 4) (us := 3078) (-1 : Int32) dX12_init_51 (by decide) ?_
  refine K_ist (pc := 52) (uc := 4) (us := 3078) dX12_init_52 h (fun cs16 h => ?_)
  refine K_put (pc := 53) (uc := 4) (us := 3078) dX12_init_53 flX12_24 ⟨_, _, rfl, rfl⟩ rfl rfl h (fun cs17 h => ?_)
  refine K_aload_n (pc := 56) (uc := 4) (us := 3078) 0 dX12_init_56 rfl ?_
  refine K_sipush (pc := 57) (uc := 4) (us := 3078) (240 : Int32) dX12_init_57 (by decide) ?_
  refine K_naJ (pc := 60) (uc := 4) (us := 3078) 240 dX12_init_60 (by decide) (by decide) (by decide) (by decide) (by decide) h (fun q18 cs19 h => ?_)
  refine K_put (pc := 62) (uc := 5) (us := 3318) dX12_init_62 flX12_27 ⟨_, _, rfl, rfl⟩ rfl rfl h (fun cs20 h => ?_)
  refine K_aload_n (pc := 65) (uc := 5) (us := 3318) 0 dX12_init_65 rfl ?_
  refine K_sipush (pc := 66) (uc := 5) (us := 3318) (900 : Int32) dX12_init_66 (by decide) ?_
  refine K_naB (pc := 69) (uc := 5) (us := 3318) 900 dX12_init_69 (by decide) (by decide) (by decide) (by decide) (by decide) h (fun q21 cs22 h => ?_)
  refine K_put (pc := 71) (uc := 6) (us := 4218) dX12_init_71 flX12_30 ⟨_, _, rfl, rfl⟩ rfl rfl h (fun cs23 h => ?_)
  refine K_aload_n (pc := 74) (uc := 6) (us := 4218) 0 dX12_init_74 rfl ?_
  refine K_sipush (pc := 75) (uc := 6) (us := 4218) (900 : Int32) dX12_init_75 (by decide) ?_
  refine K_naB (pc := 78) (uc := 6) (us := 4218) 900 dX12_init_78 (by decide) (by decide) (by decide) (by decide) (by decide) h (fun q24 cs25 h => ?_)
  refine K_put (pc := 80) (uc := 7) (us := 5118) dX12_init_80 flX12_34 ⟨_, _, rfl, rfl⟩ rfl rfl h (fun cs26 h => ?_)
  refine K_aload_n (pc := 83) (uc := 7) (us := 5118) 0 dX12_init_83 rfl ?_
  refine K_iconst (pc := 84) (uc := 7) (us := 5118) (-1 : Int32) dX12_init_84 (by decide) ?_
  refine K_put (pc := 85) (uc := 7) (us := 5118) dX12_init_85 flX12_37 ⟨_, _, rfl, rfl⟩ rfl rfl h (fun cs27 h => ?_)
  refine K_aload_n (pc := 88) (uc := 7) (us := 5118) 0 dX12_init_88 rfl ?_
  refine K_iconst (pc := 89) (uc := 7) (us := 5118) (-1 : Int32) dX12_init_89 (by decide) ?_
  refine K_put (pc := 90) (uc := 7) (us := 5118) dX12_init_90 flX12_41 ⟨_, _, rfl, rfl⟩ rfl rfl h (fun cs28 h => ?_)
  refine K_aload_n (pc := 93) (uc := 7) (us := 5118) 0 dX12_init_93 rfl ?_
  refine K_iconst (pc := 94) (uc := 7) (us := 5118) (3 : Int32) dX12_init_94 (by decide) ?_
  refine K_naI (pc := 95) (uc := 7) (us := 5118) 3 dX12_init_95 (by decide) (by decide) (by decide) (by decide) (by decide) h (fun q29 cs30 h => ?_)
  refine K_put (pc := 97) (uc := 8) (us := 5121) dX12_init_97 flX12_44 ⟨_, _, rfl, rfl⟩ rfl rfl h (fun cs31 h => ?_)
  refine K_aload_n (pc := 100) (uc := 8) (us := 5121) 0 dX12_init_100 rfl ?_
  refine K_bipush (pc := 101) (uc := 8) (us := 5121) (8 : Int32) dX12_init_101 (by decide) ?_
  refine K_naI (pc := 103) (uc := 8) (us := 5121) 8 dX12_init_103 (by decide) (by decide) (by decide) (by decide) (by decide) h (fun q32 cs33 h => ?_)
  refine K_put (pc := 105) (uc := 9) (us := 5129) dX12_init_105 flX12_47 ⟨_, _, rfl, rfl⟩ rfl rfl h (fun cs34 h => ?_)
  refine K_aload_n (pc := 108) (uc := 9) (us := 5129) 0 dX12_init_108 rfl ?_
  refine K_sipush (pc := 109) (uc := 9) (us := 5129) (12800 : Int32) dX12_init_109 (by decide) ?_
  refine K_naI (pc := 112) (uc := 9) (us := 5129) 12800 dX12_init_112 (by decide) (by decide) (by decide) (by decide) (by decide) h (fun q35 cs36 h => ?_)
  refine K_put (pc := 114) (uc := 10) (us := 17929) dX12_init_114 flX12_50 ⟨_, _, rfl, rfl⟩ rfl rfl h (fun cs37 h => ?_)
  refine K_aload_n (pc := 117) (uc := 10) (us := 17929) 0 dX12_init_117 rfl ?_
  refine K_bipush (pc := 118) (uc := 10) (us := 17929) (8 : Int32) dX12_init_118 (by decide) ?_
  refine K_naI (pc := 120) (uc := 10) (us := 17929) 8 dX12_init_120 (by decide) (by decide) (by decide) (by decide) (by decide) h (fun q38 cs39 h => ?_)
  refine K_put (pc := 122) (uc := 11) (us := 17937) dX12_init_122 flX12_53 ⟨_, _, rfl, rfl⟩ rfl rfl h (fun cs40 h => ?_)
  refine K_aload_n (pc := 125) (uc := 11) (us := 17937) 0 dX12_init_125 rfl ?_
  refine K_bipush (pc := 126) (uc := 11) (us := 17937) (8 : Int32) dX12_init_126 (by decide) ?_
  refine K_naI (pc := 128) (uc := 11) (us := 17937) 8 dX12_init_128 (by decide) (by decide) (by decide) (by decide) (by decide) h (fun q41 cs42 h => ?_)
  refine K_put (pc := 130) (uc := 12) (us := 17945) dX12_init_130 flX12_56 ⟨_, _, rfl, rfl⟩ rfl rfl h (fun cs43 h => ?_)
  refine K_aload_n (pc := 133) (uc := 12) (us := 17945) 0 dX12_init_133 rfl ?_
  refine K_bipush (pc := 134) (uc := 12) (us := 17945) (8 : Int32) dX12_init_134 (by decide) ?_
  refine K_naI (pc := 136) (uc := 12) (us := 17945) 8 dX12_init_136 (by decide) (by decide) (by decide) (by decide) (by decide) h (fun q44 cs45 h => ?_)
  refine K_put (pc := 138) (uc := 13) (us := 17953) dX12_init_138 flX12_59 ⟨_, _, rfl, rfl⟩ rfl rfl h (fun cs46 h => ?_)
  refine K_aload_n (pc := 141) (uc := 13) (us := 17953) 0 dX12_init_141 rfl ?_
  refine K_sipush (pc := 142) (uc := 13) (us := 17953) (7300 : Int32) dX12_init_142 (by decide) ?_
  refine K_naI (pc := 145) (uc := 13) (us := 17953) 7300 dX12_init_145 (by decide) (by decide) (by decide) (by decide) (by decide) h (fun q47 cs48 h => ?_)
  refine K_put (pc := 147) (uc := 14) (us := 25253) dX12_init_147 flX12_62 ⟨_, _, rfl, rfl⟩ rfl rfl h (fun cs49 h => ?_)
  refine K_aload_n (pc := 150) (uc := 14) (us := 25253) 0 dX12_init_150 rfl ?_
  refine K_bipush (pc := 151) (uc := 14) (us := 25253) (80 : Int32) dX12_init_151 (by decide) ?_
  refine K_naI (pc := 153) (uc := 14) (us := 25253) 80 dX12_init_153 (by decide) (by decide) (by decide) (by decide) (by decide) h (fun q50 cs51 h => ?_)
  refine K_put (pc := 155) (uc := 15) (us := 25333) dX12_init_155 flX12_65 ⟨_, _, rfl, rfl⟩ rfl rfl h (fun cs52 h => ?_)
  refine K_aload_n (pc := 158) (uc := 15) (us := 25333) 0 dX12_init_158 rfl ?_
  refine K_iconst (pc := 159) (uc := 15) (us := 25333) (5 : Int32) dX12_init_159 (by decide) ?_
  refine K_naI (pc := 160) (uc := 15) (us := 25333) 5 dX12_init_160 (by decide) (by decide) (by decide) (by decide) (by decide) h (fun q53 cs54 h => ?_)
  refine K_put (pc := 162) (uc := 16) (us := 25338) dX12_init_162 flX12_68 ⟨_, _, rfl, rfl⟩ rfl rfl h (fun cs55 h => ?_)
  refine K_aload_n (pc := 165) (uc := 16) (us := 25338) 0 dX12_init_165 rfl ?_
  refine K_bipush (pc := 166) (uc := 16) (us := 25338) (8 : Int32) dX12_init_166 (by decide) ?_
  refine K_naI (pc := 168) (uc := 16) (us := 25338) 8 dX12_init_168 (by decide) (by decide) (by decide) (by decide) (by decide) h (fun q56 cs57 h => ?_)
  refine K_put (pc := 170) (uc := 17) (us := 25346) dX12_init_170 flX12_71 ⟨_, _, rfl, rfl⟩ rfl rfl h (fun cs58 h => ?_)
  refine K_aload_n (pc := 173) (uc := 17) (us := 25346) 0 dX12_init_173 rfl ?_
  refine K_iconst (pc := 174) (uc := 17) (us := 25346) (-1 : Int32) dX12_init_174 (by decide) ?_
  refine K_put (pc := 175) (uc := 17) (us := 25346) dX12_init_175 flX12_74 ⟨_, _, rfl, rfl⟩ rfl rfl h (fun cs59 h => ?_)
  refine K_aload_n (pc := 178) (uc := 17) (us := 25346) 0 dX12_init_178 rfl ?_
  refine K_getA (pc := 179) (uc := 17) (us := 25346) dX12_init_179 flX12_7 h (fun q60 h => ?_)
  refine K_bipush (pc := 182) (uc := 17) (us := 25346) (6 : Int32) dX12_init_182 (by decide) ?_
  refine K_iconst (pc := 184) (uc := 17) (us := 25346) (-1 : Int32) dX12_init_184 (by decide) ?_
  refine K_ist (pc := 185) (uc := 17) (us := 25346) dX12_init_185 h (fun cs61 h => ?_)
  cases h
  exact K_ret (pc := 186) (uc := 17) (us := 25346) dX12_init_186 rfl (by decide) (by decide)
