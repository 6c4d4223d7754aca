theorem nw_0 : Cond.methodLinkNest "VaneTown" 21 ⟨"VaneTown$Text", "<init>", "()V"⟩ "VaneTown" ∈ lw_tbl := tm1 33 (by decide +kernel)
theorem nw_1 : Cond.methodLinkNest "VaneTown" 28 ⟨"VaneTown$VillageReader", "<init>", "()V"⟩ "VaneTown" ∈ lw_tbl := tm1 90 (by decide +kernel)
theorem nw_2 : Cond.methodLinkNest "VaneTown" 35 ⟨"VaneTown$OrdersReader", "<init>", "()V"⟩ "VaneTown" ∈ lw_tbl := tm1 103 (by decide +kernel)
theorem nw_3 : Cond.methodLinkNest "VaneTown" 49 ⟨"VaneTown$Town", "<init>", "()V"⟩ "VaneTown" ∈ lw_tbl := tm1 126 (by decide +kernel)
theorem nw_4 : Cond.methodLinkNest "VaneTown" 56 ⟨"VaneTown$Plan", "<init>", "()V"⟩ "VaneTown" ∈ lw_tbl := tm2 101 (by decide +kernel)
theorem nw_5 : Cond.methodLinkNest "VaneTown" 63 ⟨"VaneTown$Steps", "<init>", "()V"⟩ "VaneTown" ∈ lw_tbl := tm2 103 (by decide +kernel)
theorem nw_6 : Cond.methodLinkNest "VaneTown" 74 ⟨"VaneTown$Works", "<init>", "()V"⟩ "VaneTown" ∈ lw_tbl := tm2 107 (by decide +kernel)
theorem nw_7 : Cond.methodLinkNest "VaneTown" 81 ⟨"VaneTown$State", "<init>", "()V"⟩ "VaneTown" ∈ lw_tbl := tm2 146 (by decide +kernel)
theorem nw_8 : Cond.methodLinkNest "VaneTown" 88 ⟨"VaneTown$Joins", "<init>", "()V"⟩ "VaneTown" ∈ lw_tbl := tm2 149 (by decide +kernel)
theorem nw_9 : Cond.methodLinkNest "VaneTown" 95 ⟨"VaneTown$Runner", "<init>", "()V"⟩ "VaneTown" ∈ lw_tbl := tm2 179 (by decide +kernel)
theorem nw_10 : Cond.methodLinkNest "VaneTown" 100 ⟨"VaneTown$Tray", "<init>", "()V"⟩ "VaneTown" ∈ lw_tbl := tm2 231 (by decide +kernel)
theorem nw_11 : Cond.methodLinkNest "VaneTown$Joins" 43 ⟨"VaneTown", "has", "(II)Z"⟩ "VaneTown" ∈ lw_tbl := tm5 33 (by decide +kernel)
theorem nw_12 : Cond.methodLinkNest "VaneTown$Joins" 47 ⟨"VaneTown", "with", "(IIZ)I"⟩ "VaneTown" ∈ lw_tbl := tm5 34 (by decide +kernel)
theorem nw_13 : Cond.methodLinkNest "VaneTown$Runner" 11 ⟨"VaneTown$State", "<init>", "()V"⟩ "VaneTown" ∈ lw_tbl := tm2 184 (by decide +kernel)
theorem nw_14 : Cond.methodLinkNest "VaneTown$Runner" 155 ⟨"VaneTown", "with", "(IIZ)I"⟩ "VaneTown" ∈ lw_tbl := tm6 53 (by decide +kernel)
theorem nw_15 : Cond.methodLinkNest "VaneTown$Town" 9 ⟨"VaneTown$Plan", "<init>", "()V"⟩ "VaneTown" ∈ lw_tbl := tm1 132 (by decide +kernel)
theorem nw_16 : Cond.methodLinkNest "VaneTown$Town" 18 ⟨"VaneTown$State", "<init>", "()V"⟩ "VaneTown" ∈ lw_tbl := tm1 225 (by decide +kernel)
theorem nw_17 : Cond.methodLinkNest "VaneTown$Town" 25 ⟨"VaneTown$Steps", "<init>", "()V"⟩ "VaneTown" ∈ lw_tbl := tm2 39 (by decide +kernel)
theorem nw_18 : Cond.methodLinkNest "VaneTown$Works" 76 ⟨"VaneTown", "with", "(IIZ)I"⟩ "VaneTown" ∈ lw_tbl := tm5 112 (by decide +kernel)
theorem nw_19 : Cond.methodLinkNest "VaneTown$Works" 113 ⟨"VaneTown", "has", "(II)Z"⟩ "VaneTown" ∈ lw_tbl := tm4 193 (by decide +kernel)
theorem nw_in : ∀ q ∈ nwL, Cond.methodLinkNest q.1 q.2.1 q.2.2.1 q.2.2.2 ∈ lw_tbl := by
  intro q hq
  simp only [nwL, List.mem_cons, List.not_mem_nil, or_false] at hq
  rcases hq with rfl | rfl | rfl | rfl | rfl | rfl | rfl | rfl | rfl | rfl | rfl | rfl | rfl | rfl | rfl | rfl | rfl | rfl | rfl | rfl
  · exact nw_0
  · exact nw_1
  · exact nw_2
  · exact nw_3
  · exact nw_4
  · exact nw_5
  · exact nw_6
  · exact nw_7
  · exact nw_8
  · exact nw_9
  · exact nw_10
  · exact nw_11
  · exact nw_12
  · exact nw_13
  · exact nw_14
  · exact nw_15
  · exact nw_16
  · exact nw_17
  · exact nw_18
  · exact nw_19
/-! THE SURROUNDINGS, out of the tables and of what the Statement gives -/
def tyK : List FieldType := [.byte, .int, .long, .object RX8, .object RX7]
set_option maxRecDepth 100000 in
theorem surr {s : State} {b : Nat} (hts : ∀ w ∈ lw_tbl, w.before #[Value.ref b] s = true) (hgv : (Jvm.Cond.and given_1 narrow_1).before #[Value.ref b] s = true) : ∃ E : EV, e_B E = s.heap.size ∧ (∀ o j, e_a E o j = e_B E + of_ o j) ∧ TK E s ∧ SH E s s.heap := by
  have hG : ∀ w ∈ GW, w.before #[Value.ref b] s = true := fun w hw => hts w (List.mem_filter.mp hw).1
  have hcl : ∀ k : Nat, ∃ q : ClassId × (Nat → Nat), ∀ r : vw_C, vwCl[k]? = some r → u_Kn s r.1 r.2.1 r.2.2 q.1 q.2 := by
    have go : ∀ {ci : Nat} {C : String} {T : u_T} {N : Nat} {ty : Nat → FieldType}, CK ci C T N ty → Cond.instantiable C N ∈ GW → ∃ q : ClassId × (Nat → Nat), u_Kn s C T N q.1 q.2 := fun {ci C T N ty} hc hi => by
      obtain ⟨cC, iS, h⟩ := u_known (n := N) hG hc.2.2.1 (hG _ hi)
      exact ⟨(cC, iS), h⟩
    intro k
    match k with
    | 0 => exact (go ck0 (GW_mem (tm2 148 (by decide +kernel)) (by decide +kernel))).elim fun q h => ⟨q, fun r hr => by cases hr; exact h⟩
    | 1 => exact (go ck1 (GW_mem (tm1 102 (by decide +kernel)) (by decide +kernel))).elim fun q h => ⟨q, fun r hr => by cases hr; exact h⟩
    | 2 => exact (go ck2 (GW_mem (tm1 131 (by decide +kernel)) (by decide +kernel))).elim fun q h => ⟨q, fun r hr => by cases hr; exact h⟩
    | 3 => exact (go ck3 (GW_mem (tm2 178 (by decide +kernel)) (by decide +kernel))).elim fun q h => ⟨q, fun r hr => by cases hr; exact h⟩
    | 4 => exact (go ck4 (GW_mem (tm1 224 (by decide +kernel)) (by decide +kernel))).elim fun q h => ⟨q, fun r hr => by cases hr; exact h⟩
    | 5 => exact (go ck5 (GW_mem (tm2 38 (by decide +kernel)) (by decide +kernel))).elim fun q h => ⟨q, fun r hr => by cases hr; exact h⟩
    | 6 => exact (go ck6 (GW_mem (tm1 32 (by decide +kernel)) (by decide +kernel))).elim fun q h => ⟨q, fun r hr => by cases hr; exact h⟩
    | 7 => exact (go ck7 (GW_mem (tm1 125 (by decide +kernel)) (by decide +kernel))).elim fun q h => ⟨q, fun r hr => by cases hr; exact h⟩
    | 8 => exact (go ck8 (GW_mem (tm2 230 (by decide +kernel)) (by decide +kernel))).elim fun q h => ⟨q, fun r hr => by cases hr; exact h⟩
    | 9 => exact (go ck9 (GW_mem (tm1 89 (by decide +kernel)) (by decide +kernel))).elim fun q h => ⟨q, fun r hr => by cases hr; exact h⟩
    | 10 => exact (go ck10 (GW_mem (tm2 106 (by decide +kernel)) (by decide +kernel))).elim fun q h => ⟨q, fun r hr => by cases hr; exact h⟩
    | 11 => exact (go ck11 (GW_mem (tm1 22 (by decide +kernel)) (by decide +kernel))).elim fun q h => ⟨q, fun r hr => by cases hr; exact h⟩
    | 12 => exact (go ck12 (GW_mem (tm6 106 (by decide +kernel)) (by decide +kernel))).elim fun q h => ⟨q, fun r hr => by cases hr; exact h⟩
    | k + 13 => exact ⟨(0, fun _ => 0), fun r hr => by simp at hr⟩
  obtain ⟨cd, hcd⟩ := Classical.axiomOfChoice hcl
  have har : ∀ k : Nat, ∃ cA : ClassId, ∀ ty : FieldType, tyK[k]? = some ty → ArrOfT s cA ty ∧ va_RA s cA ty := by
    have go : ∀ {ty : FieldType}, Cond.arrayClass ty ∈ GW → ∃ cA : ClassId, ArrOfT s cA ty ∧ s.vm.findClass ("[" ++ ty.toString) = some cA := fun {ty} h => by
      obtain ⟨cA, k, comp, h1, h2, h3⟩ := Cond.arrayClass_spec (hG _ h)
      exact ⟨cA, fun n z => ⟨(fun k h => by cases h), k, h2, comp, h3⟩, h1⟩
    have go2 : ∀ {C : String}, Cond.arrayOver (.object C) ∈ lw_tbl → ∃ cA : ClassId, ArrOfT s cA (.object C) ∧ va_RA s cA (.object C) := fun {C} h => by
      obtain ⟨comp, cA, k, h1, h2, h3, h4, h5⟩ := Cond.arrayOver_spec (hts _ h)
      exact ⟨cA, fun n z => ⟨(fun k h => by cases h), k, h3, comp, h4⟩, k, comp, h3, h4, h1, h5⟩
    intro k
    match k with
    | 0 => exact (go ac_byte).elim fun q h => ⟨q, fun r hr => by cases hr; exact h⟩
    | 1 => exact (go ac_int).elim fun q h => ⟨q, fun r hr => by cases hr; exact h⟩
    | 2 => exact (go ac_long).elim fun q h => ⟨q, fun r hr => by cases hr; exact h⟩
    | 3 => exact (go2 (C := RX8) (tm1 30 (by decide +kernel))).elim fun q h => ⟨q, fun r hr => by cases hr; exact h⟩
    | 4 => exact (go2 (C := RX7) (tm2 104 (by decide +kernel))).elim fun q h => ⟨q, fun r hr => by cases hr; exact h⟩
    | k + 5 => exact ⟨0, fun r hr => by simp [tyK] at hr⟩
  obtain ⟨cy, hcy⟩ := Classical.axiomOfChoice har
  have hs := flat_of_before _ hgv
  have hA0 : ∀ a : Nat, a < s.heap.size → ¬ (fun q : Nat => s.heap.size ≤ q) a := fun a h => Nat.not_le.mpr h
  obtain ⟨kw, hkw, hT1⟩ := va_Tof (s := s) (tm := .static RX6 "KEYWORDS" "[J") (ty := .long) (N := 23) (f := fun j => .long (kwL.getD j 0)) (A := fun q : Nat => s.heap.size ≤ q) (by decide) (hs (.arrayOf (.static RX6 "KEYWORDS" "[J") .long) (by decide +kernel)) (va_eqt (hs (.eq (.length (.static RX6 "KEYWORDS" "[J")) (.int (Int32.ofNat 23))) (by decide +kernel))) (fun j hj => va_eqtl (hs _ ((show ∀ j, j < 23 → Cond.eq (.elem (.static RX6 "KEYWORDS" "[J") (.int (Int32.ofNat j))) (.long (kwL.getD j 0)) ∈ flatC (Jvm.Cond.and given_1 narrow_1) by decide +kernel) j hj))) hA0
  have hZ1 := va_Zof (A := fun q : Nat => s.heap.size ≤ q) (hts (.laysStatic RX6 "KEYWORDS" "[J") (tm3 162 (by decide +kernel))) (hts (.initialized RX6) (tm1 2 (by decide +kernel))) hkw hA0
  have hZ2 := va_Zof (A := fun q : Nat => s.heap.size ≤ q) (hts (.laysStatic RJ0 "COMPACT_STRINGS" "Z") (tm7 108 (by decide +kernel))) (hts (.initialized RJ0) (tm1 16 (by decide +kernel))) (va_eqi (z := 1) (hs (.eq (.static RJ0 "COMPACT_STRINGS" "Z") (.int 1)) (by decide +kernel))) hA0
  have hZ3 := va_Zqof (A := fun q : Nat => s.heap.size ≤ q) (hts (.laysStatic RJ3 "SIOOBE_FORMATTER" "Ljava/util/function/BiFunction;") (tm7 124 (by decide +kernel))) (hts (.initialized RJ3) (tm1 18 (by decide +kernel))) (hs (.isRef (.static RJ3 "SIOOBE_FORMATTER" "Ljava/util/function/BiFunction;")) (by decide +kernel)) hA0
  obtain ⟨adK, adV, hk, hke⟩ := vk_Sof (s := s) (N := 1) (tm := fun _ => .string RX12 180) (len := [119]) (byt := [kyB]) (A := fun q : Nat => s.heap.size ≤ q) (by decide) (fun i hi => hs (.exactly (.string RX12 180) "java/lang/String") (by decide +kernel)) (fun i hi => hs (.eq (.field (.string RX12 180) "java/lang/String" "coder" "B") (.int 0)) (by decide +kernel)) (fun i hi => hs (.arrayOf (.field (.string RX12 180) "java/lang/String" "value" "[B") .byte) (by decide +kernel)) (fun i hi => by
      obtain rfl : i = 0 := by omega
      exact hs (.eq (.length (.field (.string RX12 180) "java/lang/String" "value" "[B")) (.int (Int32.ofNat 119))) (by decide +kernel)) (fun i hi j hj => by
      obtain rfl : i = 0 := by omega
      exact hs _ ((show ∀ j, j < 119 → Cond.eq (.elem (.field (.string RX12 180) "java/lang/String" "value" "[B") (.int (Int32.ofNat j))) (.int (kyB.getD j 0)) ∈ flatC (Jvm.Cond.and given_1 narrow_1) by decide +kernel) j hj)) (fun i j hi hj h => absurd (show i = j by omega) h) hA0
  have hks := hk.1 0 (by decide)
  refine ⟨((fun k => (cd k).1, fun k => (cd k).2), cy, (fun o j => s.heap.size + of_ o j), s.heap.size, kw, adK 0, adV 0), rfl, fun _ _ => rfl, ⟨⟨⟨fun k q hq => hcd k q hq, fun k q hq => ?_⟩, ?_, vk_R.of (hts (.stringRef RX12 180 kyT) (tm7 94 (by decide +kernel))) (hke 0 (by decide))⟩, va_AO.of (hts (.arrayOver (.object "VaneTown$Tray")) (tm1 30 (by decide +kernel))), va_AO.of (hts (.arrayOver (.object "VaneTown$Town")) (tm2 104 (by decide +kernel)))⟩, hZ1, hT1, hZ2, hks.1, hks.2.1, hks.2.2.1, hks.2.2.2, hZ3⟩
  · match k, hq with
    | 0, hq => cases hq; exact hcy 0 _ rfl
    | 1, hq => cases hq; exact hcy 1 _ rfl
    | 2, hq => cases hq; exact hcy 2 _ rfl
    | 3, hq => cases hq; exact hcy 3 _ rfl
    | 4, hq => cases hq; exact hcy 4 _ rfl
    | k + 5, hq => simp at hq
  · intro q hq
    exact va_Nw.of rfl (hts _ (nw_in q hq))
