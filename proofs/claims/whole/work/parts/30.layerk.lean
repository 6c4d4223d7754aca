/-! MAKING: the cells from e_B on, in the order in which they are made; references are counted from e_B -/
abbrev XC : Type := (Nat × List Value) ⊕ (Nat × Nat × List (Nat × Value))
def rl (E : EV) : Value → Value
  | .ref k => .ref (e_B E + k)
  | v => v
def x_k (us : List (Nat × Value)) (i : Nat) : Option Value := (us.find? (fun q => q.1 == i)).map (fun q => q.2)
def x_i (o : Option Value) : Int32 := match o with
  | some (.int v) => v
  | _ => 0
def x_r (E : EV) (o : Option Value) : Option Nat := match o with
  | some (.ref k) => some (e_B E + k)
  | _ => none
def k_c (E : EV) (kd : Nat) (us : List (Nat × Value)) : (Nat → Int32) ⊕ (Nat → Int64) ⊕ (Nat → UInt32) ⊕ (Nat → UInt64) ⊕ (Nat → Option Nat) := match kd with
  | 0 => .inl (fun i => x_i (x_k us i))
  | 1 => .inl (fun i => x_i (x_k us i))
  | 2 => .inr (.inl (fun _ => 0))
  | _ => .inr (.inr (.inr (.inr (fun i => x_r E (x_k us i)))))
def kat (E : EV) (a : Nat) (H : Heap) (q : XC) : Prop := match q with
  | .inl q => q.1 < 13 ∧ q.2.length = nF q.1 ∧ t_OB a (E.1.1 q.1) (nF q.1) (E.1.2 q.1) H (fun i => rl E (q.2.getD i .null))
  | .inr q => q.1 < 5 ∧ H[a]? = some (vp_cell (e_c E q.1) (q.2.1, k_c E q.1 q.2.2))
def KH (E : EV) (cs : List XC) (H : Heap) : Prop := H.size = e_B E + cs.length ∧ ∀ (k : Nat) (q : XC), cs[k]? = some q → kat E (e_B E + k) H q
theorem kat.kept {E : EV} {a : Nat} {H H1 : Heap} {q : XC} (h : kat E a H q) (e : H1[a]? = H[a]?) : kat E a H1 q := by
  cases q with
  | inl q => exact ⟨h.1, h.2.1, h.2.2.kept e⟩
  | inr q => exact ⟨h.1, e.trans h.2⟩
theorem KH.push {E : EV} {cs : List XC} {H H1 : Heap} {x : XC} (h : KH E cs H) (z : H1.size = H.size + 1) (o : ∀ q : Nat, q < H.size → H1[q]? = H[q]?) (hx : kat E H.size H1 x) : KH E (cs ++ [x]) H1 := by
  refine ⟨by rw [z, h.1, List.length_append]; rfl, fun k q hk => ?_⟩
  by_cases hl : k < cs.length
  · rw [List.getElem?_append_left hl] at hk
    exact (h.2 k q hk).kept (o _ (by rw [h.1]; omega))
  · rw [List.getElem?_append_right (by omega)] at hk
    have hz : k - cs.length < 1 := (List.getElem?_eq_some_iff.mp hk).1
    rw [show k - cs.length = 0 by omega] at hk
    cases hk
    rw [show e_B E + k = H.size by rw [h.1]; omega]
    exact hx
theorem KH.put {E : EV} {cs : List XC} {H H1 : Heap} {k : Nat} {x : XC} (h : KH E cs H) (z : H1.size = H.size) (o : ∀ q : Nat, q ≠ e_B E + k → H1[q]? = H[q]?) (hx : kat E (e_B E + k) H1 x) : KH E (cs.set k x) H1 := by
  refine ⟨by rw [z, h.1, List.length_set], fun j q hj => ?_⟩
  by_cases e : j = k
  · subst e
    rw [List.getElem?_set] at hj
    simp only [if_true] at hj
    split at hj
    · cases hj; exact hx
    · cases hj
  · rw [List.getElem?_set_ne (Ne.symm e)] at hj
    exact (h.2 j q hj).kept (o _ (by omega))
def TK (E : EV) (U : State) : Prop := TB E U ∧ va_AO "VaneTown$Tray" U ∧ va_AO "VaneTown$Town" U
theorem TK.warm {E : EV} {s U : State} (hW : s.WarmedH U.vm) (h : TK E s) : TK E U := ⟨h.1.warm hW, va_AO.moved hW.alike h.2.1, va_AO.moved hW.alike h.2.2⟩
theorem TK.same {E : EV} {s U : State} (hv : U.vm = s.vm) (h : TK E s) : TK E U := ⟨h.1.same hv, va_AO.moved (by rw [hv]; exact Vm.Alike.refl _) h.2.1, va_AO.moved (by rw [hv]; exact Vm.Alike.refl _) h.2.2⟩
def rmK (d mc ms : Nat) : Room := { frames := d, cells := mc, slots := ms, locals := 40 * d }
/-- a constructor's contract: called on the cell k of cs, it leaves cs' -/
def Kc (l : Launch) (E : EV) (y : MI) (d mc ms k : Nat) (cs cs' : List XC) : Prop :=
  Met l y.1 (wsM y) (rmK d mc ms) (fun v U => v = ([.ref (e_B E + k)] : List Value).toArray ∧ TK E U ∧ KH E cs U.heap) (fun _ st oc t => oc = .returned none ∧ TK E t ∧ KH E cs' t.heap ∧ va_F (e_A E) st t) mc ms (e_A E)
def Kd (l : Launch) (E : EV) (y : MI) (d MC MS : Nat) (R cs : List XC) (uc us pc : Nat) (L : List (Nat × Value)) (st : List Value) : Prop :=
  ∀ (p : Program) (e : Env) (s : State) (m : MethodId) (args : Array Value) (below : List Frame) (meth : Method) (c : Code) (H : Heap) (locs : List Loc) (ls : Array Slot), FX p s m args meth c y → meth.name = "<init>" → TK E s → KH E cs H → va_S (e_A E) s.heap H locs → lv_has ls y.2.2.1 (L.map fun q => (q.1, rl E q.2)) →
    W p l e (rmK d MC MS) s m args below meth c H locs uc us (MQ below (fun _ st oc t => oc = .returned none ∧ TK E t ∧ KH E R t.heap ∧ va_F (e_A E) st t) args s MC MS (e_A E)) (F0 m pc ls (st.map (rl E)))
theorem Kc.of {l : Launch} {E : EV} {y : MI} {d mc ms k : Nat} {cs cs' : List XC} (hp : plainName y.1.cls = true) (hn : 1 ≤ y.2.2.1) (hi : y.1.name = "<init>") (h : Kd l E y d mc ms cs' cs 0 0 0 [(0, .ref k)] []) : Kc l E y d mc ms k cs cs' := by
  refine Met.ofW (cc := y.2.1) (maxL := y.2.2.1) (ret := y.2.2.2) hp rfl ?_
  intro p e s m args below meth c s₁ B hml hv
  obtain ⟨rfl, hT, hK⟩ := hv
  rw [lg_entry_eq]
  exact h p e s m _ below meth c s.heap [] _ ⟨B.exec, B.bytes, hml, B.returns, findClass_of_methodNamed B.named, fun w hw => atoms_spec (ws := wsM y) B.pre w (List.mem_cons_of_mem _ hw), B.notSynchronized⟩ ((name_of_methodNamed B.named B.method).1.trans hi) hT hK va_S.rf (lv_entry [.ref (e_B E + k)] hn)
section KL
variable {l : Launch} {E : EV} {y : MI} {d MC MS : Nat} {R cs : List XC} {uc us pc : Nat} {L L' : List (Nat × Value)} {st : List Value} {α : Type} {ρ : α}
theorem K_iconst {n : Int} (v : Int32) (hd : decode y.2.1 pc = .ok (.iconst n, 1)) (hv : Int32.ofInt n = v) (k : Kd l E y d MC MS R cs uc us (pc + 1) L (.int v :: st)) : Kd l E y d MC MS R cs uc us pc L st :=
  fun p e s m args below meth c H locs ls X hi hT hK hS hl => lv_iconst X.1 X.2.1 hd hv (k p e s m args below meth c H locs ls X hi hT hK hS hl)
theorem K_lconst {n : Fin 2} (v : Int64) (hd : decode y.2.1 pc = .ok (.lconst n, 1)) (hv : Int64.ofNat (n : Nat) = v) (k : Kd l E y d MC MS R cs uc us (pc + 1) L (.long v :: st)) : Kd l E y d MC MS R cs uc us pc L st :=
  fun p e s m args below meth c H locs ls X hi hT hK hS hl => lv_lconst X.1 X.2.1 hd hv (k p e s m args below meth c H locs ls X hi hT hK hS hl)
theorem K_bipush {n : Int} (v : Int32) (hd : decode y.2.1 pc = .ok (.bipush n, 2)) (hv : (Int8.ofInt n).toInt32 = v) (k : Kd l E y d MC MS R cs uc us (pc + 2) L (.int v :: st)) : Kd l E y d MC MS R cs uc us pc L st :=
  fun p e s m args below meth c H locs ls X hi hT hK hS hl => lv_bipush X.1 X.2.1 hd hv (k p e s m args below meth c H locs ls X hi hT hK hS hl)
theorem K_sipush {n : Int} (v : Int32) (hd : decode y.2.1 pc = .ok (.sipush n, 3)) (hv : (Int16.ofInt n).toInt32 = v) (k : Kd l E y d MC MS R cs uc us (pc + 3) L (.int v :: st)) : Kd l E y d MC MS R cs uc us pc L st :=
  fun p e s m args below meth c H locs ls X hi hT hK hS hl => lv_sipush X.1 X.2.1 hd hv (k p e s m args below meth c H locs ls X hi hT hK hS hl)
theorem K_aload_n {i : Fin 4} {x : Nat} (q : Nat) (hd : decode y.2.1 pc = .ok (.aload_n i, 1)) (hq : L[q]? = some ((i : Nat), .ref x)) (k : Kd l E y d MC MS R cs uc us (pc + 1) L (.ref x :: st)) : Kd l E y d MC MS R cs uc us pc L st :=
  fun p e s m args below meth c H locs ls X hi hT hK hS hl => lv_aload_n X.1 X.2.1 hd rfl (lv_at hl q (by rw [List.getElem?_map, hq]; rfl)) (k p e s m args below meth c H locs ls X hi hT hK hS hl)
theorem K_iload_n {i : Fin 4} {x : Int32} (q : Nat) (hd : decode y.2.1 pc = .ok (.iload_n i, 1)) (hq : L[q]? = some ((i : Nat), .int x)) (k : Kd l E y d MC MS R cs uc us (pc + 1) L (.int x :: st)) : Kd l E y d MC MS R cs uc us pc L st :=
  fun p e s m args below meth c H locs ls X hi hT hK hS hl => lv_iload_n X.1 X.2.1 hd rfl (lv_at hl q (by rw [List.getElem?_map, hq]; rfl)) (k p e s m args below meth c H locs ls X hi hT hK hS hl)
theorem K_istore_n {i : Fin 4} {x : Int32} (hd : decode y.2.1 pc = .ok (.istore_n i, 1)) (hn : (i : Nat) < y.2.2.1) (hL : s_1 (L.map fun q => (q.1, rl E q.2)) i (.int x) = L'.map fun q => (q.1, rl E q.2)) (k : Kd l E y d MC MS R cs uc us (pc + 1) L' st) : Kd l E y d MC MS R cs uc us pc L (.int x :: st) :=
  fun p e s m args below meth c H locs ls X hi hT hK hS hl => lv_istore_n X.1 X.2.1 hd rfl hl hn hL (fun ls' hl' => k p e s m args below meth c H locs ls' X hi hT hK hS hl')
theorem K_iinc {i : Nat} {n : Int} {x : Int32} (q : Nat) (v : Int32) (hd : decode y.2.1 pc = .ok (.iinc i n, 3)) (hq : L[q]? = some (i, .int x)) (hv : x + Int32.ofInt n = v) (hn : i < y.2.2.1) (hL : s_1 (L.map fun q => (q.1, rl E q.2)) i (.int v) = L'.map fun q => (q.1, rl E q.2)) (k : Kd l E y d MC MS R cs uc us (pc + 3) L' st) : Kd l E y d MC MS R cs uc us pc L st :=
  fun p e s m args below meth c H locs ls X hi hT hK hS hl => lv_iinc X.1 X.2.1 hd hl (by rw [List.getElem?_map, hq]; rfl) hv hn hL (fun ls' hl' => k p e s m args below meth c H locs ls' X hi hT hK hS hl')
theorem K_dup {v : Value} (hd : decode y.2.1 pc = .ok (.dup, 1)) (hc : (rl E v).category = 1) (k : Kd l E y d MC MS R cs uc us (pc + 1) L (v :: v :: st)) : Kd l E y d MC MS R cs uc us pc L (v :: st) :=
  fun p e s m args below meth c H locs ls X hi hT hK hS hl => lv_dup X.1 X.2.1 hd hc (k p e s m args below meth c H locs ls X hi hT hK hS hl)
theorem K_goto {off : Int} (t : Nat) (hd : decode y.2.1 pc = .ok (.goto off, 3)) (ht : (pc : Int) + off = (t : Int)) (k : Kd l E y d MC MS R cs uc us t L st) : Kd l E y d MC MS R cs uc us pc L st :=
  fun p e s m args below meth c H locs ls X hi hT hK hS hl => lv_goto X.1 X.2.1 hd ht (k p e s m args below meth c H locs ls X hi hT hK hS hl)
theorem K_geT {x z : Int32} {off : Int} (t : Nat) (hd : decode y.2.1 pc = .ok (.if_icmp .ge off, 3)) (ht : (pc : Int) + off = (t : Int)) (hc : z ≤ x) (k : Kd l E y d MC MS R cs uc us t L st) : Kd l E y d MC MS R cs uc us pc L (.int z :: .int x :: st) :=
  fun p e s m args below meth c H locs ls X hi hT hK hS hl => lv_icmp_ge X.1 X.2.1 hd ht (fun _ => k p e s m args below meth c H locs ls X hi hT hK hS hl) (fun h => absurd hc h)
theorem K_geF {x z : Int32} {off : Int} (t : Nat) (hd : decode y.2.1 pc = .ok (.if_icmp .ge off, 3)) (ht : (pc : Int) + off = (t : Int)) (hc : ¬ z ≤ x) (k : Kd l E y d MC MS R cs uc us (pc + 3) L st) : Kd l E y d MC MS R cs uc us pc L (.int z :: .int x :: st) :=
  fun p e s m args below meth c H locs ls X hi hT hK hS hl => lv_icmp_ge X.1 X.2.1 hd ht (fun h => absurd h hc) (fun _ => k p e s m args below meth c H locs ls X hi hT hK hS hl)
theorem K_ret (hd : decode y.2.1 pc = .ok (.return_, 1)) (hr : y.2.2.2 = none) (h1 : uc ≤ MC) (h2 : us ≤ MS) : Kd l E y d MC MS cs cs uc us pc L [] :=
  fun p e s m args below meth c H locs ls X hi hT hK hS hl => W.widen h1 h2 (W.vret X.1 X.2.1 (X.2.2.2.1.trans hr) (fun t ht hw => ⟨rfl, hT.warm hw, by rw [ht]; exact hK, hS.F ht⟩) hS.2.2 hd X.2.2.2.2.2.2)
def OI (own : String) (idx : Nat) : Prop := Cond.methodLink own idx Lib.objectInit ∈ GW ∧ Cond.instanceMethod Lib.objectInit ∈ GW ∧ Cond.code Lib.objectInit ⟨#[0xb1]⟩ 1 none ∈ GW
theorem K_obj {idx x : Nat} (hd : decode y.2.1 pc = .ok (.invokespecial idx, 3)) (hO : OI y.1.cls idx) (hdd : 1 ≤ d) (hr : ((st.map (rl E)).map fun v => v.category).sum ≤ 8) (k : Kd l E y d MC MS R cs uc us (pc + 3) L st) : Kd l E y d MC MS R cs uc us pc L (.ref x :: st) :=
  fun p e s m args below meth c H locs ls X hi hT hK hS hl => W.objInit X.1 X.2.1 X.2.2.2.2.1 (X.2.2.2.2.2.1 _ hO.1) (X.2.2.2.2.2.1 _ hO.2.1) (X.2.2.2.2.2.1 _ hO.2.2) rfl (hl.1.trans X.2.2.1.symm) rfl hd hdd (by show 2 * 0 + _ + 12 ≤ 40 * d; omega) (k p e s m args below meth c H locs ls X hi hT hK hS hl)
/-- new -/
def dflt (ci : Nat) : List Value := (fcL.getD ci []).map (fun q => if q.1 = 0 then .int 0 else if q.1 = 1 then .long 0 else .null)
def NC (own : String) (idx ci : Nat) : Prop := ∃ (C : String) (T : u_T) (N : Nat) (ty : Nat → FieldType), CK ci C T N ty ∧ ci < 13 ∧ Cond.classLink own idx C ∈ GW ∧ Cond.instantiable C N ∈ GW ∧ Cond.initialized C ∈ GW ∧ (dflt ci).length = nF ci ∧ ∀ j, j < N → defaultValue (ty j) = (dflt ci).getD j .null
def k_nw (cs : List XC) (ci : Nat) (K : Nat → List XC → Option α) : Option α := K cs.length (cs ++ [.inl (ci, dflt ci)])
theorem rl_d (E : EV) (ty : FieldType) : rl E (defaultValue ty) = defaultValue ty := by cases ty <;> rfl
theorem K_new {idx ci n : Nat} {K : Nat → List XC → Option α} (hd : decode y.2.1 pc = .ok (.new idx, 3)) (hN : NC y.1.cls idx ci) (hnF : nF ci = n) (h1 : uc + 1 ≤ MC) (h2 : us + n ≤ MS) (h : k_nw cs ci K = some ρ) (k : ∀ (q : Nat) (cs1 : List XC), K q cs1 = some ρ → Kd l E y d MC MS R cs1 (uc + 1) (us + n) (pc + 3) L (.ref q :: st)) : Kd l E y d MC MS R cs uc us pc L st := by
  intro p e s m args below meth c H locs ls X hi hT hK hS hl
  obtain ⟨C, T, N, ty, ⟨hc, hNF, hin, hty, hnm⟩, h13, hcl, hinst, hini, hdl, hdf⟩ := hN
  have ht := X.2.2.2.2.2.1
  have hKn := hT.1.1.1 ci _ hc
  have hn : n = N := hnF.symm.trans hNF.symm
  subst hn
  refine W.newcK X.1 X.2.1 X.2.2.2.2.1 (ht _ hcl) (ht _ hinst) (ht _ hini) rfl hd h1 h2 hKn.2.1 rfl fun H1 kC hkC e1 z1 o1 => ?_
  have e0 : H.size = e_B E + cs.length := hK.1
  have hk := k _ _ h p e s m args below meth c H1 locs ls X hi hT (hK.push z1 o1 ⟨h13, hdl, ?_⟩) ⟨Nat.le_trans hS.1 (by omega), fun x g1 g2 => (o1 x (Nat.lt_of_lt_of_le g1 hS.1)).trans (hS.2.1 x g1 g2), hS.2.2⟩ hl
  · rw [e0]
    exact hk
  · rw [← hNF]
    refine (u_born ty ht hin hKn hkC e1 hty).to fun j hj => ?_
    rw [← rl_d E, hdf j hj]
/-- newarray -/
def k_na (cs : List XC) (kd n : Nat) (K : Nat → List XC → Option α) : Option α := K cs.length (cs ++ [.inr (kd, n, [])])
theorem K_na {at0 : ArrayType} {n : Int32} {N kd : Nat} {ty : FieldType} {K : Nat → List XC → Option α} (hd : decode y.2.1 pc = .ok (.newarray at0, 2)) (hty : newarray.typeOf at0 = ty) (hg : Cond.arrayClass ty ∈ GW) (ht : (tyl E)[kd]? = some (e_c E kd, ty)) (hkd : kd < 3) (hce : ∀ cA : ClassId, vp_cell cA (N, k_c E kd []) = arrV cA N (fun _ => defaultValue ty)) (hra : ∀ (U : State) (cA : ClassId), va_RA U cA ty = (U.vm.findClass ("[" ++ ty.toString) = some cA)) (hn : ¬ n < 0) (hN : n.toNatClampNeg = N) (hb : N * componentBytes ty ≤ 536870912) (h1 : uc + 1 ≤ MC) (h2 : us + N ≤ MS) (h : k_na cs kd N K = some ρ) (k : ∀ (q : Nat) (cs1 : List XC), K q cs1 = some ρ → Kd l E y d MC MS R cs1 (uc + 1) (us + N) (pc + 2) L (.ref q :: st)) : Kd l E y d MC MS R cs uc us pc L (.int n :: st) := by
  intro p e s m args below meth c H locs ls X hi hT hK hS hl
  subst hty
  refine va_newaK X.1 X.2.1 (X.2.2.2.2.2.1 _ hg) rfl hd rfl hn hN hb h1 h2 rfl fun H1 cA e1 z1 o1 hAr hNm => ?_
  have e0 : H.size = e_B E + cs.length := hK.1
  have hra1 := (hT.1.1.2 kd _ ht).2
  dsimp only at hra1
  rw [hra s (e_c E kd)] at hra1
  have hcA : cA = e_c E kd := Option.some.inj (hNm.symm.trans hra1)
  subst hcA
  have hk := k _ _ h p e s m args below meth c H1 locs ls X hi hT (hK.push z1 o1 ⟨by show kd < 5; omega, by rw [e1]; exact congrArg some (hce _).symm⟩) ⟨Nat.le_trans hS.1 (by omega), fun x g1 g2 => (o1 x (Nat.lt_of_lt_of_le g1 hS.1)).trans (hS.2.1 x g1 g2), hS.2.2⟩ hl
  rw [e0]
  exact hk
theorem K_aa {idx : Nat} {n : Int32} {N kd : Nat} {C : String} {K : Nat → List XC → Option α} (hd : decode y.2.1 pc = .ok (.anewarray idx, 3)) (hcl : Cond.classLink y.1.cls idx C ∈ GW) (hov : ∀ U : State, TK E U → va_AO C U) (ht : (tyl E)[kd]? = some (e_c E kd, .object C)) (hkd : kd = 3 ∨ kd = 4) (hn : ¬ n < 0) (hN : n.toNatClampNeg = N) (hb : N * 4 ≤ 536870912) (h1 : uc + 1 ≤ MC) (h2 : us + N ≤ MS) (h : k_na cs kd N K = some ρ) (k : ∀ (q : Nat) (cs1 : List XC), K q cs1 = some ρ → Kd l E y d MC MS R cs1 (uc + 1) (us + N) (pc + 3) L (.ref q :: st)) : Kd l E y d MC MS R cs uc us pc L (.int n :: st) := by
  intro p e s m args below meth c H locs ls X hi hT hK hS hl
  subst hN
  refine W.anew X.1 X.2.1 X.2.2.2.2.1 (X.2.2.2.2.2.1 _ hcl) (va_AO.use (hov s hT)) rfl hd rfl hn hb h1 h2 fun cA kA comp f1 f2 f3 f4 => ?_
  generalize hH1 : H.push ({ cls := cA, slots := Array.replicate n.toNatClampNeg .null, vm := .none } : Cell) = H1
  have z1 : H1.size = H.size + 1 := by rw [← hH1, Array.size_push]
  have e1 : H1[H.size]? = some (arrV cA n.toNatClampNeg (fun _ => .null)) := by rw [← hH1, Array.getElem?_push_size, ← arrV_new]
  have o1 : ∀ q : Nat, q < H.size → H1[q]? = H[q]? := fun q hq => by rw [← hH1, Array.getElem?_push, if_neg (Nat.ne_of_lt hq)]
  have e0 : H.size = e_B E + cs.length := hK.1
  obtain ⟨kA', comp', r1, r2, r3, r4⟩ := (hT.1.1.2 kd _ ht).2
  have hcA : cA = e_c E kd := Option.some.inj (f1.symm.trans r4)
  subst hcA
  have hk := k _ _ h p e s m args below meth c H1 locs ls X hi hT (hK.push z1 o1 ⟨by show kd < 5; omega, by rw [e1]; rcases hkd with rfl | rfl <;> rfl⟩) ⟨Nat.le_trans hS.1 (by omega), fun x g1 g2 => (o1 x (Nat.lt_of_lt_of_le g1 hS.1)).trans (hS.2.1 x g1 g2), hS.2.2⟩ hl
  rw [e0]
  exact hk
/-- a field -/
def k_pf (cs : List XC) (k i ci : Nat) (v : Value) (K : List XC → Option α) : Option α := match cs[k]? with
  | some (.inl q) => if q.1 = ci then K (cs.set k (.inl (q.1, q.2.set i v))) else none
  | _ => none
def k_gf (cs : List XC) (k i ci : Nat) (K : Nat → Option α) : Option α := match cs[k]? with
  | some (.inl q) => if q.1 = ci then (match q.2[i]? with
    | some (.ref a) => K a
    | _ => none) else none
  | _ => none
theorem K_put {idx ci i k : Nat} {fin : Bool} {tk : FieldType} {v : Value} {K : List XC → Option α} (hd : decode y.2.1 pc = .ok (.putfield idx, 3)) (hF : FL y.1.cls idx ci i fin tk) (hown : ∃ (T : u_T) (N : Nat), vwCl[ci]? = some (y.1.cls, T, N) ∧ (T i).1 = y.1.cls) (hn : narrow tk (rl E v) = rl E v) (hfit : fits tk (rl E v) = true) (h : k_pf cs k i ci v K = some ρ) (kk : ∀ cs1, K cs1 = some ρ → Kd l E y d MC MS R cs1 uc us (pc + 3) L st) : Kd l E y d MC MS R cs uc us pc L (v :: .ref k :: st) := by
  intro p e s m args below meth c H locs ls X hi hT hK hS hl
  unfold k_pf at h
  split at h
  · rename_i q hq
    split at h
    · rename_i hci
      obtain ⟨C, T, N, ty, ⟨hc, hN, hin, hty, hnm⟩, h13, hk, hlink, hfin, htk⟩ := hF
      obtain ⟨T', N', hc', hT'⟩ := hown
      cases hc.symm.trans hc'
      obtain ⟨ci0, fs⟩ := q
      dsimp only at hci h
      subst hci
      have hts := X.2.2.2.2.2.1
      have hap := va_apart (own := y.1.cls) hts hin ty hty hnm hT.1.1 hc
      obtain ⟨-, hlen, cell, q1, q2, q3, q4⟩ := hK.2 k _ hq
      dsimp only at hlen q2 q4
      obtain ⟨hSl, hfc, kC, hkC, hkind⟩ := hT.1.1.1 _ _ hc
      obtain ⟨cf, kf, fi, f, hif, hsl⟩ := hSl i hk
      have hst := (u_facts hfc hkC (u_lays hts hin hk) hif).1
      have q4' : ∀ j, j < N → cell.slots[(E.1.2 ci0) j]? = some (rl E (fs.getD j .null)) := fun j hj => q4 j (hN ▸ hj)
      have hB : e_B E ≤ e_B E + k := Nat.le_add_right _ _
      have fini : ∀ (H' : Heap), H'[e_B E + k]? = some (cell.setSlot ((E.1.2 ci0) i) (rl E v)) → H'.size = H.size → (∀ q, q ≠ e_B E + k → H'[q]? = H[q]?) → W p l e (rmK d MC MS) s m args below meth c H' (locs ++ [⟨e_B E + k, (E.1.2 ci0) i⟩]) uc us (MQ below (fun _ st oc t => oc = .returned none ∧ TK E t ∧ KH E R t.heap ∧ va_F (e_A E) st t) args s MC MS (e_A E)) (F0 m (pc + 3) ls (st.map (rl E))) := by
        intro H' e1 e2 e3
        refine kk _ h p e s m args below meth c H' _ ls X hi hT (hK.put e2 e3 ⟨h13, by rw [List.length_set]; exact hlen, ?_⟩) (hS.put e2 e3 hB) hl
        refine t_OB.to (V := updV (fun j => rl E (fs.getD j .null)) i (rl E v)) ⟨_, e1, q2, q3, ?_⟩ (fun j hj => ?_)
        · rw [← hN]
          exact t_set q4' hap hk _
        · by_cases e : j = i
          · subst e
            have : j < fs.length := by rw [hlen, ← hN]; exact hk
            simp [updV, List.getD_eq_getElem?_getD, List.getElem?_set, this]
          · simp [updV, e, List.getD_eq_getElem?_getD, List.getElem?_set, Ne.symm e]
      cases fin with
      | false =>
        have hlay := hts _ (hin _ (u_in_lay hk))
        unfold u_lay at hlay
        rw [if_neg (by rw [hfin]; decide)] at hlay
        have h6 := u_store hfc hkC hkind hlay hif (by rw [hty i hk, htk]) hn hfit
        refine W.putK X.1 X.2.1 (f := f) ⟨X.2.2.2.2.1, hts _ hlink, ⟨_, _, _, hif⟩, hst⟩ (by rw [q2]; exact h6) q1 q3 (by rw [hsl]; exact k2_hasslot (q4' i hk)) rfl rfl hd fun H' e1 e2 e3 => ?_
        rw [hsl] at e1 ⊢
        exact fini H' e1 e2 e3
      | true =>
        have hlay := hts _ (hin _ (u_in_lay hk))
        unfold u_lay at hlay
        rw [if_pos hfin] at hlay
        have hcf : m.cls = cf := by
          obtain ⟨_, _, c', _, _, _, -, -, hf', -, -, -, hown2, -⟩ := Cond.laysFinal_spec hlay
          have e1 : c' = cf := by have := hif.symm.trans hf'; simp at this; exact this.1.symm
          rw [hT'] at hown2
          rw [← e1]; exact Option.some.inj (X.2.2.2.2.1.symm.trans hown2)
        have h6 := u_fits hfc hkC hkind (Or.inr hlay) hif (by rw [hty i hk, htk]) hn hfit
        refine W.putFinK X.1 X.2.1 X.2.2.2.2.1 (hts _ hlink) hif hst hcf hi (by rw [q2]; exact h6) q1 q3 (by rw [hsl]; exact k2_hasslot (q4' i hk)) rfl rfl hd fun H' e1 e2 e3 => ?_
        rw [hsl] at e1 ⊢
        exact fini H' e1 e2 e3
    · cases h
  · cases h
theorem K_getA {idx ci i k : Nat} {fin : Bool} {tk : FieldType} {K : Nat → Option α} (hd : decode y.2.1 pc = .ok (.getfield idx, 3)) (hF : FL y.1.cls idx ci i fin tk) (h : k_gf cs k i ci K = some ρ) (kk : ∀ a, K a = some ρ → Kd l E y d MC MS R cs uc us (pc + 3) L (.ref a :: st)) : Kd l E y d MC MS R cs uc us pc L (.ref k :: st) := by
  intro p e s m args below meth c H locs ls X hi hT hK hS hl
  unfold k_gf at h
  split at h
  · rename_i q hq
    split at h
    · rename_i hci
      split at h
      · rename_i a ha
        obtain ⟨C, T, N, ty, ⟨hc, hN, hin, hty, hnm⟩, h13, hk, hlink, hfin, htk⟩ := hF
        obtain ⟨ci0, fs⟩ := q
        dsimp only at hci h ha
        subst hci
        obtain ⟨-, hlen, cell, q1, q2, q3, q4⟩ := hK.2 k _ hq
        dsimp only at hlen q2 q4
        obtain ⟨hSl, hfc, kC, hkC, hkind⟩ := hT.1.1.1 _ _ hc
        obtain ⟨cf, kf, fi, f, hif, hsl⟩ := hSl i hk
        refine W.getf X.1 X.2.1 X.2.2.2.2.1 (X.2.2.2.2.2.1 _ hlink) hif (u_facts hfc hkC (u_lays X.2.2.2.2.2.1 hin hk) hif).1 q1 (by rw [q3]; exact fun h => by cases h) (v := .ref (e_B E + a)) ?_ rfl rfl hd (kk _ h p e s m args below meth c H locs ls X hi hT hK hS hl)
        rw [hsl, q4 i (hN ▸ hk)]
        simp [List.getD_eq_getElem?_getD, ha, rl]
      · cases h
    · cases h
  · cases h
/-- a place of an array -/
def k_st (cs : List XC) (a kd : Nat) (i : Int32) (v : Value) (K : List XC → Option α) : Option α := match cs[a]? with
  | some (.inr q) => if q.1 = kd ∧ ¬ i < 0 ∧ i.toNatClampNeg < q.2.1 then K (cs.set a (.inr (q.1, q.2.1, (i.toNatClampNeg, v) :: q.2.2))) else none
  | _ => none
theorem x_k_cons (us : List (Nat × Value)) (i j : Nat) (v : Value) : x_k ((i, v) :: us) j = if j = i then some v else x_k us j := by
  unfold x_k
  by_cases h : j = i
  · subst h; simp
  · simp [h, Ne.symm h]
theorem K_ist {a : Nat} {i v : Int32} {K : List XC → Option α} (hd : decode y.2.1 pc = .ok (.iastore, 1)) (h : k_st cs a 1 i (.int v) K = some ρ) (kk : ∀ cs1, K cs1 = some ρ → Kd l E y d MC MS R cs1 uc us (pc + 1) L st) : Kd l E y d MC MS R cs uc us pc L (.int v :: .int i :: .ref a :: st) := by
  intro p e s m args below meth c H locs ls X hi hT hK hS hl
  unfold k_st at h
  split at h
  · rename_i q hq
    split at h
    · rename_i hci
      obtain ⟨kd, n, us0⟩ := q
      dsimp only at hci h
      obtain ⟨rfl, h0, hlt⟩ := hci
      have hcell := (hK.2 a _ hq).2
      dsimp only at hcell
      have hB : e_B E ≤ e_B E + a := Nat.le_add_right _ _
      refine W.iast X.1 X.2.1 hcell ((hT.1.1.2 1 _ rfl).1 n (fun q => .int (x_i (x_k us0 q)))) (fun q => by cases q) (by show ¬ (i < 0 ∨ (arrV _ _ _).slots.size ≤ _); rw [arrV_size]; exact fun z => z.elim h0 (fun z => absurd hlt (Nat.not_lt.mpr z))) rfl rfl hd fun H1 e1 z oq => ?_
      refine kk _ h p e s m args below meth c H1 _ ls X hi hT (hK.put z oq ⟨(show 1 < 5 by decide), ?_⟩) (hS.put z oq hB) hl
      rw [e1]
      have hc0 : vp_cell (e_c E 1) (n, k_c E 1 us0) = arrV (e_c E 1) n (fun j => .int (x_i (x_k us0 j))) := rfl
      have hc2 : vp_cell (e_c E 1) (n, k_c E 1 ((i.toNatClampNeg, .int v) :: us0)) = arrV (e_c E 1) n (fun j => .int (x_i (x_k ((i.toNatClampNeg, .int v) :: us0) j))) := rfl
      show some _ = some (vp_cell (e_c E 1) (n, k_c E 1 ((i.toNatClampNeg, .int v) :: us0)))
      rw [hc0, hc2, arrV_store]
      congr 2
      funext q
      by_cases hqi : q = i.toNatClampNeg
      · simp [updV, hqi, x_k_cons, x_i]
      · simp [updV, hqi, x_k_cons]
    · cases h
  · cases h
theorem K_ast {a v kd ci : Nat} {i : Int32} {C : String} {K : List XC → Option α} (hd : decode y.2.1 pc = .ok (.aastore, 1)) (ht : (tyl E)[kd]? = some (e_c E kd, .object C)) (hkd : kd = 3 ∨ kd = 4) (hcl : ∃ (T : u_T) (N : Nat), vwCl[ci]? = some (C, T, N)) (hv : ∃ fs, cs[v]? = some (.inl (ci, fs))) (h : k_st cs a kd i (.ref v) K = some ρ) (kk : ∀ cs1, K cs1 = some ρ → Kd l E y d MC MS R cs1 uc us (pc + 1) L st) : Kd l E y d MC MS R cs uc us pc L (.ref v :: .int i :: .ref a :: st) := by
  intro p e s m args below meth c H locs ls X hi hT hK hS hl
  unfold k_st at h
  split at h
  · rename_i q hq
    split at h
    · rename_i hci
      obtain ⟨kd0, n, us0⟩ := q
      dsimp only at hci h
      obtain ⟨rfl, h0, hlt⟩ := hci
      obtain ⟨T0, N0, hc⟩ := hcl
      obtain ⟨fs, hfs⟩ := hv
      have hcell := (hK.2 a _ hq).2
      dsimp only at hcell
      have hcell' : H[e_B E + a]? = some (arrV (e_c E kd0) n (fun j => va_rf (x_r E (x_k us0 j)))) := by
        rw [hcell]; rcases hkd with rfl | rfl <;> rfl
      have hB : e_B E ≤ e_B E + a := Nat.le_add_right _ _
      obtain ⟨-, -, cellV, g1, g2, g3, -⟩ := hK.2 v _ hfs
      dsimp only at g2
      have hcls := (hT.1.1.1 ci _ hc).2
      obtain ⟨kA, comp, k1, k2, k3, -⟩ := (hT.1.1.2 kd0 _ ht).2
      have hcomp : comp = E.1.1 ci := Option.some.inj (k3.symm.trans hcls.1)
      subst hcomp
      obtain ⟨kC, hkC, -⟩ := hcls.2
      refine W.aast X.1 X.2.1 hcell' (fun q h => by cases h) (fun h => by cases h) k1 k2 rfl hkC ⟨h0, by show _ < (arrV _ _ _).slots.size; rw [arrV_size]; exact hlt⟩ g1 (fun q h => by rw [g3] at h; cases h) (by rw [g2]; exact hkC) (by rw [g2]; exact va_assign hcls) rfl rfl hd fun H1 e1 z oq => ?_
      refine kk _ h p e s m args below meth c H1 _ ls X hi hT (hK.put z oq ⟨(show kd0 < 5 by omega), ?_⟩) (hS.put z oq hB) hl
      rw [e1, arrV_store]
      have hc2 : vp_cell (e_c E kd0) (n, k_c E kd0 ((i.toNatClampNeg, .ref v) :: us0)) = arrV (e_c E kd0) n (fun j => va_rf (x_r E (x_k ((i.toNatClampNeg, .ref v) :: us0) j))) := by rcases hkd with rfl | rfl <;> rfl
      show some _ = some (vp_cell (e_c E kd0) (n, k_c E kd0 ((i.toNatClampNeg, .ref v) :: us0)))
      rw [hc2]
      congr 2
      funext q
      by_cases hqi : q = i.toNatClampNeg
      · simp [updV, hqi, x_k_cons, x_r, va_rf]
      · simp [updV, hqi, x_k_cons]
    · cases h
  · cases h
/-- a constructor that is called -/
def IC (y : MI) : Prop := Cond.instanceMethod y.1 ∈ GW ∧ Cond.initialized y.1.cls ∈ GW ∧ Cond.code y.1 y.2.1 y.2.2.1 none ∈ GW ∧ (y.1.cls ≠ "java/lang/invoke/MethodHandle" ∧ y.1.cls ≠ "java/lang/invoke/VarHandle") ∧ (parseMethodDescriptor y.1.desc).map (fun d => d.parameters.length) = some 0 ∧ y.2.2.1 ≤ 20 ∧ y.1.name = "<init>" ∧ y.2.2.2 = none
def k_cl (r : Option (List XC)) (K : List XC → Option α) : Option α := match r with
  | some q => K q
  | none => none
theorem kcl_t {r : Option (List XC)} {K : List XC → Option α} (h : k_cl r K = some ρ) : ∃ cs, r = some cs ∧ K cs = some ρ := by
  cases r with
  | none => cases h
  | some q => exact ⟨q, rfl, h⟩
theorem Kc.blind {E : EV} {cs : List XC} {v0 : Array Value} : FrameBlind (fun v U => v = v0 ∧ TK E U ∧ KH E cs U.heap) := fun _ U _ _ h => ⟨h.1, TK.same (s := U) rfl h.2.1, h.2.2⟩
theorem K_call {z : MI} {d' mc ms idx k : Nat} {host : String} {cs1 : List XC} (hC : Kc l E z d' mc ms k cs cs1) (hd : decode y.2.1 pc = .ok (.invokespecial idx, 3)) (hl : (y.1.cls, idx, z.1, host) ∈ nwL) (hz : IC z) (hdd : d' + 1 ≤ d) (h1 : uc + mc ≤ MC) (h2 : us + ms ≤ MS) (hr : ((st.map (rl E)).map fun v => v.category).sum ≤ 8)
    (kk : Kd l E y d MC MS R cs1 (uc + mc) (us + ms) (pc + 3) L st) : Kd l E y d MC MS R cs uc us pc L (.ref k :: st) := by
  intro p e s m args below meth c H locs ls X hi hT hK hS hls
  obtain ⟨hin, hini, hcode, hy, hdesc, hmx, hnm, hrt⟩ := hz
  have hts := X.2.2.2.2.2.1
  have hcode' : Cond.code z.1 z.2.1 z.2.2.1 z.2.2.2 ∈ GW := by rw [hrt]; exact hcode
  have hrm : (rmK d' mc ms).frames + 1 ≤ (rmK d MC MS).frames ∧ 8 + (z.2.2.1 + 11) + (rmK d' mc ms).locals ≤ (rmK d MC MS).locals := by
    simp only [rmK]; omega
  have hrun := va_runIN (l := l) (As := []) (rest := st.map (rl E)) (Ts := GW) (host := host) (b := e_B E + k) (g := F0 m pc ls ((.ref k :: st).map (rl E))) (cells := uc) (slots := us) (locs := locs) (below := below) (meth := meth) (p := p) (e := e) (R := rmK d MC MS) (H := H) ⟨X.1, X.2.1, X.2.2.1, X.2.2.2.2.1, hts⟩ hC ⟨⟨⟨rfl, rfl, hrm.1, hrm.2, GW_good hts hcode', by rw [← hrt]; exact List.mem_cons_self⟩, hts _ hcode, hts _ hini, hy, fun sig h => by rw [h] at hdesc; exact (Option.some.inj hdesc).symm, va_Nw.use rfl (hT.1.2.1 _ hl)⟩, hnm, hts _ hin⟩ ⟨Kc.blind, fun U hU hw => ⟨rfl, hT.warm hw, by rw [hU]; exact hK⟩⟩ rfl rfl hls.1 rfl (lv_room hr) hd ⟨h1, h2⟩
  intro T hT' Z
  obtain ⟨v, st₀, t, T', L2, h0, Z', hL, e1, e2, ⟨hv, hw1, hw2, hz, hk⟩, step⟩ := hrun T hT' Z
  cases hv
  rw [h0] at hz hk
  have hS' : va_S (e_A E) s.heap T'.heap (locs ++ L2) := ⟨Nat.le_trans hS.1 (by rw [e1]; exact hz), fun q g1 g2 => by rw [e1, hk q (Nat.lt_of_lt_of_le g1 hS.1) g2]; exact hS.2.1 q g1 g2, fun q hq => by
    rcases List.mem_append.mp hq with h | h
    · exact hS.2.2 q h
    · exact hL q h⟩
  obtain ⟨t2, a1, b1⟩ := kk p e s m args below meth c T'.heap (locs ++ L2) ls X hi hT (by rw [e1]; exact hw2) hS' hls T' rfl Z'
  exact ⟨t2, step t2 a1, b1⟩
end KL
